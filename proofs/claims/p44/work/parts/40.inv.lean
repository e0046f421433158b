/-! what holds between two calls -/
def lob (p : Nat) : Int := if p < 20 then 0 else if (p - 20) / 8 = (p - 20) % 8 then 0 else -9
def hib (p : Nat) : Int := if p < 8 then 99 else if p < 16 then 9 else if p = 16 then 3 else if p = 17 then 9 else if p = 18 then 20 else if p = 19 then 99 else if (p - 20) / 8 = (p - 20) % 8 then 0 else 9
def okv (p : Nat) (v : Int32) : Prop := lob p ≤ v.toInt ∧ v.toInt ≤ hib p
def Z84 (f : Nat → Int32) : Prop := ∀ p, 84 ≤ p → f p = 0
def PB (f : Nat → Int32) : Prop := (∀ p, p < 84 → okv p (f p)) ∧ Z84 f
theorem PB.ok {f : Nat → Int32} (h : PB f) {p : Nat} (hp : p < 84) : okv p (f p) := h.1 p hp
theorem PB.put {f : Nat → Int32} (h : PB f) {p : Nat} (hp : p < 84) {v : Int32} (hv : okv p v) : PB (mput f p v) := by
  refine ⟨fun q hq => ?_, fun q hq => ?_⟩
  · unfold mput
    split
    · next e => subst e; exact hv
    · exact h.1 q hq
  · rw [mput_n (by omega)]
    exact h.2 q hq
theorem okv_0 : ∀ p, p < 84 → okv p (nI 0) := by
  intro p hp
  unfold okv lob hib
  rw [nI_toInt (by decide)]
  grind