/-! reading a law's text: small steps of class and model -/
/-- the byte at a place; 256: the end -/
def nxt (B : Nat → Nat) (t p : Nat) : Nat := if p < t then B p else 256
def cI (x : Nat) : Int32 := if x = 256 then -1 else nI x
def zI (x : Nat) : Int32 := if x = 256 then 0 else nI x
theorem nxt_le {B : Nat → Nat} {t p : Nat} (h : ∀ j, j < t → B j < 256) : nxt B t p ≤ 256 := by
  unfold nxt
  split
  · next q => exact Nat.le_of_lt (h p q)
  · exact Nat.le_refl _
theorem cI_eq {x c : Nat} (hx : x ≤ 256) (hc : c < 256) : cI x = nI c ↔ x = c := by
  unfold cI
  by_cases h : x = 256
  · rw [if_pos h]
    constructor
    · intro q
      rw [fa_eq, nI_toInt (by omega), show (-1 : Int32).toInt = -1 by decide] at q
      omega
    · intro q
      omega
  · rw [if_neg h, nI_eq (by omega) (by omega)]
theorem zI_eq {x c : Nat} (hx : x ≤ 256) (hc : c < 256) (h0 : 0 < c) : zI x = nI c ↔ x = c := by
  unfold zI
  by_cases h : x = 256
  · rw [if_pos h]
    constructor
    · intro q
      rw [fa_eq, nI_toInt (by omega), show (0 : Int32).toInt = 0 by decide] at q
      omega
    · intro q
      omega
  · rw [if_neg h, nI_eq (by omega) (by omega)]
theorem cI_m1 {x : Nat} (hx : x ≤ 256) : cI x = -1 ↔ x = 256 := by
  unfold cI
  by_cases h : x = 256
  · rw [if_pos h]
    exact ⟨fun _ => h, fun _ => rfl⟩
  · rw [if_neg h]
    constructor
    · intro q
      rw [fa_eq, nI_toInt (by omega), show (-1 : Int32).toInt = -1 by decide] at q
      omega
    · exact fun q => absurd q h
def dgB (x : Nat) : Bool := decide (48 ≤ x) && decide (x ≤ 57)
/-- the level at which a byte joins; 5: at none -/
def lvO (x : Nat) : Nat := if x = 124 then 0 else if x = 38 then 1 else if x = 60 then 2 else if x = 61 then 2 else if x = 62 then 2 else if x = 43 then 3 else if x = 45 then 3 else if x = 42 then 4 else if x = 47 then 4 else if x = 37 then 4 else 5
section P70
variable {D t p s : Nat} {B : Nat → Nat} {MI : mI} {ML : mJ} {x : Int32}
theorem s_next (h1 : t ≤ 160) (h2 : MI 3 3 = nI t) (h3 : ∀ j, j < t → MI 5 j = nI (B j) ∧ B j < 256) (hp : MI 3 4 = nI p) (hp2 : p < 1000) : mrc (D + 1) 66 [.ref 3] MI ML (some (.int (cI (nxt B t p)))) MI ML := by
  refine mrc_of (EX4_next (BX4_next_0 ?_))
  rw [hp, h2]
  refine cF (nI_nlt (Nat.zero_le _) (by omega)) ?_
  by_cases h : p < t
  · have hb := h3 p h
    refine cF (nI_ge h (by omega)) (cF (nI_ge (by omega) (by omega)) ⟨p, rfl, by omega, iR ?_ rfl⟩)
    unfold cI nxt
    rw [if_pos h, if_neg (by omega)]
    exact hb.1
  · refine cT (nI_le (by omega) (by omega)) (iR ?_ rfl)
    unfold cI nxt
    rw [if_neg h, if_pos rfl]
theorem s_isDigit {c : Nat} (hc : c ≤ 256) : mrc (D + 1) 65 [.int (cI c)] MI ML (some (.int (bI (dgB c)))) MI ML := by
  refine mrc_of (EX4_isDigit (BX4_isDigit_0 ?_))
  by_cases h : c = 256
  · subst h
    exact cT (by decide) (iR (by decide) rfl)
  · have e : cI c = nI c := if_neg h
    rw [e, nI_ltI (by omega) (by omega), nI_ltI (by omega) (by omega)]
    refine br (fun q => iR ?_ rfl) (fun q => br (fun q2 => iR ?_ rfl) (fun q2 => iR ?_ rfl))
    · unfold dgB
      rw [decide_eq_false (by omega)]; rfl
    · unfold dgB
      rw [decide_eq_false (show ¬ c ≤ 57 by omega), Bool.and_false]; rfl
    · unfold dgB
      rw [decide_eq_true (show 48 ≤ c by omega), decide_eq_true (show c ≤ 57 by omega)]; rfl
theorem s_levelOf {c : Nat} (hc : c ≤ 256) : mrc (D + 1) 58 [.int (cI c)] MI ML (some (.int (nI (lvO c)))) MI ML := by
  have hk : ∀ c : Fin 257, mrc (D + 1) 58 [.int (cI c.val)] MI ML (some (.int (nI (lvO c.val)))) MI ML := by
    intro c
    refine mrc_of (EX4_levelOf (BX4_levelOf_0 ?_))
    have q : ∀ d, d < 256 → (cI c.val = nI d ↔ c.val = d) := fun d hd => cI_eq (by omega) hd
    rw [q 37 (by omega), q 38 (by omega), q 42 (by omega), q 43 (by omega), q 45 (by omega), q 47 (by omega), q 60 (by omega), q 61 (by omega), q 62 (by omega), q 124 (by omega)]
    refine br (fun h => iR ?_ rfl) (fun n37 => br (fun h => iR ?_ rfl) (fun n38 => br (fun h => iR ?_ rfl) (fun n42 => br (fun h => iR ?_ rfl) (fun n43 => br (fun h => iR ?_ rfl) (fun n45 => br (fun h => iR ?_ rfl) (fun n47 => br (fun h => iR ?_ rfl) (fun n60 => br (fun h => iR ?_ rfl) (fun n61 => br (fun h => iR ?_ rfl) (fun n62 => br (fun h => iR ?_ rfl) (fun n124 => iR ?_ rfl))))))))))
    · rw [h]; rfl
    · rw [h]; rfl
    · rw [h]; rfl
    · rw [h]; rfl
    · rw [h]; rfl
    · rw [h]; rfl
    · rw [h]; rfl
    · rw [h]; rfl
    · rw [h]; rfl
    · rw [h]; rfl
    · unfold lvO
      rw [if_neg n124, if_neg n38, if_neg n60, if_neg n61, if_neg n62, if_neg n43, if_neg n45, if_neg n42, if_neg n47, if_neg n37]
  exact hk ⟨c, by omega⟩
theorem s_write (hs : MI 3 1 = nI s) (h : s < 161) : mrc (D + 1) 67 [.ref 3, .int x] MI ML none (mup (mup MI 4 (mput (MI 4) s x)) 3 (mput (MI 3) 1 (nI (s + 1)))) ML := by
  refine mrc_of (EX4_write (BX4_write_0 ?_))
  rw [hs]
  refine cF (nI_ge h (by omega)) ⟨s, rfl, h, vR ?_⟩
  simp (disch := omega) only [mup_n, mup_s, mput_n, mput_s, mup_mup]
  rw [hs, nI_add]
end P70
