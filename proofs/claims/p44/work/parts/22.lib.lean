/-! numbers; how contracts are used in a body -/
def bI (b : Bool) : Int32 := cond b (nI 1) (nI 0)
theorem bI_t : bI true = nI 1 := rfl
theorem bI_f : bI false = nI 0 := rfl
theorem bI_0 {b : Bool} : bI b = nI 0 ↔ b = false := by cases b <;> decide
theorem bI_1 {b : Bool} : bI b = nI 1 ↔ b = true := by cases b <;> decide
theorem bI_01 (b : Bool) : bI b = nI 0 ∨ bI b = nI 1 := by cases b <;> decide
theorem bI_if {p : Prop} [Decidable p] : (if p then nI 1 else nI 0) = bI (decide p) := by
  by_cases h : p <;> simp [h, bI]
theorem nat_rem (a d : Nat) : a - a / d * d = a % d := by
  have := Nat.div_add_mod a d
  rw [Nat.mul_comm] at this
  omega
theorem ex_ix {e n : Nat} {P : Nat → Prop} (he : e < 2147483648) (hn : n < 2147483648) : (∃ i : Nat, nI e = nI i ∧ i < n ∧ P i) ↔ (e < n ∧ P e) := by
  constructor
  · rintro ⟨i, h1, h2, h3⟩
    have := (nI_eq (a := e) (b := i) he (by omega)).mp h1
    subst this
    exact ⟨h2, h3⟩
  · rintro ⟨h1, h2⟩
    exact ⟨e, rfl, h1, h2⟩
theorem nI_0lt {n : Nat} (h : n < 2147483648) : nI n < nI 0 ↔ False := by
  rw [nI_ltI h (by decide)]
  simp
theorem nI_0le {n : Nat} (h : n < 2147483648) : nI 0 ≤ nI n ↔ True := by
  rw [nI_leI (by decide) h]
  simp
theorem br {c A B : Prop} (h1 : c → A) (h2 : ¬ c → B) : (c → A) ∧ (¬ c → B) := ⟨h1, h2⟩
section US
variable {D y : Nat} {as : List Value} {MI M : mI} {ML L : mJ}
theorem usei {v : Int32} {P : Int32 → mI → mJ → Prop} (h : mrc D y as MI ML (some (.int v)) M L) (k : P v M L) : ∃ (x : Int32) (M1 : mI) (N1 : mJ), mrc D y as MI ML (some (.int x)) M1 N1 ∧ P x M1 N1 := ⟨_, _, _, h, k⟩
theorem usel {v : Int64} {P : Int64 → mI → mJ → Prop} (h : mrc D y as MI ML (some (.long v)) M L) (k : P v M L) : ∃ (x : Int64) (M1 : mI) (N1 : mJ), mrc D y as MI ML (some (.long x)) M1 N1 ∧ P x M1 N1 := ⟨_, _, _, h, k⟩
theorem usef {v : UInt32} {P : UInt32 → mI → mJ → Prop} (h : mrc D y as MI ML (some (.float v)) M L) (k : P v M L) : ∃ (x : UInt32) (M1 : mI) (N1 : mJ), mrc D y as MI ML (some (.float x)) M1 N1 ∧ P x M1 N1 := ⟨_, _, _, h, k⟩
theorem usev {P : mI → mJ → Prop} (h : mrc D y as MI ML none M L) (k : P M L) : ∃ (M1 : mI) (N1 : mJ), mrc D y as MI ML none M1 N1 ∧ P M1 N1 := ⟨_, _, h, k⟩
end US
/-- a loop upward -/
theorem up {P : Nat → Prop} {i0 : Nat} (n : Nat) (hi : i0 ≤ n) (hend : P n) (hstep : ∀ i, i0 ≤ i → i < n → P (i + 1) → P i) : P i0 := by
  suffices h : ∀ m i, i0 ≤ i → i + m = n → P i from h (n - i0) i0 (Nat.le_refl _) (by omega)
  intro m
  induction m with
  | zero => intro i _ hn; have : i = n := by omega
            subst this; exact hend
  | succ m ih => intro i h0 hn; exact hstep i h0 (by omega) (ih (i + 1) (by omega) (by omega))
/-- a loop downward -/
theorem dn {P : Nat → Prop} (n : Nat) (hend : P 0) (hstep : ∀ i, i < n → P i → P (i + 1)) : P n := by
  induction n with
  | zero => exact hend
  | succ n ih => exact hstep n (by omega) (ih (fun i hi => hstep i (by omega)))
abbrev mn (x y : Int32) : Int32 := if y < x then y else x
abbrev mx (x y : Int32) : Int32 := if x < y then y else x
def cn (p : Nat → Bool) : Nat → Nat
  | 0 => 0
  | i + 1 => cn p i + (if p i then 1 else 0)
theorem cn_le (p : Nat → Bool) : ∀ n, cn p n ≤ n
  | 0 => Nat.le_refl _
  | n + 1 => by
    have := cn_le p n
    unfold cn
    split <;> omega
def fd {α : Type} (s : Nat → α → α) (a : α) : Nat → α
  | 0 => a
  | i + 1 => s i (fd s a i)
theorem iR {x y : Int32} {M M' : mI} {L : mJ} (h : x = y) (h2 : M = M') : eR (some (.int y)) M' L (some (Value.int x)) M L := ⟨by rw [h], h2, rfl⟩
theorem vR {M M' : mI} {L : mJ} (h2 : M = M') : eR none M' L none M L := ⟨rfl, h2, rfl⟩
theorem lR {x y : Int64} {M : mI} {L : mJ} (h : x = y) : eR (some (.long y)) M L (some (Value.long x)) M L := ⟨by rw [h], rfl, rfl⟩
/-- deeper room serves too -/
theorem mrnT_mono {Tb : Nat → Nat → mO} : ∀ {D y : Nat} {as : List Value} {S : mS} {v : Option Value} {S' : mS}, mrnT Tb D y as S v S' → mrnT Tb (D + 1) y as S v S'
  | 0, _, _, _, _, _, h => h.elim
  | D + 1, y, as, S, v, S', h => by
    obtain ⟨h1, h2, N, n, h3, h4⟩ := h
    exact ⟨h1, h2, N, n, h3, mex_mono (fun _ _ _ _ _ h => mrnT_mono h) h4⟩
theorem mrn_mono {D y : Nat} {as : List Value} {S : mS} {v : Option Value} {S' : mS} (h : mrn D y as S v S') : mrn (D + 1) y as S v S' := mrnT_mono h
theorem mrc_le {D D' y : Nat} {as : List Value} {MI M : mI} {ML L : mJ} {v : Option Value} (h : mrc D y as MI ML v M L) (hd : D ≤ D') : mrc D' y as MI ML v M L := by
  induction hd with
  | refl => exact h
  | step _ ih => exact mrn_mono ih
theorem mput_mput {α : Type} {f : Nat → α} {k : Nat} {x y : α} : mput (mput f k x) k y = mput f k y := by
  funext j
  unfold mput
  split <;> rfl
