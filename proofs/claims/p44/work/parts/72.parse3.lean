/-! reading a law's text: words, by the class -/
def ltB (x : Nat) : Bool := decide (97 ≤ x) && decide (x ≤ 122)
theorem ltB_c {x : Nat} : ltB x = true ↔ 97 ≤ x ∧ x ≤ 122 := by simp [ltB]
/-- where the letters from p on end -/
def leP (B : Nat → Nat) (t : Nat) : Nat → Nat → Nat
  | 0, p => p
  | k + 1, p => if ltB (nxt B t p) = true then leP B t k (p + 1) else p
theorem leP_ok {B : Nat → Nat} {t : Nat} : ∀ (k p : Nat), p ≤ t → p ≤ leP B t k p ∧ leP B t k p ≤ t ∧ ∀ q, p ≤ q → q < leP B t k p → ltB (nxt B t q) = true
  | 0, p, hp => ⟨Nat.le_refl _, hp, fun q q1 q2 => absurd q2 (Nat.not_lt.mpr q1)⟩
  | k + 1, p, hp => by
    unfold leP
    by_cases h : ltB (nxt B t p) = true
    · rw [if_pos h]
      have hd := ltB_c.mp h
      obtain ⟨i1, i2, i3⟩ := leP_ok (B := B) (t := t) k (p + 1) (nxt_lt (B := B) (by omega))
      refine ⟨by omega, i2, fun q q1 q2 => ?_⟩
      by_cases e : q = p
      · subst e; exact h
      · exact i3 q (by omega) q2
    · rw [if_neg h]
      exact ⟨Nat.le_refl _, hp, fun q q1 q2 => absurd q2 (Nat.not_lt.mpr q1)⟩
def wdL : List (List Nat) := [[104, 97, 116, 101], [108, 111, 118, 101], [104, 117, 110, 103, 101, 114], [119, 97, 110, 116], [100, 97, 121], [100, 111, 110, 101]]
def lsP (B : Nat → Nat) (p e : Nat) : List Nat := (List.range (e - p)).map (fun i => B (p + i))
theorem wd_ok : ∀ j, j < 6 → mstl[j]? = some (wdL.getD j []).length ∧ mstb[j]? = some ((wdL.getD j []).map nI) ∧ (wdL.getD j []).length ≤ 6 := by
  have : ∀ j : Fin 6, mstl[j.val]? = some (wdL.getD j.val []).length ∧ mstb[j.val]? = some ((wdL.getD j.val []).map nI) ∧ (wdL.getD j.val []).length ≤ 6 := by decide
  exact fun j hj => this ⟨j, hj⟩
theorem wd_by : ∀ j, j < 6 → ∀ i, i < (wdL.getD j []).length → (wdL.getD j []).getD i 0 < 256 := by
  have : ∀ j : Fin 6, ∀ i : Fin 6, (wdL.getD j.val []).getD i.val 0 < 256 := by decide
  intro j hj i hi
  have := (wd_ok j hj).2.2
  exact ‹∀ j : Fin 6, ∀ i : Fin 6, (wdL.getD j.val []).getD i.val 0 < 256› ⟨j, hj⟩ ⟨i, by omega⟩
theorem lsP_len {B : Nat → Nat} {p e : Nat} : (lsP B p e).length = e - p := by simp [lsP]
theorem lsP_get {B : Nat → Nat} {p e i : Nat} (h : i < e - p) : (lsP B p e).getD i 0 = B (p + i) := by
  simp [lsP, List.getD_eq_getElem?_getD, h]
theorem list_eq {l l' : List Nat} (h1 : l.length = l'.length) (h2 : ∀ i, i < l.length → l.getD i 0 = l'.getD i 0) : l = l' := by
  apply List.ext_getElem h1
  intro i a b
  have := h2 i a
  simpa [List.getD_eq_getElem?_getD, a, b] using this
section P72
variable {D t : Nat} {B : Nat → Nat} {ML : mJ} {Q : Option Value → mI → mJ → Prop}
theorem s_isWord {p s e j : Nat} {MI : mI} {q : UInt32} (h : CT t B p s MI) (hj : j < 6) (hq : q.toNat = 10 + j) (hpe : p ≤ e) (het : e ≤ t) : mrc (D + 1) 63 [.ref 3, .float q, .int (nI e)] MI ML (some (.int (bI (decide (lsP B p e = wdL.getD j []))))) MI ML := by
  obtain ⟨k1, k2, k3⟩ := wd_ok j hj
  have kb := wd_by j hj
  generalize hw : wdL.getD j [] = w at *
  obtain ⟨h1, h2, h3, h4, h5, h6⟩ := h
  refine mrc_of (EX4_isWord (BX4_isWord_0 ⟨j, w.length, hq, k1, ?_⟩))
  rw [h4, pk_sub (by omega), nI_eq (by omega) (by omega)]
  refine br (fun hl => ?_) (fun hl => iR ?_ rfl)
  · refine up (P := fun i => (∀ k, k < i → B (p + k) = w.getD k 0) → VX4_isWord_17 D (eR (some (.int (bI (decide (lsP B p e = w))))) MI ML) q (nI i) MI ML) w.length (Nat.zero_le _) ?_ ?_ (fun k hk => absurd hk (Nat.not_lt_zero _))
    · intro heq
      refine BX4_isWord_17 ⟨j, w.length, hq, k1, cT (nI_le (Nat.le_refl _) (by omega)) (iR ?_ rfl)⟩
      rw [decide_eq_true]
      · rfl
      · refine list_eq (by rw [lsP_len]; exact hl) (fun i hi => ?_)
        rw [lsP_len] at hi
        rw [lsP_get hi]
        exact heq i (by omega)
    · intro i _ hi ih heq
      have hb := h3 (p + i) (by omega)
      refine BX4_isWord_17 ⟨j, w.length, hq, k1, cF (nI_ge hi (by omega)) ?_⟩
      rw [h4, nI_add]
      refine cF (nI_nlt (Nat.zero_le _) (by omega)) (cF (nI_ge (by omega) (by omega)) ⟨p + i, rfl, by omega, j, w.map nI, i, hq, k2, rfl, by simpa using hi, by simp; omega, ?_⟩)
      have eg : (w.map nI).getD i 0 = nI (w.getD i 0) := by
        simp [List.getD_eq_getElem?_getD, hi]
      rw [eg, hb.1, nI_eq (by omega) (by have := kb i hi; omega), nI_add]
      refine br (fun z => ih (fun k hk => ?_)) (fun z => iR ?_ rfl)
      · by_cases q : k = i
        · subst q; exact z
        · exact heq k (by omega)
      · rw [decide_eq_false]
        · rfl
        · intro el
          apply z
          rw [← el, lsP_get (by omega)]
  · rw [decide_eq_false]
    · rfl
    · intro el
      apply hl
      rw [← el, lsP_len]
end P72
