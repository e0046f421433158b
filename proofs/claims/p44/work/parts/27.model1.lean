/-! the model: small contracts -/
def wiB (lo hi x : Int32) : Bool := !decide (x < lo) && !decide (hi < x)
theorem wiB_0 {n : Nat} {x : Int32} (hn : n < 1000) : wiB (nI 0) (nI n - nI 1) x = hasB n x := by
  unfold wiB hasB
  have e1 : (nI n - nI 1).toInt = (n : Int) - 1 := pk_sub_toInt (by omega) (by decide)
  have e2 : (nI n).toInt = (n : Int) := nI_toInt (by omega)
  congr 2
  rw [decide_eq_decide, fa_lt, fa_le, e1, e2]
  omega
section M1
variable {D d n p : Nat} {MI : mI} {ML : mJ} {x y z lo hi : Int32} {a b c : Int64}
/-- where a number lies; 84: nowhere -/
def plc (n : Nat) (x w : Int32) : Int32 := if wiB (nI 0) (nI 1) w then (if hasB n x then (if w = nI 0 then nI 0 + x else nI 8 + x) else -1) else if wiB (nI 2) (nI 5) w ∧ x = nI 0 then nI 16 + w - nI 2 else -1
theorem wi01 {w : Int32} (h : wiB (nI 0) (nI 1) w = true) : w = nI 0 ∨ w = nI 1 := by
  simp only [wiB, Bool.and_eq_true, Bool.not_eq_true', decide_eq_false_iff_not] at h
  rcases nIx w (n := 2) (by omega) with q | q | ⟨j, hj, rfl⟩
  · exact absurd q h.1
  · exact absurd (show nI 1 < w by rw [fa_lt]; rw [fa_le, nI_toInt (by omega)] at q; rw [nI_toInt (by omega)]; omega) h.2
  · match j, hj with
    | 0, _ => exact Or.inl rfl
    | 1, _ => exact Or.inr rfl
theorem s_placeOf {k a : Nat} (hB : bz k a) (hn : MI k 0 = nI n) : mrc (D + 2) 8 [.ref k, .int x, .int y] MI ML (some (.int (plc n x y))) MI ML := by
  refine mrc_of (EX0_placeOf (BX0_placeOf_0 hB ?_))
  have h01 : wiB (nI 0) (nI 1) y = true ↔ (y = nI 0 ∨ y = nI 1) := ⟨wi01, fun h => by rcases h with rfl | rfl <;> decide⟩
  have k : (y = nI 0 ∨ y = nI 1) → VX0_placeOf_9 (D + 1) (eR (some (.int (plc n x y))) MI ML) k a x y MI ML := fun hy => by
    refine BX0_placeOf_9 hB (usei (s_has hB hn) (br (fun h2 => iR ?_ rfl) (fun h2 => br (fun h3 => iR ?_ rfl) (fun h3 => iR ?_ rfl))))
    all_goals (unfold plc; rw [if_pos (h01.mpr hy)])
    · grind [bI_0]
    · grind [bI_0]
    · grind [bI_0]
  refine br (fun h => k (Or.inl h)) (fun h => br (fun h2 => k (Or.inr h2)) (fun h2 => ?_))
  have hne : ¬ wiB (nI 0) (nI 1) y = true := fun q => (h01.mp q).elim h h2
  refine br (fun h3 => iR ?_ rfl) (fun h3 => br (fun h4 => iR ?_ rfl) (fun h4 => br (fun h5 => iR ?_ rfl) (fun h5 => iR ?_ rfl)))
  all_goals (unfold plc; rw [if_neg hne]; grind [wiB])
/-- a place that is there -/
theorem plc_ix {n : Nat} {x w : Int32} (h8 : n ≤ 8) (h : ¬ plc n x w < nI 0) : ∃ p i, p < 20 ∧ i < 6 ∧ plc n x w = nI p ∧ w = nI i ∧ ((i = 0 ∧ p < 8) ∨ (i = 1 ∧ 8 ≤ p ∧ p < 16) ∨ (2 ≤ i ∧ p = 14 + i)) := by
  unfold plc at h ⊢
  by_cases h1 : wiB (nI 0) (nI 1) w = true
  · rw [if_pos h1] at h ⊢
    by_cases h2 : hasB n x = true
    · rw [if_pos h2] at h ⊢
      obtain ⟨j, hj, rfl⟩ := hasB_ix h8 h2
      rcases wi01 h1 with rfl | rfl
      · rw [if_pos rfl, nI_add]
        exact ⟨0 + j, 0, by omega, by omega, rfl, rfl, Or.inl ⟨rfl, by omega⟩⟩
      · rw [if_neg (by decide), nI_add]
        exact ⟨8 + j, 1, by omega, by omega, rfl, rfl, Or.inr (Or.inl ⟨rfl, by omega, by omega⟩)⟩
    · rw [if_neg h2] at h
      exact absurd (by decide) h
  · rw [if_neg h1] at h ⊢
    by_cases h2 : wiB (nI 2) (nI 5) w = true ∧ x = nI 0
    · rw [if_pos h2]
      have h3 := h2.1
      simp only [wiB, Bool.and_eq_true, Bool.not_eq_true', decide_eq_false_iff_not] at h3
      rcases nIx w (n := 6) (by omega) with q | q | ⟨j, hj, rfl⟩
      · exact absurd (show w < nI 2 by rw [fa_lt] at q ⊢; rw [nI_toInt (by omega)] at q ⊢; omega) h3.1
      · exact absurd (show nI 5 < w by rw [fa_lt]; rw [fa_le, nI_toInt (by omega)] at q; rw [nI_toInt (by omega)]; omega) h3.2
      · have hj2 : 2 ≤ j := by
          rcases Nat.lt_or_ge j 2 with q | q
          · exact absurd (nI_lt q (by omega)) h3.1
          · exact q
        rw [nI_add, pk_sub (by omega)]
        exact ⟨16 + j - 2, j, by omega, by omega, rfl, rfl, Or.inr (Or.inr ⟨hj2, by omega⟩)⟩
    · rw [if_neg h2] at h
      exact absurd (by decide) h
theorem cpy_step (f : Nat → Int32) (j : Nat) : mput (va_cpy f f 1 0 j) j (va_cpy f f 1 0 j (j + 1)) = va_cpy f f 1 0 (j + 1) := by
  funext k
  unfold mput va_cpy
  by_cases h : k = j
  · subst h; rw [if_pos rfl, if_neg (by omega), if_pos (by omega)]; congr 1; omega
  · rw [if_neg h]
    by_cases q : k < j
    · rw [if_pos (by omega), if_pos (by omega)]
    · rw [if_neg (by omega), if_neg (by omega)]
theorem cpy_0 (f : Nat → Int32) : va_cpy f f 1 0 0 = f := by
  funext k
  unfold va_cpy
  rw [if_neg (by omega)]
end M1
