/-! the law's text read -/
def laT (A B C : Nat) : mLaw := [([], [-1 - nI 0, nI A, -42, -1 - nI 3, -43, -1 - nI 1, nI B, -47, -45, -1 - nI 2, nI C, -47, -43, -1 - nI 4, nI 3, -37, -43, -1 - nI 5, -45])]
def txL (A B C : Nat) : List Nat := [104, 97, 116, 101, 42, 48 + A, 43, 119, 97, 110, 116, 45, 108, 111, 118, 101, 47, 48 + B, 43, 104, 117, 110, 103, 101, 114, 47, 48 + C, 43, 100, 97, 121, 37, 51, 45, 100, 111, 110, 101]
def txB (A B C : Nat) : Bool := decide (tx (fun j => (txL A B C).getD j 0) 38 161 0 = some (true, 38, laT A B C))
theorem txL_1 : ((List.range 81).all fun q => txB 1 (q / 9 + 1) (q % 9 + 1)) = true := by decide +kernel
theorem txL_2 : ((List.range 81).all fun q => txB 2 (q / 9 + 1) (q % 9 + 1)) = true := by decide +kernel
theorem txL_3 : ((List.range 81).all fun q => txB 3 (q / 9 + 1) (q % 9 + 1)) = true := by decide +kernel
theorem txL_4 : ((List.range 81).all fun q => txB 4 (q / 9 + 1) (q % 9 + 1)) = true := by decide +kernel
theorem txL_5 : ((List.range 81).all fun q => txB 5 (q / 9 + 1) (q % 9 + 1)) = true := by decide +kernel
theorem txL_6 : ((List.range 81).all fun q => txB 6 (q / 9 + 1) (q % 9 + 1)) = true := by decide +kernel
theorem txL_7 : ((List.range 81).all fun q => txB 7 (q / 9 + 1) (q % 9 + 1)) = true := by decide +kernel
theorem txL_8 : ((List.range 81).all fun q => txB 8 (q / 9 + 1) (q % 9 + 1)) = true := by decide +kernel
theorem txL_9 : ((List.range 81).all fun q => txB 9 (q / 9 + 1) (q % 9 + 1)) = true := by decide +kernel
theorem txL_at {A B C : Nat} (hA : 1 ≤ A ∧ A ≤ 9) (hB : 1 ≤ B ∧ B ≤ 9) (hC : 1 ≤ C ∧ C ≤ 9) : tx (fun j => (txL A B C).getD j 0) (txL A B C).length 161 0 = some (true, 38, laT A B C) := by
  have key : ∀ {A : Nat}, ((List.range 81).all fun q => txB A (q / 9 + 1) (q % 9 + 1)) = true → tx (fun j => (txL A B C).getD j 0) 38 161 0 = some (true, 38, laT A B C) := fun h => by
    have := List.all_eq_true.mp h ((B - 1) * 9 + (C - 1)) (List.mem_range.mpr (by omega))
    rw [show ((B - 1) * 9 + (C - 1)) / 9 + 1 = B by omega, show ((B - 1) * 9 + (C - 1)) % 9 + 1 = C by omega] at this
    exact of_decide_eq_true this
  obtain ⟨h1, h9⟩ := hA
  match A, h1, h9 with
  | 1, _, _ => exact key txL_1
  | 2, _, _ => exact key txL_2
  | 3, _, _ => exact key txL_3
  | 4, _, _ => exact key txL_4
  | 5, _, _ => exact key txL_5
  | 6, _, _ => exact key txL_6
  | 7, _, _ => exact key txL_7
  | 8, _, _ => exact key txL_8
  | 9, _, _ => exact key txL_9
  | a + 10, _, h => omega
