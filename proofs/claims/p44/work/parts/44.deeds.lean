/-! deeds, undoing, lacks: pairs -/
theorem cn_cong {p q : Nat → Bool} : ∀ {n : Nat}, (∀ i, i < n → p i = q i) → cn p n = cn q n
  | 0, _ => rfl
  | n + 1, h => by
    unfold cn
    rw [cn_cong (n := n) (fun i hi => h i (by omega)), h n (by omega)]
theorem one_mul32 (x : Int32) : nI 1 * x = x := Int32.one_mul x
theorem ti_neg {x : Int32} (h1 : -1073741824 ≤ x.toInt) (h2 : x.toInt ≤ 1073741823) : (-x).toInt = -x.toInt := by
  rw [Int32.toInt_neg]
  simp only [Int.bmod]
  omega
theorem neg_mul32 (x : Int32) : (-1 : Int32) * x = -x := by
  have := Int32.neg_mul 1 x
  rw [Int32.one_mul] at this
  exact this
theorem nI0_ti : (nI 0).toInt = 0 := by decide
theorem okv_all {p : Nat} {v : Int32} (h : okv p v) : -9 ≤ v.toInt ∧ v.toInt ≤ 99 := by
  unfold okv lob hib at h
  grind
section P4
variable {MI : mI} {ML : mJ} {D n : Nat}
end P4
