/-! people, deeds: pairs -/
theorem dv10 {x : Int32} {i j : Nat} (h : x / nI 10 = nI i) (h2 : x - x / nI 10 * nI 10 = nI j) : x / nI 10 = nI i ∧ x - nI i * nI 10 = nI j := ⟨h, by rw [← h]; exact h2⟩
section P3
variable {MI : mI} {ML : mJ}
theorem feelB_wi (v : Int32) : feelB v = wiB (-9) (nI 9) v := rfl
end P3
