/-! people: the class and the model answer alike -/
theorem bT {b : Bool} {A B : Prop} (h : b = true) (k : B) : (bI b = nI 0 → A) ∧ (¬ bI b = nI 0 → B) := ⟨fun q => absurd (bI_0.mp q) (by rw [h]; decide), fun _ => k⟩
theorem bF {b : Bool} {A B : Prop} (h : b = false) (k : A) : (bI b = nI 0 → A) ∧ (¬ bI b = nI 0 → B) := ⟨fun _ => k, fun q => absurd (bI_0.mpr h) q⟩
theorem cT {c A B : Prop} (h : c) (k : A) : (c → A) ∧ (¬ c → B) := ⟨fun _ => k, fun q => absurd h q⟩
theorem cF {c A B : Prop} (h : ¬ c) (k : B) : (c → A) ∧ (¬ c → B) := ⟨fun q => absurd q h, fun _ => k⟩
theorem bnf {b : Bool} (h : ¬ b = true) : b = false := by simpa using h
theorem mm1 (s c : Int32) : (if s < c then c else s) = (if c < s then s else c) := by
  rcases fa_three s c with h | h | h
  · rw [if_pos h, if_neg (fa_of_lt h).2.2.1]
  · subst h; rw [if_neg (fun q => (fa_of_lt q).2.2.2.1 rfl)]
  · rw [if_neg (fa_of_lt h).2.2.1, if_pos h]
theorem mm2 (s c : Int32) : (if c < s then c else s) = (if s < c then s else c) := by
  rcases fa_three s c with h | h | h
  · rw [if_neg (fa_of_lt h).2.2.1, if_pos h]
  · subst h; rw [if_neg (fun q => (fa_of_lt q).2.2.2.1 rfl)]
  · rw [if_pos h, if_neg (fa_of_lt h).2.2.1]
theorem ti_add {x y : Int32} (h1 : -1073741824 ≤ x.toInt) (h2 : x.toInt ≤ 1073741823) (h3 : -1073741824 ≤ y.toInt) (h4 : y.toInt ≤ 1073741823) : (x + y).toInt = x.toInt + y.toInt := by
  rw [Int32.toInt_add]
  simp only [Int.bmod]
  omega
theorem ti_sub {x y : Int32} (h1 : -1073741824 ≤ x.toInt) (h2 : x.toInt ≤ 1073741823) (h3 : -1073741824 ≤ y.toInt) (h4 : y.toInt ≤ 1073741823) : (x - y).toInt = x.toInt - y.toInt := by
  rw [Int32.toInt_sub]
  simp only [Int.bmod]
  omega
theorem m9 : (-9 : Int32).toInt = -9 := by decide
theorem wi_ti {lo hi : Int32} {x : Int32} (h : wiB lo hi x = true) : lo.toInt ≤ x.toInt ∧ x.toInt ≤ hi.toInt := by
  simp only [wiB, Bool.and_eq_true, Bool.not_eq_true', decide_eq_false_iff_not, fa_lt] at h
  omega
theorem okv_ft {i j : Nat} (hi : i < 8) (hj : j < 8) (hne : i ≠ j) {v : Int32} : okv (20 + i * 8 + j) v ↔ -9 ≤ v.toInt ∧ v.toInt ≤ 9 := by
  have e1 : (20 + i * 8 + j - 20) / 8 = i := by omega
  have e2 : (20 + i * 8 + j - 20) % 8 = j := by omega
  unfold okv lob hib
  rw [if_neg (by omega), if_neg (by omega), if_neg (by omega), if_neg (by omega), if_neg (by omega), if_neg (by omega), if_neg (by omega), if_neg (by omega), e1, e2, if_neg hne]
theorem okv_hu {i : Nat} (hi : i < 8) {v : Int32} : okv i v ↔ 0 ≤ v.toInt ∧ v.toInt ≤ 99 := by
  unfold okv lob hib
  rw [if_pos (by omega), if_pos (by omega)]
theorem okv_wa {i : Nat} (hi : i < 8) {v : Int32} : okv (8 + i) v ↔ 0 ≤ v.toInt ∧ v.toInt ≤ 9 := by
  unfold okv lob hib
  rw [if_pos (by omega), if_neg (by omega), if_pos (by omega)]
section PP
variable {MI : mI} {ML : mJ}
end PP
