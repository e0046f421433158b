/-! days in thought: what holds, begins; pairs -/
theorem cpy84 {f g : Nat → Int32} (hf : Z84 f) (hg : Z84 g) : va_cpy f g 0 0 84 = f := by
  funext p
  unfold va_cpy
  by_cases h : p < 84
  · rw [if_pos (by omega)]
    congr 1
    omega
  · rw [if_neg (by omega), hf p (by omega), hg p (by omega)]
section T58
variable {D n : Nat} {La : mLaw} {MI : mI} {ML : mJ} {x y : Int32}
theorem rngT {lo hi : Int32} {A B : Prop} (h : wiB lo hi x = true) (k : B) : (x < lo → A) ∧ (¬ x < lo → (hi < x → A) ∧ (¬ hi < x → B)) := by
  simp only [wiB, Bool.and_eq_true, Bool.not_eq_true', decide_eq_false_iff_not] at h
  exact cF h.1 (cF h.2 k)
theorem rngF {lo hi : Int32} {A B : Prop} (h : ¬ wiB lo hi x = true) (k : A) : (x < lo → A) ∧ (¬ x < lo → (hi < x → A) ∧ (¬ hi < x → B)) := by
  simp only [wiB, Bool.and_eq_true, Bool.not_eq_true', decide_eq_false_iff_not] at h
  exact ⟨fun _ => k, fun q => ⟨fun _ => k, fun q2 => absurd ⟨q, q2⟩ h⟩⟩
theorem wi_ix {m : Nat} (hm : m < 1000000) (h : wiB (nI 0) (nI m) x = true) : ∃ d, d ≤ m ∧ x = nI d := by
  have b := wi_ti h
  rw [nI_toInt (by omega), nI_toInt (by omega)] at b
  rcases nIx x (n := m + 1) (by omega) with q | q | ⟨j, hj, q⟩
  · rw [fa_lt, nI_toInt (by omega)] at q
    omega
  · rw [fa_le, nI_toInt (by omega)] at q
    omega
  · exact ⟨j, by omega, q⟩
theorem s_isOneOrAll (hn : MI 1 0 = nI n) : mrc (D + 2) 153 [.ref 0, .int x] MI ML (some (.int (bI (decide (x = -1) || hasB n x)))) MI ML := by
  refine mrc_of (EX10_isOneOrAll (BX10_isOneOrAll_0 (br (fun h => iR ?_ rfl) (fun h => usei (s_has bz1 hn) (br (fun h2 => iR ?_ rfl) (fun h2 => iR ?_ rfl))))))
  · rw [decide_eq_true h]; rfl
  · rw [decide_eq_false h, bI_0.mp h2]; rfl
  · rw [decide_eq_false h]
    cases hb : hasB n x
    · exact absurd (by rw [hb]; rfl) h2
    · rfl
end T58
