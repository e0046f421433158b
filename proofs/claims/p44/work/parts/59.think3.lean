/-! later, feltLater, lasts, renewed, worth, judge: pairs -/
theorem WC.z {n : Nat} {La : mLaw} {f : Nat → Int32} {M : mI} (h : WC n La f M) : Z84 (M 17) := by
  rw [h.2.2.1]; exact h.2.2.2.1.2
theorem WC.put {n p : Nat} {La : mLaw} {f : Nat → Int32} {M : mI} {v : Int32} (h : WC n La f M) (hp : p < 84) (hv : okv p v) : WC n La (mput f p v) (mup M 17 (mput (M 17) p v)) := by
  obtain ⟨h8, h1, h2, h3, h4, h5⟩ := h
  exact ⟨h8, by rw [mup_n (by decide)]; exact h1, by rw [mup_s, h2], h3.put hp hv, h4, by simp (disch := omega) only [mup_n, mup_s, mput_n, mput_s, mup_mup]; exact h5⟩
theorem FA.u {M : mI} {g : Nat → Int32} : FA (mup M 17 g) M := fun q _ _ c => mup_n (by omega)
theorem nI_m1 {i : Nat} (h : i < 8) : ¬ nI i = -1 := by
  have : ∀ x : Fin 8, ¬ nI x.val = -1 := by decide
  exact this ⟨i, h⟩
section T59
variable {n : Nat} {MI : mI} {ML : mJ}
theorem okv_fe {i j : Nat} (hi : i < 8) (hj : j < 8) (hne : i ≠ j) {v : Int32} (h : wiB (-9) (nI 9) v = true) : okv (20 + i * 8 + j) v := by
  have b := wi_ti h
  rw [m9, nI_toInt (by omega)] at b
  exact (okv_ft hi hj hne).mpr b
/-- by whose feeling one's hunger would be least: the first i of all -/
def wrt (La : mLaw) (n : Nat) (f : Nat → Int32) (d one : Nat) : Nat → Nat × Int32
  | 0 => (8, nI 100)
  | i + 1 => if i = one then wrt La n f d one i else if (wrt La n f d one i).2 ≤ dyN La n (mput f (20 + i * 8 + one) (-9)) d one then wrt La n f d one i else (i, dyN La n (mput f (20 + i * 8 + one) (-9)) d one)
theorem ok_m9 {i j : Nat} (hi : i < 8) (hj : j < 8) (hne : i ≠ j) : okv (20 + i * 8 + j) (-9) := (okv_ft hi hj hne).mpr (by decide)
theorem hun_b {La : mLaw} {n d one : Nat} {f : Nat → Int32} (h8 : n ≤ 8) (hf : PB f) (ho : one < 8) : 0 ≤ (dyN La n f d one).toInt ∧ (dyN La n f d one).toInt ≤ 99 := (okv_hu ho).mp ((dyN_PB h8 hf d).ok (by omega))
theorem wrt_ok {La : mLaw} {n d one : Nat} {f : Nat → Int32} (h8 : n ≤ 8) (hf : PB f) (ho : one < n) : ∀ i, i ≤ n → ((wrt La n f d one i).1 = 8 ∧ (wrt La n f d one i).2 = nI 100) ∨ ((wrt La n f d one i).1 < i ∧ 0 ≤ (wrt La n f d one i).2.toInt ∧ (wrt La n f d one i).2.toInt ≤ 99)
  | 0, _ => Or.inl ⟨rfl, rfl⟩
  | i + 1, hi => by
    have ih := wrt_ok (d := d) (La := La) h8 hf ho i (by omega)
    have ih2 : ((wrt La n f d one i).1 = 8 ∧ (wrt La n f d one i).2 = nI 100) ∨ ((wrt La n f d one i).1 < i + 1 ∧ 0 ≤ (wrt La n f d one i).2.toInt ∧ (wrt La n f d one i).2.toInt ≤ 99) := by
      rcases ih with q | q
      · exact Or.inl q
      · exact Or.inr ⟨by omega, q.2⟩
    unfold wrt
    by_cases h1 : i = one
    · rw [if_pos h1]; exact ih2
    · rw [if_neg h1]
      split
      · exact ih2
      · exact Or.inr ⟨Nat.lt_succ_self _, hun_b h8 (hf.put (by omega) (ok_m9 (by omega) (by omega) h1)) (by omega)⟩
end T59
