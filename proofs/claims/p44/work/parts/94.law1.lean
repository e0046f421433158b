/-! the law's copies -/
theorem asz_new {Sh : List mT} {k : Nat} (hk : k < 10001) : asz (Sh ++ [(1, k, [])]) Sh.length k := ⟨k, by rw [List.getElem?_append_right (Nat.le_refl _), Nat.sub_self]; rfl, hk, Nat.le_refl _⟩
section L94
variable {D w : Nat} {Sh : List mT} {MI : mI} {ML : mJ}
theorem l_copy {a k : Nat} (ha : alo Sh a k) (hk : k ≤ 64) (hl : Sh.length < 80) : ∃ M, mrnT mTb (D + 1) 283 [.ref a] (w, Sh, MI, ML) (some (.ref Sh.length)) (w + 64, Sh ++ [(1, 64, [])], M, ML) ∧ (∀ i, i < k → M Sh.length i = MI a i) ∧ ∀ q, q ≠ Sh.length → M q = MI q := by
  have hal : a < Sh.length := (List.getElem?_eq_some_iff.mp ha).1
  have ha2 : alo (Sh ++ [(1, 64, [])]) a k := by
    unfold alo
    rw [List.getElem?_append_left hal]
    exact ha
  have hb : asz (Sh ++ [(1, 64, [])]) Sh.length 64 := asz_new (by omega)
  have hak : asz (Sh ++ [(1, 64, [])]) a k := ⟨k, ha2, by omega, Nat.le_refl _⟩
  suffices h : VL_copy_0 (mrnT mTb D) (fun v S => v = some (.ref Sh.length) ∧ ∃ M, S = (w + 64, Sh ++ [(1, 64, [])], M, ML) ∧ (∀ i, i < k → M Sh.length i = MI a i) ∧ ∀ q, q ≠ Sh.length → M q = MI q) a w Sh MI ML by
    obtain ⟨v, S', ⟨rfl, M, rfl, q⟩, h⟩ := EL_copy (by rintro _ _ ⟨-, M, rfl, -⟩; exact ⟨by simp, by simp⟩) h
    exact ⟨M, h, q⟩
  refine BL_copy_0 ⟨hl, ?_⟩
  refine up (i0 := 0) (P := fun i => ∀ M : mI, (∀ j, j < i → M Sh.length j = MI a j) → (∀ q, q ≠ Sh.length → M q = MI q) → VL_copy_7 (mrnT mTb D) _ a Sh.length (nI i) (w + 64) (Sh ++ [(1, 64, [])]) M ML) k (Nat.zero_le _) ?_ ?_ _ (fun j hj => absurd hj (Nat.not_lt_zero _)) (fun q hq => mup_n hq)
  · intro M h1 h2
    exact BL_copy_7 ⟨k, ha2, cT (nI_le (Nat.le_refl _) (by omega)) ⟨rfl, M, rfl, h1, h2⟩⟩
  · intro i _ hi ih M h1 h2
    refine BL_copy_7 ⟨k, ha2, cF (nI_ge hi (by omega)) ⟨i, hak.cell i hi, i, hb.cell i (by omega), ?_⟩⟩
    rw [nI_add]
    refine ih _ (fun j hj => ?_) (fun q hq => by rw [mup_n hq]; exact h2 q hq)
    rw [mup_s]
    by_cases e : j = i
    · subst e
      rw [mput_s, h2 a (by omega)]
    · rw [mput_n e]
      exact h1 j (by omega)
end L94
/-! what the law holds between its calls -/
def SHB (E : List mT) : Prop := asz (Sh0 ++ E) 46 5 ∧ asz (Sh0 ++ E) 47 16 ∧ asz (Sh0 ++ E) 48 64 ∧ asz (Sh0 ++ E) 49 3 ∧ asz (Sh0 ++ E) 50 6 ∧ asz (Sh0 ++ E) 51 8
def TI (n : Nat) (g : Nat → Int32) (La : mLaw) (c : Nat → Int32) (M : mI) : Prop := KI n g La c M ∧ AR n g (M 46) (M 47) (M 48) ∧ LB La (M 49) ∧ ∀ k, k < 6 → M 50 k = c k
theorem TI_A {n : Nat} {g : Nat → Int32} {La : mLaw} {c : Nat → Int32} {M MI : mI} (h : TI n g La c MI) (hK : KI n g La c M) (hF : FK M MI) : TI n g La c M := by
  obtain ⟨-, h2, h3, h4⟩ := h
  have f := hF.k3
  exact ⟨hK, by rw [f 46 (by decide), f 47 (by decide), f 48 (by decide)]; exact h2, by rw [f 49 (by decide)]; exact h3, by rw [f 50 (by decide)]; exact h4⟩
theorem TI_c {n : Nat} {g : Nat → Int32} {La : mLaw} {c : Nat → Int32} {M MI : mI} (h : TI n g La c MI) (hF : ∀ q, q < 51 → M q = MI q) : TI n g La c M := by
  obtain ⟨h1, h2, h3, h4⟩ := h
  exact ⟨KI_c h1 (by rw [hF 1 (by decide)]) (hF 2 (by decide)) (by rw [hF 17 (by decide)]; exact h1.2.2.2.2.1) (by rw [hF 6 (by decide)]) (hF 7 (by decide)) (by rw [hF 39 (by decide)]) (hF 34 (by decide)), by rw [hF 46 (by decide), hF 47 (by decide), hF 48 (by decide)]; exact h2, by rw [hF 49 (by decide)]; exact h3, by rw [hF 50 (by decide)]; exact h4⟩
