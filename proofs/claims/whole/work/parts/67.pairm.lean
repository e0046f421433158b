/-! pairing: prices, the model's search -/
theorem prW_le {f : Nat → Int32} {n : Nat} {hm : Bool} (hf : PB f) (h8 : n ≤ 8) {w b : Nat} (hw : w < n) (hb : b < n) : prW f n hm w b ≤ 1000000 := by
  have := hf.fe (i := w) (b := b) (by omega) (by omega)
  unfold prW
  split
  · omega
  · split
    · omega
    · split <;> omega
/-- prices cut off beyond the people -/
def prX (f : Nat → Int32) (n : Nat) (hm : Bool) (w b : Nat) : Nat := if w < n ∧ b < n then prW f n hm w b else 0
theorem prX_le {f : Nat → Int32} {n : Nat} {hm : Bool} (hf : PB f) (h8 : n ≤ 8) (w b : Nat) : prX f n hm w b ≤ 1000000 := by
  unfold prX
  split
  · next h => exact prW_le hf h8 h.1 h.2
  · exact Nat.zero_le _
theorem prX_in {f : Nat → Int32} {n : Nat} {hm : Bool} {w b : Nat} (hw : w < n) (hb : b < n) : prX f n hm w b = prW f n hm w b := if_pos ⟨hw, hb⟩
section C67
variable {D n : Nat} {MI : mI} {ML : mJ} {Q : Option Value → mI → mJ → Prop}
theorem fe_nat {f : Nat → Int32} (hf : PB f) {w b : Nat} (hw : w < 8) (hb : b < 8) (h : nI 0 ≤ f (20 + w * 8 + b)) : f (20 + w * 8 + b) = nI (f (20 + w * 8 + b)).toInt.toNat ∧ (f (20 + w * 8 + b)).toInt.toNat ≤ 9 := by
  have := hf.fe (i := w) (b := b) hw hb
  rw [fa_le, nI_toInt (by omega)] at h
  refine ⟨?_, by omega⟩
  rw [fa_eq, nI_toInt (by omega)]
  omega
/-- the rows of prices as they are filled -/
def PrP (n : Nat) (pr : Nat → Nat → Nat) (al b0 w0 : Nat) (M : mI) : Prop := (∀ b, b < b0 → (∀ w, w < n → M 25 (b * 9 + w) = nI (pr w b)) ∧ M 25 (b * 9 + 8) = nI al) ∧ ∀ w, w < w0 → M 25 (b0 * 9 + w) = nI (pr w b0)
theorem PrP.st {pr : Nat → Nat → Nat} {al b0 w0 : Nat} (h : PrP n pr al b0 w0 MI) (h8 : n ≤ 8) (hw : w0 < n) : PrP n pr al b0 (w0 + 1) (mup MI 25 (mput (MI 25) (b0 * 9 + w0) (nI (pr w0 b0)))) := by
  refine ⟨fun b hb => ⟨fun w hw' => ?_, ?_⟩, fun w hw' => ?_⟩
  · rw [mup_s, mput_n (by omega)]; exact (h.1 b hb).1 w hw'
  · rw [mup_s, mput_n (by omega)]; exact (h.1 b hb).2
  · rw [mup_s]
    by_cases q : w = w0
    · subst q; rw [mput_s]
    · rw [mput_n (by omega)]; exact h.2 w (by omega)
theorem PrP.nx {pr : Nat → Nat → Nat} {al b0 : Nat} (h : PrP n pr al b0 n MI) (h8 : n ≤ 8) : PrP n pr al (b0 + 1) 0 (mup MI 25 (mput (MI 25) (b0 * 9 + 8) (nI al))) := by
  refine ⟨fun b hb => ⟨fun w hw' => ?_, ?_⟩, fun w hw' => absurd hw' (Nat.not_lt_zero _)⟩
  · rw [mup_s, mput_n (by omega)]
    by_cases q : b = b0
    · subst q; exact h.2 w hw'
    · exact (h.1 b (by omega)).1 w hw'
  · rw [mup_s]
    by_cases q : b = b0
    · subst q; rw [mput_s]
    · rw [mput_n (by omega)]; exact (h.1 b (by omega)).2
theorem FP.u {M : mI} {g : Nat → Int32} : FP (mup M 25 g) M := fun q a _ _ => mup_n a
theorem c_asMany (hn : MI 1 0 = nI n) (h8 : n ≤ 8) (hf : PB (MI 2)) : ∃ M, mrc (D + 4) 84 [.ref 24] MI ML none M ML ∧ FP M MI ∧ M 26 0 = nI (Lc (prX (MI 2) n false) 1 n n (mkS 0)) ∧ ∀ b, b < n → M 27 b = nI (wgP (prX (MI 2) n false) 1 n b) := by
  suffices h : VX6_asManyAsCanBe_0 (D + 3) (fun v M L' => v = none ∧ L' = ML ∧ FP M MI ∧ M 26 0 = nI (Lc (prX (MI 2) n false) 1 n n (mkS 0)) ∧ ∀ b, b < n → M 27 b = nI (wgP (prX (MI 2) n false) 1 n b)) MI ML by
    obtain ⟨v, M, L', ⟨rfl, rfl, hr⟩, h⟩ := EX6_asManyAsCanBe h
    exact ⟨M, h, hr⟩
  refine BX6_asManyAsCanBe_0 ?_
  refine up (P := fun b => ∀ M : mI, FP M MI → PrP n (prX (MI 2) n false) 1 b 0 M → VX6_asManyAsCanBe_2 (D + 3) _ (nI b) M ML) n (Nat.zero_le _) ?_ ?_ MI FP.rf ⟨fun b hb => absurd hb (Nat.not_lt_zero _), fun w hw => absurd hw (Nat.not_lt_zero _)⟩
  · intro M hF hP
    obtain ⟨M2, m1, m2, m3, m4⟩ := s_settle (D := D) (ML := ML) (n := n) (MI := M) (pr := prX (MI 2) n false) (al := 1) (by rw [hF 1 (by decide) (by decide) (by decide)]; exact hn) h8 (by omega) (fun b hb => hP.1 b hb) (prX_le hf h8)
    exact BX6_asManyAsCanBe_2 (cT (by rw [hF 1 (by decide) (by decide) (by decide), hn]; exact nI_le (Nat.le_refl _) (by omega)) (usev m1 ⟨rfl, rfl, m2.tr hF, m3, m4⟩))
  · intro b _ hb ih M hF hP
    refine BX6_asManyAsCanBe_2 (cF (by rw [hF 1 (by decide) (by decide) (by decide), hn]; exact nI_ge hb (by omega)) ?_)
    refine up (P := fun w => ∀ M : mI, FP M MI → PrP n (prX (MI 2) n false) 1 b w M → VX6_asManyAsCanBe_15 (D + 3) _ (nI b) (nI w) M ML) n (Nat.zero_le _) ?_ ?_ M hF hP
    · intro M hF hP
      refine BX6_asManyAsCanBe_15 (cT (by rw [hF 1 (by decide) (by decide) (by decide), hn]; exact nI_le (Nat.le_refl _) (by omega)) (usev (s_setPrice (by omega) (by omega)) ?_))
      rw [nI_add]
      exact ih _ (FP.u.tr hF) (hP.nx h8)
    · intro w _ hw ih2 M hF hP
      have e2 : M 2 = MI 2 := hF 2 (by decide) (by decide) (by decide)
      have hn' : M 1 0 = nI n := by rw [hF 1 (by decide) (by decide) (by decide)]; exact hn
      have hst := hP.st h8 hw
      have far : (frd (MI 2) b w n).1 = 8 ∨ w = b ∨ nI 0 ≤ MI 2 (20 + w * 8 + b) → VX6_asManyAsCanBe_54 (D + 3) (fun v M L' => v = none ∧ L' = ML ∧ FP M MI ∧ M 26 0 = nI (Lc (prX (MI 2) n false) 1 n n (mkS 0)) ∧ ∀ b, b < n → M 27 b = nI (wgP (prX (MI 2) n false) 1 n b)) (nI b) (nI w) (nI b) (nI w) M ML := by
        intro h
        have ep : prX (MI 2) n false w b = 1000000 := by
          rw [prX_in hw hb]
          unfold prW
          by_cases q : w = b ∨ (frd (MI 2) b w n).1 = 8
          · rw [if_pos q]
          · rw [if_neg q, if_neg (fun z => by
              rcases h with h | h | h
              · exact q (Or.inr h)
              · exact q (Or.inl h)
              · exact (fa_of_lt z).2.1 h), if_neg (by decide)]
        rw [ep] at hst
        refine BX6_asManyAsCanBe_54 (usev (s_setPrice (by omega) (by omega)) ?_)
        rw [nI_add]
        exact ih2 _ (FP.u.tr hF) hst
      refine BX6_asManyAsCanBe_15 (cF (by rw [hn']; exact nI_ge hw (by omega)) (usei (s_felt bz1 (by omega) (by omega)) ?_))
      rw [e2]
      refine br (fun h => far (Or.inr (Or.inr h))) (fun h => usei (s_mayWeigh (n := n) hn' h8 hb hw) ?_)
      rw [e2]
      by_cases q : w = b ∨ (frd (MI 2) b w n).1 = 8
      · refine bF ?_ (far (q.elim (fun q => Or.inr (Or.inl q)) Or.inl))
        rcases q with q | q
        · rw [decide_eq_true q]; rfl
        · rw [decide_eq_true q, Bool.or_true]; rfl
      · refine bT ?_ (usev (s_setPrice (by omega) (by omega)) ?_)
        · rw [decide_eq_false (fun z => q (Or.inl z)), decide_eq_false (fun z => q (Or.inr z))]; rfl
        · have ep : prX (MI 2) n false w b = 0 := by
            rw [prX_in hw hb]
            unfold prW
            rw [if_neg q, if_pos (fa_of_nle h)]
          rw [ep] at hst
          rw [nI_add]
          exact ih2 _ (FP.u.tr hF) hst
theorem c_harm (hn : MI 1 0 = nI n) (h8 : n ≤ 8) (hf : PB (MI 2)) : ∃ M, mrc (D + 4) 85 [.ref 24] MI ML none M ML ∧ FP M MI ∧ M 26 0 = nI (Lc (prX (MI 2) n true) 1000000 n n (mkS 0)) ∧ ∀ b, b < n → M 27 b = nI (wgP (prX (MI 2) n true) 1000000 n b) := by
  suffices h : VX6_atLeastHarm_0 (D + 3) (fun v M L' => v = none ∧ L' = ML ∧ FP M MI ∧ M 26 0 = nI (Lc (prX (MI 2) n true) 1000000 n n (mkS 0)) ∧ ∀ b, b < n → M 27 b = nI (wgP (prX (MI 2) n true) 1000000 n b)) MI ML by
    obtain ⟨v, M, L', ⟨rfl, rfl, hr⟩, h⟩ := EX6_atLeastHarm h
    exact ⟨M, h, hr⟩
  refine BX6_atLeastHarm_0 ?_
  refine up (P := fun b => ∀ M : mI, FP M MI → PrP n (prX (MI 2) n true) 1000000 b 0 M → VX6_atLeastHarm_2 (D + 3) _ (nI b) M ML) n (Nat.zero_le _) ?_ ?_ MI FP.rf ⟨fun b hb => absurd hb (Nat.not_lt_zero _), fun w hw => absurd hw (Nat.not_lt_zero _)⟩
  · intro M hF hP
    obtain ⟨M2, m1, m2, m3, m4⟩ := s_settle (D := D) (ML := ML) (n := n) (MI := M) (pr := prX (MI 2) n true) (al := 1000000) (by rw [hF 1 (by decide) (by decide) (by decide)]; exact hn) h8 (by omega) (fun b hb => hP.1 b hb) (prX_le hf h8)
    exact BX6_atLeastHarm_2 (cT (by rw [hF 1 (by decide) (by decide) (by decide), hn]; exact nI_le (Nat.le_refl _) (by omega)) (usev m1 ⟨rfl, rfl, m2.tr hF, m3, m4⟩))
  · intro b _ hb ih M hF hP
    refine BX6_atLeastHarm_2 (cF (by rw [hF 1 (by decide) (by decide) (by decide), hn]; exact nI_ge hb (by omega)) ?_)
    refine up (P := fun w => ∀ M : mI, FP M MI → PrP n (prX (MI 2) n true) 1000000 b w M → VX6_atLeastHarm_15 (D + 3) _ (nI b) (nI w) M ML) n (Nat.zero_le _) ?_ ?_ M hF hP
    · intro M hF hP
      refine BX6_atLeastHarm_15 (cT (by rw [hF 1 (by decide) (by decide) (by decide), hn]; exact nI_le (Nat.le_refl _) (by omega)) (usev (s_setPrice (by omega) (by omega)) ?_))
      rw [nI_add]
      exact ih _ (FP.u.tr hF) (hP.nx h8)
    · intro w _ hw ih2 M hF hP
      have e2 : M 2 = MI 2 := hF 2 (by decide) (by decide) (by decide)
      have hn' : M 1 0 = nI n := by rw [hF 1 (by decide) (by decide) (by decide)]; exact hn
      have hst := hP.st h8 hw
      have key : ∀ s0 : Int32, (¬ (w = b ∨ (frd (MI 2) b w n).1 = 8) → s0 = nI (prX (MI 2) n true w b)) → VX6_atLeastHarm_47 (D + 3) (fun v M L' => v = none ∧ L' = ML ∧ FP M MI ∧ M 26 0 = nI (Lc (prX (MI 2) n true) 1000000 n n (mkS 0)) ∧ ∀ b, b < n → M 27 b = nI (wgP (prX (MI 2) n true) 1000000 n b)) (nI b) (nI w) s0 M ML := by
        intro s0 h0
        refine BX6_atLeastHarm_47 (usei (s_mayWeigh (n := n) hn' h8 hb hw) ?_)
        rw [e2]
        by_cases q : w = b ∨ (frd (MI 2) b w n).1 = 8
        · refine bF ?_ (usev (s_setPrice (by omega) (by omega)) ?_)
          · rcases q with q | q
            · rw [decide_eq_true q]; rfl
            · rw [decide_eq_true q, Bool.or_true]; rfl
          · have ep : prX (MI 2) n true w b = 1000000 := by
              rw [prX_in hw hb]
              unfold prW
              rw [if_pos q]
            rw [ep] at hst
            rw [nI_add]
            exact ih2 _ (FP.u.tr hF) hst
        · refine bT ?_ (usev (s_setPrice (by omega) (by omega)) ?_)
          · rw [decide_eq_false (fun z => q (Or.inl z)), decide_eq_false (fun z => q (Or.inr z))]; rfl
          · rw [h0 q, nI_add]
            exact ih2 _ (FP.u.tr hF) hst
      refine BX6_atLeastHarm_15 (cF (by rw [hn']; exact nI_ge hw (by omega)) (usei (s_felt bz1 (by omega) (by omega)) ?_))
      rw [e2]
      refine br (fun h => key _ (fun q => ?_)) (fun h => key _ (fun q => ?_))
      · obtain ⟨g1, g2⟩ := fe_nat hf (w := w) (b := b) (by omega) (by omega) h
        rw [prX_in hw hb]
        unfold prW
        rw [if_neg q, if_neg (fun z => (fa_of_lt z).2.1 h), if_pos rfl]
        rw [g1, nI_add, nI_toInt (by omega), Nat.add_comm]
        rfl
      · rw [prX_in hw hb]
        unfold prW
        rw [if_neg q, if_pos (fa_of_nle h)]
end C67
