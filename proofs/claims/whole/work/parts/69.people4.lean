/-! people from a row: pair -/
section P10
variable {d n m z i : Nat} {MI : mI} {ML : mJ} {x y : Int32}
theorem adF_0 (f : Nat → Int32) (g : Nat → Int64) (n i : Nat) : adF f g n i 0 = f := rfl
theorem adF_cong {g g' : Nat → Int64} {n i : Nat} (f : Nat → Int32) : ∀ c : Nat, (∀ k, k < c → g (i + 2 * k) = g' (i + 2 * k) ∧ g (i + 2 * k + 1) = g' (i + 2 * k + 1)) → adF f g n i c = adF f g' n i c
  | 0, _ => (adF_0 f g n i).trans (adF_0 f g' n i).symm
  | c + 1, h => by
    have ih := adF_cong (n := n) f c (fun k hk => h k (by omega))
    obtain ⟨h1, h2⟩ := h c (by omega)
    show mput (mput (adF f g n i c) (n + c) (g (i + 2 * c)).toInt32) (8 + (n + c)) (g (i + 2 * c + 1)).toInt32 = mput (mput (adF f g' n i c) (n + c) (g' (i + 2 * c)).toInt32) (8 + (n + c)) (g' (i + 2 * c + 1)).toInt32
    rw [ih, h1, h2]
theorem stop_ex {p : Nat → Bool} : ∀ N : Nat, (∃ cs, (∀ c, c < cs → p c = true) ∧ p cs = false) ∨ ∀ c, c < N → p c = true
  | 0 => Or.inr (fun c h => absurd h (Nat.not_lt_zero _))
  | N + 1 => by
    rcases stop_ex (p := p) N with h | h
    · exact Or.inl h
    · by_cases hp : p N = true
      · refine Or.inr (fun c hc => ?_)
        rcases Nat.lt_or_ge c N with q | q
        · exact h c q
        · have : c = N := by omega
          subst this
          exact hp
      · exact Or.inl ⟨N, h, by simpa using hp⟩
theorem p_people (x y w : Int32) : Sim 136 188 [.int x, .int y, .int w] := by
  intro MI ML hI
  obtain ⟨n, hIn⟩ := hI.1
  obtain ⟨h8, hn, hm, hM, hP, z1, z2, z3, z4⟩ := hIn
  obtain ⟨nb, hnb, s5⟩ := hI.2.2.2.2.1
  obtain ⟨s1, s2, s3, s4⟩ := hnb
  by_cases h : hasB 6 x = true
  · obtain ⟨d, hd, rfl⟩ := hasB_ix (n := 6) (by omega) h
    by_cases hw : wiB (nI 1) (nI 8) w = true
    · have hw2 := hw
      simp only [wiB, Bool.and_eq_true, Bool.not_eq_true', decide_eq_false_iff_not] at hw2
      have hwt := wi_ti hw
      have t1 : (nI 1).toInt = 1 := by decide
      have t8 : (nI 8).toInt = 8 := by decide
      obtain ⟨m, hm1, hm8, rfl⟩ : ∃ m, 1 ≤ m ∧ m ≤ 8 ∧ w = nI m := ⟨w.toInt.toNat, by omega, by omega, by rw [fa_eq, nI_toInt (by omega)]; omega⟩
      have kx : ∀ {Q}, _ → VX10_people_0 299 Q (nI d) y (nI m) MI ML := fun q => BX10_people_0 (usei s_shas (bT h (cF hw2.1 (cT (fa_of_nlt hw2.2) (usei (s_isBare hd) q)))))
      have km : ∀ {Q} {M : mI} {L : mJ}, _ → VX11_people_0 299 Q (nI d) y (nI m) M L := fun q => BX11_people_0 (usei t_isShelf (bT h (usei (t_within (lo := nI 1) (hi := nI 8) rfl rfl) (bT hw ⟨d, rfl, hd, q⟩))))
      rcases s5 d hd with ⟨h1, h2, h3, h4⟩ | ⟨b, hb, h1, h2, h3, h4, h5⟩ | ⟨s, z, hs, hz, h1, h2, h3, h4, h5⟩
      · refine ⟨(nI 0), MI, ML, MI, ML, mrc_of (EX10_people (kx (cF (by rw [h1]; decide) eRr))), mrc_of (EX11_people (km (cT (by rw [h2]; decide) (BX11_people_44 ⟨d, rfl, hd, cF (by rw [h2]; decide) (BX11_people_69 (cT rfl eRr))⟩)))), hI⟩
      · refine ⟨(-12), MI, ML, MI, ML, mrc_of (EX10_people (kx (bF (by rw [h1]; decide) (usei (s_holdsBytes hd) (bF (by rw [h1]; decide) eRr))))), mrc_of (EX11_people (km (cF (by rw [h3]; exact nI_nlt (Nat.zero_le _) (by omega)) ⟨d, rfl, hd, cF (by rw [h3, nI_eq (by omega) (by omega)]; omega) eRr⟩))), hI⟩
      · have e6 : decide (MI 11 d = nI 6) = false := by rw [h1]; exact decide_eq_false (by rw [nI_eq (by omega) (by omega)]; omega)
        have g0 : ¬ MI 76 d < nI 0 := by rw [h2]; exact nI_nlt (Nat.zero_le _) (by omega)
        by_cases hs0 : s = 0
        · subst hs0
          have e0 : decide (MI 11 d = nI 0) = true := by rw [h1]; decide
          have g5 : MI 76 d = nI 50 := h2
          rcases nIx y (n := z) (by omega) with q | q | ⟨i, hi, rfl⟩
          · exact ⟨(nI 0), MI, ML, MI, ML, mrc_of (EX10_people (kx (bF e6 (usei (s_holdsBytes hd) (bT e0 (BX10_people_57 (cF (nI_ge (by omega) (by omega)) (cT q eRr)))))))), mrc_of (EX11_people (km (cF g0 ⟨d, rfl, hd, cT g5 (BX11_people_44 ⟨d, rfl, hd, cT g5 (cT q (BX11_people_69 (cT rfl eRr)))⟩)⟩))), hI⟩
          · have q0 : ¬ y < nI 0 := by
              rw [fa_le, nI_toInt (by omega)] at q
              rw [fa_lt, nI0_ti]
              omega
            have qz : nI z - nI 1 ≤ y := by
              rw [fa_le, pk_sub_toInt (by omega) (by omega)]
              rw [fa_le, nI_toInt (by omega)] at q
              omega
            have qm : nI z - nI 2 - nI 2 * nI 0 < y := by
              have e2 : (nI z - nI 2).toInt = (z : Int) - 2 := pk_sub_toInt (by omega) (by omega)
              have e3 : (nI z - nI 2 - nI 0).toInt = (nI z - nI 2).toInt - (nI 0).toInt := ti_sub (by omega) (by omega) (by decide) (by decide)
              rw [pk_mul, Nat.mul_zero, fa_lt, e3, e2, nI0_ti]
              rw [fa_le, nI_toInt (by omega)] at q
              omega
            exact ⟨(nI 0), MI, ML, MI, ML, mrc_of (EX10_people (kx (bF e6 (usei (s_holdsBytes hd) (bT e0 (BX10_people_57 (cF (nI_ge (by omega) (by omega)) (cF q0 (usei (s_sizeOf hd) (cT (by rw [h3]; exact qz) eRr)))))))))), mrc_of (EX11_people (km (cF g0 ⟨d, rfl, hd, cT g5 (BX11_people_44 ⟨d, rfl, hd, cT g5 (cF q0 (BX11_people_69 (cF nI_1ne (cF (nI_ge (by omega) (by omega)) ⟨d, rfl, hd, cT (by rw [h4]; exact qm) (BX11_people_111 (cT rfl (BX11_people_172 (cT rfl (BX11_people_69 (cT rfl eRr))))))⟩))))⟩)⟩))), hI⟩
          · obtain ⟨cs, hc, hst⟩ : ∃ cs, (∀ c, c < cs → pcm (fun p => ML 14 (d * 60 + p)) n m z i c = true) ∧ pcm (fun p => ML 14 (d * 60 + p)) n m z i cs = false := by
              rcases stop_ex (p := fun c => pcm (fun p => ML 14 (d * 60 + p)) n m z i c) 10 with h | h
              · exact h
              · have h9 := h 9 (by omega)
                rw [pcm_no (by omega)] at h9
                cases h9
            have hle : n + cs ≤ 8 := by
              rcases Nat.eq_zero_or_pos cs with q | q
              · omega
              · have := hc (cs - 1) (by omega)
                simp only [pcm, Bool.and_eq_true, decide_eq_true_eq] at this
                omega
            have hbb : ∀ c, pcm (fun p => ML 78 (d * 60 + p)) n m z i c = pcm (fun p => ML 14 (d * 60 + p)) n m z i c := fun c => by
              simp only [pcm]
              by_cases q : i + 2 * c + 1 < z
              · rw [(h5 (i + 2 * c) (by omega)).1, (h5 (i + 2 * c + 1) (by omega)).1]
              · rw [decide_eq_false q]
                simp
            have hadd : ∀ (f : Nat → Int32) c, c ≤ cs → adF f (fun p => ML 78 (d * 60 + p)) n i c = adF f (fun p => ML 14 (d * 60 + p)) n i c := by
              intro f c hcc
              refine adF_cong f c (fun k hk => ?_)
              have := hc k (by omega)
              simp only [pcm, Bool.and_eq_true, decide_eq_true_eq] at this
              exact ⟨(h5 (i + 2 * k) (by omega)).1, (h5 (i + 2 * k + 1) (by omega)).1⟩
            refine ⟨(nI cs), mup (mup MI 2 (adF (MI 2) (fun p => ML 14 (d * 60 + p)) n i cs)) 1 (mput (MI 1) 0 (nI (n + cs))), ML, mup (mup (mup (mup MI 2 (adF (MI 2) (fun p => ML 14 (d * 60 + p)) n i cs)) 1 (mput (MI 1) 0 (nI (n + cs)))) 47 (adF (MI 2) (fun p => ML 14 (d * 60 + p)) n i cs)) 46 (mput (MI 46) 6 (nI (n + cs))), ML, mrc_of (EX10_people (kx (bF e6 (usei (s_holdsBytes hd) (bT e0 (s_people57 (D := 295) hd hz h3 hn h8 hm8 hi hc hst eRr)))))), mrc_of (EX11_people (km (cF (by simp (disch := omega) only [mup_n, mup_s, mput_n, mput_s, mup_mup]; exact g0) ⟨d, rfl, hd, cT (by simp (disch := omega) only [mup_n, mup_s, mput_n, mput_s, mup_mup]; exact g5) (BX11_people_44 ⟨d, rfl, hd, cT (by simp (disch := omega) only [mup_n, mup_s, mput_n, mput_s, mup_mup]; exact g5) (cF (nI_nlt (Nat.zero_le _) (by omega)) (t_people69 (D := 295) (z := z) (n := n) (cs := cs) hd hz (by simp (disch := omega) only [mup_n, mup_s, mput_n, mput_s, mup_mup]; exact h4) (by simp (disch := omega) only [mup_n, mup_s, mput_n, mput_s, mup_mup]; exact hm) h8 hm8 hi (fun p hp => by rw [(h5 p hp).1]; exact (h5 p hp).2 rfl) (fun c hcc => (hbb c).trans (hc c hcc)) ((hbb cs).trans hst) ?_))⟩)⟩))), ?_⟩
            · refine iR rfl ?_
              simp (disch := omega) only [mup_n, mup_s, mput_n, mput_s, mup_mup]
              rw [hM, hadd _ _ (Nat.le_refl _)]
            · refine ⟨⟨n + cs, hle, by simp (disch := omega) only [mup_n, mup_s, mput_n, mput_s, mup_mup], by simp (disch := omega) only [mup_n, mup_s, mput_n, mput_s, mup_mup], by simp (disch := omega) only [mup_n, mup_s, mput_n, mput_s, mup_mup], by simp (disch := omega) only [mup_n, mup_s, mput_n, mput_s, mup_mup]; exact adF_PB hP hc, by simp (disch := omega) only [mup_n, mup_s, mput_n, mput_s, mup_mup]; exact z1, by simp (disch := omega) only [mup_n, mup_s, mput_n, mput_s, mup_mup]; exact z2, by simp (disch := omega) only [mup_n, mup_s, mput_n, mput_s, mup_mup]; exact z3, by simp (disch := omega) only [mup_n, mup_s, mput_n, mput_s, mup_mup]; exact z4⟩, (Ic_c (by first | rfl | simp (disch := omega) only [mup_n, mup_s, mput_n]) (by first | rfl | simp (disch := omega) only [mup_n, mup_s, mput_n]) (by first | rfl | simp (disch := omega) only [mup_n, mup_s, mput_n]) (by first | rfl | simp (disch := omega) only [mup_n, mup_s, mput_n]) (by first | rfl | simp (disch := omega) only [mup_n, mup_s, mput_n]) (by first | rfl | simp (disch := omega) only [mup_n, mup_s, mput_n]) (by first | rfl | simp (disch := omega) only [mup_n, mup_s, mput_n]) (by first | rfl | simp (disch := omega) only [mup_n, mup_s, mput_n]) (by first | rfl | simp (disch := omega) only [mup_n, mup_s, mput_n]) (by first | rfl | simp (disch := omega) only [mup_n, mup_s, mput_n]) hI.2.1), (It_c (by first | rfl | simp (disch := omega) only [mup_n, mup_s, mput_n]) (by first | rfl | simp (disch := omega) only [mup_n, mup_s, mput_n]) (by first | rfl | simp (disch := omega) only [mup_n, mup_s, mput_n]) (by first | rfl | simp (disch := omega) only [mup_n, mup_s, mput_n]) hI.2.2.1), (Il_c (by first | rfl | simp (disch := omega) only [mup_n, mup_s, mput_n]) (by first | rfl | simp (disch := omega) only [mup_n, mup_s, mput_n]) (by first | rfl | simp (disch := omega) only [mup_n, mup_s, mput_n]) (by first | rfl | simp (disch := omega) only [mup_n, mup_s, mput_n]) (by first | rfl | simp (disch := omega) only [mup_n, mup_s, mput_n]) (by first | rfl | simp (disch := omega) only [mup_n, mup_s, mput_n]) hI.2.2.2.1), (Is_c (by first | rfl | simp (disch := omega) only [mup_n, mup_s, mput_n]) (by first | rfl | simp (disch := omega) only [mup_n, mup_s, mput_n]) (by first | rfl | simp (disch := omega) only [mup_n, mup_s, mput_n]) (by first | rfl | simp (disch := omega) only [mup_n, mup_s, mput_n]) (by first | rfl | simp (disch := omega) only [mup_n, mup_s, mput_n]) (by first | rfl | simp (disch := omega) only [mup_n, mup_s, mput_n]) (by first | rfl | simp (disch := omega) only [mup_n, mup_s, mput_n]) (by first | rfl | simp (disch := omega) only [mup_n, mup_s, mput_n]) (by first | rfl | simp (disch := omega) only [mup_n, mup_s, mput_n]) (by first | rfl | simp (disch := omega) only [mup_n, mup_s, mput_n]) (by first | rfl | simp (disch := omega) only [mup_n, mup_s, mput_n]) hI.2.2.2.2.1), (Ir_c (by first | rfl | simp (disch := omega) only [mup_n, mup_s, mput_n]) (by first | rfl | simp (disch := omega) only [mup_n, mup_s, mput_n]) (by first | rfl | simp (disch := omega) only [mup_n, mup_s, mput_n]) (by first | rfl | simp (disch := omega) only [mup_n, mup_s, mput_n]) (by first | rfl | simp (disch := omega) only [mup_n, mup_s, mput_n]) hI.2.2.2.2.2.1), (Ib_c (by first | rfl | simp (disch := omega) only [mup_n, mup_s, mput_n]) (by first | rfl | simp (disch := omega) only [mup_n, mup_s, mput_n]) (by first | rfl | simp (disch := omega) only [mup_n, mup_s, mput_n]) (by first | rfl | simp (disch := omega) only [mup_n, mup_s, mput_n]) (by first | rfl | simp (disch := omega) only [mup_n, mup_s, mput_n]) (by first | rfl | simp (disch := omega) only [mup_n, mup_s, mput_n]) hI.2.2.2.2.2.2.1), (Ii_c (by first | rfl | simp (disch := omega) only [mup_n, mup_s, mput_n]) (by first | rfl | simp (disch := omega) only [mup_n, mup_s, mput_n]) (by first | rfl | simp (disch := omega) only [mup_n, mup_s, mput_n]) (by first | rfl | simp (disch := omega) only [mup_n, mup_s, mput_n]) (by first | rfl | simp (disch := omega) only [mup_n, mup_s, mput_n]) (by first | rfl | simp (disch := omega) only [mup_n, mup_s, mput_n]) (by first | rfl | simp (disch := omega) only [mup_n, mup_s, mput_n]) hI.2.2.2.2.2.2.2.1), (Iw_c (by first | rfl | simp (disch := omega) only [mup_n, mup_s, mput_n]) hI.2.2.2.2.2.2.2.2)⟩
        · have e0 : decide (MI 11 d = nI 0) = false := by rw [h1]; exact decide_eq_false (by rw [nI_eq (by omega) (by omega)]; omega)
          exact ⟨(-12), MI, ML, MI, ML, mrc_of (EX10_people (kx (bF e6 (usei (s_holdsBytes hd) (bF e0 eRr))))), mrc_of (EX11_people (km (cF g0 ⟨d, rfl, hd, cF (by rw [h2, nI_eq (by omega) (by omega)]; omega) eRr⟩))), hI⟩
    · refine ⟨(-1), MI, ML, MI, ML, mrc_of (EX10_people (BX10_people_0 (usei s_shas (bT h (br (fun _ => eRr) (fun a1 => br (fun a2 => absurd ?_ hw) (fun _ => eRr))))))), mrc_of (EX11_people (BX11_people_0 (usei t_isShelf (bT h (usei (t_within (lo := nI 1) (hi := nI 8) rfl rfl) (bF (bnf hw) eRr)))))), hI⟩
      simp only [wiB, Bool.and_eq_true, Bool.not_eq_true', decide_eq_false_iff_not]
      refine ⟨a1, ?_⟩
      rw [fa_le] at a2
      rw [fa_lt]
      omega
  · exact ⟨_, _, _, _, _, mrc_of (EX10_people (BX10_people_0 (usei s_shas (bF (bnf h) eRr)))), mrc_of (EX11_people (BX11_people_0 (usei t_isShelf (bF (bnf h) eRr)))), hI⟩
end P10
