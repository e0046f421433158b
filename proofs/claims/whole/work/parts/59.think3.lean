/-! later, feltLater, lasts, renewed, worth, judge: pairs -/
theorem WC.z {n : Nat} {La : mLaw} {f : Nat → Int32} {M : mI} (h : WC n La f M) : Z84 (M 17) := by
  rw [h.2.2.1]; exact h.2.2.2.1.2
theorem WM.z {n : Nat} {La : mLaw} {f : Nat → Int32} {M : mI} (h : WM n La f M) : Z84 (M 61) := by
  rw [h.2.2.1]; exact h.2.2.2.1.2
theorem WC.put {n p : Nat} {La : mLaw} {f : Nat → Int32} {M : mI} {v : Int32} (h : WC n La f M) (hp : p < 84) (hv : okv p v) : WC n La (mput f p v) (mup M 17 (mput (M 17) p v)) := by
  obtain ⟨h8, h1, h2, h3, h4, h5⟩ := h
  exact ⟨h8, by rw [mup_n (by decide)]; exact h1, by rw [mup_s, h2], h3.put hp hv, h4, by simp (disch := omega) only [mup_n, mup_s, mput_n, mput_s, mup_mup]; exact h5⟩
theorem WM.put {n p : Nat} {La : mLaw} {f : Nat → Int32} {M : mI} {v : Int32} (h : WM n La f M) (hp : p < 84) (hv : okv p v) : WM n La (mput f p v) (mup M 61 (mput (M 61) p v)) := by
  obtain ⟨h8, h1, h2, h3, h4, h5, h6⟩ := h
  exact ⟨h8, by rw [mup_n (by decide)]; exact h1, by rw [mup_s, h2], h3.put hp hv, h4, by simp (disch := omega) only [mup_n, mup_s, mput_n, mput_s, mup_mup]; exact h5, by rw [mup_n (by decide)]; exact h6⟩
theorem FA.u {M : mI} {g : Nat → Int32} : FA (mup M 17 g) M := fun q _ _ c => mup_n (by omega)
theorem FB.u {M : mI} {g : Nat → Int32} : FB (mup M 61 g) M := ⟨fun q _ b => mup_n (by omega), fun j _ => by rw [mup_n (by decide)]⟩
theorem nI_m1 {i : Nat} (h : i < 8) : ¬ nI i = -1 := by
  have : ∀ x : Fin 8, ¬ nI x.val = -1 := by decide
  exact this ⟨i, h⟩
section T59
variable {n : Nat} {MI : mI} {ML : mJ}
theorem p_later (x y : Int32) : Sim 147 225 [.int x, .int y] := by
  intro MI ML hI
  obtain ⟨n, hIn⟩ := hI.1
  obtain ⟨La, hw, hC, hL⟩ := hI.2.2.2.1
  have h8 := hIn.1
  have hn := hIn.2.1
  have hm := hIn.2.2.1
  have hz := hIn.2.2.2.2.2.1
  by_cases h : wiB (nI 0) (nI 40) x = true
  · obtain ⟨d, hd, rfl⟩ := wi_ix (by omega) h
    by_cases hy : y = -1
    · subst hy
      refine pair_T (v := (nI (fdN La n (MI 2) d))) hI hIn hw hC hL (fun ht => ?_) (fun N n1 n2 n3 ht hz2 => ?_)
      · obtain ⟨M, b1, b2, b3, _⟩ := ht 296 MI FA.rf hz
        obtain ⟨M2, g1, g2, g3⟩ := c_goOn (D := 291) (ML := ML) b2 (d := d) (by omega)
        exact ⟨M2, mrc_of (EX10_later (BX10_later_0 (rngT h (usei (s_isOneOrAll hn) (bT rfl (usev b1 (usei g1 (cT rfl eRr)))))))), g3.a.tr b3, g2.z⟩
      · obtain ⟨M, b1, b2, b3⟩ := ht 298 N FB.rf hz2
        obtain ⟨M2, g1, g2, g3⟩ := m_fedBehind (D := 291) (ML := ML) b2 (d := d) (by omega)
        exact ⟨M2, mrc_of (EX11_later (BX11_later_0 (usei (t_within (lo := nI 0) (hi := nI 40) rfl rfl) (bT h (cT rfl (BX11_later_28 (usev b1 (usei g1 (cT rfl eRr))))))))), g3.tr b3, g2.z⟩
    · by_cases h1 : hasB n y = true
      · obtain ⟨one, ho, rfl⟩ := hasB_ix h8 h1
        refine pair_T (v := (dyN La n (MI 2) d one)) hI hIn hw hC hL (fun ht => ?_) (fun N n1 n2 n3 ht hz2 => ?_)
        · obtain ⟨M, b1, b2, b3, _⟩ := ht 296 MI FA.rf hz
          obtain ⟨M2, g1, g2, g3⟩ := c_goOn (D := 291) (ML := ML) b2 (d := d) (by omega)
          exact ⟨M2, mrc_of (EX10_later (BX10_later_0 (rngT h (usei (s_isOneOrAll hn) (bT (by rw [h1, Bool.or_true]) (usev b1 (usei g1 (cF hy (usei (s_hungerOf bz16 (by omega)) (iR (by rw [g2.2.2.1]) rfl)))))))))), g3.a.tr b3, g2.z⟩
        · obtain ⟨M, b1, b2, b3⟩ := ht 298 N FB.rf hz2
          obtain ⟨M2, g1, g2, g3⟩ := m_fedBehind (D := 291) (ML := ML) b2 (d := d) (by omega)
          exact ⟨M2, mrc_of (EX11_later (BX11_later_0 (usei (t_within (lo := nI 0) (hi := nI 40) rfl rfl) (bT h (cF hy (usei (t_isOne n1 h8) (bT h1 (BX11_later_28 (usev b1 (usei g1 (cF hy ⟨one, rfl, by omega, iR (by rw [g2.2.2.1]) rfl⟩))))))))))), g3.tr b3, g2.z⟩
      · exact ⟨_, _, _, _, _, mrc_of (EX10_later (BX10_later_0 (rngT h (usei (s_isOneOrAll hn) (bF (by rw [bnf h1, decide_eq_false hy]; rfl) eRr))))), mrc_of (EX11_later (BX11_later_0 (usei (t_within (lo := nI 0) (hi := nI 40) rfl rfl) (bT h (cF hy (usei (t_isOne hm h8) (bF (bnf h1) eRr))))))), hI⟩
  · exact ⟨_, _, _, _, _, mrc_of (EX10_later (BX10_later_0 (rngF h eRr))), mrc_of (EX11_later (BX11_later_0 (usei (t_within (lo := nI 0) (hi := nI 40) rfl rfl) (bF (bnf h) eRr)))), hI⟩
theorem p_feltLater (x y : Int32) : Sim 148 226 [.int x, .int y] := by
  intro MI ML hI
  obtain ⟨n, hIn⟩ := hI.1
  obtain ⟨La, hw, hC, hL⟩ := hI.2.2.2.1
  have h8 := hIn.1
  have hn := hIn.2.1
  have hm := hIn.2.2.1
  have hz := hIn.2.2.2.2.2.1
  by_cases h : wiB (nI 0) (nI 40) x = true
  · obtain ⟨d, hd, rfl⟩ := wi_ix (by omega) h
    by_cases h1 : pairB n y = true
    · obtain ⟨i, j, hi, hj, hne, ei, ej⟩ := pairB_ix h8 h1
      refine pair_T (v := (dyN La n (MI 2) d (20 + i * 8 + j) + nI 100)) hI hIn hw hC hL (fun ht => ?_) (fun N n1 n2 n3 ht hz2 => ?_)
      · obtain ⟨M, b1, b2, b3, _⟩ := ht 296 MI FA.rf hz
        obtain ⟨M2, g1, g2, g3⟩ := c_goOn (D := 291) (ML := ML) b2 (d := d) (by omega)
        refine ⟨M2, mrc_of (EX10_feltLater (BX10_feltLater_0 (rngT h (usei (s_hasPair bz1 hn) (bT h1 (usev b1 (usei g1 ?_))))))), g3.a.tr b3, g2.z⟩
        rw [ej, ei]
        exact usei (s_felt bz16 (by omega) (by omega)) (iR (by rw [g2.2.2.1]) rfl)
      · obtain ⟨M, b1, b2, b3⟩ := ht 298 N FB.rf hz2
        obtain ⟨M2, g1, g2, g3⟩ := m_fedBehind (D := 291) (ML := ML) b2 (d := d) (by omega)
        refine ⟨M2, mrc_of (EX11_feltLater (BX11_feltLater_0 (usei (t_within (lo := nI 0) (hi := nI 40) rfl rfl) (bT h (usei (t_isPair n1 h8) (bT h1 (usev b1 (usei g1 ?_)))))))), g3.tr b3, g2.z⟩
        rw [ej, ei]
        exact usei t_felt ⟨_, rfl, by omega, iR (by rw [g2.2.2.1]) rfl⟩
    · exact ⟨_, _, _, _, _, mrc_of (EX10_feltLater (BX10_feltLater_0 (rngT h (usei (s_hasPair bz1 hn) (bF (bnf h1) eRr))))), mrc_of (EX11_feltLater (BX11_feltLater_0 (usei (t_within (lo := nI 0) (hi := nI 40) rfl rfl) (bT h (usei (t_isPair hm h8) (bF (bnf h1) eRr)))))), hI⟩
  · exact ⟨_, _, _, _, _, mrc_of (EX10_feltLater (BX10_feltLater_0 (rngF h eRr))), mrc_of (EX11_feltLater (BX11_feltLater_0 (usei (t_within (lo := nI 0) (hi := nI 40) rfl rfl) (bF (bnf h) eRr)))), hI⟩
theorem p_lasts (x : Int32) : Sim 149 228 [.int x] := by
  intro MI ML hI
  obtain ⟨n, hIn⟩ := hI.1
  obtain ⟨La, hw, hC, hL⟩ := hI.2.2.2.1
  have h8 := hIn.1
  have hn := hIn.2.1
  have hm := hIn.2.2.1
  have hz := hIn.2.2.2.2.2.1
  by_cases h1 : hasB n x = true
  · obtain ⟨one, ho, rfl⟩ := hasB_ix h8 h1
    refine pair_T (v := (nI (lst La n (MI 2) one))) hI hIn hw hC hL (fun ht => ?_) (fun N n1 n2 n3 ht hz2 => ?_)
    · obtain ⟨M, b1, b2, b3, _⟩ := ht 296 MI FA.rf hz
      obtain ⟨M2, f', g1, g2, g3⟩ := c_daysFed (D := 291) (ML := ML) b2 ho
      exact ⟨M2, mrc_of (EX10_lasts (BX10_lasts_0 (usei (s_has bz1 hn) (bT h1 (usev b1 (usei g1 eRr)))))), g3.a.tr b3, g2.z⟩
    · obtain ⟨M, b1, b2, b3⟩ := ht 298 N FB.rf hz2
      obtain ⟨M2, f', g1, g2, g3⟩ := m_lastsThen (D := 291) (ML := ML) b2 ho
      exact ⟨M2, mrc_of (EX11_lasts (BX11_lasts_0 (usei (t_isOne n1 h8) (bT h1 (usev b1 (usei g1 eRr)))))), g3.tr b3, g2.z⟩
  · exact ⟨_, _, _, _, _, mrc_of (EX10_lasts (BX10_lasts_0 (usei (s_has bz1 hn) (bF (bnf h1) eRr)))), mrc_of (EX11_lasts (BX11_lasts_0 (usei (t_isOne hm h8) (bF (bnf h1) eRr)))), hI⟩
theorem okv_fe {i j : Nat} (hi : i < 8) (hj : j < 8) (hne : i ≠ j) {v : Int32} (h : wiB (-9) (nI 9) v = true) : okv (20 + i * 8 + j) v := by
  have b := wi_ti h
  rw [m9, nI_toInt (by omega)] at b
  exact (okv_ft hi hj hne).mpr b
theorem p_renewed (x v : Int32) : Sim 150 229 [.int x, .int v] := by
  intro MI ML hI
  obtain ⟨n, hIn⟩ := hI.1
  obtain ⟨La, hw, hC, hL⟩ := hI.2.2.2.1
  have h8 := hIn.1
  have hn := hIn.2.1
  have hm := hIn.2.2.1
  have hz := hIn.2.2.2.2.2.1
  by_cases h1 : pairB n x = true
  · obtain ⟨i, j, hi, hj, hne, ei, ej⟩ := pairB_ix h8 h1
    by_cases h2 : feelB v = true
    · have hv := okv_fe (by omega) (by omega) hne (feelB_wi v ▸ h2)
      refine pair_T (v := (nI (lst La n (mput (MI 2) (20 + i * 8 + j) v) j))) hI hIn hw hC hL (fun ht => ?_) (fun N n1 n2 n3 ht hz2 => ?_)
      · obtain ⟨M, b1, b2, b3, _⟩ := ht 296 MI FA.rf hz
        obtain ⟨M2, f', g1, g2, g3⟩ := c_daysFed (D := 291) (ML := ML) (b2.put (by omega) hv) hj
        refine ⟨M2, mrc_of (EX10_renewed (BX10_renewed_0 (usei (s_hasPair bz1 hn) (bT h1 (usei s_isFeeling (bT h2 (usev b1 ?_))))))), g3.a.tr (FA.u.tr b3), g2.z⟩
        rw [ej, ei]
        exact usev (s_setFelt bz16 (by omega) (by omega)) (usei g1 eRr)
      · obtain ⟨M, b1, b2, b3⟩ := ht 298 N FB.rf hz2
        obtain ⟨M2, f', g1, g2, g3⟩ := m_lastsThen (D := 291) (ML := ML) (b2.put (by omega) hv) hj
        refine ⟨M2, mrc_of (EX11_renewed (BX11_renewed_0 (usei (t_isPair n1 h8) (bT h1 (usei (t_within (lo := -9) (hi := nI 9) rfl rfl) (bT (feelB_wi v ▸ h2) (usev b1 ?_))))))), g3.tr (FB.u.tr b3), g2.z⟩
        rw [ej, ei]
        exact usei t_felt ⟨_, rfl, by omega, usei g1 eRr⟩
    · exact ⟨_, _, _, _, _, mrc_of (EX10_renewed (BX10_renewed_0 (usei (s_hasPair bz1 hn) (bT h1 (usei s_isFeeling (bF (bnf h2) eRr)))))), mrc_of (EX11_renewed (BX11_renewed_0 (usei (t_isPair hm h8) (bT h1 (usei (t_within (lo := -9) (hi := nI 9) rfl rfl) (bF (feelB_wi v ▸ bnf h2) eRr)))))), hI⟩
  · exact ⟨_, _, _, _, _, mrc_of (EX10_renewed (BX10_renewed_0 (usei (s_hasPair bz1 hn) (bF (bnf h1) eRr)))), mrc_of (EX11_renewed (BX11_renewed_0 (usei (t_isPair hm h8) (bF (bnf h1) eRr)))), hI⟩
/-- by whose feeling one's hunger would be least: the first i of all -/
def wrt (La : mLaw) (n : Nat) (f : Nat → Int32) (d one : Nat) : Nat → Nat × Int32
  | 0 => (8, nI 100)
  | i + 1 => if i = one then wrt La n f d one i else if (wrt La n f d one i).2 ≤ dyN La n (mput f (20 + i * 8 + one) (-9)) d one then wrt La n f d one i else (i, dyN La n (mput f (20 + i * 8 + one) (-9)) d one)
theorem ok_m9 {i j : Nat} (hi : i < 8) (hj : j < 8) (hne : i ≠ j) : okv (20 + i * 8 + j) (-9) := (okv_ft hi hj hne).mpr (by decide)
theorem hun_b {La : mLaw} {n d one : Nat} {f : Nat → Int32} (h8 : n ≤ 8) (hf : PB f) (ho : one < 8) : 0 ≤ (dyN La n f d one).toInt ∧ (dyN La n f d one).toInt ≤ 99 := (okv_hu ho).mp ((dyN_PB h8 hf d).ok (by omega))
theorem wrt_ok {La : mLaw} {n d one : Nat} {f : Nat → Int32} (h8 : n ≤ 8) (hf : PB f) (ho : one < n) : ∀ i, i ≤ n → ((wrt La n f d one i).1 = 8 ∧ (wrt La n f d one i).2 = nI 100) ∨ ((wrt La n f d one i).1 < i ∧ 0 ≤ (wrt La n f d one i).2.toInt ∧ (wrt La n f d one i).2.toInt ≤ 99)
  | 0, _ => Or.inl ⟨rfl, rfl⟩
  | i + 1, hi => by
    have ih := wrt_ok (d := d) (La := La) h8 hf ho i (by omega)
    have ih2 : ((wrt La n f d one i).1 = 8 ∧ (wrt La n f d one i).2 = nI 100) ∨ ((wrt La n f d one i).1 < i + 1 ∧ 0 ≤ (wrt La n f d one i).2.toInt ∧ (wrt La n f d one i).2.toInt ≤ 99) := by
      rcases ih with q | q
      · exact Or.inl q
      · exact Or.inr ⟨by omega, q.2⟩
    unfold wrt
    by_cases h1 : i = one
    · rw [if_pos h1]; exact ih2
    · rw [if_neg h1]
      split
      · exact ih2
      · exact Or.inr ⟨Nat.lt_succ_self _, hun_b h8 (hf.put (by omega) (ok_m9 (by omega) (by omega) h1)) (by omega)⟩
theorem p_worth (x y z : Int32) : Sim 151 230 [.int x, .int y, .int z] := by
  intro MI ML hI
  obtain ⟨n, hIn⟩ := hI.1
  obtain ⟨La, hw, hC, hL⟩ := hI.2.2.2.1
  have h8 := hIn.1
  have hn := hIn.2.1
  have hm := hIn.2.2.1
  have hz := hIn.2.2.2.2.2.1
  have hf := hIn.2.2.2.2.1
  by_cases h1 : hasB n x = true
  · obtain ⟨one, ho, rfl⟩ := hasB_ix h8 h1
    by_cases h : wiB (nI 0) (nI 40) y = true
    · obtain ⟨d, hd, rfl⟩ := wi_ix (by omega) h
      by_cases h2 : wiB (nI 0) (nI 1) z = true
      · have hwo := wrt_ok (d := d) (La := La) h8 hf ho n (Nat.le_refl _)
        have hz01 := wi01 h2
        refine pair_T (v := (if (wrt La n (MI 2) d one n).1 = 8 then -2 else if z = nI 0 then nI (wrt La n (MI 2) d one n).1 else (wrt La n (MI 2) d one n).2)) hI hIn hw hC hL (fun ht => ?_) (fun N n1 n2 n3 ht hz2 => ?_)
        · have hs : ∃ M, mrc 299 125 [.ref 15, .int (nI one), .int (nI d)] MI ML none M ML ∧ FA M MI ∧ Z84 (M 17) ∧ M 15 1 = nI (wrt La n (MI 2) d one n).1 ∧ M 15 2 = (wrt La n (MI 2) d one n).2 := by
            suffices h : VX9_seekWorth_0 298 (fun v M L' => v = none ∧ L' = ML ∧ FA M MI ∧ Z84 (M 17) ∧ M 15 1 = nI (wrt La n (MI 2) d one n).1 ∧ M 15 2 = (wrt La n (MI 2) d one n).2) (nI one) (nI d) MI ML by
              obtain ⟨v, M, L', ⟨rfl, rfl, hr⟩, h⟩ := EX9_seekWorth h
              exact ⟨M, h, hr⟩
            refine BX9_seekWorth_0 ?_
            simp (disch := omega) only [mup_n, mup_s, mput_n, mput_s, mup_mup]
            refine up (P := fun i => ∀ M : mI, FA M MI → Z84 (M 17) → M 15 1 = nI (wrt La n (MI 2) d one i).1 → M 15 2 = (wrt La n (MI 2) d one i).2 → VX9_seekWorth_14 298 _ (nI one) (nI d) (nI i) M ML) n (Nat.zero_le _) ?_ ?_ _ (fun q _ _ c => mup_n (by omega)) (by rw [mup_n (by decide)]; exact hz) (by simp (disch := omega) only [mup_n, mup_s, mput_n, mput_s, mup_mup]; rfl) (by simp (disch := omega) only [mup_n, mup_s, mput_n, mput_s, mup_mup]; rfl)
            · intro M hF hz' e1 e2
              exact BX9_seekWorth_14 (cT (by rw [hF 1 (by decide) (by decide) (by decide), hn]; exact nI_le (Nat.le_refl _) (by omega)) ⟨rfl, rfl, hF, hz', e1, e2⟩)
            · intro i _ hi ih M hF hz' e1 e2
              have e : wrt La n (MI 2) d one (i + 1) = if i = one then wrt La n (MI 2) d one i else if (wrt La n (MI 2) d one i).2 ≤ dyN La n (mput (MI 2) (20 + i * 8 + one) (-9)) d one then wrt La n (MI 2) d one i else (i, dyN La n (mput (MI 2) (20 + i * 8 + one) (-9)) d one) := rfl
              rw [e] at ih
              refine BX9_seekWorth_14 (cF (by rw [hF 1 (by decide) (by decide) (by decide), hn]; exact nI_ge hi (by omega)) ?_)
              rw [nI_eq (by omega) (by omega), nI_add]
              refine br (fun q => ?_) (fun q => ?_)
              · rw [if_pos q] at ih
                exact ih M hF hz' e1 e2
              · rw [if_neg q] at ih
                obtain ⟨M1, b1, b2, b3, b4⟩ := ht 295 M hF hz'
                obtain ⟨M2, g1, g2, g3⟩ := c_goOn (D := 290) (ML := ML) (b2.put (p := 20 + i * 8 + one) (by omega) (ok_m9 (by omega) (by omega) q)) (d := d) (by omega)
                have hF2 : FA M2 MI := g3.a.tr (FA.u.tr (b3.tr hF))
                have e15 : M2 15 = M 15 := by rw [g3.at (by decide) (by decide) (by decide), mup_n (by decide), b4 15 (by decide) (by decide)]
                refine usev b1 (usev (s_setFelt bz16 (by omega) (by omega)) (usei g1 (usei (s_hungerOf bz16 (by omega)) ?_)))
                rw [e15, e2, g2.2.2.1]
                refine br (fun q2 => ?_) (fun q2 => usei (s_hungerOf bz16 (by omega)) ?_)
                · rw [if_pos q2] at ih
                  exact ih M2 hF2 g2.z (by rw [e15]; exact e1) (by rw [e15]; exact e2)
                · rw [if_neg q2] at ih
                  refine ih _ (fun q' a b c => ?_) (by simp (disch := omega) only [mup_n, mup_s, mput_n, mput_s, mup_mup]; exact g2.z) (by simp (disch := omega) only [mup_n, mup_s, mput_n, mput_s, mup_mup]) (by simp (disch := omega) only [mup_n, mup_s, mput_n, mput_s, mup_mup]; rw [g2.2.2.1])
                  rw [mup_n (by omega), mup_n (by omega)]
                  exact hF2 q' a b c
          obtain ⟨M, s1, s2, s3, s4, s5⟩ := hs
          refine ⟨M, mrc_of (EX10_worth (BX10_worth_0 (usei (s_has bz1 hn) (bT h1 (rngT h ?_))))), s2, s3⟩
          refine cF ?_ (cT ?_ (usev s1 ?_))
          · rcases hz01 with rfl | rfl <;> decide
          · rcases hz01 with rfl | rfl <;> decide
          · rw [s4, nI_eq (by rcases hwo with q | q <;> omega) (by omega)]
            refine br (fun q => iR ?_ rfl) (fun q => br (fun q2 => iR ?_ rfl) (fun q2 => iR ?_ rfl))
            · rw [if_pos q]
            · rw [if_neg q, if_pos q2]
            · rw [if_neg q, if_neg q2, s5]
        · suffices hs : VX11_worth_44 299 (fun v M L' => v = some (.int (if (wrt La n (MI 2) d one n).1 = 8 then -2 else if z = nI 0 then nI (wrt La n (MI 2) d one n).1 else (wrt La n (MI 2) d one n).2)) ∧ L' = ML ∧ FB M N ∧ Z84 (M 61)) (nI one) (nI d) z (-2) (-2) (nI 0) N ML by
            obtain ⟨v, M, L', ⟨rfl, rfl, hr⟩, hh⟩ := EX11_worth (BX11_worth_0 (usei (t_isOne n1 h8) (bT h1 (usei (t_within (lo := nI 0) (hi := nI 40) rfl rfl) (bT h (usei (t_within (lo := nI 0) (hi := nI 1) rfl rfl) (bT h2 hs)))))))
            exact ⟨M, hh, hr⟩
          refine up (P := fun i => ∀ M : mI, FB M N → Z84 (M 61) → VX11_worth_44 299 _ (nI one) (nI d) z (if (wrt La n (MI 2) d one i).1 = 8 then -2 else nI (wrt La n (MI 2) d one i).1) (if (wrt La n (MI 2) d one i).1 = 8 then -2 else (wrt La n (MI 2) d one i).2) (nI i) M ML) n (Nat.zero_le _) ?_ ?_ N FB.rf hz2
          · intro M hF hz'
            refine BX11_worth_44 (cT (by rw [hF.2 6 (by decide), n1]; exact nI_le (Nat.le_refl _) (by omega)) (br (fun q2 => ⟨?_, rfl, hF, hz'⟩) (fun q2 => ⟨?_, rfl, hF, hz'⟩)))
            · rw [if_pos q2]
            · rw [if_neg q2]
          · intro i _ hi ih M hF hz'
            have hwi := wrt_ok (d := d) (La := La) h8 hf ho i (by omega)
            have e : wrt La n (MI 2) d one (i + 1) = if i = one then wrt La n (MI 2) d one i else if (wrt La n (MI 2) d one i).2 ≤ dyN La n (mput (MI 2) (20 + i * 8 + one) (-9)) d one then wrt La n (MI 2) d one i else (i, dyN La n (mput (MI 2) (20 + i * 8 + one) (-9)) d one) := rfl
            rw [e] at ih
            refine BX11_worth_44 (cF (by rw [hF.2 6 (by decide), n1]; exact nI_ge hi (by omega)) ?_)
            rw [nI_eq (by omega) (by omega), nI_add]
            refine br (fun q => ?_) (fun q => ?_)
            · rw [if_pos q] at ih
              exact ih M hF hz'
            · rw [if_neg q] at ih
              obtain ⟨M1, b1, b2, b3⟩ := ht 298 M hF hz'
              obtain ⟨M2, g1, g2, g3⟩ := m_fedBehind (D := 291) (ML := ML) (b2.put (p := 20 + i * 8 + one) (by omega) (ok_m9 (by omega) (by omega) q)) (d := d) (by omega)
              have hF2 : FB M2 N := g3.tr (FB.u.tr (b3.tr hF))
              have hi8 : ¬ (i, dyN La n (mput (MI 2) (20 + i * 8 + one) (-9)) d one).1 = 8 := by
                show ¬ i = 8
                omega
              have hb := hun_b (La := La) (d := d) h8 (hf.put (p := 20 + i * 8 + one) (by omega) (ok_m9 (by omega) (by omega) q)) (show one < 8 by omega)
              refine usev b1 (usei t_felt ⟨_, rfl, by omega, usei g1 ?_⟩)
              by_cases q8 : (wrt La n (MI 2) d one i).1 = 8
              · rw [if_pos q8, if_pos q8]
                refine cT rfl (BX11_worth_103 ⟨one, rfl, by omega, ?_⟩)
                have hq := (hwi.resolve_right (fun w => by omega)).2
                have hx : ¬ (wrt La n (MI 2) d one i).2 ≤ dyN La n (mput (MI 2) (20 + i * 8 + one) (-9)) d one := by
                  rw [hq, fa_le, nI_toInt (by omega)]
                  omega
                rw [if_neg hx] at ih
                have := ih M2 hF2 g2.z
                rw [if_neg hi8, if_neg hi8] at this
                rw [nI_add, g2.2.2.1]
                exact this
              · have hq := hwi.resolve_left (fun w => q8 w.1)
                rw [if_neg q8, if_neg q8, g2.2.2.1]
                refine cF (by
                  have : ∀ x : Fin 8, ¬ nI x.val = -2 := by decide
                  exact this ⟨(wrt La n (MI 2) d one i).1, by omega⟩) ⟨one, rfl, by omega, br (fun q2 => ?_) (fun q2 => BX11_worth_103 ⟨one, rfl, by omega, ?_⟩)⟩
                · rw [if_pos q2] at ih
                  have := ih M2 hF2 g2.z
                  rwa [if_neg q8, if_neg q8] at this
                · rw [if_neg q2] at ih
                  have := ih M2 hF2 g2.z
                  rw [if_neg hi8, if_neg hi8] at this
                  rw [nI_add, g2.2.2.1]
                  exact this
      · refine ⟨_, _, _, _, _, mrc_of (EX10_worth (BX10_worth_0 (usei (s_has bz1 hn) (bT h1 (rngT h (br (fun q => eRr) (fun q => br (fun q2 => ?_) (fun q2 => eRr)))))))), mrc_of (EX11_worth (BX11_worth_0 (usei (t_isOne hm h8) (bT h1 (usei (t_within (lo := nI 0) (hi := nI 40) rfl rfl) (bT h (usei (t_within (lo := nI 0) (hi := nI 1) rfl rfl) (bF (bnf h2) eRr)))))))), hI⟩
        exact absurd (by
          simp only [wiB, Bool.and_eq_true, Bool.not_eq_true', decide_eq_false_iff_not]
          exact ⟨q, fun w => (fa_of_lt w).2.1 q2⟩) h2
    · exact ⟨_, _, _, _, _, mrc_of (EX10_worth (BX10_worth_0 (usei (s_has bz1 hn) (bT h1 (rngF h eRr))))), mrc_of (EX11_worth (BX11_worth_0 (usei (t_isOne hm h8) (bT h1 (usei (t_within (lo := nI 0) (hi := nI 40) rfl rfl) (bF (bnf h) eRr)))))), hI⟩
  · exact ⟨_, _, _, _, _, mrc_of (EX10_worth (BX10_worth_0 (usei (s_has bz1 hn) (bF (bnf h1) eRr)))), mrc_of (EX11_worth (BX11_worth_0 (usei (t_isOne hm h8) (bF (bnf h1) eRr)))), hI⟩
theorem t_lookAt {D nb d : Nat} (hd : d < 6) (hs : Isd nb d MI ML) (hnb : nb ≤ 50) : mrc (D + 3) 232 [.ref 46, .int (nI d)] MI ML (some (.int (refBy (MI 11 d)))) MI ML := by
  refine mrc_of (EX11_lookAt (BX11_lookAt_0 (usei t_isShelf (bT (by rw [hasB_nI (by omega) (by omega), decide_eq_true hd]) ⟨d, rfl, hd, ?_⟩))))
  rcases hs with ⟨h1, h2, h3, h4⟩ | ⟨b, hb, h1, h2, h3, h4, h5⟩ | ⟨s, z, hs, hz, h1, h2, h3, h4, h5⟩
  · rw [h1, h2]
    exact cF (by decide) (iR (by decide) rfl)
  · rw [h1, h3]
    exact cT (nI_le (Nat.zero_le _) (by omega)) ⟨d, rfl, hd, cF (by rw [h3, nI_eq (by omega) (by omega)]; omega) (iR (by decide) rfl)⟩
  · rw [h1, h2]
    refine cT (nI_le (Nat.zero_le _) (by omega)) ⟨d, rfl, hd, ?_⟩
    rw [h2, nI_eq (by omega) (by omega)]
    rcases (show s = 0 ∨ s = 1 ∨ s = 2 ∨ s = 3 ∨ s = 4 by omega) with rfl | rfl | rfl | rfl | rfl
    · exact cT rfl (iR (by decide) rfl)
    all_goals exact cF (by decide) (iR (by decide) rfl)
theorem by_row {nb d : Nat} (hs : Isd nb d MI ML) (h : refBy (MI 11 d) = nI 0) : ∃ z, z ≤ 60 ∧ MI 12 d = nI z ∧ MI 77 d = nI z ∧ ∀ i, i < z → ML 78 (d * 60 + i) = ML 14 (d * 60 + i) := by
  rcases hs with ⟨h1, h2, h3, h4⟩ | ⟨b, hb, h1, h2, h3, h4, h5⟩ | ⟨s, z, hs, hz, h1, h2, h3, h4, h5⟩
  · rw [h1] at h
    exact absurd h (by decide)
  · rw [h1] at h
    exact absurd h (by decide)
  · exact ⟨z, hz, h3, h4, fun i hi => (h5 i hi).1⟩
theorem refBy_c (h : Int32) : refBy h = nI 0 ∨ (¬ refBy h = nI 0 ∧ ¬ nI 0 ≤ refBy h) := by
  unfold refBy
  split
  · exact Or.inr (by decide)
  · split
    · exact Or.inl rfl
    · exact Or.inr (by decide)
theorem p_judge (x y : Int32) : Sim 154 234 [.int x, .int y] := by
  intro MI ML hI
  obtain ⟨n, hIn⟩ := hI.1
  obtain ⟨La, hw, hC, hL⟩ := hI.2.2.2.1
  obtain ⟨nb, hnb, hsd⟩ := hI.2.2.2.2.1
  have h8 := hIn.1
  have hn := hIn.2.1
  have hm := hIn.2.2.1
  have hz := hIn.2.2.2.2.2.1
  by_cases h0 : hasB 6 x = true
  · obtain ⟨d, hd, rfl⟩ := hasB_ix (n := 6) (by omega) h0
    by_cases h1 : hasB n y = true
    · obtain ⟨one, ho, rfl⟩ := hasB_ix h8 h1
      rcases refBy_c (MI 11 d) with hr | hr
      · obtain ⟨z, hz60, k12, k77, kel⟩ := by_row (hsd d hd) hr
        refine pair_T (v := (unl La n (MI 2) (fun p => ML 14 (d * 60 + p)) z one)) hI hIn hw hC hL (fun ht => ?_) (fun N n1 n2 n3 ht hz2 => ?_)
        · obtain ⟨M, b1, b2, b3, _⟩ := ht 296 MI FA.rf hz
          obtain ⟨M2, f', g1, g2, g3⟩ := c_unlike (D := 291) (ML := ML) b2 ho hd hz60 (by rw [b3 12 (by decide) (by decide) (by decide)]; exact k12)
          exact ⟨M2, mrc_of (EX10_judge (BX10_judge_0 (usei s_shas (bT h0 (usei (s_has bz1 hn) (bT h1 (usei (s_refusalOfBytes hd) (cT hr (usev b1 (usei g1 eRr)))))))))), g3.a.tr b3, g2.z⟩
        · obtain ⟨M, b1, b2, b3⟩ := ht 298 N FB.rf hz2
          obtain ⟨M2, f', g1, g2, g3⟩ := m_wrongDay (D := 291) (ML := ML) b2 ho hd hz60 (by rw [b3.1 77 (by decide) (by decide), n3 77 (by decide) (by decide) (by decide)]; exact k77)
          rw [unl_cong kel] at g1
          have hsN : Isd nb d N ML := Isd_o (e := 0) (hsd d hd) (by rw [n3 11 (by decide) (by decide) (by decide)]) (by rw [n3 12 (by decide) (by decide) (by decide)]) (by rw [n3 13 (by decide) (by decide) (by decide)]) (by rw [n3 76 (by decide) (by decide) (by decide)]) (by rw [n3 77 (by decide) (by decide) (by decide)]) (fun i _ => ⟨rfl, rfl⟩)
          have hl := t_lookAt (D := 296) (nb := nb) (MI := N) (ML := ML) hd hsN hnb.1
          rw [n3 11 (by decide) (by decide) (by decide)] at hl
          exact ⟨M2, mrc_of (EX11_judge (BX11_judge_0 (usei t_isShelf (bT h0 (usei (t_isOne n1 h8) (bT h1 (usei hl (cT (by rw [hr]; decide) (usev b1 (usei g1 eRr)))))))))), g3.tr b3, g2.z⟩
      · exact ⟨_, _, _, _, _, mrc_of (EX10_judge (BX10_judge_0 (usei s_shas (bT h0 (usei (s_has bz1 hn) (bT h1 (usei (s_refusalOfBytes hd) (cF hr.1 eRr)))))))), mrc_of (EX11_judge (BX11_judge_0 (usei t_isShelf (bT h0 (usei (t_isOne hm h8) (bT h1 (usei (t_lookAt hd (hsd d hd) hnb.1) (cF hr.2 (usei (t_lookAt hd (hsd d hd) hnb.1) eRr))))))))), hI⟩
    · exact ⟨_, _, _, _, _, mrc_of (EX10_judge (BX10_judge_0 (usei s_shas (bT h0 (usei (s_has bz1 hn) (bF (bnf h1) eRr)))))), mrc_of (EX11_judge (BX11_judge_0 (usei t_isShelf (bT h0 (usei (t_isOne hm h8) (bF (bnf h1) eRr)))))), hI⟩
  · exact ⟨_, _, _, _, _, mrc_of (EX10_judge (BX10_judge_0 (usei s_shas (bF (bnf h0) eRr)))), mrc_of (EX11_judge (BX11_judge_0 (usei t_isShelf (bF (bnf h0) eRr)))), hI⟩
end T59
