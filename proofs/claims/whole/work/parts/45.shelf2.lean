/-! tape, book, shelves: pairs -/
theorem wiB_has {n : Nat} {x : Int32} (hn : n < 1000) : wiB (nI 0) (nI n) x = hasB (n + 1) x := by
  unfold wiB hasB
  have e1 : (nI n).toInt = (n : Int) := nI_toInt (by omega)
  have e2 : (nI (n + 1)).toInt = ((n + 1 : Nat) : Int) := nI_toInt (by omega)
  congr 2
  rw [decide_eq_decide, fa_lt, fa_le, e1, e2]
  omega
section P5
variable {D d n : Nat} {MI : mI} {ML : mJ} {x y z : Int32}
theorem t_isShelf : mrc (D + 2) 260 [.int x] MI ML (some (.int (bI (hasB 6 x)))) MI ML :=
  mrc_of (EX11_isShelf (BX11_isShelf_0 (usei (t_within (lo := nI 0) (hi := nI 5) rfl rfl) ⟨bI_01 _, iR (by rw [wiB_has (by decide)]) rfl⟩)))
theorem t_isBody (hn : MI 46 41 = nI n) (h : n ≤ 50) : mrc (D + 2) 249 [.ref 46, .int x] MI ML (some (.int (bI (hasB n x)))) MI ML :=
  mrc_of (EX11_isBody (BX11_isBody_0 (usei (t_within (lo := nI 0) rfl rfl) ⟨bI_01 _, iR (by rw [hn, wiB_0 (by omega)]) rfl⟩)))
theorem t_kindOf (hd : d < 50) : mrc (D + 1) 250 [.ref 46, .int (nI d)] MI ML (some (.int (MI 74 d))) MI ML :=
  mrc_of (EX11_kindOf (BX11_kindOf_0 ⟨d, rfl, hd, eRr⟩))
theorem p_feed (x : Int32) : Sim 141 195 [.int x] := by
  intro MI ML hI
  obtain ⟨t, t1, t2, t3, t4⟩ := hI.2.2.1
  by_cases hw : wiB (nI 0) (nI 255) x = true
  · have hw2 := hw
    simp only [wiB, Bool.and_eq_true, Bool.not_eq_true', decide_eq_false_iff_not] at hw2
    by_cases ht : t = 160
    · subst ht
      exact ⟨_, _, _, _, _, mrc_of (EX10_feed (BX10_feed_0 (cF hw2.1 (cT (fa_of_nlt hw2.2) (usei (s_takeFull t2) eRr))))), mrc_of (EX11_feed (BX11_feed_0 (usei (t_within (lo := nI 0) (hi := nI 255) rfl rfl) (bT hw (cT t3 eRr))))), hI⟩
    · have h160 : t < 160 := by omega
      refine ⟨_, mup (mup MI 5 (mput (MI 5) t x)) 3 (mput (MI 3) 3 (nI (t + 1))), ML, mup (mup (mup (mup MI 5 (mput (MI 5) t x)) 3 (mput (MI 3) 3 (nI (t + 1)))) 51 (mput (MI 51) t x)) 46 (mput (MI 46) 8 (nI (t + 1))), ML, mrc_of (EX10_feed (BX10_feed_0 (cF hw2.1 (cT (fa_of_nlt hw2.2) (usei (s_take t2 h160) eRr))))), mrc_of (EX11_feed (BX11_feed_0 (usei (t_within (lo := nI 0) (hi := nI 255) rfl rfl) (bT hw (cF ?_ ⟨t, ?_, h160, iR ?_ ?_⟩))))), ?_⟩
      · simp (disch := omega) only [mup_n, mup_s, mput_n, mput_s, mup_mup]
        rw [t3, nI_eq (by omega) (by omega)]
        exact ht
      · simp (disch := omega) only [mup_n, mup_s, mput_n, mput_s, mup_mup]
        exact t3
      · simp (disch := omega) only [nI_add, pk_mul, nI_leI, nI_ltI, nI_eq, ex_ix, nI_0lt, nI_0le, nat_rem, pk_div, pk_sub, bI_0, bI_1, mup_mup, mup_s, mup_n, mput_s, mput_n, and_true, true_and, not_true_eq_false, not_false_eq_true, ne_eq, Nat.zero_add, t3]
      · simp (disch := omega) only [nI_add, pk_mul, nI_leI, nI_ltI, nI_eq, ex_ix, nI_0lt, nI_0le, nat_rem, pk_div, pk_sub, bI_0, bI_1, mup_mup, mup_s, mup_n, mput_s, mput_n, and_true, true_and, not_true_eq_false, not_false_eq_true, ne_eq, Nat.zero_add, t3]
      · refine ⟨(Ip_c (by first | rfl | simp (disch := omega) only [mup_n, mup_s, mput_n]) (by first | rfl | simp (disch := omega) only [mup_n, mup_s, mput_n]) (by first | rfl | simp (disch := omega) only [mup_n, mup_s, mput_n]) (by first | rfl | simp (disch := omega) only [mup_n, mup_s, mput_n]) (by first | rfl | simp (disch := omega) only [mup_n, mup_s, mput_n]) (by first | rfl | simp (disch := omega) only [mup_n, mup_s, mput_n]) (by first | rfl | simp (disch := omega) only [mup_n, mup_s, mput_n]) (by first | rfl | simp (disch := omega) only [mup_n, mup_s, mput_n]) hI.1), (Ic_c (by first | rfl | simp (disch := omega) only [mup_n, mup_s, mput_n]) (by first | rfl | simp (disch := omega) only [mup_n, mup_s, mput_n]) (by first | rfl | simp (disch := omega) only [mup_n, mup_s, mput_n]) (by first | rfl | simp (disch := omega) only [mup_n, mup_s, mput_n]) (by first | rfl | simp (disch := omega) only [mup_n, mup_s, mput_n]) (by first | rfl | simp (disch := omega) only [mup_n, mup_s, mput_n]) (by first | rfl | simp (disch := omega) only [mup_n, mup_s, mput_n]) (by first | rfl | simp (disch := omega) only [mup_n, mup_s, mput_n]) (by first | rfl | simp (disch := omega) only [mup_n, mup_s, mput_n]) (by first | rfl | simp (disch := omega) only [mup_n, mup_s, mput_n]) hI.2.1), ⟨t + 1, by omega, by simp (disch := omega) only [mup_n, mup_s, mput_n, mput_s, mup_mup], by simp (disch := omega) only [mup_n, mup_s, mput_n, mput_s, mup_mup], ?_⟩, (Il_c (by first | rfl | simp (disch := omega) only [mup_n, mup_s, mput_n]) (by first | rfl | simp (disch := omega) only [mup_n, mup_s, mput_n]) (by first | rfl | simp (disch := omega) only [mup_n, mup_s, mput_n]) (by first | rfl | simp (disch := omega) only [mup_n, mup_s, mput_n]) (by first | rfl | simp (disch := omega) only [mup_n, mup_s, mput_n]) (by first | rfl | simp (disch := omega) only [mup_n, mup_s, mput_n]) hI.2.2.2.1), (Is_c (by first | rfl | simp (disch := omega) only [mup_n, mup_s, mput_n]) (by first | rfl | simp (disch := omega) only [mup_n, mup_s, mput_n]) (by first | rfl | simp (disch := omega) only [mup_n, mup_s, mput_n]) (by first | rfl | simp (disch := omega) only [mup_n, mup_s, mput_n]) (by first | rfl | simp (disch := omega) only [mup_n, mup_s, mput_n]) (by first | rfl | simp (disch := omega) only [mup_n, mup_s, mput_n]) (by first | rfl | simp (disch := omega) only [mup_n, mup_s, mput_n]) (by first | rfl | simp (disch := omega) only [mup_n, mup_s, mput_n]) (by first | rfl | simp (disch := omega) only [mup_n, mup_s, mput_n]) (by first | rfl | simp (disch := omega) only [mup_n, mup_s, mput_n]) (by first | rfl | simp (disch := omega) only [mup_n, mup_s, mput_n]) hI.2.2.2.2.1), (Ir_c (by first | rfl | simp (disch := omega) only [mup_n, mup_s, mput_n]) (by first | rfl | simp (disch := omega) only [mup_n, mup_s, mput_n]) (by first | rfl | simp (disch := omega) only [mup_n, mup_s, mput_n]) (by first | rfl | simp (disch := omega) only [mup_n, mup_s, mput_n]) (by first | rfl | simp (disch := omega) only [mup_n, mup_s, mput_n]) hI.2.2.2.2.2.1), (Ib_c (by first | rfl | simp (disch := omega) only [mup_n, mup_s, mput_n]) (by first | rfl | simp (disch := omega) only [mup_n, mup_s, mput_n]) (by first | rfl | simp (disch := omega) only [mup_n, mup_s, mput_n]) (by first | rfl | simp (disch := omega) only [mup_n, mup_s, mput_n]) (by first | rfl | simp (disch := omega) only [mup_n, mup_s, mput_n]) (by first | rfl | simp (disch := omega) only [mup_n, mup_s, mput_n]) hI.2.2.2.2.2.2.1), (Ii_c (by first | rfl | simp (disch := omega) only [mup_n, mup_s, mput_n]) (by first | rfl | simp (disch := omega) only [mup_n, mup_s, mput_n]) (by first | rfl | simp (disch := omega) only [mup_n, mup_s, mput_n]) (by first | rfl | simp (disch := omega) only [mup_n, mup_s, mput_n]) (by first | rfl | simp (disch := omega) only [mup_n, mup_s, mput_n]) (by first | rfl | simp (disch := omega) only [mup_n, mup_s, mput_n]) (by first | rfl | simp (disch := omega) only [mup_n, mup_s, mput_n]) hI.2.2.2.2.2.2.2.1), (Iw_c (by first | rfl | simp (disch := omega) only [mup_n, mup_s, mput_n]) hI.2.2.2.2.2.2.2.2)⟩
        intro j hj
        simp (disch := omega) only [mup_n, mup_s, mput_n, mput_s, mup_mup]
        by_cases e : j = t
        · subst e
          simp (disch := omega) only [mup_n, mup_s, mput_n, mput_s, mup_mup]
          rw [wiB_has (by decide)] at hw
          rcases nIx x (n := 256) (by omega) with q | q | ⟨c, hc, rfl⟩
          · exact absurd q hw2.1
          · rw [hasB, decide_eq_true q] at hw; simp at hw
          · exact ⟨trivial, c, hc, rfl⟩
        · simp (disch := omega) only [mup_n, mup_s, mput_n, mput_s, mup_mup]
          exact t4 j (by omega)
  · refine ⟨(-1), MI, ML, MI, ML, mrc_of (EX10_feed (BX10_feed_0 (br (fun _ => eRr) (fun h1 => br (fun h2 => absurd ?_ hw) (fun _ => eRr))))), mrc_of (EX11_feed (BX11_feed_0 (usei (t_within (lo := nI 0) (hi := nI 255) rfl rfl) (bF (bnf hw) eRr)))), hI⟩
    simp only [wiB, Bool.and_eq_true, Bool.not_eq_true', decide_eq_false_iff_not]
    refine ⟨h1, ?_⟩
    rw [fa_le] at h2
    rw [fa_lt]
    omega
theorem p_tale (x : Int32) : Sim 162 245 [.int x] := by
  intro MI ML hI
  obtain ⟨b1, tl, b2, b3, b4, b5⟩ := hI.2.2.2.2.2.2.1
  by_cases h : (-1 : Int32) ≤ x
  · by_cases h1 : x = -1
    · exact ⟨_, _, _, _, _, mrc_of (EX10_tale (BX10_tale_0 (cT h (cT h1 (usei s_taleLength eRr))))), mrc_of (EX11_tale (BX11_tale_0 (cT h (cT h1 (iR (by rw [b3, b4]) rfl))))), hI⟩
    · refine ⟨_, _, _, _, _, mrc_of (EX10_tale (BX10_tale_0 (cT h (cF h1 (usei (s_taleByte b3 b2) eRr))))), mrc_of (EX11_tale (BX11_tale_0 (cT h (cF h1 ?_)))), hI⟩
      rw [b4]
      have hx : ¬ x < nI 0 := by
        have e1 : (-1 : Int32).toInt = -1 := by decide
        rw [fa_le, e1] at h
        rw [fa_eq, e1] at h1
        rw [fa_lt, nI0_ti]
        omega
      rcases nIx x (n := tl) (by omega) with q | q | ⟨j, hj, rfl⟩
      · exact absurd q hx
      · exact cT q (iR (by rw [if_neg]; grind [hasB]) rfl)
      · refine cF (nI_ge hj (by omega)) ⟨j, rfl, by omega, iR ?_ rfl⟩
        rw [hasB_nI' (by omega) (by omega), decide_eq_true hj, if_pos rfl, nI_clamp (by omega), b5 j hj]
  · exact ⟨_, _, _, _, _, mrc_of (EX10_tale (BX10_tale_0 (cF h eRr))), mrc_of (EX11_tale (BX11_tale_0 (cF h eRr))), hI⟩
theorem p_led (x : Int32) : Sim 163 246 [.int x] := by
  intro MI ML hI
  obtain ⟨b1, _⟩ := hI.2.2.2.2.2.2.1
  rcases nIx x (n := 6) (by omega) with q | q | ⟨j, hj, rfl⟩
  · have hw : wiB (nI 0) (nI 5) x = false := by rw [wiB_has (by decide)]; grind [hasB]
    exact ⟨_, _, _, _, _, mrc_of (EX10_led (BX10_led_0 (cT q eRr))), mrc_of (EX11_led (BX11_led_0 (usei (t_within (lo := nI 0) (hi := nI 5) rfl rfl) (bF hw eRr)))), hI⟩
  · have hw : wiB (nI 0) (nI 5) x = false := by rw [wiB_has (by decide)]; grind [hasB]
    refine ⟨(-1), _, _, _, _, mrc_of (EX10_led (BX10_led_0 (br (fun _ => eRr) (fun _ => cF (fun q2 => ?_) eRr)))), mrc_of (EX11_led (BX11_led_0 (usei (t_within (lo := nI 0) (hi := nI 5) rfl rfl) (bF hw eRr)))), hI⟩
    rw [fa_lt] at q2
    rw [fa_le] at q
    omega
  · have hw : wiB (nI 0) (nI 5) (nI j) = true := by rw [wiB_has (by decide), hasB_nI' (by omega) (by omega), decide_eq_true hj]
    exact ⟨_, _, _, _, _, mrc_of (EX10_led (BX10_led_0 (cF (nI_nlt (Nat.zero_le _) (by omega)) (cT (nI_lt hj (by omega)) (usei (s_told hj) eRr))))), mrc_of (EX11_led (BX11_led_0 (usei (t_within (lo := nI 0) (hi := nI 5) rfl rfl) (bT hw ⟨j, rfl, hj, iR (by rw [b1 j hj]) rfl⟩)))), hI⟩
theorem p_body (x : Int32) : Sim 168 251 [.int x] := by
  intro MI ML hI
  obtain ⟨nb, ⟨s1, s2, s3, s4⟩, s5⟩ := hI.2.2.2.2.1
  have hw : wiB (nI 0) (nI 7) x = hasB 8 x := wiB_has (by decide)
  by_cases h : hasB 8 x = true
  · by_cases hb : nb = 50
    · subst hb
      exact ⟨_, _, _, _, _, mrc_of (EX10_body (BX10_body_0 (usei s_isKind (bT h (usei (s_ndAddFull s2) eRr))))), mrc_of (EX11_body (BX11_body_0 (usei (t_within (lo := nI 0) (hi := nI 7) rfl rfl) (bT (hw.trans h) (cT s3 eRr))))), hI⟩
    · have hb2 : nb < 50 := by omega
      refine ⟨_, mup (mup MI 44 (mput (MI 44) nb x)) 43 (mput (MI 43) 1 (nI (nb + 1))), ML, mup (mup (mup (mup MI 44 (mput (MI 44) nb x)) 43 (mput (MI 43) 1 (nI (nb + 1)))) 74 (mput (MI 74) nb x)) 46 (mput (MI 46) 41 (nI (nb + 1))), ML, mrc_of (EX10_body (BX10_body_0 (usei s_isKind (bT h (usei (s_ndAdd s2 hb2) eRr))))), mrc_of (EX11_body (BX11_body_0 (usei (t_within (lo := nI 0) (hi := nI 7) rfl rfl) (bT (hw.trans h) (cF ?_ ⟨nb, ?_, hb2, iR ?_ ?_⟩))))), ?_⟩
      · simp (disch := omega) only [mup_n, mup_s, mput_n, mput_s, mup_mup]
        rw [s3, nI_eq (by omega) (by omega)]
        exact hb
      · simp (disch := omega) only [mup_n, mup_s, mput_n, mput_s, mup_mup]
        exact s3
      · simp (disch := omega) only [nI_add, pk_mul, nI_leI, nI_ltI, nI_eq, ex_ix, nI_0lt, nI_0le, nat_rem, pk_div, pk_sub, bI_0, bI_1, mup_mup, mup_s, mup_n, mput_s, mput_n, and_true, true_and, not_true_eq_false, not_false_eq_true, ne_eq, Nat.zero_add, s3]
        rw [show nb + 1 - 1 = nb by omega]
      · simp (disch := omega) only [nI_add, pk_mul, nI_leI, nI_ltI, nI_eq, ex_ix, nI_0lt, nI_0le, nat_rem, pk_div, pk_sub, bI_0, bI_1, mup_mup, mup_s, mup_n, mput_s, mput_n, and_true, true_and, not_true_eq_false, not_false_eq_true, ne_eq, Nat.zero_add, s3]
      · refine ⟨(Ip_c (by first | rfl | simp (disch := omega) only [mup_n, mup_s, mput_n]) (by first | rfl | simp (disch := omega) only [mup_n, mup_s, mput_n]) (by first | rfl | simp (disch := omega) only [mup_n, mup_s, mput_n]) (by first | rfl | simp (disch := omega) only [mup_n, mup_s, mput_n]) (by first | rfl | simp (disch := omega) only [mup_n, mup_s, mput_n]) (by first | rfl | simp (disch := omega) only [mup_n, mup_s, mput_n]) (by first | rfl | simp (disch := omega) only [mup_n, mup_s, mput_n]) (by first | rfl | simp (disch := omega) only [mup_n, mup_s, mput_n]) hI.1), (Ic_c (by first | rfl | simp (disch := omega) only [mup_n, mup_s, mput_n]) (by first | rfl | simp (disch := omega) only [mup_n, mup_s, mput_n]) (by first | rfl | simp (disch := omega) only [mup_n, mup_s, mput_n]) (by first | rfl | simp (disch := omega) only [mup_n, mup_s, mput_n]) (by first | rfl | simp (disch := omega) only [mup_n, mup_s, mput_n]) (by first | rfl | simp (disch := omega) only [mup_n, mup_s, mput_n]) (by first | rfl | simp (disch := omega) only [mup_n, mup_s, mput_n]) (by first | rfl | simp (disch := omega) only [mup_n, mup_s, mput_n]) (by first | rfl | simp (disch := omega) only [mup_n, mup_s, mput_n]) (by first | rfl | simp (disch := omega) only [mup_n, mup_s, mput_n]) hI.2.1), (It_c (by first | rfl | simp (disch := omega) only [mup_n, mup_s, mput_n]) (by first | rfl | simp (disch := omega) only [mup_n, mup_s, mput_n]) (by first | rfl | simp (disch := omega) only [mup_n, mup_s, mput_n]) (by first | rfl | simp (disch := omega) only [mup_n, mup_s, mput_n]) hI.2.2.1), (Il_c (by first | rfl | simp (disch := omega) only [mup_n, mup_s, mput_n]) (by first | rfl | simp (disch := omega) only [mup_n, mup_s, mput_n]) (by first | rfl | simp (disch := omega) only [mup_n, mup_s, mput_n]) (by first | rfl | simp (disch := omega) only [mup_n, mup_s, mput_n]) (by first | rfl | simp (disch := omega) only [mup_n, mup_s, mput_n]) (by first | rfl | simp (disch := omega) only [mup_n, mup_s, mput_n]) hI.2.2.2.1), ⟨nb + 1, ⟨by omega, by simp (disch := omega) only [mup_n, mup_s, mput_n, mput_s, mup_mup], by simp (disch := omega) only [mup_n, mup_s, mput_n, mput_s, mup_mup], ?_⟩, ?_⟩, (Ir_c (by first | rfl | simp (disch := omega) only [mup_n, mup_s, mput_n]) (by first | rfl | simp (disch := omega) only [mup_n, mup_s, mput_n]) (by first | rfl | simp (disch := omega) only [mup_n, mup_s, mput_n]) (by first | rfl | simp (disch := omega) only [mup_n, mup_s, mput_n]) (by first | rfl | simp (disch := omega) only [mup_n, mup_s, mput_n]) hI.2.2.2.2.2.1), (Ib_c (by first | rfl | simp (disch := omega) only [mup_n, mup_s, mput_n]) (by first | rfl | simp (disch := omega) only [mup_n, mup_s, mput_n]) (by first | rfl | simp (disch := omega) only [mup_n, mup_s, mput_n]) (by first | rfl | simp (disch := omega) only [mup_n, mup_s, mput_n]) (by first | rfl | simp (disch := omega) only [mup_n, mup_s, mput_n]) (by first | rfl | simp (disch := omega) only [mup_n, mup_s, mput_n]) hI.2.2.2.2.2.2.1), (Ii_c (by first | rfl | simp (disch := omega) only [mup_n, mup_s, mput_n]) (by first | rfl | simp (disch := omega) only [mup_n, mup_s, mput_n]) (by first | rfl | simp (disch := omega) only [mup_n, mup_s, mput_n]) (by first | rfl | simp (disch := omega) only [mup_n, mup_s, mput_n]) (by first | rfl | simp (disch := omega) only [mup_n, mup_s, mput_n]) (by first | rfl | simp (disch := omega) only [mup_n, mup_s, mput_n]) (by first | rfl | simp (disch := omega) only [mup_n, mup_s, mput_n]) hI.2.2.2.2.2.2.2.1), (Iw_c (by first | rfl | simp (disch := omega) only [mup_n, mup_s, mput_n]) hI.2.2.2.2.2.2.2.2)⟩
        · intro j hj
          simp (disch := omega) only [mup_n, mup_s, mput_n, mput_s, mup_mup]
          by_cases e : j = nb
          · subst e
            simp (disch := omega) only [mup_n, mup_s, mput_n, mput_s, mup_mup]
            obtain ⟨k, hk, rfl⟩ := hasB_ix (n := 8) (by omega) h
            exact ⟨k, hk, rfl, rfl⟩
          · simp (disch := omega) only [mup_n, mup_s, mput_n, mput_s, mup_mup]
            exact s4 j (by omega)
        · intro d hd
          unfold Isd
          simp (disch := omega) only [mup_n, mup_s, mput_n, mput_s, mup_mup]
          rcases s5 d hd with q | ⟨b, q1, q⟩ | q
          · exact Or.inl q
          · exact Or.inr (Or.inl ⟨b, by omega, q⟩)
          · exact Or.inr (Or.inr q)
  · exact ⟨_, _, _, _, _, mrc_of (EX10_body (BX10_body_0 (usei s_isKind (bF (bnf h) eRr)))), mrc_of (EX11_body (BX11_body_0 (usei (t_within (lo := nI 0) (hi := nI 7) rfl rfl) (bF (hw.trans (bnf h)) eRr)))), hI⟩
theorem p_trace (x : Int32) : Sim 170 259 [.int x] := by
  intro MI ML hI
  obtain ⟨_, r, r1, r2, r3, r4⟩ := hI.2.2.2.2.2.1
  refine ⟨_, _, _, _, _, mrc_of (EX10_trace (BX10_trace_0 (usei (s_traced r2 r1) eRr))), mrc_of (EX11_trace (BX11_trace_0 ?_)), hI⟩
  rw [r3]
  refine br (fun q => iR ?_ rfl) (fun q => br (fun q2 => iR ?_ rfl) (fun q2 => br (fun q3 => iR ?_ rfl) (fun q3 => ?_)))
  · rw [if_neg]; grind [hasB]
  · rw [if_neg]; grind [hasB]
  · rw [if_neg]; grind [hasB]
  · rcases nIx x (n := 24) (by omega) with w | w | ⟨j, hj, rfl⟩
    · exact absurd w q
    · exact absurd w q3
    · refine ⟨j, rfl, hj, iR ?_ rfl⟩
      rw [nI_leI (by omega) (by omega)] at q2
      rw [if_pos (by grind [hasB, nI_leI]), nI_clamp (by omega), r4 j hj (by omega)]
theorem Isd_o {nb d e : Nat} {MI MI' : mI} {ML ML' : mJ} (h : Isd nb d MI ML) (h11 : MI' 11 d = MI 11 d) (h12 : MI' 12 d = MI 12 d) (h13 : MI' 13 d = MI 13 d) (h76 : MI' 76 d = MI 76 d) (h77 : MI' 77 d = MI 77 d) (hL : ∀ i, i < 60 → ML' 14 (d * 60 + i) = ML 14 (d * 60 + i) ∧ ML' 78 (d * 60 + i) = ML 78 (d * 60 + i)) : Isd nb d MI' ML' := by
  unfold Isd at h ⊢
  rw [h11, h12, h13, h76, h77]
  rcases h with h | h | ⟨s, z, q1, q2, q3, q4, q5, q6, q7⟩
  · exact Or.inl h
  · exact Or.inr (Or.inl h)
  · refine Or.inr (Or.inr ⟨s, z, q1, q2, q3, q4, q5, q6, fun i hi => ?_⟩)
    obtain ⟨e1, e2⟩ := hL i (by omega)
    rw [e1, e2]
    exact q7 i hi
theorem p_keep (x y : Int32) : Sim 171 261 [.int x, .int y] := by
  intro MI ML hI
  obtain ⟨nb, hnb, s5⟩ := hI.2.2.2.2.1
  obtain ⟨s1, s2, s3, s4⟩ := hnb
  by_cases h : hasB 6 x = true
  · obtain ⟨d, hd, rfl⟩ := hasB_ix (n := 6) (by omega) h
    by_cases h1 : y = -1
    · subst h1
      refine ⟨(nI 1), mup (mup MI 11 (mput (MI 11) d (nI 6))) 12 (mput (MI 12) d (nI 0)), ML, mup (mup (mup (mup MI 11 (mput (MI 11) d (nI 6))) 12 (mput (MI 12) d (nI 0))) 76 (mput (MI 76) d (-1))) 77 (mput (MI 77) d (nI 0)), ML, mrc_of (EX10_keep (BX10_keep_0 (usei s_shas (bT h (cT rfl (BX10_keep_29 (cT rfl (usev (s_holdNothing hd) eRr)))))))), mrc_of (EX11_keep (BX11_keep_0 (usei t_isShelf (bT h (cT rfl (BX11_keep_22 ⟨d, rfl, hd, d, rfl, hd, iR rfl (by simp (disch := omega) only [mup_n, mup_s, mput_n, mput_s, mup_mup])⟩)))))), ?_⟩
      refine ⟨(Ip_c (by first | rfl | simp (disch := omega) only [mup_n, mup_s, mput_n]) (by first | rfl | simp (disch := omega) only [mup_n, mup_s, mput_n]) (by first | rfl | simp (disch := omega) only [mup_n, mup_s, mput_n]) (by first | rfl | simp (disch := omega) only [mup_n, mup_s, mput_n]) (by first | rfl | simp (disch := omega) only [mup_n, mup_s, mput_n]) (by first | rfl | simp (disch := omega) only [mup_n, mup_s, mput_n]) (by first | rfl | simp (disch := omega) only [mup_n, mup_s, mput_n]) (by first | rfl | simp (disch := omega) only [mup_n, mup_s, mput_n]) hI.1), (Ic_c (by first | rfl | simp (disch := omega) only [mup_n, mup_s, mput_n]) (by first | rfl | simp (disch := omega) only [mup_n, mup_s, mput_n]) (by first | rfl | simp (disch := omega) only [mup_n, mup_s, mput_n]) (by first | rfl | simp (disch := omega) only [mup_n, mup_s, mput_n]) (by first | rfl | simp (disch := omega) only [mup_n, mup_s, mput_n]) (by first | rfl | simp (disch := omega) only [mup_n, mup_s, mput_n]) (by first | rfl | simp (disch := omega) only [mup_n, mup_s, mput_n]) (by first | rfl | simp (disch := omega) only [mup_n, mup_s, mput_n]) (by first | rfl | simp (disch := omega) only [mup_n, mup_s, mput_n]) (by first | rfl | simp (disch := omega) only [mup_n, mup_s, mput_n]) hI.2.1), (It_c (by first | rfl | simp (disch := omega) only [mup_n, mup_s, mput_n]) (by first | rfl | simp (disch := omega) only [mup_n, mup_s, mput_n]) (by first | rfl | simp (disch := omega) only [mup_n, mup_s, mput_n]) (by first | rfl | simp (disch := omega) only [mup_n, mup_s, mput_n]) hI.2.2.1), (Il_c (by first | rfl | simp (disch := omega) only [mup_n, mup_s, mput_n]) (by first | rfl | simp (disch := omega) only [mup_n, mup_s, mput_n]) (by first | rfl | simp (disch := omega) only [mup_n, mup_s, mput_n]) (by first | rfl | simp (disch := omega) only [mup_n, mup_s, mput_n]) (by first | rfl | simp (disch := omega) only [mup_n, mup_s, mput_n]) (by first | rfl | simp (disch := omega) only [mup_n, mup_s, mput_n]) hI.2.2.2.1), ⟨nb, ⟨s1, by simp (disch := omega) only [mup_n, mup_s, mput_n, mput_s, mup_mup]; exact s2, by simp (disch := omega) only [mup_n, mup_s, mput_n, mput_s, mup_mup]; exact s3, by simp (disch := omega) only [mup_n, mup_s, mput_n, mput_s, mup_mup]; exact s4⟩, ?_⟩, (Ir_c (by first | rfl | simp (disch := omega) only [mup_n, mup_s, mput_n]) (by first | rfl | simp (disch := omega) only [mup_n, mup_s, mput_n]) (by first | rfl | simp (disch := omega) only [mup_n, mup_s, mput_n]) (by first | rfl | simp (disch := omega) only [mup_n, mup_s, mput_n]) (by first | rfl | simp (disch := omega) only [mup_n, mup_s, mput_n]) hI.2.2.2.2.2.1), (Ib_c (by first | rfl | simp (disch := omega) only [mup_n, mup_s, mput_n]) (by first | rfl | simp (disch := omega) only [mup_n, mup_s, mput_n]) (by first | rfl | simp (disch := omega) only [mup_n, mup_s, mput_n]) (by first | rfl | simp (disch := omega) only [mup_n, mup_s, mput_n]) (by first | rfl | simp (disch := omega) only [mup_n, mup_s, mput_n]) (by first | rfl | simp (disch := omega) only [mup_n, mup_s, mput_n]) hI.2.2.2.2.2.2.1), (Ii_c (by first | rfl | simp (disch := omega) only [mup_n, mup_s, mput_n]) (by first | rfl | simp (disch := omega) only [mup_n, mup_s, mput_n]) (by first | rfl | simp (disch := omega) only [mup_n, mup_s, mput_n]) (by first | rfl | simp (disch := omega) only [mup_n, mup_s, mput_n]) (by first | rfl | simp (disch := omega) only [mup_n, mup_s, mput_n]) (by first | rfl | simp (disch := omega) only [mup_n, mup_s, mput_n]) (by first | rfl | simp (disch := omega) only [mup_n, mup_s, mput_n]) hI.2.2.2.2.2.2.2.1), (Iw_c (by first | rfl | simp (disch := omega) only [mup_n, mup_s, mput_n]) hI.2.2.2.2.2.2.2.2)⟩
      intro e he
      by_cases q : e = d
      · subst q
        refine Or.inl ⟨?_, ?_, ?_, ?_⟩
        all_goals simp (disch := omega) only [mup_n, mup_s, mput_n, mput_s, mup_mup]
      · refine Isd_o (e := 0) (s5 e he) ?_ ?_ ?_ ?_ ?_ (fun i _ => ⟨rfl, rfl⟩)
        all_goals simp (disch := omega) only [mup_n, mup_s, mput_n, mput_s, mup_mup]
    · by_cases h2 : hasB nb y = true
      · have h50 : nb ≤ 50 := s1
        have hjj : ∃ j, j < nb ∧ y = nI j := by
          rcases nIx y (n := nb) (by omega) with q | q | q
          · grind [hasB]
          · grind [hasB]
          · exact q
        obtain ⟨j, hj, rfl⟩ := hjj
        refine ⟨(nI 1), mup (mup (mup MI 11 (mput (MI 11) d (nI 5))) 12 (mput (MI 12) d (nI 0))) 13 (mput (MI 13) d (nI j)), ML, mup (mup (mup (mup (mup MI 11 (mput (MI 11) d (nI 5))) 12 (mput (MI 12) d (nI 0))) 13 (mput (MI 13) d (nI j))) 76 (mput (MI 76) d (nI j))) 77 (mput (MI 77) d (nI 0)), ML, mrc_of (EX10_keep (BX10_keep_0 (usei s_shas (bT h (cF h1 (usei (s_ndHas s2) (bT h2 (BX10_keep_29 (cF h1 (usev (s_holdNeedle hd) eRr)))))))))), mrc_of (EX11_keep (BX11_keep_0 (usei t_isShelf (bT h (cF h1 (usei (t_isBody (by simp (disch := omega) only [mup_n, mup_s, mput_n, mput_s, mup_mup]; exact s3) s1) (bT h2 (BX11_keep_22 ⟨d, rfl, hd, d, rfl, hd, iR rfl (by simp (disch := omega) only [mup_n, mup_s, mput_n, mput_s, mup_mup])⟩)))))))), ?_⟩
        refine ⟨(Ip_c (by first | rfl | simp (disch := omega) only [mup_n, mup_s, mput_n]) (by first | rfl | simp (disch := omega) only [mup_n, mup_s, mput_n]) (by first | rfl | simp (disch := omega) only [mup_n, mup_s, mput_n]) (by first | rfl | simp (disch := omega) only [mup_n, mup_s, mput_n]) (by first | rfl | simp (disch := omega) only [mup_n, mup_s, mput_n]) (by first | rfl | simp (disch := omega) only [mup_n, mup_s, mput_n]) (by first | rfl | simp (disch := omega) only [mup_n, mup_s, mput_n]) (by first | rfl | simp (disch := omega) only [mup_n, mup_s, mput_n]) hI.1), (Ic_c (by first | rfl | simp (disch := omega) only [mup_n, mup_s, mput_n]) (by first | rfl | simp (disch := omega) only [mup_n, mup_s, mput_n]) (by first | rfl | simp (disch := omega) only [mup_n, mup_s, mput_n]) (by first | rfl | simp (disch := omega) only [mup_n, mup_s, mput_n]) (by first | rfl | simp (disch := omega) only [mup_n, mup_s, mput_n]) (by first | rfl | simp (disch := omega) only [mup_n, mup_s, mput_n]) (by first | rfl | simp (disch := omega) only [mup_n, mup_s, mput_n]) (by first | rfl | simp (disch := omega) only [mup_n, mup_s, mput_n]) (by first | rfl | simp (disch := omega) only [mup_n, mup_s, mput_n]) (by first | rfl | simp (disch := omega) only [mup_n, mup_s, mput_n]) hI.2.1), (It_c (by first | rfl | simp (disch := omega) only [mup_n, mup_s, mput_n]) (by first | rfl | simp (disch := omega) only [mup_n, mup_s, mput_n]) (by first | rfl | simp (disch := omega) only [mup_n, mup_s, mput_n]) (by first | rfl | simp (disch := omega) only [mup_n, mup_s, mput_n]) hI.2.2.1), (Il_c (by first | rfl | simp (disch := omega) only [mup_n, mup_s, mput_n]) (by first | rfl | simp (disch := omega) only [mup_n, mup_s, mput_n]) (by first | rfl | simp (disch := omega) only [mup_n, mup_s, mput_n]) (by first | rfl | simp (disch := omega) only [mup_n, mup_s, mput_n]) (by first | rfl | simp (disch := omega) only [mup_n, mup_s, mput_n]) (by first | rfl | simp (disch := omega) only [mup_n, mup_s, mput_n]) hI.2.2.2.1), ⟨nb, ⟨s1, by simp (disch := omega) only [mup_n, mup_s, mput_n, mput_s, mup_mup]; exact s2, by simp (disch := omega) only [mup_n, mup_s, mput_n, mput_s, mup_mup]; exact s3, by simp (disch := omega) only [mup_n, mup_s, mput_n, mput_s, mup_mup]; exact s4⟩, ?_⟩, (Ir_c (by first | rfl | simp (disch := omega) only [mup_n, mup_s, mput_n]) (by first | rfl | simp (disch := omega) only [mup_n, mup_s, mput_n]) (by first | rfl | simp (disch := omega) only [mup_n, mup_s, mput_n]) (by first | rfl | simp (disch := omega) only [mup_n, mup_s, mput_n]) (by first | rfl | simp (disch := omega) only [mup_n, mup_s, mput_n]) hI.2.2.2.2.2.1), (Ib_c (by first | rfl | simp (disch := omega) only [mup_n, mup_s, mput_n]) (by first | rfl | simp (disch := omega) only [mup_n, mup_s, mput_n]) (by first | rfl | simp (disch := omega) only [mup_n, mup_s, mput_n]) (by first | rfl | simp (disch := omega) only [mup_n, mup_s, mput_n]) (by first | rfl | simp (disch := omega) only [mup_n, mup_s, mput_n]) (by first | rfl | simp (disch := omega) only [mup_n, mup_s, mput_n]) hI.2.2.2.2.2.2.1), (Ii_c (by first | rfl | simp (disch := omega) only [mup_n, mup_s, mput_n]) (by first | rfl | simp (disch := omega) only [mup_n, mup_s, mput_n]) (by first | rfl | simp (disch := omega) only [mup_n, mup_s, mput_n]) (by first | rfl | simp (disch := omega) only [mup_n, mup_s, mput_n]) (by first | rfl | simp (disch := omega) only [mup_n, mup_s, mput_n]) (by first | rfl | simp (disch := omega) only [mup_n, mup_s, mput_n]) (by first | rfl | simp (disch := omega) only [mup_n, mup_s, mput_n]) hI.2.2.2.2.2.2.2.1), (Iw_c (by first | rfl | simp (disch := omega) only [mup_n, mup_s, mput_n]) hI.2.2.2.2.2.2.2.2)⟩
        intro e he
        by_cases q : e = d
        · subst q
          refine Or.inr (Or.inl ⟨j, hj, ?_, ?_, ?_, ?_, ?_⟩)
          all_goals simp (disch := omega) only [mup_n, mup_s, mput_n, mput_s, mup_mup]
        · refine Isd_o (e := 0) (s5 e he) ?_ ?_ ?_ ?_ ?_ (fun i _ => ⟨rfl, rfl⟩)
          all_goals simp (disch := omega) only [mup_n, mup_s, mput_n, mput_s, mup_mup]
      · exact ⟨_, _, _, _, _, mrc_of (EX10_keep (BX10_keep_0 (usei s_shas (bT h (cF h1 (usei (s_ndHas s2) (bF (bnf h2) eRr))))))), mrc_of (EX11_keep (BX11_keep_0 (usei t_isShelf (bT h (cF h1 (usei (t_isBody s3 s1) (bF (bnf h2) eRr))))))), hI⟩
  · exact ⟨_, _, _, _, _, mrc_of (EX10_keep (BX10_keep_0 (usei s_shas (bF (bnf h) eRr)))), mrc_of (EX11_keep (BX11_keep_0 (usei t_isShelf (bF (bnf h) eRr)))), hI⟩
end P5
