/-! people, deeds: pairs -/
theorem dv10 {x : Int32} {i j : Nat} (h : x / nI 10 = nI i) (h2 : x - x / nI 10 * nI 10 = nI j) : x / nI 10 = nI i ∧ x - nI i * nI 10 = nI j := ⟨h, by rw [← h]; exact h2⟩
section P3
variable {MI : mI} {ML : mJ}
theorem p_of (x y : Int32) : Sim 138 192 [.int x, .int y] := by
  intro MI ML hI
  obtain ⟨n, h8, hn, hm, hM, hP, z1, z2, z3, z4⟩ := hI.1
  by_cases h : plc n x y < nI 0
  · exact ⟨_, _, _, _, _, mrc_of (EX10_of (BX10_of_0 (usei (s_placeOf bz1 hn) (cF (by rw [fa_le]; rw [fa_lt] at h; omega) eRr)))), mrc_of (EX11_of (BX11_of_0 (usei (t_placeOf hm h8) (cT h eRr)))), hI⟩
  · obtain ⟨p, i, hp, hi, e, _⟩ := plc_ix h8 h
    refine ⟨_, _, _, _, _, mrc_of (EX10_of (BX10_of_0 (usei (s_placeOf bz1 hn) (cT (by rw [fa_le]; rw [fa_lt] at h; omega) (usei (e ▸ s_numberAt bz1 (by omega : p < 84)) eRr))))), mrc_of (EX11_of (BX11_of_0 (usei (t_placeOf hm h8) (cF h ⟨p, e, by omega, iR (by rw [hM]) rfl⟩)))), hI⟩
theorem p_mend (x y v : Int32) : Sim 137 191 [.int x, .int y, .int v] := by
  intro MI ML hI
  obtain ⟨n, h8, hn, hm, hM, hP, z1, z2, z3, z4⟩ := hI.1
  by_cases h : plc n x y < nI 0
  · exact ⟨_, _, _, _, _, mrc_of (EX10_mend (BX10_mend_0 (usei (s_placeOf bz1 hn) (cT h eRr)))), mrc_of (EX11_mend (BX11_mend_0 (usei (t_placeOf hm h8) (cT h eRr)))), hI⟩
  · obtain ⟨p, i, hp, hi, e, rfl, hpi⟩ := plc_ix h8 h
    by_cases hw : wiB (nI 0) (mtab1 i) v = true
    · have hw2 := hw
      simp only [wiB, Bool.and_eq_true, Bool.not_eq_true', decide_eq_false_iff_not] at hw2
      have hb := wi_ti hw
      have hok : okv p v := by
        have e0 : (nI 0).toInt = 0 := by decide
        rw [e0] at hb
        unfold okv lob hib
        have t0 : (mtab1 0).toInt = 99 := by decide
        have t1 : (mtab1 1).toInt = 9 := by decide
        have t2 : (mtab1 2).toInt = 3 := by decide
        have t3 : (mtab1 3).toInt = 9 := by decide
        have t4 : (mtab1 4).toInt = 20 := by decide
        have t5 : (mtab1 5).toInt = 99 := by decide
        rcases hpi with ⟨rfl, q⟩ | ⟨rfl, q, q2⟩ | ⟨q, q2⟩
        · rw [if_pos (by omega), if_pos q]; omega
        · rw [if_pos (by omega), if_neg (by omega), if_pos q2]; omega
        · match i, hi, q with
          | 2, _, _ => subst q2; exact ⟨hb.1, by simpa [t2] using hb.2⟩
          | 3, _, _ => subst q2; exact ⟨hb.1, by simpa [t3] using hb.2⟩
          | 4, _, _ => subst q2; exact ⟨hb.1, by simpa [t4] using hb.2⟩
          | 5, _, _ => subst q2; exact ⟨hb.1, by simpa [t5] using hb.2⟩
      obtain ⟨M1, M2, k1, k2, k3, k4⟩ := pair_change (v := v) hI (by omega : p < 84) hok
      refine ⟨_, M1, ML, M2, ML, mrc_of (EX10_mend (BX10_mend_0 (usei (s_placeOf bz1 hn) (cF h (cF hw2.1 (usei (s_mostOf hi) (cT (fa_of_nlt hw2.2) (usei (mrc_le (e ▸ k1) (by omega)) eRr)))))))), mrc_of (EX11_mend (BX11_mend_0 (usei (t_placeOf (by rw [k4]; exact hm) h8) (cF h (usei (t_mostOf hi) (usei (t_within (lo := nI 0) rfl rfl) (bT hw (usei (mrc_le (e ▸ k2) (by omega)) eRr)))))))), k3⟩
    · refine ⟨(-1), MI, ML, MI, ML, mrc_of (EX10_mend (BX10_mend_0 (usei (s_placeOf bz1 hn) (cF h ?_)))), mrc_of (EX11_mend (BX11_mend_0 (usei (t_placeOf hm h8) (cF h (usei (t_mostOf hi) (usei (t_within (lo := nI 0) rfl rfl) (bF (bnf hw) eRr))))))), hI⟩
      refine br (fun _ => eRr) (fun h1 => usei (s_mostOf hi) (cF ?_ eRr))
      intro h2
      apply hw
      have e0 : (nI 0).toInt = 0 := by decide
      simp only [wiB, Bool.and_eq_true, Bool.not_eq_true', decide_eq_false_iff_not, fa_lt]
      rw [fa_lt] at h1
      rw [fa_le] at h2
      omega
theorem feelB_wi (v : Int32) : feelB v = wiB (-9) (nI 9) v := rfl
theorem p_feel (x v : Int32) : Sim 139 193 [.int x, .int v] := by
  intro MI ML hI
  obtain ⟨n, h8, hn, hm, hM, hP, z1, z2, z3, z4⟩ := hI.1
  by_cases h : pairB n x = true
  · by_cases h2 : feelB v = true
    · obtain ⟨i, j, hi, hj, hne, ei, ej⟩ := pairB_ix h8 h
      have hb := wi_ti (feelB_wi v ▸ h2)
      rw [m9, nI_toInt (by omega)] at hb
      obtain ⟨M1, M2, k1, k2, k3, k4⟩ := pair_change (v := v) hI (by omega : 20 + i * 8 + j < 84) ((okv_ft (by omega) (by omega) hne).mpr hb)
      refine ⟨(MI 2 (20 + i * 8 + j) + nI 100), M1, ML, M2, ML, mrc_of (EX10_feel (BX10_feel_0 (usei (s_hasPair bz1 hn) (bT h (usei s_isFeeling (bT h2 ?_)))))), mrc_of (EX11_feel (BX11_feel_0 (usei (t_isPair (by rw [k4]; exact hm) h8) (bT h (usei (t_within (lo := -9) (hi := nI 9) rfl rfl) (bT (feelB_wi v ▸ h2) ?_)))))), k3⟩
      · rw [ej, ei]
        exact usei s_placeOfFeeling (usei (mrc_le k1 (by omega)) eRr)
      · rw [ej, ei]
        exact usei t_felt (usei (mrc_le k2 (by omega)) eRr)
    · exact ⟨_, _, _, _, _, mrc_of (EX10_feel (BX10_feel_0 (usei (s_hasPair bz1 hn) (bT h (usei s_isFeeling (bF (bnf h2) eRr)))))), mrc_of (EX11_feel (BX11_feel_0 (usei (t_isPair hm h8) (bT h (usei (t_within (lo := -9) (hi := nI 9) rfl rfl) (bF (feelB_wi v ▸ bnf h2) eRr)))))), hI⟩
  · exact ⟨_, _, _, _, _, mrc_of (EX10_feel (BX10_feel_0 (usei (s_hasPair bz1 hn) (bF (bnf h) eRr)))), mrc_of (EX11_feel (BX11_feel_0 (usei (t_isPair hm h8) (bF (bnf h) eRr)))), hI⟩
theorem p_feeling (x : Int32) : Sim 140 194 [.int x] := by
  intro MI ML hI
  obtain ⟨n, h8, hn, hm, hM, hP, z1, z2, z3, z4⟩ := hI.1
  by_cases h : pairB n x = true
  · obtain ⟨i, j, hi, hj, hne, ei, ej⟩ := pairB_ix h8 h
    refine ⟨(MI 2 (20 + i * 8 + j) + nI 100), MI, ML, MI, ML, mrc_of (EX10_feeling (BX10_feeling_0 (usei (s_hasPair bz1 hn) (bT h (usei (v := MI 2 (20 + i * 8 + j)) (M := MI) (L := ML) ?_ eRr))))), mrc_of (EX11_feeling (BX11_feeling_0 (usei (t_isPair hm h8) (bT h (usei (v := nI (20 + i * 8 + j)) (M := MI) (L := ML) ?_ ⟨_, rfl, by omega, iR (by rw [hM]) rfl⟩))))), hI⟩
    · rw [ej, ei]
      exact s_felt bz1 (by omega) (by omega)
    · rw [ej, ei]
      exact t_felt
  · exact ⟨_, _, _, _, _, mrc_of (EX10_feeling (BX10_feeling_0 (usei (s_hasPair bz1 hn) (bF (bnf h) eRr)))), mrc_of (EX11_feeling (BX11_feeling_0 (usei (t_isPair hm h8) (bF (bnf h) eRr)))), hI⟩
theorem p_ring : Sim 152 231 [] := by
  intro MI ML hI
  obtain ⟨n, h8, hn, hm, hM, hP, z1, z2, z3, z4⟩ := hI.1
  obtain ⟨M', k1, k2⟩ := t_ring (D := 298) (ML := ML) hm h8
  rw [hM] at k1
  refine ⟨_, MI, ML, M', ML, mrc_of (EX10_ring (BX10_ring_0 (usei (s_smallestRing bz1 hn h8) eRr))), k1, ?_⟩
  have f : ∀ b, b ≠ 68 → b ≠ 69 → M' b = MI b := k2
  exact ⟨Ip_c (by rw [f 1 (by decide) (by decide)]) (f 2 (by decide) (by decide)) (by rw [f 46 (by decide) (by decide)]) (f 47 (by decide) (by decide)) (f 17 (by decide) (by decide)) (f 37 (by decide) (by decide)) (f 61 (by decide) (by decide)) (f 72 (by decide) (by decide)) hI.1, Ic_c (by rw [f 39 (by decide) (by decide)]) (by rw [f 39 (by decide) (by decide)]) (f 40 (by decide) (by decide)) (f 41 (by decide) (by decide)) (f 42 (by decide) (by decide)) (by rw [f 46 (by decide) (by decide)]) (by rw [f 46 (by decide) (by decide)]) (f 48 (by decide) (by decide)) (f 49 (by decide) (by decide)) (f 50 (by decide) (by decide)) hI.2.1, It_c (by rw [f 3 (by decide) (by decide)]) (f 5 (by decide) (by decide)) (by rw [f 46 (by decide) (by decide)]) (f 51 (by decide) (by decide)) hI.2.2.1, Il_c (by rw [f 6 (by decide) (by decide)]) (f 7 (by decide) (by decide)) (by rw [f 46 (by decide) (by decide)]) (f 53 (by decide) (by decide)) (f 56 (by decide) (by decide)) (f 57 (by decide) (by decide)) hI.2.2.2.1, Is_c (f 11 (by decide) (by decide)) (f 12 (by decide) (by decide)) (f 13 (by decide) (by decide)) (by rw [f 43 (by decide) (by decide)]) (f 44 (by decide) (by decide)) (by rw [f 46 (by decide) (by decide)]) (f 74 (by decide) (by decide)) (f 76 (by decide) (by decide)) (f 77 (by decide) (by decide)) rfl rfl hI.2.2.2.2.1, Ir_c (by rw [f 43 (by decide) (by decide)]) (f 45 (by decide) (by decide)) (by rw [f 46 (by decide) (by decide)]) (f 75 (by decide) (by decide)) (by rw [f 46 (by decide) (by decide)]) hI.2.2.2.2.2.1, Ib_c (f 34 (by decide) (by decide)) (f 70 (by decide) (by decide)) (by rw [f 33 (by decide) (by decide)]) (f 35 (by decide) (by decide)) (by rw [f 46 (by decide) (by decide)]) (f 71 (by decide) (by decide)) hI.2.2.2.2.2.2.1, Ii_c (by rw [f 33 (by decide) (by decide)]) (by rw [f 36 (by decide) (by decide)]) (f 37 (by decide) (by decide)) (f 38 (by decide) (by decide)) (by rw [f 46 (by decide) (by decide)]) (f 72 (by decide) (by decide)) (f 73 (by decide) (by decide)) hI.2.2.2.2.2.2.2.1, hI.2.2.2.2.2.2.2.2⟩
theorem p_count (x : Int32) : Sim 177 269 [.int x] := by
  intro MI ML hI
  obtain ⟨n, h8, hn, hm, hM, hP, z1, z2, z3, z4⟩ := hI.1
  obtain ⟨d, m, c1, c2, c3, c4, c5, c6, c7⟩ := hI.2.1
  obtain ⟨t, t1, t2, t3, t4⟩ := hI.2.2.1
  obtain ⟨nb, ⟨s1, s2, s3, s4⟩, s5⟩ := hI.2.2.2.2.1
  obtain ⟨_, r, r1, r2, r3, r4⟩ := hI.2.2.2.2.2.1
  by_cases h0 : x = nI 0
  · exact ⟨_, _, _, _, _, mrc_of (EX10_count (BX10_count_0 (cT h0 eRr))), mrc_of (EX11_count (BX11_count_0 (cT h0 (iR (by rw [hn, hm]) rfl)))), hI⟩
  by_cases h1 : x = nI 1
  · exact ⟨_, _, _, _, _, mrc_of (EX10_count (BX10_count_0 (cF h0 (cT h1 (usei s_tapeLength eRr))))), mrc_of (EX11_count (BX11_count_0 (cF h0 (cT h1 (iR (by rw [t2, t3]) rfl))))), hI⟩
  by_cases h2 : x = nI 2
  · exact ⟨_, _, _, _, _, mrc_of (EX10_count (BX10_count_0 (cF h0 (cF h1 (cT h2 (usei s_undoable eRr)))))), mrc_of (EX11_count (BX11_count_0 (cF h0 (cF h1 (cT h2 (iR (by rw [c3, c4]) rfl)))))), hI⟩
  by_cases h3 : x = nI 3
  · exact ⟨_, _, _, _, _, mrc_of (EX10_count (BX10_count_0 (cF h0 (cF h1 (cF h2 (cT h3 (usei s_bodies eRr))))))), mrc_of (EX11_count (BX11_count_0 (cF h0 (cF h1 (cF h2 (cT h3 (iR (by rw [s2, s3]) rfl))))))), hI⟩
  by_cases h4 : x = nI 4
  · exact ⟨_, _, _, _, _, mrc_of (EX10_count (BX10_count_0 (cF h0 (cF h1 (cF h2 (cF h3 (cT h4 (usei s_ran eRr)))))))), mrc_of (EX11_count (BX11_count_0 (cF h0 (cF h1 (cF h2 (cF h3 (cT h4 (iR (by rw [r2, r3]) rfl)))))))), hI⟩
  by_cases h5 : x = nI 5
  · exact ⟨_, _, _, _, _, mrc_of (EX10_count (BX10_count_0 (cF h0 (cF h1 (cF h2 (cF h3 (cF h4 (cT h5 (usei (s_feelingsBelowNone bz1 hn h8) eRr))))))))), mrc_of (EX11_count (BX11_count_0 (cF h0 (cF h1 (cF h2 (cF h3 (cF h4 (cT h5 (t_count5 hm h8 (iR (by rw [hM]; exact congrArg nI (sm_sw (fun i b => !decide (nI 0 ≤ MI 2 (20 + i * 8 + b))) n n).symm) rfl)))))))))), hI⟩
  · exact ⟨_, _, _, _, _, mrc_of (EX10_count (BX10_count_0 (cF h0 (cF h1 (cF h2 (cF h3 (cF h4 (cF h5 eRr)))))))), mrc_of (EX11_count (BX11_count_0 (cF h0 (cF h1 (cF h2 (cF h3 (cF h4 (cF h5 eRr)))))))), hI⟩
end P3
