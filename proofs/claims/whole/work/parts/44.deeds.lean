/-! deeds, undoing, lacks: pairs -/
theorem cn_cong {p q : Nat → Bool} : ∀ {n : Nat}, (∀ i, i < n → p i = q i) → cn p n = cn q n
  | 0, _ => rfl
  | n + 1, h => by
    unfold cn
    rw [cn_cong (n := n) (fun i hi => h i (by omega)), h n (by omega)]
theorem one_mul32 (x : Int32) : nI 1 * x = x := Int32.one_mul x
theorem ti_neg {x : Int32} (h1 : -1073741824 ≤ x.toInt) (h2 : x.toInt ≤ 1073741823) : (-x).toInt = -x.toInt := by
  rw [Int32.toInt_neg]
  simp only [Int.bmod]
  omega
theorem neg_mul32 (x : Int32) : (-1 : Int32) * x = -x := by
  have := Int32.neg_mul 1 x
  rw [Int32.one_mul] at this
  exact this
theorem nI0_ti : (nI 0).toInt = 0 := by decide
theorem okv_all {p : Nat} {v : Int32} (h : okv p v) : -9 ≤ v.toInt ∧ v.toInt ≤ 99 := by
  unfold okv lob hib at h
  grind
section P4
variable {MI : mI} {ML : mJ} {D n : Nat}
theorem t_lacks0 (hn : MI 46 6 = nI n) (h8 : n ≤ 8) : VX11_lacks_13 (D + 2) (eR (some (.int (lvl (MI 47) n n))) MI ML) (nI 0) (nI 0) MI ML := by
  refine up (P := fun i => VX11_lacks_13 (D + 2) _ (lvl (MI 47) n i) (nI i) MI ML) n (Nat.zero_le _) ?_ ?_
  · exact BX11_lacks_13 (cT (by rw [hn]; exact nI_le (Nat.le_refl _) (by omega)) eRr)
  · intro i _ hi ih
    refine BX11_lacks_13 (cF (by rw [hn]; exact nI_ge hi (by omega)) (usei (t_manyFor hn h8 (by omega)) ?_))
    have e0 : cn (fun j => !decide (nI 1 * MI 47 (20 + j * 8 + i) ≤ nI 0)) n = cn (fun j => !decide (MI 47 (20 + j * 8 + i) ≤ nI 0)) n := cn_cong (fun j _ => by rw [one_mul32])
    rw [e0]
    have := cn_le (fun j => !decide (MI 47 (20 + j * 8 + i) ≤ nI 0)) n
    rw [nI_add, nI_eq (by omega) (by omega)]
    have e : lvl (MI 47) n (i + 1) = (if cn (fun j => !decide (MI 47 (20 + j * 8 + i) ≤ nI 0)) n = 0 then lvl (MI 47) n i ||| (nI 1 <<< (nI i &&& 31)) else lvl (MI 47) n i ||| nI 0) := rfl
    rw [e] at ih
    refine ⟨fun h1 => ?_, fun h1 => ?_⟩
    · rwa [if_pos h1] at ih
    · rwa [if_neg h1] at ih
theorem p_lacks (x y : Int32) : Sim 146 223 [.int x, .int y] := by
  intro MI ML hI
  obtain ⟨n, h8, hn, hm, hM, hP, z1, z2, z3, z4⟩ := hI.1
  by_cases hy0 : y = nI 0
  · have hw : wiB (nI 1) (nI 2) y = false := by rw [hy0]; decide
    by_cases hx0 : x = nI 0
    · have k := t_lacks0 (D := 297) (ML := ML) hm h8
      rw [hM] at k
      exact ⟨_, _, _, _, _, mrc_of (EX10_lacks (BX10_lacks_0 (cT hy0 (cT hx0 (usei (s_loveless bz1 hn h8) eRr))))), mrc_of (EX11_lacks (BX11_lacks_0 (cT hy0 (cT hx0 k)))), hI⟩
    · exact ⟨_, _, _, _, _, mrc_of (EX10_lacks (BX10_lacks_0 (cT hy0 (cF hx0 eRr)))), mrc_of (EX11_lacks (BX11_lacks_0 (cT hy0 (cF hx0 (BX11_lacks_51 (usei (t_within (lo := nI 1) (hi := nI 2) rfl rfl) (bF hw eRr))))))), hI⟩
  · by_cases hw : wiB (nI 1) (nI 2) y = true
    · have b := wi_ti hw
      have e1 : (nI 1).toInt = 1 := by decide
      have e2 : (nI 2).toInt = 2 := by decide
      have hy1 : ¬ y < nI 0 := by rw [fa_lt, nI0_ti]; omega
      have hy2 : ¬ nI 2 < y := by rw [fa_lt]; omega
      by_cases hx : hasB n x = true
      · obtain ⟨j, hj, rfl⟩ := hasB_ix h8 hx
        by_cases y1 : y = nI 1
        · refine ⟨_, _, _, _, _, mrc_of (EX10_lacks (BX10_lacks_0 (cF hy0 (cF hy1 (cF hy2 (usei (s_has bz1 hn) (bT hx (cT y1 (usei (s_loversOf bz1 hn h8 (by omega)) eRr))))))))), mrc_of (EX11_lacks (BX11_lacks_0 (cF hy0 (BX11_lacks_51 (usei (t_within (lo := nI 1) (hi := nI 2) rfl rfl) (bT hw (usei (t_isOne hm h8) (bT hx (cT y1 (usei (t_manyFor hm h8 (by omega)) (iR ?_ rfl))))))))))), hI⟩
          congr 1
          exact cn_cong (fun i _ => by rw [one_mul32, hM])
        · refine ⟨_, _, _, _, _, mrc_of (EX10_lacks (BX10_lacks_0 (cF hy0 (cF hy1 (cF hy2 (usei (s_has bz1 hn) (bT hx (cF y1 (usei (s_hatersOf bz1 hn h8 (by omega)) eRr))))))))), mrc_of (EX11_lacks (BX11_lacks_0 (cF hy0 (BX11_lacks_51 (usei (t_within (lo := nI 1) (hi := nI 2) rfl rfl) (bT hw (usei (t_isOne hm h8) (bT hx (cF y1 (usei (t_manyFor hm h8 (by omega)) (iR ?_ rfl))))))))))), hI⟩
          congr 1
          refine cn_cong (fun i hi => ?_)
          rw [neg_mul32, hM]
          have := okv_all (hP.1 (20 + i * 8 + j) (by omega))
          congr 1
          rw [decide_eq_decide, fa_le, fa_le, ti_neg (by omega) (by omega), nI0_ti]
          omega
      · exact ⟨_, _, _, _, _, mrc_of (EX10_lacks (BX10_lacks_0 (cF hy0 (cF hy1 (cF hy2 (usei (s_has bz1 hn) (bF (bnf hx) eRr))))))), mrc_of (EX11_lacks (BX11_lacks_0 (cF hy0 (BX11_lacks_51 (usei (t_within (lo := nI 1) (hi := nI 2) rfl rfl) (bT hw (usei (t_isOne hm h8) (bF (bnf hx) eRr)))))))), hI⟩
    · refine ⟨(-1), MI, ML, MI, ML, mrc_of (EX10_lacks (BX10_lacks_0 (cF hy0 (br (fun _ => eRr) (fun h1 => br (fun _ => eRr) (fun h2 => absurd ?_ hw)))))), mrc_of (EX11_lacks (BX11_lacks_0 (cF hy0 (BX11_lacks_51 (usei (t_within (lo := nI 1) (hi := nI 2) rfl rfl) (bF (bnf hw) eRr)))))), hI⟩
      have e1 : (nI 1).toInt = 1 := by decide
      simp only [wiB, Bool.and_eq_true, Bool.not_eq_true', decide_eq_false_iff_not]
      refine ⟨?_, h2⟩
      rw [fa_lt] at h1 ⊢
      rw [fa_eq] at hy0
      rw [nI0_ti] at h1 hy0
      omega
theorem p_undo : Sim 166 181 [] := by
  intro MI ML hI
  obtain ⟨n, hIn⟩ := hI.1
  obtain ⟨h8, hn, hm, hM, hP, z1, z2, z3, z4⟩ := hIn
  obtain ⟨d, m, c1, c2, c3, c4, c5, c6, c7⟩ := hI.2.1
  by_cases hd : d = 0
  · subst hd
    exact ⟨_, _, _, _, _, mrc_of (EX10_undo (BX10_undo_0 (usei s_undoable (cT c3 eRr)))), mrc_of (EX11_undo (BX11_undo_0 (cT c4 eRr))), hI⟩
  · obtain ⟨d', rfl⟩ : ∃ d', d = d' + 1 := ⟨d - 1, by omega⟩
    obtain ⟨⟨p, hp, q1, q2, q3, q4⟩, q5, q6⟩ := c7 d' (by omega)
    have hne : ¬ nI (d' + 1) = nI 0 := by rw [nI_eq (by omega) (by omega)]; omega
    refine ⟨(nI d'), _, ML, _, ML, mrc_of (EX10_undo (BX10_undo_0 (usei s_undoable (cF (by rw [c3]; exact hne) (usev (s_stepBack c3 (by omega) q1 hp) (usei s_undoable (iR ?_ rfl))))))), mrc_of (EX11_undo (BX11_undo_0 (cF ?_ ⟨d', ?_, by omega, d', ?_, by omega, p, ?_, hp, iR ?_ rfl⟩))), ?_⟩
    · simp (disch := omega) only [mup_n, mup_s, mput_n, mput_s, mup_mup]
    · simp (disch := omega) only [mup_n, mup_s, mput_n, mput_s, mup_mup]
      rw [c4]
      exact hne
    · simp (disch := omega) only [nI_add, pk_mul, nI_leI, nI_ltI, nI_eq, ex_ix, nI_0lt, nI_0le, nat_rem, pk_div, pk_sub, bI_0, bI_1, mup_mup, mup_s, mup_n, mput_s, mput_n, and_true, true_and, not_true_eq_false, not_false_eq_true, ne_eq, Nat.zero_add, c4]
      rw [show d' + 1 - 1 = d' by omega]
    · simp (disch := omega) only [nI_add, pk_mul, nI_leI, nI_ltI, nI_eq, ex_ix, nI_0lt, nI_0le, nat_rem, pk_div, pk_sub, bI_0, bI_1, mup_mup, mup_s, mup_n, mput_s, mput_n, and_true, true_and, not_true_eq_false, not_false_eq_true, ne_eq, Nat.zero_add, c4]
      rw [show d' + 1 - 1 = d' by omega]
    · simp (disch := omega) only [mup_n, mup_s, mput_n, mput_s, mup_mup]
      exact q2
    · simp (disch := omega) only [nI_add, pk_mul, nI_leI, nI_ltI, nI_eq, ex_ix, nI_0lt, nI_0le, nat_rem, pk_div, pk_sub, bI_0, bI_1, mup_mup, mup_s, mup_n, mput_s, mput_n, and_true, true_and, not_true_eq_false, not_false_eq_true, ne_eq, Nat.zero_add, c4]
      rw [show d' + 1 - 1 = d' by omega]
    · refine ⟨Ip_put ⟨h8, hn, hm, hM, hP, z1, z2, z3, z4⟩ hp q3 (by simp (disch := omega) only [mup_n, mup_s, mput_n, mput_s, mup_mup]) (by simp (disch := omega) only [mup_n, mup_s, mput_n, mput_s, mup_mup]; rw [q5]) (by simp (disch := omega) only [mup_n, mup_s, mput_n, mput_s, mup_mup]) (by simp (disch := omega) only [mup_n, mup_s, mput_n, mput_s, mup_mup]) (by simp (disch := omega) only [mup_n, mup_s, mput_n, mput_s, mup_mup]) (by simp (disch := omega) only [mup_n, mup_s, mput_n, mput_s, mup_mup]) (by simp (disch := omega) only [mup_n, mup_s, mput_n, mput_s, mup_mup]) (by simp (disch := omega) only [mup_n, mup_s, mput_n, mput_s, mup_mup]), ⟨d', m, by omega, by omega, by simp (disch := omega) only [mup_n, mup_s, mput_n, mput_s, mup_mup], ?_, by simp (disch := omega) only [mup_n, mup_s, mput_n, mput_s, mup_mup]; exact c5, by simp (disch := omega) only [mup_n, mup_s, mput_n, mput_s, mup_mup]; exact c6, ?_⟩, (It_c (by first | rfl | simp (disch := omega) only [mup_n, mup_s, mput_n]) (by first | rfl | simp (disch := omega) only [mup_n, mup_s, mput_n]) (by first | rfl | simp (disch := omega) only [mup_n, mup_s, mput_n]) (by first | rfl | simp (disch := omega) only [mup_n, mup_s, mput_n]) hI.2.2.1), (Il_c (by first | rfl | simp (disch := omega) only [mup_n, mup_s, mput_n]) (by first | rfl | simp (disch := omega) only [mup_n, mup_s, mput_n]) (by first | rfl | simp (disch := omega) only [mup_n, mup_s, mput_n]) (by first | rfl | simp (disch := omega) only [mup_n, mup_s, mput_n]) (by first | rfl | simp (disch := omega) only [mup_n, mup_s, mput_n]) (by first | rfl | simp (disch := omega) only [mup_n, mup_s, mput_n]) hI.2.2.2.1), (Is_c (by first | rfl | simp (disch := omega) only [mup_n, mup_s, mput_n]) (by first | rfl | simp (disch := omega) only [mup_n, mup_s, mput_n]) (by first | rfl | simp (disch := omega) only [mup_n, mup_s, mput_n]) (by first | rfl | simp (disch := omega) only [mup_n, mup_s, mput_n]) (by first | rfl | simp (disch := omega) only [mup_n, mup_s, mput_n]) (by first | rfl | simp (disch := omega) only [mup_n, mup_s, mput_n]) (by first | rfl | simp (disch := omega) only [mup_n, mup_s, mput_n]) (by first | rfl | simp (disch := omega) only [mup_n, mup_s, mput_n]) (by first | rfl | simp (disch := omega) only [mup_n, mup_s, mput_n]) (by first | rfl | simp (disch := omega) only [mup_n, mup_s, mput_n]) (by first | rfl | simp (disch := omega) only [mup_n, mup_s, mput_n]) hI.2.2.2.2.1), (Ir_c (by first | rfl | simp (disch := omega) only [mup_n, mup_s, mput_n]) (by first | rfl | simp (disch := omega) only [mup_n, mup_s, mput_n]) (by first | rfl | simp (disch := omega) only [mup_n, mup_s, mput_n]) (by first | rfl | simp (disch := omega) only [mup_n, mup_s, mput_n]) (by first | rfl | simp (disch := omega) only [mup_n, mup_s, mput_n]) hI.2.2.2.2.2.1), (Ib_c (by first | rfl | simp (disch := omega) only [mup_n, mup_s, mput_n]) (by first | rfl | simp (disch := omega) only [mup_n, mup_s, mput_n]) (by first | rfl | simp (disch := omega) only [mup_n, mup_s, mput_n]) (by first | rfl | simp (disch := omega) only [mup_n, mup_s, mput_n]) (by first | rfl | simp (disch := omega) only [mup_n, mup_s, mput_n]) (by first | rfl | simp (disch := omega) only [mup_n, mup_s, mput_n]) hI.2.2.2.2.2.2.1), (Ii_c (by first | rfl | simp (disch := omega) only [mup_n, mup_s, mput_n]) (by first | rfl | simp (disch := omega) only [mup_n, mup_s, mput_n]) (by first | rfl | simp (disch := omega) only [mup_n, mup_s, mput_n]) (by first | rfl | simp (disch := omega) only [mup_n, mup_s, mput_n]) (by first | rfl | simp (disch := omega) only [mup_n, mup_s, mput_n]) (by first | rfl | simp (disch := omega) only [mup_n, mup_s, mput_n]) (by first | rfl | simp (disch := omega) only [mup_n, mup_s, mput_n]) hI.2.2.2.2.2.2.2.1), (Iw_c (by first | rfl | simp (disch := omega) only [mup_n, mup_s, mput_n]) hI.2.2.2.2.2.2.2.2)⟩
      · simp (disch := omega) only [nI_add, pk_mul, nI_leI, nI_ltI, nI_eq, ex_ix, nI_0lt, nI_0le, nat_rem, pk_div, pk_sub, bI_0, bI_1, mup_mup, mup_s, mup_n, mput_s, mput_n, and_true, true_and, not_true_eq_false, not_false_eq_true, ne_eq, Nat.zero_add, c4]
        rw [show d' + 1 - 1 = d' by omega]
      · intro j hj
        simp (disch := omega) only [mup_n, mup_s, mput_n, mput_s, mup_mup]
        exact c7 j hj
theorem p_redo : Sim 167 182 [] := by
  intro MI ML hI
  obtain ⟨n, hIn⟩ := hI.1
  obtain ⟨h8, hn, hm, hM, hP, z1, z2, z3, z4⟩ := hIn
  obtain ⟨d, m, c1, c2, c3, c4, c5, c6, c7⟩ := hI.2.1
  by_cases hd : d = m
  · subst hd
    exact ⟨_, _, _, _, _, mrc_of (EX10_redo (BX10_redo_0 (usei s_redoable (cT (by rw [c3, c5, pk_sub (Nat.le_refl _), Nat.sub_self]) eRr)))), mrc_of (EX11_redo (BX11_redo_0 (cT (by rw [c4, c6]) eRr))), hI⟩
  · obtain ⟨⟨p, hp, q1, q2, q3, q4⟩, q5, q6⟩ := c7 d (by omega)
    refine ⟨(nI (m - (d + 1))), _, ML, _, ML, mrc_of (EX10_redo (BX10_redo_0 (usei s_redoable (cF (by rw [c3, c5, pk_sub c1, nI_eq (by omega) (by omega)]; omega) (usev (s_stepOn c3 c5 (by omega) c2 q1 hp) (usei s_redoable (iR ?_ rfl))))))), mrc_of (EX11_redo (BX11_redo_0 (cF ?_ ⟨d, ?_, by omega, d, ?_, by omega, p, ?_, hp, iR ?_ rfl⟩))), ?_⟩
    · simp (disch := omega) only [mup_n, mup_s, mput_n, mput_s, mup_mup]
      rw [c5, pk_sub (by omega)]
    · simp (disch := omega) only [mup_n, mup_s, mput_n, mput_s, mup_mup]
      rw [c4, c6, nI_eq (by omega) (by omega)]
      omega
    · simp (disch := omega) only [mup_n, mup_s, mput_n, mput_s, mup_mup]
      exact c4
    · simp (disch := omega) only [mup_n, mup_s, mput_n, mput_s, mup_mup]
      exact c4
    · simp (disch := omega) only [mup_n, mup_s, mput_n, mput_s, mup_mup]
      exact q2
    · simp (disch := omega) only [nI_add, pk_mul, nI_leI, nI_ltI, nI_eq, ex_ix, nI_0lt, nI_0le, nat_rem, pk_div, pk_sub, bI_0, bI_1, mup_mup, mup_s, mup_n, mput_s, mput_n, and_true, true_and, not_true_eq_false, not_false_eq_true, ne_eq, Nat.zero_add, c4, c6]
    · refine ⟨Ip_put ⟨h8, hn, hm, hM, hP, z1, z2, z3, z4⟩ hp q4 (by simp (disch := omega) only [mup_n, mup_s, mput_n, mput_s, mup_mup]) (by simp (disch := omega) only [mup_n, mup_s, mput_n, mput_s, mup_mup]; rw [q6]) (by simp (disch := omega) only [mup_n, mup_s, mput_n, mput_s, mup_mup]) (by simp (disch := omega) only [mup_n, mup_s, mput_n, mput_s, mup_mup]) (by simp (disch := omega) only [mup_n, mup_s, mput_n, mput_s, mup_mup]) (by simp (disch := omega) only [mup_n, mup_s, mput_n, mput_s, mup_mup]) (by simp (disch := omega) only [mup_n, mup_s, mput_n, mput_s, mup_mup]) (by simp (disch := omega) only [mup_n, mup_s, mput_n, mput_s, mup_mup]), ⟨d + 1, m, by omega, by omega, by simp (disch := omega) only [mup_n, mup_s, mput_n, mput_s, mup_mup], ?_, by simp (disch := omega) only [mup_n, mup_s, mput_n, mput_s, mup_mup]; exact c5, by simp (disch := omega) only [mup_n, mup_s, mput_n, mput_s, mup_mup]; exact c6, ?_⟩, (It_c (by first | rfl | simp (disch := omega) only [mup_n, mup_s, mput_n]) (by first | rfl | simp (disch := omega) only [mup_n, mup_s, mput_n]) (by first | rfl | simp (disch := omega) only [mup_n, mup_s, mput_n]) (by first | rfl | simp (disch := omega) only [mup_n, mup_s, mput_n]) hI.2.2.1), (Il_c (by first | rfl | simp (disch := omega) only [mup_n, mup_s, mput_n]) (by first | rfl | simp (disch := omega) only [mup_n, mup_s, mput_n]) (by first | rfl | simp (disch := omega) only [mup_n, mup_s, mput_n]) (by first | rfl | simp (disch := omega) only [mup_n, mup_s, mput_n]) (by first | rfl | simp (disch := omega) only [mup_n, mup_s, mput_n]) (by first | rfl | simp (disch := omega) only [mup_n, mup_s, mput_n]) hI.2.2.2.1), (Is_c (by first | rfl | simp (disch := omega) only [mup_n, mup_s, mput_n]) (by first | rfl | simp (disch := omega) only [mup_n, mup_s, mput_n]) (by first | rfl | simp (disch := omega) only [mup_n, mup_s, mput_n]) (by first | rfl | simp (disch := omega) only [mup_n, mup_s, mput_n]) (by first | rfl | simp (disch := omega) only [mup_n, mup_s, mput_n]) (by first | rfl | simp (disch := omega) only [mup_n, mup_s, mput_n]) (by first | rfl | simp (disch := omega) only [mup_n, mup_s, mput_n]) (by first | rfl | simp (disch := omega) only [mup_n, mup_s, mput_n]) (by first | rfl | simp (disch := omega) only [mup_n, mup_s, mput_n]) (by first | rfl | simp (disch := omega) only [mup_n, mup_s, mput_n]) (by first | rfl | simp (disch := omega) only [mup_n, mup_s, mput_n]) hI.2.2.2.2.1), (Ir_c (by first | rfl | simp (disch := omega) only [mup_n, mup_s, mput_n]) (by first | rfl | simp (disch := omega) only [mup_n, mup_s, mput_n]) (by first | rfl | simp (disch := omega) only [mup_n, mup_s, mput_n]) (by first | rfl | simp (disch := omega) only [mup_n, mup_s, mput_n]) (by first | rfl | simp (disch := omega) only [mup_n, mup_s, mput_n]) hI.2.2.2.2.2.1), (Ib_c (by first | rfl | simp (disch := omega) only [mup_n, mup_s, mput_n]) (by first | rfl | simp (disch := omega) only [mup_n, mup_s, mput_n]) (by first | rfl | simp (disch := omega) only [mup_n, mup_s, mput_n]) (by first | rfl | simp (disch := omega) only [mup_n, mup_s, mput_n]) (by first | rfl | simp (disch := omega) only [mup_n, mup_s, mput_n]) (by first | rfl | simp (disch := omega) only [mup_n, mup_s, mput_n]) hI.2.2.2.2.2.2.1), (Ii_c (by first | rfl | simp (disch := omega) only [mup_n, mup_s, mput_n]) (by first | rfl | simp (disch := omega) only [mup_n, mup_s, mput_n]) (by first | rfl | simp (disch := omega) only [mup_n, mup_s, mput_n]) (by first | rfl | simp (disch := omega) only [mup_n, mup_s, mput_n]) (by first | rfl | simp (disch := omega) only [mup_n, mup_s, mput_n]) (by first | rfl | simp (disch := omega) only [mup_n, mup_s, mput_n]) (by first | rfl | simp (disch := omega) only [mup_n, mup_s, mput_n]) hI.2.2.2.2.2.2.2.1), (Iw_c (by first | rfl | simp (disch := omega) only [mup_n, mup_s, mput_n]) hI.2.2.2.2.2.2.2.2)⟩
      · simp (disch := omega) only [nI_add, pk_mul, nI_leI, nI_ltI, nI_eq, ex_ix, nI_0lt, nI_0le, nat_rem, pk_div, pk_sub, bI_0, bI_1, mup_mup, mup_s, mup_n, mput_s, mput_n, and_true, true_and, not_true_eq_false, not_false_eq_true, ne_eq, Nat.zero_add, c4]
      · intro j hj
        simp (disch := omega) only [mup_n, mup_s, mput_n, mput_s, mup_mup]
        exact c7 j hj
theorem Ib_led {c : Nat} (hI : Inv MI ML) {MI' : mI} (hc : c < 6) (h34 : MI' 34 = mput (MI 34) c (MI 34 c + nI 1)) (h70 : MI' 70 = mput (MI 70) c (MI 70 c + nI 1)) (h33 : MI' 33 2 = MI 33 2) (h35 : MI' 35 = MI 35) (h46 : MI' 46 37 = MI 46 37) (h71 : MI' 71 = MI 71) : Ib MI' := by
  obtain ⟨b1, tl, b2, b3, b4, b5⟩ := hI.2.2.2.2.2.2.1
  refine ⟨fun j hj => ?_, tl, b2, h33.trans b3, h46.trans b4, fun j hj => by rw [h71, h35]; exact b5 j hj⟩
  rw [h34, h70]
  by_cases e : j = c
  · subst e; rw [mput_s, mput_s, b1 j hj]
  · rw [mput_n e, mput_n e]; exact b1 j hj
theorem p_wrong (x v : Int32) : Sim 159 242 [.int x, .int v] := by
  intro MI ML hI
  obtain ⟨n, hIn⟩ := hI.1
  obtain ⟨h8, hn, hm, hM, hP, z1, z2, z3, z4⟩ := hIn
  by_cases h : pairB n x = true
  · by_cases hw : wiB (nI 1) (nI 9) v = true
    · obtain ⟨i, j, hi, hj, hne, ei, ej⟩ := pairB_ix h8 h
      have hw2 := hw
      simp only [wiB, Bool.and_eq_true, Bool.not_eq_true', decide_eq_false_iff_not] at hw2
      refine ⟨((if MI 2 (20 + j * 8 + i) - v < -9 then -9 else MI 2 (20 + j * 8 + i) - v) + nI 100), (mup (mup MI 2 (mput (MI 2) (20 + j * 8 + i) (if MI 2 (20 + j * 8 + i) - v < -9 then -9 else MI 2 (20 + j * 8 + i) - v))) 34 (mput (MI 34) 3 (MI 34 3 + nI 1))), ML, (mup (mup (mup (mup MI 2 (mput (MI 2) (20 + j * 8 + i) (if MI 2 (20 + j * 8 + i) - v < -9 then -9 else MI 2 (20 + j * 8 + i) - v))) 34 (mput (MI 34) 3 (MI 34 3 + nI 1))) 47 (mput (MI 2) (20 + j * 8 + i) (if MI 2 (20 + j * 8 + i) - v < -9 then -9 else MI 2 (20 + j * 8 + i) - v))) 70 (mput (MI 70) 3 (MI 70 3 + nI 1))), ML, mrc_of (EX10_wrong (BX10_wrong_0 (usei (s_hasPair bz1 hn) (bT h (cF hw2.1 (cT (fa_of_nlt hw2.2) ?_)))))), mrc_of (EX11_wrong_ (BX11_wrong__0 (usei (t_isPair ?_ h8) (bT h (usei (t_within (lo := nI 1) (hi := nI 9) rfl rfl) (bT hw ?_)))))), ?_⟩
      · rw [ej, ei]
        exact usei (s_felt bz1 (by omega) (by omega)) (usev (s_setFelt bz1 (by omega) (by omega)) (usev (s_bkAdd (by decide)) (iR rfl (by simp (disch := omega) only [mup_n, mup_s, mput_n, mput_s, mup_mup]))))
      · simp (disch := omega) only [mup_n, mup_s, mput_n, mput_s, mup_mup]
        exact hm
      · rw [ej, ei]
        refine usei t_felt ⟨_, rfl, by omega, _, rfl, by omega, _, rfl, by omega, iR ?_ ?_⟩
        · simp (disch := omega) only [mup_n, mup_s, mput_n, mput_s, mup_mup]
          rw [hM, mm1]
        · simp (disch := omega) only [mup_n, mup_s, mput_n, mput_s, mup_mup]
          rw [hM, mm1]
      · have b := wi_ti hw
        have b2 := okv_all (hP.1 (20 + j * 8 + i) (by omega))
        have e1 : (nI 1).toInt = 1 := by decide
        have e9 : (nI 9).toInt = 9 := by decide
        have hok : okv (20 + j * 8 + i) (if MI 2 (20 + j * 8 + i) - v < -9 then -9 else MI 2 (20 + j * 8 + i) - v) := by
          have b3 := (okv_ft (by omega) (by omega) (by omega)).mp (hP.1 (20 + j * 8 + i) (by omega))
          rw [okv_ft (by omega) (by omega) (by omega)]
          have es := ti_sub (x := MI 2 (20 + j * 8 + i)) (y := v) (by omega) (by omega) (by omega) (by omega)
          split
          · rw [m9]; omega
          · next hh => rw [fa_lt, m9] at hh; omega
        refine ⟨Ip_put ⟨h8, hn, hm, hM, hP, z1, z2, z3, z4⟩ (by omega : 20 + j * 8 + i < 84) hok (by simp (disch := omega) only [mup_n, mup_s, mput_n, mput_s, mup_mup]) (by simp (disch := omega) only [mup_n, mup_s, mput_n, mput_s, mup_mup]; rw [hM]) (by simp (disch := omega) only [mup_n, mup_s, mput_n, mput_s, mup_mup]) (by simp (disch := omega) only [mup_n, mup_s, mput_n, mput_s, mup_mup]) (by simp (disch := omega) only [mup_n, mup_s, mput_n, mput_s, mup_mup]) (by simp (disch := omega) only [mup_n, mup_s, mput_n, mput_s, mup_mup]) (by simp (disch := omega) only [mup_n, mup_s, mput_n, mput_s, mup_mup]) (by simp (disch := omega) only [mup_n, mup_s, mput_n, mput_s, mup_mup]), (Ic_c (by first | rfl | simp (disch := omega) only [mup_n, mup_s, mput_n]) (by first | rfl | simp (disch := omega) only [mup_n, mup_s, mput_n]) (by first | rfl | simp (disch := omega) only [mup_n, mup_s, mput_n]) (by first | rfl | simp (disch := omega) only [mup_n, mup_s, mput_n]) (by first | rfl | simp (disch := omega) only [mup_n, mup_s, mput_n]) (by first | rfl | simp (disch := omega) only [mup_n, mup_s, mput_n]) (by first | rfl | simp (disch := omega) only [mup_n, mup_s, mput_n]) (by first | rfl | simp (disch := omega) only [mup_n, mup_s, mput_n]) (by first | rfl | simp (disch := omega) only [mup_n, mup_s, mput_n]) (by first | rfl | simp (disch := omega) only [mup_n, mup_s, mput_n]) hI.2.1), (It_c (by first | rfl | simp (disch := omega) only [mup_n, mup_s, mput_n]) (by first | rfl | simp (disch := omega) only [mup_n, mup_s, mput_n]) (by first | rfl | simp (disch := omega) only [mup_n, mup_s, mput_n]) (by first | rfl | simp (disch := omega) only [mup_n, mup_s, mput_n]) hI.2.2.1), (Il_c (by first | rfl | simp (disch := omega) only [mup_n, mup_s, mput_n]) (by first | rfl | simp (disch := omega) only [mup_n, mup_s, mput_n]) (by first | rfl | simp (disch := omega) only [mup_n, mup_s, mput_n]) (by first | rfl | simp (disch := omega) only [mup_n, mup_s, mput_n]) (by first | rfl | simp (disch := omega) only [mup_n, mup_s, mput_n]) (by first | rfl | simp (disch := omega) only [mup_n, mup_s, mput_n]) hI.2.2.2.1), (Is_c (by first | rfl | simp (disch := omega) only [mup_n, mup_s, mput_n]) (by first | rfl | simp (disch := omega) only [mup_n, mup_s, mput_n]) (by first | rfl | simp (disch := omega) only [mup_n, mup_s, mput_n]) (by first | rfl | simp (disch := omega) only [mup_n, mup_s, mput_n]) (by first | rfl | simp (disch := omega) only [mup_n, mup_s, mput_n]) (by first | rfl | simp (disch := omega) only [mup_n, mup_s, mput_n]) (by first | rfl | simp (disch := omega) only [mup_n, mup_s, mput_n]) (by first | rfl | simp (disch := omega) only [mup_n, mup_s, mput_n]) (by first | rfl | simp (disch := omega) only [mup_n, mup_s, mput_n]) (by first | rfl | simp (disch := omega) only [mup_n, mup_s, mput_n]) (by first | rfl | simp (disch := omega) only [mup_n, mup_s, mput_n]) hI.2.2.2.2.1), (Ir_c (by first | rfl | simp (disch := omega) only [mup_n, mup_s, mput_n]) (by first | rfl | simp (disch := omega) only [mup_n, mup_s, mput_n]) (by first | rfl | simp (disch := omega) only [mup_n, mup_s, mput_n]) (by first | rfl | simp (disch := omega) only [mup_n, mup_s, mput_n]) (by first | rfl | simp (disch := omega) only [mup_n, mup_s, mput_n]) hI.2.2.2.2.2.1), Ib_led (c := 3) hI (by decide) (by simp (disch := omega) only [mup_n, mup_s, mput_n, mput_s, mup_mup]) (by simp (disch := omega) only [mup_n, mup_s, mput_n, mput_s, mup_mup]) (by simp (disch := omega) only [mup_n, mup_s, mput_n, mput_s, mup_mup]) (by simp (disch := omega) only [mup_n, mup_s, mput_n, mput_s, mup_mup]) (by simp (disch := omega) only [mup_n, mup_s, mput_n, mput_s, mup_mup]) (by simp (disch := omega) only [mup_n, mup_s, mput_n, mput_s, mup_mup]), (Ii_c (by first | rfl | simp (disch := omega) only [mup_n, mup_s, mput_n]) (by first | rfl | simp (disch := omega) only [mup_n, mup_s, mput_n]) (by first | rfl | simp (disch := omega) only [mup_n, mup_s, mput_n]) (by first | rfl | simp (disch := omega) only [mup_n, mup_s, mput_n]) (by first | rfl | simp (disch := omega) only [mup_n, mup_s, mput_n]) (by first | rfl | simp (disch := omega) only [mup_n, mup_s, mput_n]) (by first | rfl | simp (disch := omega) only [mup_n, mup_s, mput_n]) hI.2.2.2.2.2.2.2.1), (Iw_c (by first | rfl | simp (disch := omega) only [mup_n, mup_s, mput_n]) hI.2.2.2.2.2.2.2.2)⟩
    · refine ⟨(-1), MI, ML, MI, ML, mrc_of (EX10_wrong (BX10_wrong_0 (usei (s_hasPair bz1 hn) (bT h (br (fun _ => eRr) (fun h1 => br (fun h2 => absurd ?_ hw) (fun _ => eRr))))))), mrc_of (EX11_wrong_ (BX11_wrong__0 (usei (t_isPair hm h8) (bT h (usei (t_within (lo := nI 1) (hi := nI 9) rfl rfl) (bF (bnf hw) eRr)))))), hI⟩
      simp only [wiB, Bool.and_eq_true, Bool.not_eq_true', decide_eq_false_iff_not]
      refine ⟨h1, ?_⟩
      rw [fa_le] at h2
      rw [fa_lt]
      omega
  · exact ⟨_, _, _, _, _, mrc_of (EX10_wrong (BX10_wrong_0 (usei (s_hasPair bz1 hn) (bF (bnf h) eRr)))), mrc_of (EX11_wrong_ (BX11_wrong__0 (usei (t_isPair hm h8) (bF (bnf h) eRr)))), hI⟩
theorem p_gift (x v : Int32) : Sim 161 244 [.int x, .int v] := by
  intro MI ML hI
  obtain ⟨n, hIn⟩ := hI.1
  obtain ⟨h8, hn, hm, hM, hP, z1, z2, z3, z4⟩ := hIn
  by_cases h : pairB n x = true
  · by_cases hw : wiB (nI 1) (nI 99) v = true
    · obtain ⟨i, j, hi, hj, hne, ei, ej⟩ := pairB_ix h8 h
      have hw2 := hw
      simp only [wiB, Bool.and_eq_true, Bool.not_eq_true', decide_eq_false_iff_not] at hw2
      refine ⟨(mn (MI 2 i + v) (nI 99)), (mup (mup MI 2 (mput (mput (MI 2) i (mn (MI 2 i + v) (nI 99))) j (mx (MI 2 j - v) (nI 0)))) 34 (mput (MI 34) 5 (MI 34 5 + nI 1))), ML, (mup (mup (mup (mup MI 2 (mput (mput (MI 2) i (mn (MI 2 i + v) (nI 99))) j (mx (MI 2 j - v) (nI 0)))) 34 (mput (MI 34) 5 (MI 34 5 + nI 1))) 47 (mput (mput (MI 2) i (mn (MI 2 i + v) (nI 99))) j (mx (MI 2 j - v) (nI 0)))) 70 (mput (MI 70) 5 (MI 70 5 + nI 1))), ML, mrc_of (EX10_gift (BX10_gift_0 (usei (s_hasPair bz1 hn) (bT h (cF hw2.1 (cT (fa_of_nlt hw2.2) ?_)))))), mrc_of (EX11_gift (BX11_gift_0 (usei (t_isPair ?_ h8) (bT h (usei (t_within (lo := nI 1) (hi := nI 99) rfl rfl) (bT hw ?_)))))), ?_⟩
      · rw [ej, ei]
        refine usev (s_hungerMore bz1 (by omega)) (usev (s_hungerLess bz1 (by omega)) (usev (s_bkAdd (by decide)) (usei (s_hungerOf bz1 (by omega)) (iR ?_ ?_))))
        · simp (disch := omega) only [mup_n, mup_s, mput_n, mput_s, mup_mup]
        · simp (disch := omega) only [mup_n, mup_s, mput_n, mput_s, mup_mup]
      · simp (disch := omega) only [mup_n, mup_s, mput_n, mput_s, mup_mup]
        exact hm
      · rw [ej, ei]
        refine ⟨i, rfl, by omega, i, rfl, by omega, j, rfl, by omega, j, rfl, by omega, i, rfl, by omega, iR ?_ ?_⟩
        · simp (disch := omega) only [mup_n, mup_s, mput_n, mput_s, mup_mup]
          rw [hM, mm2]
        · simp (disch := omega) only [mup_n, mup_s, mput_n, mput_s, mup_mup]
          rw [hM]
          unfold mn mx
          rw [mm2, mm1]
      · have b := wi_ti hw
        have e1 : (nI 1).toInt = 1 := by decide
        have e9 : (nI 99).toInt = 99 := by decide
        have b1 := (okv_hu (by omega : i < 8)).mp (hP.1 i (by omega))
        have b2 := (okv_hu (by omega : j < 8)).mp (hP.1 j (by omega))
        have hok : okv i (mn (MI 2 i + v) (nI 99)) := by
          rw [okv_hu (by omega)]
          have es := ti_add (x := MI 2 i) (y := v) (by omega) (by omega) (by omega) (by omega)
          unfold mn
          split
          · omega
          · next hh => rw [fa_lt] at hh; omega
        have hok2 : okv j (mx (MI 2 j - v) (nI 0)) := by
          rw [okv_hu (by omega)]
          have es := ti_sub (x := MI 2 j) (y := v) (by omega) (by omega) (by omega) (by omega)
          unfold mx
          split
          · rw [nI0_ti]; omega
          · next hh => rw [fa_lt, nI0_ti] at hh; omega
        have hpb : PB (mput (mput (MI 2) i (mn (MI 2 i + v) (nI 99))) j (mx (MI 2 j - v) (nI 0))) := (hP.put (by omega) hok).put (by omega) hok2
        refine ⟨⟨n, h8, by simp (disch := omega) only [mup_n, mup_s, mput_n, mput_s, mup_mup]; exact hn, by simp (disch := omega) only [mup_n, mup_s, mput_n, mput_s, mup_mup]; exact hm, ?_, ?_, ?_, ?_, ?_, ?_⟩, (Ic_c (by first | rfl | simp (disch := omega) only [mup_n, mup_s, mput_n]) (by first | rfl | simp (disch := omega) only [mup_n, mup_s, mput_n]) (by first | rfl | simp (disch := omega) only [mup_n, mup_s, mput_n]) (by first | rfl | simp (disch := omega) only [mup_n, mup_s, mput_n]) (by first | rfl | simp (disch := omega) only [mup_n, mup_s, mput_n]) (by first | rfl | simp (disch := omega) only [mup_n, mup_s, mput_n]) (by first | rfl | simp (disch := omega) only [mup_n, mup_s, mput_n]) (by first | rfl | simp (disch := omega) only [mup_n, mup_s, mput_n]) (by first | rfl | simp (disch := omega) only [mup_n, mup_s, mput_n]) (by first | rfl | simp (disch := omega) only [mup_n, mup_s, mput_n]) hI.2.1), (It_c (by first | rfl | simp (disch := omega) only [mup_n, mup_s, mput_n]) (by first | rfl | simp (disch := omega) only [mup_n, mup_s, mput_n]) (by first | rfl | simp (disch := omega) only [mup_n, mup_s, mput_n]) (by first | rfl | simp (disch := omega) only [mup_n, mup_s, mput_n]) hI.2.2.1), (Il_c (by first | rfl | simp (disch := omega) only [mup_n, mup_s, mput_n]) (by first | rfl | simp (disch := omega) only [mup_n, mup_s, mput_n]) (by first | rfl | simp (disch := omega) only [mup_n, mup_s, mput_n]) (by first | rfl | simp (disch := omega) only [mup_n, mup_s, mput_n]) (by first | rfl | simp (disch := omega) only [mup_n, mup_s, mput_n]) (by first | rfl | simp (disch := omega) only [mup_n, mup_s, mput_n]) hI.2.2.2.1), (Is_c (by first | rfl | simp (disch := omega) only [mup_n, mup_s, mput_n]) (by first | rfl | simp (disch := omega) only [mup_n, mup_s, mput_n]) (by first | rfl | simp (disch := omega) only [mup_n, mup_s, mput_n]) (by first | rfl | simp (disch := omega) only [mup_n, mup_s, mput_n]) (by first | rfl | simp (disch := omega) only [mup_n, mup_s, mput_n]) (by first | rfl | simp (disch := omega) only [mup_n, mup_s, mput_n]) (by first | rfl | simp (disch := omega) only [mup_n, mup_s, mput_n]) (by first | rfl | simp (disch := omega) only [mup_n, mup_s, mput_n]) (by first | rfl | simp (disch := omega) only [mup_n, mup_s, mput_n]) (by first | rfl | simp (disch := omega) only [mup_n, mup_s, mput_n]) (by first | rfl | simp (disch := omega) only [mup_n, mup_s, mput_n]) hI.2.2.2.2.1), (Ir_c (by first | rfl | simp (disch := omega) only [mup_n, mup_s, mput_n]) (by first | rfl | simp (disch := omega) only [mup_n, mup_s, mput_n]) (by first | rfl | simp (disch := omega) only [mup_n, mup_s, mput_n]) (by first | rfl | simp (disch := omega) only [mup_n, mup_s, mput_n]) (by first | rfl | simp (disch := omega) only [mup_n, mup_s, mput_n]) hI.2.2.2.2.2.1), Ib_led (c := 5) hI (by decide) (by simp (disch := omega) only [mup_n, mup_s, mput_n, mput_s, mup_mup]) (by simp (disch := omega) only [mup_n, mup_s, mput_n, mput_s, mup_mup]) (by simp (disch := omega) only [mup_n, mup_s, mput_n, mput_s, mup_mup]) (by simp (disch := omega) only [mup_n, mup_s, mput_n, mput_s, mup_mup]) (by simp (disch := omega) only [mup_n, mup_s, mput_n, mput_s, mup_mup]) (by simp (disch := omega) only [mup_n, mup_s, mput_n, mput_s, mup_mup]), (Ii_c (by first | rfl | simp (disch := omega) only [mup_n, mup_s, mput_n]) (by first | rfl | simp (disch := omega) only [mup_n, mup_s, mput_n]) (by first | rfl | simp (disch := omega) only [mup_n, mup_s, mput_n]) (by first | rfl | simp (disch := omega) only [mup_n, mup_s, mput_n]) (by first | rfl | simp (disch := omega) only [mup_n, mup_s, mput_n]) (by first | rfl | simp (disch := omega) only [mup_n, mup_s, mput_n]) (by first | rfl | simp (disch := omega) only [mup_n, mup_s, mput_n]) hI.2.2.2.2.2.2.2.1), (Iw_c (by first | rfl | simp (disch := omega) only [mup_n, mup_s, mput_n]) hI.2.2.2.2.2.2.2.2)⟩
        · simp (disch := omega) only [mup_n, mup_s, mput_n, mput_s, mup_mup]
        · simp (disch := omega) only [mup_n, mup_s, mput_n, mput_s, mup_mup]
          exact hpb
        · simp (disch := omega) only [mup_n, mup_s, mput_n, mput_s, mup_mup]
          exact z1
        · simp (disch := omega) only [mup_n, mup_s, mput_n, mput_s, mup_mup]
          exact z2
        · simp (disch := omega) only [mup_n, mup_s, mput_n, mput_s, mup_mup]
          exact z3
        · simp (disch := omega) only [mup_n, mup_s, mput_n, mput_s, mup_mup]
          exact z4
    · refine ⟨(-1), MI, ML, MI, ML, mrc_of (EX10_gift (BX10_gift_0 (usei (s_hasPair bz1 hn) (bT h (br (fun _ => eRr) (fun h1 => br (fun h2 => absurd ?_ hw) (fun _ => eRr))))))), mrc_of (EX11_gift (BX11_gift_0 (usei (t_isPair hm h8) (bT h (usei (t_within (lo := nI 1) (hi := nI 99) rfl rfl) (bF (bnf hw) eRr)))))), hI⟩
      simp only [wiB, Bool.and_eq_true, Bool.not_eq_true', decide_eq_false_iff_not]
      refine ⟨h1, ?_⟩
      rw [fa_le] at h2
      rw [fa_lt]
      omega
  · exact ⟨_, _, _, _, _, mrc_of (EX10_gift (BX10_gift_0 (usei (s_hasPair bz1 hn) (bF (bnf h) eRr)))), mrc_of (EX11_gift (BX11_gift_0 (usei (t_isPair hm h8) (bF (bnf h) eRr)))), hI⟩
theorem p_lease (x v : Int32) : Sim 160 243 [.int x, .int v] := by
  intro MI ML hI
  obtain ⟨n, hIn⟩ := hI.1
  obtain ⟨h8, hn, hm, hM, hP, z1, z2, z3, z4⟩ := hIn
  by_cases h : pairB n x = true
  · by_cases hv : hasB n v = true
    · obtain ⟨i, j, hi, hj, hne, ei, ej⟩ := pairB_ix h8 h
      obtain ⟨c, hc, rfl⟩ := hasB_ix h8 hv
      by_cases h1 : nI c = x / nI 10
      · exact ⟨_, _, _, _, _, mrc_of (EX10_lease (BX10_lease_0 (usei (s_hasPair bz1 hn) (bT h (usei (s_has bz1 hn) (bT hv (cT h1 eRr))))))), mrc_of (EX11_lease (BX11_lease_0 (usei (t_isPair hm h8) (bT h (usei (t_isOne hm h8) (bT hv (cT h1 eRr))))))), hI⟩
      · by_cases h2 : nI c = x - x / nI 10 * nI 10
        · exact ⟨_, _, _, _, _, mrc_of (EX10_lease (BX10_lease_0 (usei (s_hasPair bz1 hn) (bT h (usei (s_has bz1 hn) (bT hv (cF h1 (cT h2 eRr)))))))), mrc_of (EX11_lease (BX11_lease_0 (usei (t_isPair hm h8) (bT h (usei (t_isOne hm h8) (bT hv (cF h1 (cT h2 eRr)))))))), hI⟩
        · have c1 : c ≠ i := fun e => h1 (by rw [ei, e])
          have c2 : c ≠ j := fun e => h2 (by rw [ej, e])
          by_cases h3 : MI 2 (20 + j * 8 + c) < nI 0
          · refine ⟨(MI 2 (20 + j * 8 + c) + nI 100), (mup (mup MI 2 (mput (mput (MI 2) (20 + i * 8 + c) (MI 2 (20 + j * 8 + c))) (20 + j * 8 + c) (nI 0))) 34 (mput (MI 34) 4 (MI 34 4 + nI 1))), ML, (mup (mup (mup (mup MI 2 (mput (mput (MI 2) (20 + i * 8 + c) (MI 2 (20 + j * 8 + c))) (20 + j * 8 + c) (nI 0))) 34 (mput (MI 34) 4 (MI 34 4 + nI 1))) 47 (mput (mput (MI 2) (20 + i * 8 + c) (MI 2 (20 + j * 8 + c))) (20 + j * 8 + c) (nI 0))) 70 (mput (MI 70) 4 (MI 70 4 + nI 1))), ML, mrc_of (EX10_lease (BX10_lease_0 (usei (s_hasPair bz1 hn) (bT h (usei (s_has bz1 hn) (bT hv (cF h1 (cF h2 ?_)))))))), mrc_of (EX11_lease (BX11_lease_0 (usei (t_isPair ?_ h8) (bT h (usei (t_isOne ?_ h8) (bT hv (cF h1 (cF h2 ?_)))))))), ?_⟩
            · rw [ej, ei]
              exact usei (s_felt bz1 (by omega) (by omega)) (cT h3 (usev (s_setFelt bz1 (by omega) (by omega)) (usev (s_setFelt bz1 (by omega) (by omega)) (usev (s_bkAdd (by decide)) (iR rfl (by simp (disch := omega) only [mup_n, mup_s, mput_n, mput_s, mup_mup]))))))
            · simp (disch := omega) only [mup_n, mup_s, mput_n, mput_s, mup_mup]
              exact hm
            · simp (disch := omega) only [mup_n, mup_s, mput_n, mput_s, mup_mup]
              exact hm
            · rw [ej, ei]
              refine usei t_felt ⟨_, rfl, by omega, cT ?_ (usei t_felt ⟨_, rfl, by omega, _, rfl, by omega, _, rfl, by omega, _, rfl, by omega, iR ?_ ?_⟩)⟩
              · simp (disch := omega) only [mup_n, mup_s, mput_n, mput_s, mup_mup]
                rw [hM]
                exact h3
              · simp (disch := omega) only [mup_n, mup_s, mput_n, mput_s, mup_mup]
                rw [hM]
              · simp (disch := omega) only [mup_n, mup_s, mput_n, mput_s, mup_mup]
                rw [hM]
            · have b3 := (okv_ft (by omega) (by omega) (by omega)).mp (hP.1 (20 + j * 8 + c) (by omega))
              have hpb : PB (mput (mput (MI 2) (20 + i * 8 + c) (MI 2 (20 + j * 8 + c))) (20 + j * 8 + c) (nI 0)) := (hP.put (by omega) ((okv_ft (by omega) (by omega) (by omega)).mpr b3)).put (by omega) (okv_0 _ (by omega))
              refine ⟨⟨n, h8, by simp (disch := omega) only [mup_n, mup_s, mput_n, mput_s, mup_mup]; exact hn, by simp (disch := omega) only [mup_n, mup_s, mput_n, mput_s, mup_mup]; exact hm, ?_, ?_, ?_, ?_, ?_, ?_⟩, (Ic_c (by first | rfl | simp (disch := omega) only [mup_n, mup_s, mput_n]) (by first | rfl | simp (disch := omega) only [mup_n, mup_s, mput_n]) (by first | rfl | simp (disch := omega) only [mup_n, mup_s, mput_n]) (by first | rfl | simp (disch := omega) only [mup_n, mup_s, mput_n]) (by first | rfl | simp (disch := omega) only [mup_n, mup_s, mput_n]) (by first | rfl | simp (disch := omega) only [mup_n, mup_s, mput_n]) (by first | rfl | simp (disch := omega) only [mup_n, mup_s, mput_n]) (by first | rfl | simp (disch := omega) only [mup_n, mup_s, mput_n]) (by first | rfl | simp (disch := omega) only [mup_n, mup_s, mput_n]) (by first | rfl | simp (disch := omega) only [mup_n, mup_s, mput_n]) hI.2.1), (It_c (by first | rfl | simp (disch := omega) only [mup_n, mup_s, mput_n]) (by first | rfl | simp (disch := omega) only [mup_n, mup_s, mput_n]) (by first | rfl | simp (disch := omega) only [mup_n, mup_s, mput_n]) (by first | rfl | simp (disch := omega) only [mup_n, mup_s, mput_n]) hI.2.2.1), (Il_c (by first | rfl | simp (disch := omega) only [mup_n, mup_s, mput_n]) (by first | rfl | simp (disch := omega) only [mup_n, mup_s, mput_n]) (by first | rfl | simp (disch := omega) only [mup_n, mup_s, mput_n]) (by first | rfl | simp (disch := omega) only [mup_n, mup_s, mput_n]) (by first | rfl | simp (disch := omega) only [mup_n, mup_s, mput_n]) (by first | rfl | simp (disch := omega) only [mup_n, mup_s, mput_n]) hI.2.2.2.1), (Is_c (by first | rfl | simp (disch := omega) only [mup_n, mup_s, mput_n]) (by first | rfl | simp (disch := omega) only [mup_n, mup_s, mput_n]) (by first | rfl | simp (disch := omega) only [mup_n, mup_s, mput_n]) (by first | rfl | simp (disch := omega) only [mup_n, mup_s, mput_n]) (by first | rfl | simp (disch := omega) only [mup_n, mup_s, mput_n]) (by first | rfl | simp (disch := omega) only [mup_n, mup_s, mput_n]) (by first | rfl | simp (disch := omega) only [mup_n, mup_s, mput_n]) (by first | rfl | simp (disch := omega) only [mup_n, mup_s, mput_n]) (by first | rfl | simp (disch := omega) only [mup_n, mup_s, mput_n]) (by first | rfl | simp (disch := omega) only [mup_n, mup_s, mput_n]) (by first | rfl | simp (disch := omega) only [mup_n, mup_s, mput_n]) hI.2.2.2.2.1), (Ir_c (by first | rfl | simp (disch := omega) only [mup_n, mup_s, mput_n]) (by first | rfl | simp (disch := omega) only [mup_n, mup_s, mput_n]) (by first | rfl | simp (disch := omega) only [mup_n, mup_s, mput_n]) (by first | rfl | simp (disch := omega) only [mup_n, mup_s, mput_n]) (by first | rfl | simp (disch := omega) only [mup_n, mup_s, mput_n]) hI.2.2.2.2.2.1), Ib_led (c := 4) hI (by decide) (by simp (disch := omega) only [mup_n, mup_s, mput_n, mput_s, mup_mup]) (by simp (disch := omega) only [mup_n, mup_s, mput_n, mput_s, mup_mup]) (by simp (disch := omega) only [mup_n, mup_s, mput_n, mput_s, mup_mup]) (by simp (disch := omega) only [mup_n, mup_s, mput_n, mput_s, mup_mup]) (by simp (disch := omega) only [mup_n, mup_s, mput_n, mput_s, mup_mup]) (by simp (disch := omega) only [mup_n, mup_s, mput_n, mput_s, mup_mup]), (Ii_c (by first | rfl | simp (disch := omega) only [mup_n, mup_s, mput_n]) (by first | rfl | simp (disch := omega) only [mup_n, mup_s, mput_n]) (by first | rfl | simp (disch := omega) only [mup_n, mup_s, mput_n]) (by first | rfl | simp (disch := omega) only [mup_n, mup_s, mput_n]) (by first | rfl | simp (disch := omega) only [mup_n, mup_s, mput_n]) (by first | rfl | simp (disch := omega) only [mup_n, mup_s, mput_n]) (by first | rfl | simp (disch := omega) only [mup_n, mup_s, mput_n]) hI.2.2.2.2.2.2.2.1), (Iw_c (by first | rfl | simp (disch := omega) only [mup_n, mup_s, mput_n]) hI.2.2.2.2.2.2.2.2)⟩
              · simp (disch := omega) only [mup_n, mup_s, mput_n, mput_s, mup_mup]
              · simp (disch := omega) only [mup_n, mup_s, mput_n, mput_s, mup_mup]
                exact hpb
              · simp (disch := omega) only [mup_n, mup_s, mput_n, mput_s, mup_mup]
                exact z1
              · simp (disch := omega) only [mup_n, mup_s, mput_n, mput_s, mup_mup]
                exact z2
              · simp (disch := omega) only [mup_n, mup_s, mput_n, mput_s, mup_mup]
                exact z3
              · simp (disch := omega) only [mup_n, mup_s, mput_n, mput_s, mup_mup]
                exact z4
          · refine ⟨(-5), MI, ML, MI, ML, mrc_of (EX10_lease (BX10_lease_0 (usei (s_hasPair bz1 hn) (bT h (usei (s_has bz1 hn) (bT hv (cF h1 (cF h2 ?_)))))))), mrc_of (EX11_lease (BX11_lease_0 (usei (t_isPair hm h8) (bT h (usei (t_isOne hm h8) (bT hv (cF h1 (cF h2 ?_)))))))), hI⟩
            · rw [ej]
              exact usei (s_felt bz1 (by omega) (by omega)) (cF h3 eRr)
            · rw [ej]
              exact usei t_felt ⟨_, rfl, by omega, cF (by rw [hM]; exact h3) eRr⟩
    · exact ⟨_, _, _, _, _, mrc_of (EX10_lease (BX10_lease_0 (usei (s_hasPair bz1 hn) (bT h (usei (s_has bz1 hn) (bF (bnf hv) eRr)))))), mrc_of (EX11_lease (BX11_lease_0 (usei (t_isPair hm h8) (bT h (usei (t_isOne hm h8) (bF (bnf hv) eRr)))))), hI⟩
  · exact ⟨_, _, _, _, _, mrc_of (EX10_lease (BX10_lease_0 (usei (s_hasPair bz1 hn) (bF (bnf h) eRr)))), mrc_of (EX11_lease (BX11_lease_0 (usei (t_isPair hm h8) (bF (bnf h) eRr)))), hI⟩
end P4
