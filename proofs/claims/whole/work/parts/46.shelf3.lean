/-! shelves: more pairs -/
theorem sort_of {s : Nat} (h : s < 5) : sortB (nI s) = true := by
  unfold sortB
  rw [decide_eq_false (nI_nlt (Nat.zero_le _) (by omega)), decide_eq_false (nI_nlt (by omega) (by omega))]
  rfl
theorem lowB0 (v : Int64) : -128 ≤ (lowB (nI 0) v).toInt ∧ (lowB (nI 0) v).toInt ≤ 127 := by
  unfold lowB
  rw [if_pos rfl, Int32.toInt_toInt64, Int8.toInt_toInt32]
  have h1 := Int8.le_toInt v.toInt32.toInt8
  have h2 := Int8.toInt_lt v.toInt32.toInt8
  omega
section P6
variable {D d n nb : Nat} {MI : mI} {ML : mJ} {x y z : Int32}
theorem t_asSort {v : Int64} : mrc (D + 1) 264 [.int x, .long v] MI ML (some (.long (lowB x v))) MI ML := by
  have h34 : nI 3 ≠ nI 4 := by decide
  refine mrc_of (EX11_asSort (BX11_asSort_0 ?_))
  repeat' first | refine br (fun _ => ?_) (fun _ => ?_)
  all_goals (refine lR ?_; grind [lowB])
theorem m1lt : (-1 : Int32) < nI 0 := by decide
theorem t_refusal {L : mJ} (h50 : nb ≤ 50) (hd : d < 6) (h : Isd nb d MI ML) : mrc (D + 3) 263 [.ref 46, .int (nI d), .int x] MI L (some (.int (refPl (MI 11 d) (MI 12 d) x))) MI L := by
  refine mrc_of (EX11_refusal (BX11_refusal_0 (usei t_isShelf ?_)))
  refine bT (by rw [hasB_nI (by omega) (by omega), decide_eq_true hd]) ⟨d, rfl, hd, ?_⟩
  rcases h with ⟨h1, h2, h3, h4⟩ | ⟨b, hb, h1, h2, h3, h4, h5⟩ | ⟨s, z, hs, hz, h1, h2, h3, h4, h5⟩
  · rw [h1, h2]
    exact cF (by decide) (iR rfl rfl)
  · rw [h1]
    refine cT (by rw [h3]; exact nI_le (Nat.zero_le _) (by omega)) ⟨d, rfl, hd, cF (by rw [h3]; exact nI_ge (by omega) (by omega)) (iR ?_ rfl)⟩
    rfl
  · rw [h1, h3]
    have e : refPl (nI s) (nI z) x = (if plB (nI z) x (nI 1) then nI 0 else -13) := by
      unfold refPl
      rw [if_neg (by rw [nI_eq (by omega) (by omega)]; omega), sort_of hs, if_pos rfl]
    rw [e]
    refine cT (by rw [h2]; exact nI_le (Nat.zero_le _) (by omega)) ⟨d, rfl, hd, cT (by rw [h2]; exact nI_le (by omega) (by omega)) ?_⟩
    rcases nIx x (n := z) (by omega) with q | q | ⟨j, hj, rfl⟩
    · refine cT q (iR ?_ rfl)
      rw [if_neg]; grind [plB]
    · by_cases q0 : x < nI 0
      · refine cT q0 (iR ?_ rfl)
        rw [if_neg]; grind [plB]
      · refine cF q0 ⟨d, rfl, hd, cT (by rw [h4]; exact q) (iR ?_ rfl)⟩
        rw [if_neg]
        intro w
        obtain ⟨i, hi, rfl⟩ := plB_ix hz w
        exact nI_ge hi (by omega) q
    · refine cF (nI_nlt (Nat.zero_le _) (by omega)) ⟨d, rfl, hd, cF (by rw [h4]; exact nI_ge hj (by omega)) (iR ?_ rfl)⟩
      rw [plB_nI hz (by omega), decide_eq_true hj, if_pos rfl]
theorem refPl_0 (h : Isd nb d MI ML) (h0 : refPl (MI 11 d) (MI 12 d) x = nI 0) : ∃ s z i, s < 5 ∧ z ≤ 60 ∧ i < z ∧ x = nI i ∧ MI 11 d = nI s ∧ MI 76 d = nI (50 + s) ∧ MI 12 d = nI z ∧ MI 77 d = nI z ∧ ∀ i, i < z → ML 78 (d * 60 + i) = ML 14 (d * 60 + i) ∧ (s = 0 → -128 ≤ (ML 14 (d * 60 + i)).toInt ∧ (ML 14 (d * 60 + i)).toInt ≤ 127) := by
  rcases h with ⟨h1, h2, h3, h4⟩ | ⟨b, hb, h1, h2, h3, h4, h5⟩ | ⟨s, z, hs, hz, h1, h2, h3, h4, h5⟩
  · rw [h1] at h0
    exact absurd h0 (by unfold refPl; rw [if_pos rfl]; decide)
  · rw [h1] at h0
    exact absurd h0 (by unfold refPl; rw [if_neg (by decide), if_neg (by decide)]; decide)
  · rw [h1, h3] at h0
    unfold refPl at h0
    rw [if_neg (by rw [nI_eq (by omega) (by omega)]; omega), sort_of hs, if_pos rfl] at h0
    by_cases w : plB (nI z) x (nI 1) = true
    · obtain ⟨i, hi, rfl⟩ := plB_ix hz w
      exact ⟨s, z, i, hs, hz, hi, rfl, h1, h2, h3, h4, h5⟩
    · rw [if_neg w] at h0
      exact absurd h0 (by decide)
theorem p_element (x y : Int32) : SimL 174 266 [.int x, .int y] := by
  intro MI ML hI
  obtain ⟨nb, hnb, s5⟩ := hI.2.2.2.2.1
  by_cases h : hasB 6 x = true
  · obtain ⟨d, hd, rfl⟩ := hasB_ix (n := 6) (by omega) h
    by_cases h0 : refPl (MI 11 d) (MI 12 d) y = nI 0
    · obtain ⟨s, z, i, hs, hz, hi, rfl, h1, h2, h3, h4, h5⟩ := refPl_0 (s5 d hd) h0
      exact ⟨_, _, _, _, _, mrc_of (EX10_element (BX10_element_0 (usei s_shas (bT h (usei (s_refusalOfPlace hd) (cT h0 (usel (s_at hd h3 hz hi) eRr))))))), mrc_of (EX11_element (BX11_element_0 (usei (t_refusal hnb.1 hd (s5 d hd)) (cT h0 ⟨d * 60 + i, by rw [pk_mul, nI_add, Nat.mul_comm], by omega, lR (h5 i hi).1⟩)))), hI⟩
    · exact ⟨_, _, _, _, _, mrc_of (EX10_element (BX10_element_0 (usei s_shas (bT h (usei (s_refusalOfPlace hd) (cF h0 eRr)))))), mrc_of (EX11_element (BX11_element_0 (usei (t_refusal hnb.1 hd (s5 d hd)) (cF h0 eRr)))), hI⟩
  · exact ⟨_, _, _, _, _, mrc_of (EX10_element (BX10_element_0 (usei s_shas (bF (bnf h) eRr)))), mrc_of (EX11_element (BX11_element_0 (usei (mrc_of (EX11_refusal (BX11_refusal_0 (usei t_isShelf (bF (bnf h) eRr))))) (cF (by decide) eRr)))), hI⟩
theorem p_put (x y : Int32) (v : Int64) : Sim 173 265 [.int x, .int y, .long v] := by
  intro MI ML hI
  obtain ⟨nb, hnb, s5⟩ := hI.2.2.2.2.1
  obtain ⟨s1, s2, s3, s4⟩ := hnb
  by_cases h : hasB 6 x = true
  · obtain ⟨d, hd, rfl⟩ := hasB_ix (n := 6) (by omega) h
    by_cases h0 : refPl (MI 11 d) (MI 12 d) y = nI 0
    · obtain ⟨s, z, i, hs, hz, hi, rfl, h1, h2, h3, h4, h5⟩ := refPl_0 (s5 d hd) h0
      refine ⟨(nI 1), MI, mup ML 14 (mput (ML 14) (d * 60 + i) (lowB (MI 11 d) v)), MI, mup (mup ML 14 (mput (ML 14) (d * 60 + i) (lowB (MI 11 d) v))) 78 (mput (ML 78) (d * 60 + i) (lowB (MI 11 d) v)), mrc_of (EX10_put (BX10_put_0 (usei s_shas (bT h (usei (s_refusalOfPlace hd) (cT h0 (usev (s_setAt hd h3 hz hi) eRr))))))), mrc_of (EX11_put (BX11_put_0 (usei (t_refusal s1 hd (s5 d hd)) (cT h0 ⟨d, rfl, hd, usel t_asSort ⟨d * 60 + i, by rw [pk_mul, nI_add, Nat.mul_comm], by omega, cT h0 ?_⟩⟩)))), ?_⟩
      · refine ⟨rfl, rfl, ?_⟩
        rw [h2, pk_sub (by omega), show 50 + s - 50 = s by omega, h1]
        simp (disch := omega) only [mup_n, mup_s, mput_n, mput_s, mup_mup]
      · refine ⟨hI.1, hI.2.1, hI.2.2.1, hI.2.2.2.1, ⟨nb, ⟨s1, s2, s3, s4⟩, ?_⟩, hI.2.2.2.2.2.1, hI.2.2.2.2.2.2.1, hI.2.2.2.2.2.2.2.1, (Iw_c (by first | rfl | simp (disch := omega) only [mup_n, mup_s, mput_n]) hI.2.2.2.2.2.2.2.2)⟩
        intro e he
        by_cases q : e = d
        · subst q
          refine Or.inr (Or.inr ⟨s, z, hs, hz, h1, h2, h3, h4, fun j hj => ?_⟩)
          simp (disch := omega) only [mup_n, mup_s, mput_n, mput_s, mup_mup]
          by_cases w : j = i
          · subst w
            simp (disch := omega) only [mup_n, mup_s, mput_n, mput_s, mup_mup]
            refine ⟨trivial, fun s0 => ?_⟩
            rw [h1, s0]
            exact lowB0 v
          · simp (disch := omega) only [mup_n, mup_s, mput_n, mput_s, mup_mup]
            exact h5 j hj
        · refine Isd_o (e := 0) (s5 e he) rfl rfl rfl rfl rfl (fun j hj => ?_)
          simp (disch := omega) only [mup_n, mup_s, mput_n, mput_s, mup_mup]
          exact ⟨trivial, trivial⟩
    · refine ⟨_, _, _, _, _, mrc_of (EX10_put (BX10_put_0 (usei s_shas (bT h (usei (s_refusalOfPlace hd) (cF h0 eRr)))))), mrc_of (EX11_put (BX11_put_0 (usei (t_refusal s1 hd (s5 d hd)) (cF h0 (cF h0 eRr))))), hI⟩
  · exact ⟨_, _, _, _, _, mrc_of (EX10_put (BX10_put_0 (usei s_shas (bF (bnf h) eRr)))), mrc_of (EX11_put (BX11_put_0 (usei (mrc_of (EX11_refusal (BX11_refusal_0 (usei t_isShelf (bF (bnf h) eRr))))) (cF (by decide) (cF (by decide) eRr))))), hI⟩
theorem zer_step (g : Nat → Int64) (b i : Nat) : mput (zerF g b i) (b + i) 0 = zerF g b (i + 1) := by
  funext p
  unfold mput zerF
  by_cases hp : p = b + i
  · subst hp; rw [if_pos rfl, if_pos (by omega)]
  · rw [if_neg hp]
    by_cases q : b ≤ p ∧ p < b + i
    · rw [if_pos q, if_pos (by omega)]
    · rw [if_neg q, if_neg (by omega)]
theorem zer_0 (g : Nat → Int64) (b : Nat) : zerF g b 0 = g := by
  funext p
  exact if_neg (by omega)
theorem t_row57 {Q : Option Value → mI → mJ → Prop} (hd : d < 6) (hQ : Q (some (.int (nI 1))) MI (mup ML 78 (zerF (ML 78) (d * 60) 60))) : VX11_row_57 D Q (nI d) (nI (d * 60)) MI ML := by
  suffices g : VX11_row_57 D Q (nI d) (nI (d * 60 + 0)) MI (mup ML 78 (zerF (ML 78) (d * 60) 0)) by rwa [zer_0, mup_id] at g
  refine up (P := fun i => VX11_row_57 D Q (nI d) (nI (d * 60 + i)) MI (mup ML 78 (zerF (ML 78) (d * 60) i))) 60 (by decide) ?_ ?_
  · refine BX11_row_57 ?_
    rw [pk_mul, nI_add, Nat.mul_comm 60 d]
    exact cT (nI_le (Nat.le_refl _) (by omega)) hQ
  · intro i _ hi ih
    refine BX11_row_57 ?_
    rw [pk_mul, nI_add, Nat.mul_comm 60 d]
    refine cF (nI_ge (by omega) (by omega)) ⟨d * 60 + i, rfl, by omega, ?_⟩
    rw [mup_s, mup_mup, zer_step, nI_add, Nat.add_assoc]
    exact ih
theorem p_row (x y z : Int32) : Sim 172 262 [.int x, .int y, .int z] := by
  intro MI ML hI
  obtain ⟨nb, hnb, s5⟩ := hI.2.2.2.2.1
  obtain ⟨s1, s2, s3, s4⟩ := hnb
  have hsw : wiB (nI 0) (nI 4) y = sortB y := rfl
  by_cases h : hasB 6 x = true
  · obtain ⟨d, hd, rfl⟩ := hasB_ix (n := 6) (by omega) h
    by_cases h1 : sortB y = true
    · by_cases h2 : z ≤ nI 60
      · by_cases h3 : nI 0 ≤ z
        · obtain ⟨s, hs, rfl⟩ : ∃ s, s < 5 ∧ y = nI s := by
            rcases nIx y (n := 5) (by omega) with q | q | q
            · grind [sortB]
            · exfalso
              have e5 : (nI 5).toInt = 5 := by decide
              have e4 : (nI 4).toInt = 4 := by decide
              simp only [sortB, Bool.and_eq_true, Bool.not_eq_true', decide_eq_false_iff_not] at h1
              rw [fa_lt, fa_lt] at h1
              rw [fa_le] at q
              omega
            · exact q
          obtain ⟨k, hk, rfl⟩ : ∃ k, k ≤ 60 ∧ z = nI k := by
            rcases nIx z (n := 61) (by omega) with q | q | ⟨k, hk, e⟩
            · exfalso
              rw [fa_lt] at q
              rw [fa_le] at h3
              omega
            · exfalso
              have e5 : (nI 61).toInt = 61 := by decide
              have e4 : (nI 60).toInt = 60 := by decide
              rw [fa_le] at q h2
              omega
            · exact ⟨k, by omega, e⟩
          refine ⟨(nI 1), mup (mup MI 11 (mput (MI 11) d (nI s))) 12 (mput (MI 12) d (nI k)), mup ML 14 (zerF (ML 14) (d * 60) k), mup (mup (mup (mup MI 11 (mput (MI 11) d (nI s))) 12 (mput (MI 12) d (nI k))) 76 (mput (MI 76) d (nI (50 + s)))) 77 (mput (MI 77) d (nI k)), mup (mup ML 14 (zerF (ML 14) (d * 60) k)) 78 (zerF (ML 78) (d * 60) 60), mrc_of (EX10_row (BX10_row_0 (usei s_shas (bT h (usei s_isSort (bT h1 (cT h2 (cT h3 (usev (s_holdRow hd hk) eRr))))))))), mrc_of (EX11_row (BX11_row_0 (usei t_isShelf (bT h (usei (t_within (lo := nI 0) (hi := nI 4) rfl rfl) (bT (hsw.trans h1) (cT h2 (cT h3 ⟨d, rfl, hd, d, rfl, hd, ?_⟩)))))))), ?_⟩
          · rw [pk_mul, Nat.mul_comm 60 d]
            refine t_row57 hd ⟨rfl, ?_, ?_⟩
            · simp (disch := omega) only [mup_n, mup_s, mput_n, mput_s, mup_mup]
              rw [nI_add]
            · simp (disch := omega) only [mup_n, mup_s, mput_n, mput_s, mup_mup]
          · refine ⟨(Ip_c (by first | rfl | simp (disch := omega) only [mup_n, mup_s, mput_n]) (by first | rfl | simp (disch := omega) only [mup_n, mup_s, mput_n]) (by first | rfl | simp (disch := omega) only [mup_n, mup_s, mput_n]) (by first | rfl | simp (disch := omega) only [mup_n, mup_s, mput_n]) (by first | rfl | simp (disch := omega) only [mup_n, mup_s, mput_n]) (by first | rfl | simp (disch := omega) only [mup_n, mup_s, mput_n]) (by first | rfl | simp (disch := omega) only [mup_n, mup_s, mput_n]) (by first | rfl | simp (disch := omega) only [mup_n, mup_s, mput_n]) hI.1), (Ic_c (by first | rfl | simp (disch := omega) only [mup_n, mup_s, mput_n]) (by first | rfl | simp (disch := omega) only [mup_n, mup_s, mput_n]) (by first | rfl | simp (disch := omega) only [mup_n, mup_s, mput_n]) (by first | rfl | simp (disch := omega) only [mup_n, mup_s, mput_n]) (by first | rfl | simp (disch := omega) only [mup_n, mup_s, mput_n]) (by first | rfl | simp (disch := omega) only [mup_n, mup_s, mput_n]) (by first | rfl | simp (disch := omega) only [mup_n, mup_s, mput_n]) (by first | rfl | simp (disch := omega) only [mup_n, mup_s, mput_n]) (by first | rfl | simp (disch := omega) only [mup_n, mup_s, mput_n]) (by first | rfl | simp (disch := omega) only [mup_n, mup_s, mput_n]) hI.2.1), (It_c (by first | rfl | simp (disch := omega) only [mup_n, mup_s, mput_n]) (by first | rfl | simp (disch := omega) only [mup_n, mup_s, mput_n]) (by first | rfl | simp (disch := omega) only [mup_n, mup_s, mput_n]) (by first | rfl | simp (disch := omega) only [mup_n, mup_s, mput_n]) hI.2.2.1), (Il_c (by first | rfl | simp (disch := omega) only [mup_n, mup_s, mput_n]) (by first | rfl | simp (disch := omega) only [mup_n, mup_s, mput_n]) (by first | rfl | simp (disch := omega) only [mup_n, mup_s, mput_n]) (by first | rfl | simp (disch := omega) only [mup_n, mup_s, mput_n]) (by first | rfl | simp (disch := omega) only [mup_n, mup_s, mput_n]) (by first | rfl | simp (disch := omega) only [mup_n, mup_s, mput_n]) hI.2.2.2.1), ⟨nb, ⟨s1, by simp (disch := omega) only [mup_n, mup_s, mput_n, mput_s, mup_mup]; exact s2, by simp (disch := omega) only [mup_n, mup_s, mput_n, mput_s, mup_mup]; exact s3, by simp (disch := omega) only [mup_n, mup_s, mput_n, mput_s, mup_mup]; exact s4⟩, ?_⟩, (Ir_c (by first | rfl | simp (disch := omega) only [mup_n, mup_s, mput_n]) (by first | rfl | simp (disch := omega) only [mup_n, mup_s, mput_n]) (by first | rfl | simp (disch := omega) only [mup_n, mup_s, mput_n]) (by first | rfl | simp (disch := omega) only [mup_n, mup_s, mput_n]) (by first | rfl | simp (disch := omega) only [mup_n, mup_s, mput_n]) hI.2.2.2.2.2.1), (Ib_c (by first | rfl | simp (disch := omega) only [mup_n, mup_s, mput_n]) (by first | rfl | simp (disch := omega) only [mup_n, mup_s, mput_n]) (by first | rfl | simp (disch := omega) only [mup_n, mup_s, mput_n]) (by first | rfl | simp (disch := omega) only [mup_n, mup_s, mput_n]) (by first | rfl | simp (disch := omega) only [mup_n, mup_s, mput_n]) (by first | rfl | simp (disch := omega) only [mup_n, mup_s, mput_n]) hI.2.2.2.2.2.2.1), (Ii_c (by first | rfl | simp (disch := omega) only [mup_n, mup_s, mput_n]) (by first | rfl | simp (disch := omega) only [mup_n, mup_s, mput_n]) (by first | rfl | simp (disch := omega) only [mup_n, mup_s, mput_n]) (by first | rfl | simp (disch := omega) only [mup_n, mup_s, mput_n]) (by first | rfl | simp (disch := omega) only [mup_n, mup_s, mput_n]) (by first | rfl | simp (disch := omega) only [mup_n, mup_s, mput_n]) (by first | rfl | simp (disch := omega) only [mup_n, mup_s, mput_n]) hI.2.2.2.2.2.2.2.1), (Iw_c (by first | rfl | simp (disch := omega) only [mup_n, mup_s, mput_n]) hI.2.2.2.2.2.2.2.2)⟩
            intro e he
            by_cases q : e = d
            · subst q
              refine Or.inr (Or.inr ⟨s, k, hs, hk, ?_, ?_, ?_, ?_, fun j hj => ?_⟩)
              · simp (disch := omega) only [mup_n, mup_s, mput_n, mput_s, mup_mup]
              · simp (disch := omega) only [mup_n, mup_s, mput_n, mput_s, mup_mup]
              · simp (disch := omega) only [mup_n, mup_s, mput_n, mput_s, mup_mup]
              · simp (disch := omega) only [mup_n, mup_s, mput_n, mput_s, mup_mup]
              · simp (disch := omega) only [mup_n, mup_s, mput_n, mput_s, mup_mup]
                unfold zerF
                rw [if_pos (by omega), if_pos (by omega)]
                exact ⟨rfl, fun _ => by decide⟩
            · refine Isd_o (e := 0) (s5 e he) ?_ ?_ ?_ ?_ ?_ (fun j hj => ?_)
              · simp (disch := omega) only [mup_n, mup_s, mput_n, mput_s, mup_mup]
              · simp (disch := omega) only [mup_n, mup_s, mput_n, mput_s, mup_mup]
              · simp (disch := omega) only [mup_n, mup_s, mput_n, mput_s, mup_mup]
              · simp (disch := omega) only [mup_n, mup_s, mput_n, mput_s, mup_mup]
              · simp (disch := omega) only [mup_n, mup_s, mput_n, mput_s, mup_mup]
              · simp (disch := omega) only [mup_n, mup_s, mput_n, mput_s, mup_mup]
                unfold zerF
                rw [if_neg (by omega), if_neg (by omega)]
                exact ⟨rfl, rfl⟩
        · exact ⟨_, _, _, _, _, mrc_of (EX10_row (BX10_row_0 (usei s_shas (bT h (usei s_isSort (bT h1 (cT h2 (cF h3 eRr)))))))), mrc_of (EX11_row (BX11_row_0 (usei t_isShelf (bT h (usei (t_within (lo := nI 0) (hi := nI 4) rfl rfl) (bT (hsw.trans h1) (cT h2 (cF h3 eRr)))))))), hI⟩
      · exact ⟨_, _, _, _, _, mrc_of (EX10_row (BX10_row_0 (usei s_shas (bT h (usei s_isSort (bT h1 (cF h2 eRr))))))), mrc_of (EX11_row (BX11_row_0 (usei t_isShelf (bT h (usei (t_within (lo := nI 0) (hi := nI 4) rfl rfl) (bT (hsw.trans h1) (cF h2 eRr))))))), hI⟩
    · exact ⟨_, _, _, _, _, mrc_of (EX10_row (BX10_row_0 (usei s_shas (bT h (usei s_isSort (bF (bnf h1) eRr)))))), mrc_of (EX11_row (BX11_row_0 (usei t_isShelf (bT h (usei (t_within (lo := nI 0) (hi := nI 4) rfl rfl) (bF (hsw.trans (bnf h1)) eRr)))))), hI⟩
  · exact ⟨_, _, _, _, _, mrc_of (EX10_row (BX10_row_0 (usei s_shas (bF (bnf h) eRr)))), mrc_of (EX11_row (BX11_row_0 (usei t_isShelf (bF (bnf h) eRr)))), hI⟩
end P6
