/-! days, wrongs, leases, gifts in deed -/
theorem tl1_ge (q : dR) : 8 ≤ (tl1 q).length := by
  unfold tl1
  split <;> simp
theorem tlB_ge : ∀ L : List dR, 8 * L.length ≤ (tlB L).length
  | [] => Nat.le_refl _
  | q :: L => by
    have h1 := tlB_ge L
    have h2 := tl1_ge q
    show 8 * (L.length + 1) ≤ (tl1 q ++ tlB L).length
    rw [List.length_append]
    omega
theorem led_ok {c g : Nat → Int32} {k : Nat} (h : ∀ j, j < 6 → g j = c j) (hk : k < 6) : ∀ j, j < 6 → mput g k (g k + nI 1) j = mput c k (c k + nI 1) j := cnt_ok h hk
theorem KI_u {n : Nat} {f : Nat → Int32} {La : mLaw} {c : Nat → Int32} {M MI : mI} (h : KI n f La c MI) (hF : ∀ q, q < 46 → M q = MI q) : KI n f La c M := KI_c h (by rw [hF 1 (by decide)]) (hF 2 (by decide)) (by rw [hF 17 (by decide)]; exact h.2.2.2.2.1) (by rw [hF 6 (by decide)]) (hF 7 (by decide)) (by rw [hF 39 (by decide)]) (hF 34 (by decide))
section L96
variable {L d n t i a b : Nat} {xs : Nat → Int32} {g c : Nat → Int32} {La : mLaw} {E : List mT} {MI M : mI} {ML : mJ} {Q : Option Value → mS → Prop} {v17 : Int32}
theorem d_day (hS : SHB E) (hL : L ≤ 260) (hI : TI n g La c MI) (K : ∀ M g c, TI n g La c M → VL_law_969 (mrnT (mTbS L xs) 310) Q L xs 0 46 47 48 49 50 51 (nI t) (nI i) (W0 + d) (Sh0 ++ E) M ML) : VL_law_501 (mrnT (mTbS L xs) 310) Q L xs 0 46 47 48 49 50 51 (nI t) (nI i) (W0 + d) (Sh0 ++ E) MI ML := by
  obtain ⟨hX, hH, hF, hB, hl, hW⟩ := hS
  obtain ⟨hK, hA, hLB, hc⟩ := hI
  have h8 := hK.1
  have hg := hK.2.2.2.1
  obtain ⟨M1, a1, a2, a3, a4⟩ := l_day (D := 307) (e := 46) (w := W0 + d) (ML := ML) (Or.inl rfl) hX hH hF hB hW hLB h8 hg hA
  have a2 : AR n (dyF La n g) (M1 46) (M1 47) (M1 48) := a2
  refine BL_law_501 (by omega) ⟨_, M1, ML, mrn_S a1, BL_law_514 (by omega) ⟨hl.cell 0 (by omega), hl.cell 0 (by omega), hl.cell 1 (by omega), hl.cell 1 (by omega), hl.cell 2 (by omega), hX.cell 0 (by omega), hl.cell 2 (by omega), ?_⟩⟩
  have x0 : M1 46 0 = nI n := a2.1
  have c50 : ∀ j, j < 6 → M1 50 j = c j := fun j hj => by rw [a4 50 (by decide) (by decide) (by decide) (by decide)]; exact hc j hj
  generalize hM2 : (mup (mup (mup M1 50 (mput (M1 50) 0 (M1 50 0 + nI 1))) 50 (mput ((mup M1 50 (mput (M1 50) 0 (M1 50 0 + nI 1))) 50) 1 ((mup M1 50 (mput (M1 50) 0 (M1 50 0 + nI 1))) 50 1 + nI (dyL La n g).length))) 50 (mput ((mup (mup M1 50 (mput (M1 50) 0 (M1 50 0 + nI 1))) 50 (mput ((mup M1 50 (mput (M1 50) 0 (M1 50 0 + nI 1))) 50) 1 ((mup M1 50 (mput (M1 50) 0 (M1 50 0 + nI 1))) 50 1 + nI (dyL La n g).length))) 50) 2 ((mup (mup M1 50 (mput (M1 50) 0 (M1 50 0 + nI 1))) 50 (mput ((mup M1 50 (mput (M1 50) 0 (M1 50 0 + nI 1))) 50) 1 ((mup M1 50 (mput (M1 50) 0 (M1 50 0 + nI 1))) 50 1 + nI (dyL La n g).length))) 50 2 + ((mup (mup M1 50 (mput (M1 50) 0 (M1 50 0 + nI 1))) 50 (mput ((mup M1 50 (mput (M1 50) 0 (M1 50 0 + nI 1))) 50) 1 ((mup M1 50 (mput (M1 50) 0 (M1 50 0 + nI 1))) 50 1 + nI (dyL La n g).length))) 46 0 - nI (dyL La n g).length)))) = M2
  have f2 : ∀ q, q ≠ 50 → M2 q = M1 q := fun q hq => by rw [← hM2, mup_n hq, mup_n hq, mup_n hq]
  have e50 : ∀ j, j < 6 → M2 50 j = ctF c (dyL La n g).length n j := by
    intro j hj
    rw [← hM2]
    simp (disch := omega) only [mup_n, mup_s, mput_n, mput_s, mup_mup]
    rw [x0]
    unfold ctF mput
    rw [c50 0 (by omega), c50 1 (by omega), c50 2 (by omega), c50 j hj]
  have hK2 : KI n g La c M2 := KI_u hK (fun q hq => by rw [f2 q (by omega)]; exact a4 q (by omega) (by omega) (by omega) (by omega))
  obtain ⟨M3, b1, b2, b3, b4⟩ := k_day (ML := ML) hK2
  have f3 := b3.k3
  have hA3 : AR n (dyF La n g) (M3 46) (M3 47) (M3 48) := by rw [f3 46 (by decide), f3 47 (by decide), f3 48 (by decide), f2 46 (by decide), f2 47 (by decide), f2 48 (by decide)]; exact a2
  have hlen := (dyL_ok (La := La) h8 hg).2
  have g1 := tlB_ge (dyL La n g)
  have g2 := tlB_len (dyL La n g)
  refine BL_law_544 (by omega) ⟨isO0, _, M3, ML, k_up b1 (by decide), cT rfl ⟨isO0, _, M3, ML, k_up (k_ofDay b2) (by decide), hX.cell 4 (by omega), cT hA3.2.2.2.2.1.symm ⟨isO0, _, M3, ML, k_up k_tale (by decide), cF ?_ ⟨isO0, _, M3, ML, k_up k_tale (by decide), cT ?_ (K M3 _ _ ⟨b2, hA3, ?_, fun j hj => ?_⟩)⟩⟩⟩⟩
  · rw [b4, pk_mul]
    exact nI_nlt g1 (by omega)
  · rw [b4, pk_mul]
    exact nI_le g2 (by omega)
  · rw [f3 49 (by decide), f2 49 (by decide), a4 49 (by decide) (by decide) (by decide) (by decide)]
    exact hLB
  · rw [f3 50 (by decide)]
    exact e50 j hj
theorem d_wrong (hS : SHB E) (hL : L ≤ 260) (ha : a < n) (hb : b < n) (hne : a ≠ b) (hI : TI n g La c MI) (K : ∀ M g c, TI n g La c M → VL_law_969 (mrnT (mTbS L xs) 310) Q L xs 0 46 47 48 49 50 51 (nI t) (nI i) (W0 + d) (Sh0 ++ E) M ML) : VL_law_602 (mrnT (mTbS L xs) 310) Q L xs 0 46 47 48 49 50 51 (nI t) (nI i) v17 (nI a) (nI b) (W0 + d) (Sh0 ++ E) MI ML := by
  obtain ⟨hX, hH, hF, hB, hl, hW⟩ := hS
  obtain ⟨hK, hA, hLB, hc⟩ := hI
  have h8 := hK.1
  obtain ⟨m, hm, em⟩ := u_r (s := 13) (d := 9) (by omega) (by omega) (by omega) (by omega) v17
  have hix : nI 8 * nI b + nI a = nI (8 * b + a) := by rw [pk_mul, nI_add]
  have e48 := AR_e hA (i := b) (b := a) (by omega) (by omega)
  have fin : ∀ R : Int32, R = (if g (20 + b * 8 + a) - nI (1 + m) < -9 then -9 else g (20 + b * 8 + a) - nI (1 + m)) → VL_law_663 (mrnT (mTbS L xs) 310) Q L xs 0 46 47 48 49 50 51 (nI t) (nI i) (nI a) (nI b) (nI (1 + m)) (W0 + d) (Sh0 ++ E) (mup MI 48 (mput (MI 48) (8 * b + a) R)) ML := fun R hR => by
    refine BL_law_663 (by omega) ⟨hl.cell 3 (by omega), hl.cell 3 (by omega), ?_⟩
    generalize hM2 : mup (mup MI 48 (mput (MI 48) (8 * b + a) R)) 50 (mput ((mup MI 48 (mput (MI 48) (8 * b + a) R)) 50) 3 ((mup MI 48 (mput (MI 48) (8 * b + a) R)) 50 3 + nI 1)) = M2
    have hK2 : KI n g La c M2 := KI_u hK (fun q hq => by rw [← hM2, mup_n (by omega), mup_n (by omega)])
    obtain ⟨M3, b1, b2, b3⟩ := k_wrong (ML := ML) hK2 ha hb hne (v := 1 + m) (by omega) (by omega)
    rw [← hR] at b1 b2
    have f3 := b3.k3
    have e3 : M3 48 = mput (MI 48) (8 * b + a) R := by rw [f3 48 (by decide), ← hM2]; simp (disch := omega) only [mup_n, mup_s, mput_n, mput_s, mup_mup]
    refine BL_law_671 (by omega) ⟨isO0, R + nI 100, M3, ML, ?_, 8 * b + a, hF.ok hix (by omega), cT ?_ (K M3 _ _ ⟨b2, ?_, ?_, fun j hj => ?_⟩)⟩
    · rw [pk_mul, nI_add]
      exact k_up b1 (by decide)
    · rw [e3, mput_s]
    · rw [e3, f3 46 (by decide), f3 47 (by decide), ← hM2, show 20 + b * 8 + a = 20 + (8 * b + a) by omega]
      simp (disch := omega) only [mup_n, mup_s, mput_n, mput_s, mup_mup]
      exact AR_fe hA (by omega)
    · rw [f3 49 (by decide), ← hM2]
      simp (disch := omega) only [mup_n, mup_s, mput_n, mput_s, mup_mup]
      exact hLB
    · rw [f3 50 (by decide), ← hM2]
      simp (disch := omega) only [mup_n, mup_s, mput_n, mput_s, mup_mup]
      exact led_ok hc (by omega) j hj
  refine BL_law_602 (by omega) ⟨8 * b + a, hF.ok hix (by omega), ?_⟩
  rw [em, nI_add, e48]
  by_cases q : g (20 + b * 8 + a) - nI (1 + m) < -9
  · exact cF (fa_of_lt q).2.1 ⟨8 * b + a, hF.ok hix (by omega), fin _ (by rw [if_pos q])⟩
  · refine cT (fa_of_nlt q) ⟨8 * b + a, hF.ok hix (by omega), 8 * b + a, hF.ok hix (by omega), ?_⟩
    rw [e48]
    exact fin _ (by rw [if_neg q])
theorem d_lease (hS : SHB E) (hL : L ≤ 260) (ha : a < n) (hb : b < n) (hne : a ≠ b) (hI : TI n g La c MI) (K : ∀ M g c, TI n g La c M → VL_law_969 (mrnT (mTbS L xs) 310) Q L xs 0 46 47 48 49 50 51 (nI t) (nI i) (W0 + d) (Sh0 ++ E) M ML) : VL_law_713 (mrnT (mTbS L xs) 310) Q L xs 0 46 47 48 49 50 51 (nI t) (nI i) v17 (nI a) (nI b) (W0 + d) (Sh0 ++ E) MI ML := by
  have hI0 := hI
  obtain ⟨hX, hH, hF, hB, hl, hW⟩ := hS
  obtain ⟨hK, hA, hLB, hc⟩ := hI
  have h8 := hK.1
  obtain ⟨k, hk, ek⟩ := u_r (s := 13) (d := n) (by omega) (by omega) (by omega) (by omega) v17
  have e10 : nI 10 * nI a + nI b = nI (10 * a + b) := by rw [pk_mul, nI_add]
  refine BL_law_713 (by omega) ⟨hX.cell 0 (by omega), by rw [hA.1, nI_eq (by omega) (by omega)]; omega, ?_⟩
  rw [hA.1, ek]
  have no : k = a ∨ k = b → VL_law_743 (mrnT (mTbS L xs) 310) Q L xs 0 46 47 48 49 50 51 (nI t) (nI i) (nI a) (nI b) (nI k) (nI 0) (W0 + d) (Sh0 ++ E) MI ML := fun h => by
    refine BL_law_743 (by omega) (cT rfl (BL_law_787 (by omega) ⟨isO0, -1, MI, ML, ?_, cT rfl (BL_law_810 (by omega) (cT (by decide) (K MI g c hI0)))⟩))
    rw [e10]
    exact k_up (k_leaseN hK ha hb hne hk h) (by decide)
  by_cases q1 : k = a
  · exact cT (by rw [q1]) (no (Or.inl q1))
  refine cF (by rw [nI_eq (by omega) (by omega)]; exact q1) ?_
  by_cases q2 : k = b
  · exact cT (by rw [q2]) (no (Or.inr q2))
  refine cF (by rw [nI_eq (by omega) (by omega)]; exact q2) ?_
  have e48 := AR_e hA (i := b) (b := k) (by omega) (by omega)
  refine BL_law_743 (by omega) (cF (by decide) ⟨8 * b + k, hF.ok (by rw [pk_mul, nI_add]) (by omega), ?_⟩)
  rw [e48]
  by_cases q3 : g (20 + b * 8 + k) < nI 0
  · refine cF (fa_of_lt q3).2.1 ⟨8 * b + k, hF.ok (by rw [pk_mul, nI_add]) (by omega), ?_⟩
    rw [e48]
    obtain ⟨M1, b1, b2, b3⟩ := k_leaseY (ML := ML) hK ha hb hne hk q1 q2 q3
    have f3 := b3.k3
    have b9 := (okv_ft (i := b) (j := k) (by omega) (by omega) (fun z => q2 z.symm)).mp (hK.2.2.2.1.ok (p := 20 + b * 8 + k) (by omega))
    have pos : ¬ g (20 + b * 8 + k) + nI 100 ≤ nI 0 := by
      have e100 : (nI 100).toInt = 100 := by decide
      rw [fa_le, ti_add (by omega) (by omega) (by omega) (by omega), e100, nI0_ti]
      omega
    refine BL_law_787 (by omega) ⟨isO0, g (20 + b * 8 + k) + nI 100, M1, ML, by rw [e10]; exact k_up b1 (by decide), cT rfl (BL_law_810 (by omega) (cF pos ⟨8 * b + k, hF.ok (by rw [pk_mul, nI_add]) (by omega), 8 * a + k, hF.ok (by rw [pk_mul, nI_add]) (by omega), 8 * b + k, hF.ok (by rw [pk_mul, nI_add]) (by omega), hl.cell 4 (by omega), hl.cell 4 (by omega), K _ _ _ ⟨KI_u b2 (fun q hq => by rw [mup_n (by omega), mup_n (by omega), mup_n (by omega)]), ?_, ?_, fun j hj => ?_⟩⟩))⟩
    · simp (disch := omega) only [mup_n, mup_s, mput_n, mput_s, mup_mup]
      rw [f3 46 (by decide), f3 47 (by decide), f3 48 (by decide), e48, show 20 + a * 8 + k = 20 + (8 * a + k) by omega, show mput (mput g (20 + (8 * a + k)) (g (20 + b * 8 + k))) (20 + b * 8 + k) (nI 0) = mput (mput g (20 + (8 * a + k)) (g (20 + b * 8 + k))) (20 + (8 * b + k)) (nI 0) by rw [show 20 + b * 8 + k = 20 + (8 * b + k) by omega]]
      exact AR_fe (AR_fe hA (by omega)) (by omega)
    · simp (disch := omega) only [mup_n, mup_s, mput_n, mput_s, mup_mup]
      rw [f3 49 (by decide)]
      exact hLB
    · simp (disch := omega) only [mup_n, mup_s, mput_n, mput_s, mup_mup]
      rw [f3 50 (by decide)]
      exact led_ok hc (by omega) j hj
  · refine cT (fa_of_nlt q3) (BL_law_787 (by omega) ⟨isO0, -5, MI, ML, ?_, cT rfl (BL_law_810 (by omega) (cT (by decide) (K MI g c hI0)))⟩)
    rw [e10]
    exact k_up (k_leaseZ hK ha hb hne hk q1 q2 q3) (by decide)
theorem mx_sub9 {x o : Int32} (h1 : 0 ≤ x.toInt) (h2 : x.toInt ≤ 99) (h3 : 0 ≤ o.toInt) (h4 : o.toInt ≤ 99) : mx (x - o) (nI 0) = if x ≤ o then nI 0 else x - o := by
  have e0 : (nI 0).toInt = 0 := by decide
  rw [fa_eq, mx_ti, ti_sub (by omega) (by omega) (by omega) (by omega), e0]
  split
  · next h => rw [fa_le] at h; rw [e0]; omega
  · next h => rw [fa_le] at h; rw [ti_sub (by omega) (by omega) (by omega) (by omega)]; omega
theorem d_gift (hS : SHB E) (hL : L ≤ 260) (ha : a < n) (hb : b < n) (hne : a ≠ b) (hI : TI n g La c MI) (K : ∀ M g c, TI n g La c M → VL_law_969 (mrnT (mTbS L xs) 310) Q L xs 0 46 47 48 49 50 51 (nI t) (nI i) (W0 + d) (Sh0 ++ E) M ML) : VL_law_860 (mrnT (mTbS L xs) 310) Q L xs 0 46 47 48 49 50 51 (nI t) (nI i) v17 (nI a) (nI b) (W0 + d) (Sh0 ++ E) MI ML := by
  obtain ⟨hX, hH, hF, hB, hl, hW⟩ := hS
  obtain ⟨hK, hA, hLB, hc⟩ := hI
  have h8 := hK.1
  obtain ⟨m, hm, em⟩ := u_r (s := 13) (d := 99) (by omega) (by omega) (by omega) (by omega) v17
  have e2a : nI 2 * nI a = nI (2 * a) := pk_mul _ _
  have e2b : nI 2 * nI b = nI (2 * b) := pk_mul _ _
  have ea := AR_h hA (b := a) (by omega)
  have eb := AR_h hA (b := b) (by omega)
  have bb := (okv_hu (i := b) (by omega)).mp (hK.2.2.2.1.ok (p := b) (by omega))
  have ev : (nI (1 + m)).toInt = ((1 + m : Nat) : Int) := nI_toInt (by omega)
  have hmx := mx_sub9 (x := g b) (o := nI (1 + m)) bb.1 bb.2 (by omega) (by omega)
  have fin2 : ∀ R T : Int32, R = mn (g a + nI (1 + m)) (nI 99) → T = mx (g b - nI (1 + m)) (nI 0) → VL_law_936 (mrnT (mTbS L xs) 310) Q L xs 0 46 47 48 49 50 51 (nI t) (nI i) (nI a) (nI b) (nI (1 + m)) (W0 + d) (Sh0 ++ E) (mup (mup MI 47 (mput (MI 47) (2 * a) R)) 47 (mput ((mup MI 47 (mput (MI 47) (2 * a) R)) 47) (2 * b) T)) ML := fun R T hR hT => by
    refine BL_law_936 (by omega) ⟨hl.cell 5 (by omega), hl.cell 5 (by omega), ?_⟩
    generalize hM2 : mup (mup (mup MI 47 (mput (MI 47) (2 * a) R)) 47 (mput ((mup MI 47 (mput (MI 47) (2 * a) R)) 47) (2 * b) T)) 50 (mput ((mup (mup MI 47 (mput (MI 47) (2 * a) R)) 47 (mput ((mup MI 47 (mput (MI 47) (2 * a) R)) 47) (2 * b) T)) 50) 5 ((mup (mup MI 47 (mput (MI 47) (2 * a) R)) 47 (mput ((mup MI 47 (mput (MI 47) (2 * a) R)) 47) (2 * b) T)) 50 5 + nI 1)) = M2
    have hK2 : KI n g La c M2 := KI_u hK (fun q hq => by rw [← hM2, mup_n (by omega), mup_n (by omega), mup_n (by omega)])
    obtain ⟨M3, b1, b2, b3⟩ := k_gift (ML := ML) hK2 ha hb hne (v := 1 + m) (by omega) (by omega)
    rw [← hR] at b1 b2
    rw [← hT] at b2
    have f3 := b3.k3
    have e3 : M3 47 = mput (mput (MI 47) (2 * a) R) (2 * b) T := by rw [f3 47 (by decide), ← hM2]; simp (disch := omega) only [mup_n, mup_s, mput_n, mput_s, mup_mup]
    refine BL_law_944 (by omega) ⟨isO0, R, M3, ML, ?_, 2 * a, hH.ok e2a (by omega), cT ?_ (K M3 _ _ ⟨b2, ?_, ?_, fun j hj => ?_⟩)⟩
    · rw [pk_mul, nI_add]
      exact k_up b1 (by decide)
    · rw [e3, mput_n (by omega), mput_s]
    · rw [e3, f3 46 (by decide), f3 48 (by decide), ← hM2]
      simp (disch := omega) only [mup_n, mup_s, mput_n, mput_s, mup_mup]
      exact AR_put (AR_put hA (by omega)) (by omega)
    · rw [f3 49 (by decide), ← hM2]
      simp (disch := omega) only [mup_n, mup_s, mput_n, mput_s, mup_mup]
      exact hLB
    · rw [f3 50 (by decide), ← hM2]
      simp (disch := omega) only [mup_n, mup_s, mput_n, mput_s, mup_mup]
      exact led_ok hc (by omega) j hj
  have fin : ∀ R : Int32, R = mn (g a + nI (1 + m)) (nI 99) → VL_law_905 (mrnT (mTbS L xs) 310) Q L xs 0 46 47 48 49 50 51 (nI t) (nI i) (nI a) (nI b) (nI (1 + m)) 47 (nI 2 * nI a) R (W0 + d) (Sh0 ++ E) MI ML := fun R hR => by
    have e9 : (mup MI 47 (mput (MI 47) (2 * a) R)) 47 (2 * b) = g b := by rw [mup_s, mput_n (by omega)]; exact eb
    refine BL_law_905 (by omega) ⟨2 * a, hH.ok e2a (by omega), 2 * b, hH.ok e2b (by omega), ?_⟩
    rw [e9]
    by_cases q : g b ≤ nI (1 + m)
    · exact cT q ⟨2 * b, hH.ok e2b (by omega), fin2 R _ hR (by rw [hmx, if_pos q])⟩
    · refine cF q ⟨2 * b, hH.ok e2b (by omega), 2 * b, hH.ok e2b (by omega), ?_⟩
      rw [e9]
      exact fin2 R _ hR (by rw [hmx, if_neg q])
  refine BL_law_860 (by omega) ⟨2 * a, hH.ok e2a (by omega), ?_⟩
  rw [em, nI_add, ea]
  by_cases q : g a + nI (1 + m) ≤ nI 99
  · refine cT q ⟨2 * a, hH.ok e2a (by omega), ?_⟩
    rw [ea]
    refine fin _ ?_
    unfold mn
    rw [if_neg (fun z => (fa_of_lt z).2.1 q)]
  · refine cF q (fin _ ?_)
    unfold mn
    rw [if_pos (fa_of_nle q)]
/-- a deed by the script -/
theorem d_step (hS : SHB E) (hL : L ≤ 260) (hi : i < 7) (ht : t < 3) (hI : TI n g La c MI) (K : ∀ M g c, TI n g La c M → VL_law_402 (mrnT (mTbS L xs) 310) Q L xs 0 46 47 48 49 50 51 (nI t) (nI (i + 1)) (W0 + d) (Sh0 ++ E) M ML) : VL_law_402 (mrnT (mTbS L xs) 310) Q L xs 0 46 47 48 49 50 51 (nI t) (nI i) (W0 + d) (Sh0 ++ E) MI ML := by
  have hX := hS.1
  have h8 := hI.1.1
  have x0 := hI.2.1.1
  have K9 : ∀ M g c, TI n g La c M → VL_law_969 (mrnT (mTbS L xs) 310) Q L xs 0 46 47 48 49 50 51 (nI t) (nI i) (W0 + d) (Sh0 ++ E) M ML := fun M g c h => by
    refine BL_law_969 (by omega) ?_
    rw [nI_add]
    exact K M g c h
  obtain ⟨v, hv⟩ := l_cell (L := L) (xs := xs) (D := 309) (k := 61 + 7 * t + i) (S := (W0 + d, Sh0 ++ E, MI, ML)) hL (by omega)
  obtain ⟨wh, hw, ew⟩ := u_r (s := 1) (d := 6) (by omega) (by omega) (by omega) (by omega) v
  have day := d_day hS hL hI K9
  -- which deed, by whom, to whom
  have deed : ∀ a b, (3 ≤ n → a < n ∧ b < n ∧ a ≠ b) → VL_law_486 (mrnT (mTbS L xs) 310) Q L xs 0 46 47 48 49 50 51 (nI t) (nI i) v (nI wh) (nI a) (nI b) (W0 + d) (Sh0 ++ E) MI ML := fun a b hab => by
    refine BL_law_486 (by omega) (br (fun _ => day) (fun _ => ⟨hX.cell 0 (by omega), ?_⟩))
    rw [x0]
    by_cases q : 3 ≤ n
    · obtain ⟨ha, hb, hne⟩ := hab q
      exact cT (nI_le q (by omega)) (br (fun _ => d_wrong hS hL ha hb hne hI K9) (fun _ => BL_law_707 (by omega) (br (fun _ => d_lease hS hL ha hb hne hI K9) (fun _ => d_gift hS hL ha hb hne hI K9))))
    · exact cF (nI_ge (by omega) (by omega)) day
  have pair : ∀ a, (1 ≤ n → a < n) → VL_law_453 (mrnT (mTbS L xs) 310) Q L xs 0 46 47 48 49 50 51 (nI t) (nI i) v (nI wh) (nI a) (W0 + d) (Sh0 ++ E) MI ML := fun a ha => by
    refine BL_law_453 (by omega) ⟨hX.cell 0 (by omega), ?_⟩
    rw [x0]
    by_cases q : 2 ≤ n
    · have ha := ha (by omega)
      obtain ⟨r, hr, er⟩ := u_r (s := 9) (d := n - 1) (by omega) (by omega) (by omega) (by omega) v
      refine cT (nI_le q (by omega)) ⟨hX.cell 0 (by omega), ?_, hX.cell 0 (by omega), ?_, ?_⟩
      · rw [pk_sub (by omega), nI_eq (by omega) (by omega)]
        omega
      · rw [nI_eq (by omega) (by omega)]
        omega
      · rw [pk_sub (by omega), er, nI_add, nI_add, z_rem (by omega) (by omega) (by omega)]
        refine deed a _ (fun _ => ⟨ha, Nat.mod_lt _ (by omega), fun z => ?_⟩)
        rcases Nat.lt_or_ge (a + 1 + r) n with y | y
        · rw [Nat.mod_eq_of_lt y] at z
          omega
        · rw [Nat.mod_eq_sub_mod y, Nat.mod_eq_of_lt (by omega)] at z
          omega
    · exact cF (nI_ge (by omega) (by omega)) (deed a 0 (fun z => by omega))
  refine BL_law_402 (by omega) (cF (nI_ge hi (by omega)) ⟨v, MI, ML, ?_, hX.cell 0 (by omega), ?_⟩)
  · rw [pk_mul, nI_add, nI_add]
    exact hv
  · rw [x0, ew]
    by_cases q : n = 0
    · subst q
      exact cT rfl (pair 0 (fun z => by omega))
    · obtain ⟨a, ha, ea⟩ := u_r (s := 5) (d := n) (by omega) (by omega) (by omega) (by omega) v
      have hn0 : ¬ nI n = nI 0 := by rw [nI_eq (by omega) (by omega)]; exact q
      refine cF hn0 ⟨hX.cell 0 (by omega), hn0, ?_⟩
      rw [ea]
      exact pair a (fun _ => ha)
end L96
