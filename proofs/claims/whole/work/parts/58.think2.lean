/-! days in thought: what holds, begins; pairs -/
theorem Inv_A {MI M : mI} {ML : mJ} (hI : Inv MI ML) (h : FA M MI) (hz : Z84 (M 17)) : Inv M ML := by
  refine ⟨?_, Ic_c (by rw [h 39 (by decide) (by decide) (by decide)]) (by rw [h 39 (by decide) (by decide) (by decide)]) (h 40 (by decide) (by decide) (by decide)) (h 41 (by decide) (by decide) (by decide)) (h 42 (by decide) (by decide) (by decide)) (by rw [h 46 (by decide) (by decide) (by decide)]) (by rw [h 46 (by decide) (by decide) (by decide)]) (h 48 (by decide) (by decide) (by decide)) (h 49 (by decide) (by decide) (by decide)) (h 50 (by decide) (by decide) (by decide)) hI.2.1, It_c (by rw [h 3 (by decide) (by decide) (by decide)]) (h 5 (by decide) (by decide) (by decide)) (by rw [h 46 (by decide) (by decide) (by decide)]) (h 51 (by decide) (by decide) (by decide)) hI.2.2.1, Il_c (by rw [h 6 (by decide) (by decide) (by decide)]) (h 7 (by decide) (by decide) (by decide)) (by rw [h 46 (by decide) (by decide) (by decide)]) (h 53 (by decide) (by decide) (by decide)) (h 56 (by decide) (by decide) (by decide)) (h 57 (by decide) (by decide) (by decide)) hI.2.2.2.1, Is_c (h 11 (by decide) (by decide) (by decide)) (h 12 (by decide) (by decide) (by decide)) (h 13 (by decide) (by decide) (by decide)) (by rw [h 43 (by decide) (by decide) (by decide)]) (h 44 (by decide) (by decide) (by decide)) (by rw [h 46 (by decide) (by decide) (by decide)]) (h 74 (by decide) (by decide) (by decide)) (h 76 (by decide) (by decide) (by decide)) (h 77 (by decide) (by decide) (by decide)) rfl rfl hI.2.2.2.2.1, Ir_c (by rw [h 43 (by decide) (by decide) (by decide)]) (h 45 (by decide) (by decide) (by decide)) (by rw [h 46 (by decide) (by decide) (by decide)]) (h 75 (by decide) (by decide) (by decide)) (by rw [h 46 (by decide) (by decide) (by decide)]) hI.2.2.2.2.2.1, Ib_c (h 34 (by decide) (by decide) (by decide)) (h 70 (by decide) (by decide) (by decide)) (by rw [h 33 (by decide) (by decide) (by decide)]) (h 35 (by decide) (by decide) (by decide)) (by rw [h 46 (by decide) (by decide) (by decide)]) (h 71 (by decide) (by decide) (by decide)) hI.2.2.2.2.2.2.1, Ii_c (by rw [h 33 (by decide) (by decide) (by decide)]) (by rw [h 36 (by decide) (by decide) (by decide)]) (h 37 (by decide) (by decide) (by decide)) (h 38 (by decide) (by decide) (by decide)) (by rw [h 46 (by decide) (by decide) (by decide)]) (h 72 (by decide) (by decide) (by decide)) (h 73 (by decide) (by decide) (by decide)) hI.2.2.2.2.2.2.2.1, hI.2.2.2.2.2.2.2.2⟩
  obtain ⟨n, h8, hn, hm, hM, hP, z1, z2, z3, z4⟩ := hI.1
  exact ⟨n, h8, (show M 1 0 = MI 1 0 from (by rw [h 1 (by decide) (by decide) (by decide)])).trans hn, (show M 46 6 = MI 46 6 from (by rw [h 46 (by decide) (by decide) (by decide)])).trans hm, (show M 47 = MI 47 from (h 47 (by decide) (by decide) (by decide))).trans (hM.trans (show M 2 = MI 2 from (h 2 (by decide) (by decide) (by decide))).symm), (show M 2 = MI 2 from (h 2 (by decide) (by decide) (by decide))) ▸ hP, hz, (show M 37 = MI 37 from (h 37 (by decide) (by decide) (by decide))) ▸ z2, (show M 61 = MI 61 from (h 61 (by decide) (by decide) (by decide))) ▸ z3, (show M 72 = MI 72 from (h 72 (by decide) (by decide) (by decide))) ▸ z4⟩
theorem Inv_B {MI M : mI} {ML : mJ} (hI : Inv MI ML) (h : FB M MI) (hz : Z84 (M 61)) : Inv M ML := by
  refine ⟨?_, Ic_c (by rw [h.1 39 (by decide) (by decide)]) (by rw [h.1 39 (by decide) (by decide)]) (h.1 40 (by decide) (by decide)) (h.1 41 (by decide) (by decide)) (h.1 42 (by decide) (by decide)) (h.2 4 (by decide)) (h.2 5 (by decide)) (h.1 48 (by decide) (by decide)) (h.1 49 (by decide) (by decide)) (h.1 50 (by decide) (by decide)) hI.2.1, It_c (by rw [h.1 3 (by decide) (by decide)]) (h.1 5 (by decide) (by decide)) (h.2 8 (by decide)) (h.1 51 (by decide) (by decide)) hI.2.2.1, Il_c (by rw [h.1 6 (by decide) (by decide)]) (h.1 7 (by decide) (by decide)) (h.2 17 (by decide)) (h.1 53 (by decide) (by decide)) (h.1 56 (by decide) (by decide)) (h.1 57 (by decide) (by decide)) hI.2.2.2.1, Is_c (h.1 11 (by decide) (by decide)) (h.1 12 (by decide) (by decide)) (h.1 13 (by decide) (by decide)) (by rw [h.1 43 (by decide) (by decide)]) (h.1 44 (by decide) (by decide)) (h.2 41 (by decide)) (h.1 74 (by decide) (by decide)) (h.1 76 (by decide) (by decide)) (h.1 77 (by decide) (by decide)) rfl rfl hI.2.2.2.2.1, Ir_c (by rw [h.1 43 (by decide) (by decide)]) (h.1 45 (by decide) (by decide)) (h.2 44 (by decide)) (h.1 75 (by decide) (by decide)) (h.2 30 (by decide)) hI.2.2.2.2.2.1, Ib_c (h.1 34 (by decide) (by decide)) (h.1 70 (by decide) (by decide)) (by rw [h.1 33 (by decide) (by decide)]) (h.1 35 (by decide) (by decide)) (h.2 37 (by decide)) (h.1 71 (by decide) (by decide)) hI.2.2.2.2.2.2.1, Ii_c (by rw [h.1 33 (by decide) (by decide)]) (by rw [h.1 36 (by decide) (by decide)]) (h.1 37 (by decide) (by decide)) (h.1 38 (by decide) (by decide)) (h.2 40 (by decide)) (h.1 72 (by decide) (by decide)) (h.1 73 (by decide) (by decide)) hI.2.2.2.2.2.2.2.1, hI.2.2.2.2.2.2.2.2⟩
  obtain ⟨n, h8, hn, hm, hM, hP, z1, z2, z3, z4⟩ := hI.1
  exact ⟨n, h8, (show M 1 0 = MI 1 0 from (by rw [h.1 1 (by decide) (by decide)])).trans hn, (show M 46 6 = MI 46 6 from (h.2 6 (by decide))).trans hm, (show M 47 = MI 47 from (h.1 47 (by decide) (by decide))).trans (hM.trans (show M 2 = MI 2 from (h.1 2 (by decide) (by decide))).symm), (show M 2 = MI 2 from (h.1 2 (by decide) (by decide))) ▸ hP, (show M 17 = MI 17 from (h.1 17 (by decide) (by decide))) ▸ z1, (show M 37 = MI 37 from (h.1 37 (by decide) (by decide))) ▸ z2, hz, (show M 72 = MI 72 from (h.1 72 (by decide) (by decide))) ▸ z4⟩
theorem cpy84 {f g : Nat → Int32} (hf : Z84 f) (hg : Z84 g) : va_cpy f g 0 0 84 = f := by
  funext p
  unfold va_cpy
  by_cases h : p < 84
  · rw [if_pos (by omega)]
    congr 1
    omega
  · rw [if_neg (by omega), hf p (by omega), hg p (by omega)]
section T58
variable {D n : Nat} {La : mLaw} {MI : mI} {ML : mJ} {x y : Int32}
theorem t_thinks (h1 : Z84 (MI 47)) (h2 : Z84 (MI 61)) : mrc (D + 1) 211 [.ref 46] MI ML none (mup MI 61 (MI 47)) ML := by
  refine mrc_of (EX11_thinks (BX11_thinks_0 ?_))
  suffices h : VX11_thinks_2 D (eR none (mup MI 61 (MI 47)) ML) (nI 0) (mup MI 61 (fun p => if p < 0 then MI 47 p else MI 61 p)) ML by
    have e : mup MI 61 (fun p => if p < 0 then MI 47 p else MI 61 p) = MI := mup_id
    rwa [e] at h
  refine up (P := fun i => VX11_thinks_2 D _ (nI i) (mup MI 61 (fun p => if p < i then MI 47 p else MI 61 p)) ML) 84 (by decide) ?_ ?_
  · refine BX11_thinks_2 (cT (by decide) (vR ?_))
    congr 1
    funext p
    by_cases h : p < 84
    · rw [if_pos h]
    · rw [if_neg h, h1 p (by omega), h2 p (by omega)]
  · intro i _ hi ih
    refine BX11_thinks_2 (cF (nI_ge hi (by omega)) ⟨i, rfl, hi, i, rfl, hi, ?_⟩)
    rw [mup_s, mup_n (by decide), mup_mup, nI_add, show mput (fun p => if p < i then MI 47 p else MI 61 p) i (MI 47 i) = (fun p => if p < i + 1 then MI 47 p else MI 61 p) from by
      funext p
      unfold mput
      by_cases hp : p = i
      · subst hp; rw [if_pos rfl, if_pos (by omega)]
      · rw [if_neg hp]
        show (if p < i then MI 47 p else MI 61 p) = _
        by_cases q : p < i
        · rw [if_pos q, if_pos (by omega)]
        · rw [if_neg q, if_neg (by omega)]]
    exact ih
/-- what days in thought begin from, for both -/
def Tk (n : Nat) (La : mLaw) (MI : mI) (ML : mJ) : Prop := (∀ (D : Nat) (M : mI), FA M MI → Z84 (M 17) → ∃ M', mrc (D + 3) 122 [.ref 15] M ML none M' ML ∧ WC n La (MI 2) M' ∧ FA M' M ∧ ∀ q, q ≠ 16 → q ≠ 17 → M' q = M q) ∧ (∀ (D : Nat) (M : mI), FB M MI → Z84 (M 61) → ∃ M', mrc (D + 1) 211 [.ref 46] M ML none M' ML ∧ WM n La (MI 47) M' ∧ FB M' M)
theorem Tk_ok (hI : Inv MI ML) (hn : Ipn n MI) {La : mLaw} (hw : wfL La) (hC : LC La (MI 6 1) (MI 7)) (hL : LM La (MI 46 17) (MI 53) (MI 56) (MI 57)) : Tk n La MI ML := by
  obtain ⟨h8, hn, hm, hM, hP, z1, z2, z3, z4⟩ := hn
  refine ⟨fun D M hF hz => ?_, fun D M hF hz => ?_⟩
  · have e2 : M 2 = MI 2 := hF 2 (by decide) (by decide) (by decide)
    have hb := s_takeOver (D := D + 1) (MI := M) (ML := ML) bz16 bz1 (by decide)
    rw [cpy84 (by rw [e2]; exact hP.2) hz, e2] at hb
    refine ⟨_, mrc_of (EX9_begin (BX9_begin_0 (usev hb eRr))), ⟨h8, ?_, mup_s, hP, hw, ?_⟩, fun q a b c => ?_, ?_⟩
    · simp (disch := omega) only [mup_n, mup_s, mput_n, mput_s, mup_mup]
      rw [hF 1 (by decide) (by decide) (by decide)]
      exact hn
    · simp (disch := omega) only [mup_n, mup_s, mput_n, mput_s, mup_mup]
      rw [hF 6 (by decide) (by decide) (by decide), hF 7 (by decide) (by decide) (by decide)]
      exact hC
    · rw [mup_n (by omega), mup_n (by omega)]
    · intro q a b
      rw [mup_n b, mup_n a]
  · have e47 : M 47 = MI 47 := hF.1 47 (by decide) (by decide)
    refine ⟨_, t_thinks (by rw [e47, hM]; exact hP.2) hz, ⟨h8, ?_, ?_, by rw [hM]; exact hP, hw, ?_, ?_⟩, ⟨fun q a b => mup_n (by omega), fun j _ => by rw [mup_n (by decide)]⟩⟩
    · rw [mup_n (by decide), hF.2 6 (by decide)]
      exact hm
    · rw [mup_s, e47]
    · simp (disch := omega) only [mup_n, mup_s, mput_n, mput_s, mup_mup]
      rw [hF.2 17 (by decide), hF.1 53 (by decide) (by decide), hF.1 56 (by decide) (by decide), hF.1 57 (by decide) (by decide)]
      exact hL
    · rw [mup_n (by decide), hF.2 30 (by decide)]
      exact hI.2.2.2.2.2.1.1
theorem Ipn_A {M : mI} (h : Ipn n MI) (hF : FA M MI) (hz : Z84 (M 17)) : Ipn n M := by
  obtain ⟨h8, hn, hm, hM, hP, z1, z2, z3, z4⟩ := h
  have e : ∀ q, q ≠ 8 → q ≠ 9 → (q < 15 ∨ 27 < q) → M q = MI q := hF
  refine ⟨h8, ?_, ?_, ?_, ?_, hz, ?_, ?_, ?_⟩
  · rw [e 1 (by decide) (by decide) (by decide)]; exact hn
  · rw [e 46 (by decide) (by decide) (by decide)]; exact hm
  · rw [e 47 (by decide) (by decide) (by decide), e 2 (by decide) (by decide) (by decide)]; exact hM
  · rw [e 2 (by decide) (by decide) (by decide)]; exact hP
  · rw [e 37 (by decide) (by decide) (by decide)]; exact z2
  · rw [e 61 (by decide) (by decide) (by decide)]; exact z3
  · rw [e 72 (by decide) (by decide) (by decide)]; exact z4
/-- a call's pair in thought: the class's run, then the model's -/
theorem pair_T {yx ym : Nat} {as : List Value} (hI : Inv MI ML) (hn : Ipn n MI) {La : mLaw} (hw : wfL La) (hC : LC La (MI 6 1) (MI 7)) (hL : LM La (MI 46 17) (MI 53) (MI 56) (MI 57)) {v : Int32} (hc : (∀ (D : Nat) (M : mI), FA M MI → Z84 (M 17) → ∃ M', mrc (D + 3) 122 [.ref 15] M ML none M' ML ∧ WC n La (MI 2) M' ∧ FA M' M ∧ ∀ q, q ≠ 16 → q ≠ 17 → M' q = M q) → ∃ M1, mrc 300 yx (.ref 0 :: as) MI ML (some (.int v)) M1 ML ∧ FA M1 MI ∧ Z84 (M1 17)) (hm : ∀ N : mI, N 46 6 = nI n → N 47 = MI 2 → FA N MI → (∀ (D : Nat) (M : mI), FB M N → Z84 (M 61) → ∃ M', mrc (D + 1) 211 [.ref 46] M ML none M' ML ∧ WM n La (MI 2) M' ∧ FB M' M) → Z84 (N 61) → ∃ M2, mrc 300 ym (.ref 46 :: as) N ML (some (.int v)) M2 ML ∧ FB M2 N ∧ Z84 (M2 61)) : ∃ v M1 L1 M2 L2, mrc 300 yx (.ref 0 :: as) MI ML (some (.int v)) M1 L1 ∧ mrc 300 ym (.ref 46 :: as) M1 L1 (some (.int v)) M2 L2 ∧ Inv M2 L2 := by
  obtain ⟨M1, c1, c2, c3⟩ := hc (Tk_ok hI hn hw hC hL).1
  have hI1 := Inv_A hI c2 c3
  have hn1 := Ipn_A hn c2 c3
  have e : ∀ q, 27 < q → M1 q = MI q := fun q hq => c2 q (by omega) (by omega) (Or.inr hq)
  have ht := (Tk_ok (La := La) hI1 hn1 hw (by rw [c2 6 (by decide) (by decide) (by decide), c2 7 (by decide) (by decide) (by decide)]; exact hC) (by rw [e 46 (by decide), e 53 (by decide), e 56 (by decide), e 57 (by decide)]; exact hL)).2
  have e47 : M1 47 = MI 2 := (e 47 (by decide)).trans hn.2.2.2.1
  rw [e47] at ht
  obtain ⟨M2, m1, m2, m3⟩ := hm M1 hn1.2.2.1 e47 c2 ht hn1.2.2.2.2.2.2.2.1
  exact ⟨v, M1, ML, M2, ML, c1, m1, Inv_B hI1 m2 m3⟩
theorem rngT {lo hi : Int32} {A B : Prop} (h : wiB lo hi x = true) (k : B) : (x < lo → A) ∧ (¬ x < lo → (hi < x → A) ∧ (¬ hi < x → B)) := by
  simp only [wiB, Bool.and_eq_true, Bool.not_eq_true', decide_eq_false_iff_not] at h
  exact cF h.1 (cF h.2 k)
theorem rngF {lo hi : Int32} {A B : Prop} (h : ¬ wiB lo hi x = true) (k : A) : (x < lo → A) ∧ (¬ x < lo → (hi < x → A) ∧ (¬ hi < x → B)) := by
  simp only [wiB, Bool.and_eq_true, Bool.not_eq_true', decide_eq_false_iff_not] at h
  exact ⟨fun _ => k, fun q => ⟨fun _ => k, fun q2 => absurd ⟨q, q2⟩ h⟩⟩
theorem wi_ix {m : Nat} (hm : m < 1000000) (h : wiB (nI 0) (nI m) x = true) : ∃ d, d ≤ m ∧ x = nI d := by
  have b := wi_ti h
  rw [nI_toInt (by omega), nI_toInt (by omega)] at b
  rcases nIx x (n := m + 1) (by omega) with q | q | ⟨j, hj, q⟩
  · rw [fa_lt, nI_toInt (by omega)] at q
    omega
  · rw [fa_le, nI_toInt (by omega)] at q
    omega
  · exact ⟨j, by omega, q⟩
theorem s_isOneOrAll (hn : MI 1 0 = nI n) : mrc (D + 2) 153 [.ref 0, .int x] MI ML (some (.int (bI (decide (x = -1) || hasB n x)))) MI ML := by
  refine mrc_of (EX10_isOneOrAll (BX10_isOneOrAll_0 (br (fun h => iR ?_ rfl) (fun h => usei (s_has bz1 hn) (br (fun h2 => iR ?_ rfl) (fun h2 => iR ?_ rfl))))))
  · rw [decide_eq_true h]; rfl
  · rw [decide_eq_false h, bI_0.mp h2]; rfl
  · rw [decide_eq_false h]
    cases hb : hasB n x
    · exact absurd (by rw [hb]; rfl) h2
    · rfl
end T58
