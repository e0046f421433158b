/-! reading a law's text: an operand read by the model -/
theorem m31_s {B : Nat → Nat} {t f D o p s : Nat} {MI : mI} {ML : mJ} {r : pR} (h0 : MLc B t ML f 0) (h5 : MLc B t ML f 5) (ho : o ≤ 6) (hD : 8 * (6 - o) + 4 ≤ D) (h : MT t B p s MI) (h20 : MI 46 20 = nI o) (hs : s ≤ p) (hc : nxt B t p = 40 ∨ nxt B t p = 33 ∨ nxt B t p = 45)
    (hr : (if 6 ≤ o then some (false, p, [])
      else if nxt B t p = 40 then (pa B t f false 0 (o + 1) (p + 1)).bind (fun r => if r.1 = true then (if nxt B t r.2.1 = 41 then some (true, r.2.1 + 1, r.2.2) else some (false, r.2.1, r.2.2)) else some r)
      else (pa B t f false 5 (o + 1) (p + 1)).bind (fun r => if r.1 = true then some (true, r.2.1, r.2.2 ++ [if nxt B t p = 33 then -33 else -126]) else some r)) = some r) :
    VX11_readsOne_31 D (fun v M L' => v = none ∧ L' = ML ∧ MRs B t r s MI M) (nI (nxt B t p)) MI ML := by
  obtain ⟨D, rfl⟩ : ∃ D', D = D' + 3 := ⟨D - 3, by omega⟩
  have h160 := h.1
  have hpt := nxt_lt (B := B) (t := t) (p := p) (by omega)
  refine BX11_readsOne_31 ?_
  rw [h20]
  by_cases h6 : 6 ≤ o
  · have e : o = 6 := by omega
    subst e
    rw [if_pos h6] at hr
    have c3 := Option.some.inj hr
    subst c3
    obtain ⟨M', w1, w2, w3, w4⟩ := h.wg (D := D + 2) (ML := ML)
    exact cT rfl (usev w1 ⟨rfl, rfl, w3, fun z => (by cases z), fun _ => w2⟩)
  · rw [if_neg h6] at hr
    refine cF (by rw [nI_eq (by omega) (by omega)]; omega) ?_
    rw [nI_add]
    have eX : (mup (mup MI 46 (mput (MI 46) 20 (nI (o + 1)))) 46 (mput ((mup MI 46 (mput (MI 46) 20 (nI (o + 1)))) 46) 18 (((mup MI 46 (mput (MI 46) 20 (nI (o + 1)))) 46 18) + (nI 1)))) = mup MI 46 (mput (mput (MI 46) 20 (nI (o + 1))) 18 (nI (p + 1))) := by
      simp (disch := omega) only [mup_n, mup_s, mput_n, mput_s, mup_mup]
      rw [h.2.2.2.1, nI_add]
    rw [eX]
    have hX : MT t B (p + 1) s (mup MI 46 (mput (mput (MI 46) 20 (nI (o + 1))) 18 (nI (p + 1)))) := by
      have k := (h.op (x := nI (o + 1))).adv hpt
      rw [mup_mup, mup_s] at k
      exact k
    have hX2 : (mup MI 46 (mput (mput (MI 46) 20 (nI (o + 1))) 18 (nI (p + 1)))) 46 20 = nI (o + 1) := by simp (disch := omega) only [mup_n, mup_s, mput_n, mput_s, mup_mup]
    have cl : ∀ (r' : pR) (M5 : mI), MRs B t r' s (mup MI 46 (mput (mput (MI 46) 20 (nI (o + 1))) 18 (nI (p + 1)))) M5 → MRs B t r' s MI (mup M5 46 (mput (M5 46) 20 ((M5 46 20) - nI 1))) := by
      intro r' M5 hh
      have e : M5 46 20 = nI (o + 1) := by rw [hh.1.2 20 (by decide) (by decide) (by decide)]; exact hX2
      rw [e, pk_sub (by omega), Nat.add_sub_cancel]
      exact hh.cl h20
    by_cases h4 : nxt B t p = 40
    · rw [if_pos h4] at hr
      obtain ⟨r1, a1, a2⟩ := Option.bind_eq_some_iff.mp hr
      have k := pa_ok f false 0 (o + 1) (p + 1) r1 hpt (fun z => by cases z) a1
      obtain ⟨M, m1, m2⟩ := h0 (D + 3) (o + 1) (p + 1) s _ r1 (by omega) (by omega) hX hX2 (by omega) a1
      refine cT (by rw [h4]) (usev m1 ?_)
      by_cases b1 : r1.1 = true
      · rw [if_pos b1] at a2
        obtain ⟨hm, hw⟩ := m2.2.1 b1
        have hm0 := hm
        obtain ⟨g1, g2, g3, g4, g5, g6, g7⟩ := hm0
        by_cases h41 : nxt B t r1.2.1 = 41
        · rw [if_pos h41] at a2
          have c3 := Option.some.inj a2
          subst c3
          have hrt := nxt_lt (B := B) (t := t) (p := r1.2.1) (by omega)
          refine usei (t_takesY g1 g2 g3 g4 (by omega) g7 (by decide) (by decide) h41) (cF (by decide) ⟨rfl, rfl, cl _ _ ⟨FMr.ad.tr m2.1, fun _ => ⟨hm.adv hrt, ?_⟩, fun z => (by cases z)⟩⟩)
          rw [mup_n (by decide)]
          exact hw
        · rw [if_neg h41] at a2
          have c3 := Option.some.inj a2
          subst c3
          obtain ⟨M', w1, w2, w3, w4⟩ := hm.wg (D := D + 2) (ML := ML)
          exact usei (t_takesN g1 g2 g3 g4 (by omega) g7 (by decide) (by decide) h41) (cT rfl (usev w1 ⟨rfl, rfl, cl _ _ ⟨w3.tr m2.1, fun z => (by cases z), fun _ => w2⟩⟩))
      · rw [if_neg b1] at a2
        have c3 := Option.some.inj a2
        subst c3
        have hf := m2.2.2 (bnf b1)
        exact usei (t_takesF hf.f0) (cT rfl (usev (t_wrongF hf.f0) ⟨rfl, rfl, cl _ _ m2⟩))
    · rw [if_neg h4] at hr
      obtain ⟨r1, a1, a2⟩ := Option.bind_eq_some_iff.mp hr
      have k := pa_ok f false 5 (o + 1) (p + 1) r1 hpt (fun z => by cases z) a1
      obtain ⟨M, m1, m2⟩ := h5 (D + 3) (o + 1) (p + 1) s _ r1 (by omega) (by omega) hX hX2 (by omega) a1
      refine cF (by rw [nI_eq (by omega) (by omega)]; exact h4) (usev m1 ?_)
      have wr : ∀ x y : Int32, y = mtk x → ((if nxt B t p = 33 then -33 else -126 : Int32) = x) → VX11_readsOne_111 (D + 3) (fun v M L' => v = none ∧ L' = ML ∧ MRs B t r s MI M) y M ML := by
        intro x y hy hx
        rw [hx] at a2
        obtain ⟨M', w1, w2⟩ := m2.wr (D := D + 2) (ML := ML) (x := x) (y := y) (by omega) hy
        refine BX11_readsOne_111 (usev w1 ⟨rfl, rfl, ?_⟩)
        by_cases b1 : r1.1 = true
        · rw [if_pos b1] at a2
          have c3 := Option.some.inj a2
          subst c3
          rw [b1] at w2
          exact cl _ _ w2
        · rw [if_neg b1] at a2
          have c3 := Option.some.inj a2
          subst c3
          exact cl _ _ ⟨w2.1, fun z => absurd z b1, fun _ => w2.2.2 (bnf b1)⟩
      rw [nI_eq (by omega) (by omega)]
      refine br (fun q => wr (-126) _ (by decide) (if_neg (by omega))) (fun q => wr (-33) _ (by decide) (if_pos (by omega)))
theorem m5_s {B : Nat → Nat} {t f : Nat} {ML : mJ} (hI : Iw ML) (h0 : MLc B t ML f 0) (h5 : MLc B t ML f 5) : MLc B t ML (f + 1) 5 := by
  intro D o p s MI r ho hD h h20 hs hr
  obtain ⟨D, rfl⟩ : ∃ D', D = D' + 4 := ⟨D - 4, by omega⟩
  suffices hh : VX11_readsOne_0 (D + 3) (fun v M L' => v = none ∧ L' = ML ∧ MRs B t r s MI M) MI ML by
    obtain ⟨v, M, L', ⟨rfl, rfl, hr⟩, hh⟩ := EX11_readsOne hh
    exact ⟨M, hh, hr⟩
  have hx := h.n6
  have h160 := h.1
  have hpt0 := h.2.2.2.2.2.1
  rw [pa_f, if_neg (by decide)] at hr
  refine BX11_readsOne_0 (cT (by rw [h.2.2.2.2.2.2]; decide) (usei h.nx ?_))
  have op : nxt B t p = 40 ∨ nxt B t p = 33 ∨ nxt B t p = 45 → VX11_readsOne_31 (D + 3) (fun v M L' => v = none ∧ L' = ML ∧ MRs B t r s MI M) (zI (nxt B t p)) MI ML := by
    intro hc
    rw [if_pos hc] at hr
    rw [show zI (nxt B t p) = nI (nxt B t p) from if_neg (by omega)]
    exact m31_s h0 h5 ho (by omega) h h20 hs hc hr
  rw [zI_eq hx (by decide) (by decide), zI_eq hx (by decide) (by decide), zI_eq hx (by decide) (by decide)]
  refine br (fun q => op (Or.inr (Or.inl q))) (fun q1 => br (fun q => op (Or.inr (Or.inr q))) (fun q2 => br (fun q => op (Or.inl q)) (fun q3 => ?_)))
  rw [if_neg (by omega)] at hr
  have num : ¬ (97 ≤ nxt B t p ∧ nxt B t p ≤ 122) → VX11_readsOne_146 (D + 3) (fun v M L' => v = none ∧ L' = ML ∧ MRs B t r s MI M) (nI 0) (nI 0) MI ML := by
    intro hl
    refine t_rn4 (D := D + 2) (s := s) 4 0 p MI (Nat.le_refl _) h (fun M d m1 m2 m3 d1 d2 d3 => ?_)
    by_cases hd : dgB (nxt B t p) = true
    · rw [if_pos hd] at hr
      have c3 := Option.some.inj hr
      subst c3
      obtain ⟨j1, j2, j3, j4⟩ := rnP_ok (B := B) (t := t) 4 0 p hpt0
      have j5 := j4 hd (by omega)
      obtain ⟨M', w1, w2, w3, w4⟩ := m1.wr (D := D + 2) (ML := ML) (x := nI (rnP B t 4 0 p).1) (by omega)
      refine BX11_readsOne_198 (cF (by rw [nI_eq (by omega) (by omega)]; omega) (BX11_readsOne_206 (usev w1 ⟨rfl, rfl, w4.tr m3, fun _ => ⟨w2, ?_⟩, fun z => (by cases z)⟩)))
      show wSg (MI 52) (M' 52) s [mtk (nI (rnP B t 4 0 p).1)]
      rw [mtk_n (by omega), w3, m2]
      exact wSg_one
    · rw [if_neg hd] at hr
      have e0 : rnP B t 4 0 p = (0, p) := by
        unfold rnP
        rw [if_neg hd]
      rw [e0] at m1 d3 ⊢
      have hd0 : d = 0 := d3.mpr rfl
      subst hd0
      have hw : ¬ wxP B t p < 6 := by
        intro hw
        have k3 := wxP_lt hw
        have e1 : wnP B t p = p := by
          show leP B t 161 p = p
          unfold leP
          rw [if_neg (fun z => hl (ltB_c.mp z))]
        omega
      rw [if_neg hw] at hr
      have c3 := Option.some.inj hr
      subst c3
      obtain ⟨M', w1, w2, w3, w4⟩ := m1.wg (D := D + 2) (ML := ML)
      exact BX11_readsOne_198 (cT rfl (usev w1 (BX11_readsOne_206 (usev (t_writesF w2.f0) ⟨rfl, rfl, w3.tr m3, fun z => (by cases z), fun _ => w2⟩))))
  have hz : nxt B t p ≠ 256 → zI (nxt B t p) = nI (nxt B t p) := fun z => if_neg z
  by_cases h256 : nxt B t p = 256
  · rw [h256]
    exact cT (by decide) (num (by omega))
  · rw [hz h256, nI_ltI (by omega) (by omega), nI_ltI (by omega) (by omega)]
    refine br (fun q => num (by omega)) (fun q4 => br (fun q => num (by omega)) (fun q5 => ?_))
    have hd : ¬ dgB (nxt B t p) = true := fun z => by
      have := dgB_c.mp z
      omega
    rw [if_neg hd] at hr
    have hpt := nxt_lt (B := B) (t := t) (p := p) h256
    obtain ⟨M, w1, w2, w3, w4⟩ := t_readsWord (D := D + 1) hI h (by omega)
    refine usev w1 ⟨rfl, rfl, ?_⟩
    by_cases hw : wxP B t p < 6
    · rw [if_pos hw] at hr
      have c3 := Option.some.inj hr
      subst c3
      obtain ⟨v1, v2⟩ := w3 hw
      refine ⟨w2, fun _ => ⟨v1, ?_⟩, fun z => (by cases z)⟩
      show wSg (MI 52) (M 52) s [mtk (-1 - nI (wxP B t p))]
      rw [mtk_w hw, v2]
      exact wSg_one
    · rw [if_neg hw] at hr
      have c3 := Option.some.inj hr
      subst c3
      obtain ⟨v1, v2, v3⟩ := w4 hw
      refine ⟨w2, fun z => (by cases z), fun _ => ⟨h160, ?_, ?_, ?_, v1, hpt0⟩⟩
      · rw [w2.2 8 (by decide) (by decide) (by decide)]; exact h.2.1
      · rw [w2.1 51 (by decide) (by decide)]; exact h.2.2.1
      · exact ⟨p, hpt0, v3⟩
theorem m_all {B : Nat → Nat} {t : Nat} {ML : mJ} (hI : Iw ML) : ∀ f, (∀ L, L ≤ 5 → MLc B t ML f L) ∧ ∀ L, L < 5 → MTc B t ML f L
  | 0 => ⟨(by intro L hL D o p s MI r a1 a2 a3 a4 a5 hr; cases hr), (by intro L hL D o p s MI r Q a1 a2 a3 a4 a5 hr; cases hr)⟩
  | f + 1 => by
    obtain ⟨a, b⟩ := m_all (B := B) (t := t) hI f
    refine ⟨fun L hL => ?_, fun L hL => mtc_s L hL (a (L + 1) hL) (b L hL)⟩
    by_cases q : L = 5
    · subst q
      exact m5_s hI (a 0 (by decide)) (a 5 (by decide))
    · exact mlc_s L (by omega) (a (L + 1) (by omega)) (b L (by omega))
