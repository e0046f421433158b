/-! reading a law's text: lines; the model -/
def FMl (M MI : mI) : Prop := (∀ q, q ≠ 46 → q ≠ 52 → q ≠ 54 → q ≠ 55 → M q = MI q) ∧ ∀ j, j ≠ 10 → j ≠ 14 → j ≠ 18 → j ≠ 19 → M 46 j = MI 46 j
theorem FMl.rf {M : mI} : FMl M M := ⟨fun _ _ _ _ _ => rfl, fun _ _ _ _ _ => rfl⟩
theorem FMl.tr {M N MI : mI} (h : FMl M N) (h2 : FMl N MI) : FMl M MI := ⟨fun q a b c d => (h.1 q a b c d).trans (h2.1 q a b c d), fun j a b c d => (h.2 j a b c d).trans (h2.2 j a b c d)⟩
theorem FMr.l {M N : mI} (h : FMr M N) : FMl M N := ⟨fun q a b _ _ => h.1 q a b, fun j a _ c d => h.2 j a c d⟩
theorem MT.cg {t p s : Nat} {B : Nat → Nat} {M M' : mI} (h : MT t B p s M) (h1 : M' 51 = M 51) (h2 : ∀ j, j ≠ 14 → M' 46 j = M 46 j) : MT t B p s M' := by
  obtain ⟨a1, a2, a3, a4, a5, a6, a7⟩ := h
  exact ⟨a1, (h2 8 (by decide)).trans a2, by rw [h1]; exact a3, (h2 18 (by decide)).trans a4, (h2 10 (by decide)).trans a5, a6, (h2 19 (by decide)).trans a7⟩
theorem MF.cg {t p : Nat} {B : Nat → Nat} {M M' : mI} (h : MF t B p M) (h1 : M' 51 = M 51) (h2 : ∀ j, j ≠ 14 → M' 46 j = M 46 j) : MF t B p M' := by
  obtain ⟨a1, a2, a3, ⟨q, a4, a5⟩, a6, a7⟩ := h
  exact ⟨a1, (h2 8 (by decide)).trans a2, by rw [h1]; exact a3, ⟨q, a4, (h2 18 (by decide)).trans a5⟩, (h2 19 (by decide)).trans a6, a7⟩
section P83
variable {B : Nat → Nat} {t D : Nat} {ML : mJ} {Q : Option Value → mI → mJ → Prop}
theorem t_fl0 {fp : Nat} {M : mI} (h : MF t B fp M) (K : VX11_law_124 (D + 1) Q M ML) : VX11_law_27 (D + 1) Q (nI 0) M ML := BX11_law_27 (cT rfl (br (fun _ => K) (fun _ => usev (t_wrongF h.f0) K)))
/-- where a line ends: what is kept of it -/
def X76 (M : mI) (i : Nat) : mI := mup (mup M 55 (mput (M 55) i (M 46 10))) 46 (mput (M 46) 14 (nI (i + 1)))
theorem X76_f {M : mI} {i : Nat} : FMl (X76 M i) M ∧ X76 M i 51 = M 51 ∧ (∀ j, j ≠ 14 → X76 M i 46 j = M 46 j) ∧ X76 M i 52 = M 52 ∧ X76 M i 54 = M 54 ∧ X76 M i 55 = mput (M 55) i (M 46 10) ∧ X76 M i 46 14 = nI (i + 1) := by
  unfold X76
  refine ⟨⟨fun q a b c d => by rw [mup_n a, mup_n d], fun j a b c d => by rw [mup_s, mput_n b]⟩, by simp (disch := omega) only [mup_n, mup_s, mput_n, mput_s, mup_mup], fun j a => by rw [mup_s, mput_n a], by simp (disch := omega) only [mup_n, mup_s, mput_n, mput_s, mup_mup], by simp (disch := omega) only [mup_n, mup_s, mput_n, mput_s, mup_mup], by simp (disch := omega) only [mup_n, mup_s, mput_n, mput_s, mup_mup], by simp (disch := omega) only [mup_n, mup_s, mput_n, mput_s, mup_mup]⟩
theorem t_76 {i : Nat} {M : mI} (h14 : M 46 14 = nI i) (hi : i < 160) (K : ∃ (x : Int32) (M2 : mI) (N3 : mJ), mrc D 198 [.ref 46, .int (nI 59)] (X76 M i) ML (some (.int x)) M2 N3 ∧ VX11_law_27 D Q x M2 N3) : VX11_law_76 D Q M ML := by
  refine BX11_law_76 ⟨i, h14, hi, ?_⟩
  have e : (mup (mup M 55 (mput (M 55) i (M 46 10))) 46 (mput ((mup M 55 (mput (M 55) i (M 46 10))) 46) 14 (((mup M 55 (mput (M 55) i (M 46 10))) 46 14) + (nI 1)))) = X76 M i := by
    unfold X76
    simp (disch := omega) only [mup_n, mup_s, mput_n, mput_s, mup_mup]
    rw [h14, nI_add]
  rw [e]
  exact K
theorem t_f76 {fp i : Nat} {M : mI} (h : MF t B fp M) (h14 : M 46 14 = nI i) (hi : i < 160) (K : ∀ M', FMl M' M → MF t B fp M' → VX11_law_124 (D + 1) Q M' ML) : VX11_law_76 (D + 1) Q M ML := by
  obtain ⟨x1, x2, x3, x4, x5, x6, x7⟩ := X76_f (M := M) (i := i)
  have hF := h.cg x2 x3
  exact t_76 h14 hi (usei (t_takesF hF.f0) (t_fl0 hF (K _ x1 hF)))
theorem nxt_256 {p : Nat} (h : ∀ j, j < t → B j < 256) : nxt B t p = 256 ↔ t ≤ p := by
  unfold nxt
  by_cases q : p < t
  · rw [if_pos q]
    have := h p q
    omega
  · rw [if_neg q]
    omega
theorem t_ok76 {p s i : Nat} {M : mI} (h : MT t B p s M) (h14 : M 46 14 = nI i) (hi : i < 160)
    (KY : nxt B t p = 59 → ∀ M', FMl M' M → MT t B (p + 1) s M' → M' 46 14 = nI (i + 1) → M' 52 = M 52 → M' 54 = M 54 → M' 55 = mput (M 55) i (nI s) → VX11_law_27 (D + 2) Q (nI 1) M' ML)
    (KE : nxt B t p = 256 → ∀ M', FMl M' M → MT t B p s M' → M' 46 14 = nI (i + 1) → M' 52 = M 52 → M' 54 = M 54 → M' 55 = mput (M 55) i (nI s) → VX11_law_124 (D + 2) Q M' ML)
    (KN : nxt B t p ≠ 59 → nxt B t p ≠ 256 → ∀ M', FMl M' M → MF t B p M' → VX11_law_124 (D + 2) Q M' ML) : VX11_law_76 (D + 2) Q M ML := by
  obtain ⟨x1, x2, x3, x4, x5, x6, x7⟩ := X76_f (M := M) (i := i)
  have hT := h.cg x2 x3
  rw [h.2.2.2.2.1] at x6
  have hT0 := hT
  obtain ⟨g1, g2, g3, g4, g5, g6, g7⟩ := hT0
  refine t_76 h14 hi ?_
  by_cases q : nxt B t p = 59
  · have hpt := nxt_lt (B := B) (t := t) (p := p) (by omega)
    refine usei (t_takesY g1 g2 g3 g4 (by omega) g7 (by decide) (by decide) q) (KY q _ (FMr.ad.l.tr x1) (hT.adv hpt) ?_ ?_ ?_ ?_)
    · rw [mup_s, mput_n (by decide)]
      exact x7
    · rw [mup_n (by decide)]
      exact x4
    · rw [mup_n (by decide)]
      exact x5
    · rw [mup_n (by decide)]
      exact x6
  · refine usei (t_takesN g1 g2 g3 g4 (by omega) g7 (by decide) (by decide) q) (BX11_law_27 (cT rfl ?_))
    rw [g2, g4, nI_leI (by omega) (by omega), ← nxt_256 (fun j hj => (g3 j hj).2)]
    refine br (fun z => KE z _ x1 hT x7 x4 x5 x6) (fun z => ?_)
    obtain ⟨M', w1, w2, w3, w4⟩ := hT.wg (D := D + 1) (ML := ML)
    exact usev w1 (KN q z M' (w3.l.tr x1) w2)
theorem t_lw (hI : Iw ML) : ∀ (k p s i : Nat) (MI : mI) (r : xR), tx B t k p = some r → MT t B p s MI → MI 46 20 = nI 0 → MI 46 14 = nI i → 2 * i ≤ p → s ≤ p → (∀ M, FMl M MI → (r.1 = true → M 46 19 = -1 ∧ M 46 10 = nI (s + (flM r.2.2).length) ∧ wSg (MI 52) (M 52) s ((flM r.2.2).map mtk) ∧ M 46 14 = nI (i + r.2.2.length) ∧ wSg (MI 54) (M 54) i ((asM r.2.2 s).map nI) ∧ wSg (MI 55) (M 55) i ((enM r.2.2 s).map nI)) → (r.1 = false → M 46 19 = nI r.2.1) → VX11_law_124 (D + 60) Q M ML) → VX11_law_27 (D + 60) Q (nI 1) MI ML
  | 0, _, _, _, _, _, h, _, _, _, _, _, _ => by cases h
  | k + 1, p, s, i, MI, r, hr, h, h20, h14, hi, hs, K => by
    have ht := h.2.2.2.2.2.1
    have h160 := h.1
    rw [tx_s] at hr
    obtain ⟨rl, c1, c2⟩ := Option.bind_eq_some_iff.mp hr
    have kl := ln_ok ht c1
    obtain ⟨r1, b1, b2⟩ := Option.bind_eq_some_iff.mp c1
    have k1 := pa_ok _ false 0 0 p r1 ht (fun z => by cases z) b1
    obtain ⟨M, m1, m2⟩ := (m_all (B := B) (t := t) hI _).1 0 (by decide) (D + 60) 0 p s MI r1 (by decide) (by omega) h h20 hs b1
    have e14 : M 46 14 = nI i := by rw [m2.1.2 14 (by decide) (by decide) (by decide)]; exact h14
    have e20 : M 46 20 = nI 0 := by rw [m2.1.2 20 (by decide) (by decide) (by decide)]; exact h20
    have e54 : M 54 = MI 54 := m2.1.1 54 (by decide) (by decide)
    have e55 : M 55 = MI 55 := m2.1.1 55 (by decide) (by decide)
    refine BX11_law_27 (cF (by decide) (usev m1 ?_))
    have bad : ∀ (M2 : mI) (fp : Nat), FMl M2 MI → MF t B fp M2 → M2 46 14 = nI i → r.1 = false → r.2.1 = fp → VX11_law_76 (D + 60) Q M2 ML := by
      intro M2 fp f1 f2 f3 f4 f5
      refine t_f76 (D := D + 59) f2 f3 (by omega) (fun M' n1 n2 => K M' (n1.tr f1) (fun z => absurd (f4.symm.trans z) (by decide)) (fun _ => ?_))
      rw [f5]
      exact n2.2.2.2.2.1
    have good : ∀ (M2 : mI) (a s2 : Nat), rl.1 = true → FMl M2 MI → MT t B rl.2.1 s2 M2 → M2 46 20 = nI 0 → M2 46 14 = nI i → i < 160 → s2 = s + (rl.2.2.1.length + rl.2.2.2.length) → a = s + rl.2.2.1.length → wSg (MI 52) (M2 52) s ((rl.2.2.1 ++ rl.2.2.2).map mtk) → M2 54 = mput (MI 54) i (nI a) → M2 55 = MI 55 → VX11_law_76 (D + 60) Q M2 ML := by
      intro M2 a s2 c f1 f2 f20 f3 hi2 es ea f5 f6 f7
      rw [if_pos c] at c2
      obtain ⟨k2, k3, k4, k5, k6⟩ := kl.2.2 c
      refine t_ok76 (D := D + 58) f2 f3 hi2 (fun q M' n1 n2 n3 n4 n5 n6 => ?_) (fun q M' n1 n2 n3 n4 n5 n6 => ?_) (fun q1 q2 M' n1 n2 => ?_)
      · rw [if_pos q] at c2
        obtain ⟨r2, d1, d2⟩ := Option.bind_eq_some_iff.mp c2
        have c3 := Option.some.inj d2
        subst c3
        refine t_lw hI k (rl.2.1 + 1) s2 (i + 1) M' r2 d1 n2 ((n1.2 20 (by decide) (by decide) (by decide) (by decide)).trans f20) n3 (by omega) (by omega) (fun M3 o1 o2 o3 => K M3 (o1.tr (n1.tr f1)) (fun z => ?_) (fun z => o3 z))
        obtain ⟨v1, v2, v3, v4, v5, v6⟩ := o2 z
        refine ⟨v1, ?_, ?_, ?_, ?_, ?_⟩
        · rw [v2, es]
          show _ = nI (s + (rl.2.2.1 ++ (rl.2.2.2 ++ flM r2.2.2)).length)
          rw [List.length_append, List.length_append]
          congr 1
          omega
        · show wSg (MI 52) (M3 52) s ((rl.2.2.1 ++ (rl.2.2.2 ++ flM r2.2.2)).map mtk)
          rw [← List.append_assoc, List.map_append]
          refine wSg_app f5 ?_
          rw [List.length_map, List.length_append, ← es, ← n4]
          exact v3
        · rw [v4]
          show nI (i + 1 + r2.2.2.length) = nI (i + (r2.2.2.length + 1))
          congr 1
          omega
        · show wSg (MI 54) (M3 54) i ([nI (s + rl.2.2.1.length)] ++ (asM r2.2.2 (s + rl.2.2.1.length + rl.2.2.2.length)).map nI)
          refine wSg_app (g1 := M' 54) ?_ ?_
          · rw [n5, f6, ea]
            exact wSg_one
          · rw [Nat.add_assoc s, ← es]
            exact v5
        · show wSg (MI 55) (M3 55) i ([nI (s + rl.2.2.1.length + rl.2.2.2.length)] ++ (enM r2.2.2 (s + rl.2.2.1.length + rl.2.2.2.length)).map nI)
          rw [Nat.add_assoc s, ← es]
          refine wSg_app (g1 := M' 55) ?_ v6
          rw [n6, f7]
          exact wSg_one
      · rw [if_neg (by omega)] at c2
        have c3 := Option.some.inj c2
        subst c3
        refine K M' (n1.tr f1) (fun _ => ⟨n2.2.2.2.2.2.2, ?_, ?_, n3, ?_, ?_⟩) (fun z => absurd q (of_decide_eq_false z))
        · rw [n2.2.2.2.2.1, es]
          show _ = nI (s + (rl.2.2.1 ++ (rl.2.2.2 ++ [])).length)
          rw [List.append_nil, List.length_append]
        · show wSg (MI 52) (M' 52) s ((rl.2.2.1 ++ (rl.2.2.2 ++ [])).map mtk)
          rw [List.append_nil, n4]
          exact f5
        · show wSg (MI 54) (M' 54) i [nI (s + rl.2.2.1.length)]
          rw [n5, f6, ea]
          exact wSg_one
        · show wSg (MI 55) (M' 55) i [nI (s + rl.2.2.1.length + rl.2.2.2.length)]
          rw [Nat.add_assoc s, ← es, n6, f7]
          exact wSg_one
      · rw [if_neg q1] at c2
        have c3 := Option.some.inj c2
        subst c3
        exact K M' (n1.tr f1) (fun z => absurd (of_decide_eq_true z) q2) (fun _ => n2.2.2.2.2.1)
    by_cases c : r1.1 = true
    · obtain ⟨m3, m4⟩ := m2.2.1 c
      rw [if_pos c] at b2
      have k3 := k1.2.2.1 c rfl
      have m30 := m3
      obtain ⟨g1, g2, g3, g4, g5, g6, g7⟩ := m30
      by_cases q : nxt B t r1.2.1 = 63
      · rw [if_pos q] at b2
        have hpt := nxt_lt (B := B) (t := t) (p := r1.2.1) (by omega)
        obtain ⟨r2, d1, d2⟩ := Option.bind_eq_some_iff.mp b2
        have c3 := Option.some.inj d2
        have k2 := pa_ok _ false 0 0 (r1.2.1 + 1) r2 hpt (fun z => by cases z) d1
        refine usei (t_takesY g1 g2 g3 g4 (by omega) g7 (by decide) (by decide) q) (cF (by decide) (BX11_law_67 ⟨i, ?_, by omega, cF (by decide) ?_⟩))
        · simp (disch := omega) only [mup_n, mup_s, mput_n, mput_s, mup_mup]
          exact e14
        have eY : (mup (mup M 46 (mput (M 46) 18 (nI (r1.2.1 + 1)))) 54 (mput ((mup M 46 (mput (M 46) 18 (nI (r1.2.1 + 1)))) 54) i ((mup M 46 (mput (M 46) 18 (nI (r1.2.1 + 1)))) 46 10))) = mup (mup M 46 (mput (M 46) 18 (nI (r1.2.1 + 1)))) 54 (mput (M 54) i (nI (s + r1.2.2.length))) := by
          simp (disch := omega) only [mup_n, mup_s, mput_n, mput_s, mup_mup]
          rw [g5]
        rw [eY]
        have hT : MT t B (r1.2.1 + 1) (s + r1.2.2.length) (mup (mup M 46 (mput (M 46) 18 (nI (r1.2.1 + 1)))) 54 (mput (M 54) i (nI (s + r1.2.2.length)))) := (m3.adv hpt).cg (by rw [mup_n (by decide)]) (fun j _ => by rw [mup_n (by decide)])
        have fY : FMl (mup (mup M 46 (mput (M 46) 18 (nI (r1.2.1 + 1)))) 54 (mput (M 54) i (nI (s + r1.2.2.length)))) M := ⟨fun q a b c d => by rw [mup_n c, mup_n a], fun j a b c d => by rw [mup_n (by decide), mup_s, mput_n c]⟩
        obtain ⟨M2, n1, n2⟩ := (m_all (B := B) (t := t) hI _).1 0 (by decide) (D + 60) 0 (r1.2.1 + 1) _ _ r2 (by decide) (by omega) hT ((fY.2 20 (by decide) (by decide) (by decide) (by decide)).trans e20) (by omega) d1
        refine usev n1 ?_
        have h2 : FMl M2 MI := n2.1.l.tr (fY.tr m2.1.l)
        have h214 : M2 46 14 = nI i := by
          rw [n2.1.2 14 (by decide) (by decide) (by decide)]
          simp (disch := omega) only [mup_n, mup_s, mput_n, mput_s, mup_mup]
          exact e14
        have h220 : M2 46 20 = nI 0 := by
          rw [n2.1.2 20 (by decide) (by decide) (by decide)]
          simp (disch := omega) only [mup_n, mup_s, mput_n, mput_s, mup_mup]
          exact e20
        by_cases cc : r2.1 = true
        · obtain ⟨n3, n4⟩ := n2.2.1 cc
          subst c3
          refine good M2 (s + r1.2.2.length) _ cc h2 n3 h220 h214 (by omega) (Nat.add_assoc _ _ _) rfl ?_ ?_ ?_
          · show wSg (MI 52) (M2 52) s ((r1.2.2 ++ r2.2.2).map mtk)
            rw [List.map_append]
            refine wSg_app m4 ?_
            rw [mup_n (by decide), mup_n (by decide)] at n4
            rw [List.length_map]
            exact n4
          · rw [n2.1.1 54 (by decide) (by decide), mup_s, e54]
          · rw [n2.1.1 55 (by decide) (by decide), mup_n (by decide), mup_n (by decide), e55]
        · have hf := n2.2.2 (bnf cc)
          subst c3
          rw [if_neg cc] at c2
          have c5 := Option.some.inj c2
          subst c5
          exact bad M2 _ h2 hf h214 rfl rfl
      · rw [if_neg q] at b2
        have c3 := Option.some.inj b2
        subst c3
        refine usei (t_takesN g1 g2 g3 g4 (by omega) g7 (by decide) (by decide) q) (cT rfl (BX11_law_67 ⟨i, e14, by omega, cT rfl ?_⟩))
        have fY : FMl (mup M 54 (mput (M 54) i (MI 46 10))) M := ⟨fun q a b c d => mup_n c, fun j a b c d => by rw [mup_n (by decide)]⟩
        refine good _ s _ rfl (fY.tr m2.1.l) (m3.cg (mup_n (by decide)) (fun j _ => by rw [mup_n (by decide)])) (by rw [mup_n (by decide)]; exact e20) (by rw [mup_n (by decide)]; exact e14) (by omega) (by rw [List.length_nil, Nat.zero_add]) rfl ?_ ?_ ?_
        · rw [mup_n (by decide)]
          exact m4
        · rw [mup_s, e54, h.2.2.2.2.1]
        · rw [mup_n (by decide)]
          exact e55
    · rw [if_neg c] at b2
      have c3 := Option.some.inj b2
      subst c3
      have hf := m2.2.2 (bnf c)
      rw [if_neg (fun z => by cases z)] at c2
      have c5 := Option.some.inj c2
      subst c5
      refine usei (t_takesF hf.f0) (cT rfl (BX11_law_67 ⟨i, e14, by omega, cT rfl ?_⟩))
      have fY : FMl (mup M 54 (mput (M 54) i (MI 46 10))) M := ⟨fun q a b c d => mup_n c, fun j a b c d => by rw [mup_n (by decide)]⟩
      exact bad _ _ (fY.tr m2.1.l) (hf.cg (mup_n (by decide)) (fun j _ => by rw [mup_n (by decide)])) (by rw [mup_n (by decide)]; exact e14) rfl rfl
end P83
