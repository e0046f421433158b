/-! reading a law's text: the model's reader against the grammar -/
def MF (t : Nat) (B : Nat → Nat) (fp : Nat) (M : mI) : Prop := t ≤ 160 ∧ M 46 8 = nI t ∧ (∀ j, j < t → M 51 j = nI (B j) ∧ B j < 256) ∧ (∃ q, q ≤ t ∧ M 46 18 = nI q) ∧ M 46 19 = nI fp ∧ fp ≤ t
def MRs (B : Nat → Nat) (t : Nat) (r : pR) (s : Nat) (MI M : mI) : Prop := FMr M MI ∧ (r.1 = true → MT t B r.2.1 (s + r.2.2.length) M ∧ wSg (MI 52) (M 52) s (r.2.2.map mtk)) ∧ (r.1 = false → MF t B r.2.1 M)
theorem FMr.ad {M : mI} {x : Int32} : FMr (mup M 46 (mput (M 46) 18 x)) M := ⟨fun q a _ => mup_n a, fun j a b c => by rw [mup_s, mput_n b]⟩
theorem MF.f0 {t fp : Nat} {B : Nat → Nat} {M : mI} (h : MF t B fp M) : nI 0 ≤ M 46 19 := by
  obtain ⟨h1, h2, h3, h4, h5, h6⟩ := h
  rw [h5]
  exact nI_le (Nat.zero_le _) (by omega)
theorem MF.by {t fp : Nat} {B : Nat → Nat} {M : mI} {ML : mJ} {D : Nat} (h : MF t B fp M) : ∃ x, mrc (D + 1) 196 [.ref 46] M ML (some (.int x)) M ML := by
  obtain ⟨h1, h2, h3, ⟨q, h4, h4b⟩, h5, h6⟩ := h
  exact ⟨_, t_byteAt h1 h2 h3 h4b (by omega)⟩
theorem MF.op {t fp : Nat} {B : Nat → Nat} {M : mI} {x : Int32} (h : MF t B fp M) : MF t B fp (mup M 46 (mput (M 46) 20 x)) := by
  obtain ⟨h1, h2, h3, ⟨q, h4, h4b⟩, h5, h6⟩ := h
  exact ⟨h1, by simp (disch := omega) only [mup_n, mup_s, mput_n, mput_s, mup_mup]; exact h2, by simp (disch := omega) only [mup_n, mup_s, mput_n, mput_s, mup_mup]; exact h3, ⟨q, h4, by simp (disch := omega) only [mup_n, mup_s, mput_n, mput_s, mup_mup]; exact h4b⟩, by simp (disch := omega) only [mup_n, mup_s, mput_n, mput_s, mup_mup]; exact h5, h6⟩
theorem MT.op {t p s : Nat} {B : Nat → Nat} {M : mI} {x : Int32} (h : MT t B p s M) : MT t B p s (mup M 46 (mput (M 46) 20 x)) := by
  obtain ⟨h1, h2, h3, h4, h5, h6, h7⟩ := h
  exact ⟨h1, by simp (disch := omega) only [mup_n, mup_s, mput_n, mput_s, mup_mup]; exact h2, by simp (disch := omega) only [mup_n, mup_s, mput_n, mput_s, mup_mup]; exact h3, by simp (disch := omega) only [mup_n, mup_s, mput_n, mput_s, mup_mup]; exact h4, by simp (disch := omega) only [mup_n, mup_s, mput_n, mput_s, mup_mup]; exact h5, h6, by simp (disch := omega) only [mup_n, mup_s, mput_n, mput_s, mup_mup]; exact h7⟩
theorem MT.m1 {t p s : Nat} {B : Nat → Nat} {M : mI} (h : MT t B p s M) : ¬ nI 0 ≤ M 46 19 := by
  rw [h.2.2.2.2.2.2]
  decide
/-- a fault is set where the reader stands -/
theorem MT.wg {t p s : Nat} {B : Nat → Nat} {M : mI} {ML : mJ} {D : Nat} (h : MT t B p s M) : ∃ M', mrc (D + 1) 197 [.ref 46] M ML none M' ML ∧ MF t B p M' ∧ FMr M' M ∧ M' 52 = M 52 := by
  obtain ⟨h1, h2, h3, h4, h5, h6, h7⟩ := h
  refine ⟨_, t_wrongN h7, ⟨h1, by simp (disch := omega) only [mup_n, mup_s, mput_n, mput_s, mup_mup]; exact h2, by simp (disch := omega) only [mup_n, mup_s, mput_n, mput_s, mup_mup]; exact h3, ⟨p, h6, by simp (disch := omega) only [mup_n, mup_s, mput_n, mput_s, mup_mup]; exact h4⟩, by simp (disch := omega) only [mup_n, mup_s, mput_n, mput_s, mup_mup]; exact h4, h6⟩, ⟨fun q a _ => mup_n a, fun j a b c => by rw [mup_s, mput_n c]⟩, mup_n (by decide)⟩
theorem MRs.cl {B : Nat → Nat} {t s o : Nat} {r : pR} {MI M : mI} {a b : Int32} (h : MRs B t r s (mup MI 46 (mput (mput (MI 46) 20 a) 18 b)) M) (ho : MI 46 20 = nI o) : MRs B t r s MI (mup M 46 (mput (M 46) 20 (nI o))) := by
  obtain ⟨h1, h2, h3⟩ := h
  refine ⟨⟨fun q qa qb => ?_, fun j ja jb jc => ?_⟩, fun z => ?_, fun z => (h3 z).op⟩
  · rw [mup_n qa, h1.1 q qa qb, mup_n qa]
  · rw [mup_s]
    by_cases q : j = 20
    · subst q
      rw [mput_s, ho]
    · rw [mput_n q, h1.2 j ja jb jc, mup_s, mput_n jb, mput_n q]
  · obtain ⟨k1, k2⟩ := h2 z
    refine ⟨k1.op, ?_⟩
    rw [mup_n (by decide)] at k2 ⊢
    exact k2
theorem MRs.ad {B : Nat → Nat} {t s : Nat} {r : pR} {MI M : mI} {x : Int32} (h : MRs B t r s (mup MI 46 (mput (MI 46) 18 x)) M) : MRs B t r s MI M := by
  obtain ⟨h1, h2, h3⟩ := h
  refine ⟨h1.tr FMr.ad, fun z => ?_, h3⟩
  obtain ⟨k1, k2⟩ := h2 z
  rw [mup_n (by decide)] at k2
  exact ⟨k1, k2⟩
theorem MRs.tr {B : Nat → Nat} {t s p1 : Nat} {l1 : List Int32} {r2 : pR} {MI M M2 : mI} (h : MRs B t (true, p1, l1) s MI M) (h2 : MRs B t r2 (s + l1.length) M M2) : MRs B t (r2.1, r2.2.1, l1 ++ r2.2.2) s MI M2 := by
  obtain ⟨a1, a2, a3⟩ := h
  obtain ⟨b1, b2, b3⟩ := h2
  refine ⟨b1.tr a1, fun z => ?_, b3⟩
  obtain ⟨c1, c2⟩ := a2 rfl
  obtain ⟨d1, d2⟩ := b2 z
  refine ⟨?_, ?_⟩
  · show MT t B r2.2.1 (s + (l1 ++ r2.2.2).length) M2
    rw [List.length_append, ← Nat.add_assoc]
    exact d1
  · show wSg _ _ s ((l1 ++ r2.2.2).map mtk)
    rw [List.map_append]
    refine wSg_app c2 ?_
    rw [List.length_map]
    exact d2
/-- a sign behind what was read -/
theorem MRs.wr {B : Nat → Nat} {t s : Nat} {r : pR} {MI M : mI} {ML : mJ} {D : Nat} {x y : Int32} (h : MRs B t r s MI M) (hs : s + r.2.2.length < 160) (hy : y = mtk x) : ∃ M', mrc (D + 1) 199 [.ref 46, .int y] M ML none M' ML ∧ MRs B t (r.1, r.2.1, r.2.2 ++ [x]) s MI M' := by
  subst hy
  by_cases b : r.1 = true
  · have h' : MRs B t (true, r.2.1, r.2.2) s MI M := by
      rw [← b]
      exact h
    obtain ⟨M', w1, w2, w3, w4⟩ := (h.2.1 b).1.wr (D := D) (ML := ML) (x := mtk x) hs
    refine ⟨M', w1, ?_⟩
    have k := h'.tr (r2 := (true, r.2.1, [x])) (M2 := M') ⟨w4, fun _ => ⟨w2, by rw [w3]; exact wSg_one⟩, fun z => (by cases z)⟩
    rw [b]
    exact k
  · have hf := h.2.2 (bnf b)
    refine ⟨M, t_writesF hf.f0, h.1, fun z => absurd z b, fun _ => hf⟩
def mlv : Nat → Nat
  | 0 => 200
  | 1 => 201
  | 2 => 202
  | 3 => 203
  | 4 => 204
  | _ => 206
def MLc (B : Nat → Nat) (t : Nat) (ML : mJ) (f L : Nat) : Prop := ∀ (D o p s : Nat) (MI : mI) (r : pR), o ≤ 6 → 8 * (6 - o) + (10 - L) ≤ D → MT t B p s MI → MI 46 20 = nI o → s ≤ p → pa B t f false L o p = some r → ∃ M, mrc D (mlv L) [.ref 46] MI ML none M ML ∧ MRs B t r s MI M
def tlM : Nat → Nat → (Option Value → mI → mJ → Prop) → mI → mJ → Prop
  | 0, D, Q, M, N => VX11_readsEither_4 D Q M N
  | 1, D, Q, M, N => VX11_readsBoth_4 D Q M N
  | 2, D, Q, M1, N2 => (∃ (x5 : Int32) (M3 : mI) (N4 : mJ), mrc D 196 [.ref 46] M1 N2 (some (.int x5)) M3 N4 ∧ ((nI 0 ≤ (M3 46 19) → Q none M3 N4) ∧ (¬ nI 0 ≤ (M3 46 19) → (x5 = (nI 60) → VX11_readsCompared_34 D Q x5 M3 N4) ∧ (¬ x5 = (nI 60) → (x5 = (nI 61) → VX11_readsCompared_34 D Q x5 M3 N4) ∧ (¬ x5 = (nI 61) → (x5 = (nI 62) → VX11_readsCompared_34 D Q x5 M3 N4) ∧ (¬ x5 = (nI 62) → Q none M3 N4))))))
  | 3, D, Q, M, N => VX11_readsSums_4 D Q M N
  | _, D, Q, M, N => VX11_readsProduct_4 D Q M N
def MTc (B : Nat → Nat) (t : Nat) (ML : mJ) (f L : Nat) : Prop := ∀ (D o p s : Nat) (MI : mI) (r : pR) (Q : Option Value → mI → mJ → Prop), o ≤ 6 → 8 * (6 - o) + (9 - L) ≤ D → MT t B p s MI → MI 46 20 = nI o → s ≤ p → pa B t f true L o p = some r → (∀ M, MRs B t r s MI M → Q none M ML) → tlM L D Q MI ML
theorem tl_F {B : Nat → Nat} {t fp D : Nat} {M : mI} {ML : mJ} {Q : Option Value → mI → mJ → Prop} (h : MF t B fp M) (K : Q none M ML) : ∀ L, L < 5 → tlM L (D + 1) Q M ML := by
  obtain ⟨x, hx⟩ := h.by (ML := ML) (D := D)
  intro L hL
  rcases (show L = 0 ∨ L = 1 ∨ L = 2 ∨ L = 3 ∨ L = 4 by omega) with rfl | rfl | rfl | rfl | rfl
  · exact BX11_readsEither_4 (usei (t_takesF h.f0) (cT rfl K))
  · exact BX11_readsBoth_4 (usei (t_takesF h.f0) (cT rfl K))
  · exact usei hx (cT h.f0 K)
  · exact BX11_readsSums_4 (cT h.f0 K)
  · exact BX11_readsProduct_4 (cT h.f0 K)
/-- a join: what it joins is read, its sign written -/
theorem m_join {B : Nat → Nat} {t f L D o p s : Nat} {MI : mI} {ML : mJ} {r1 : pR} {y : Int32} (hn : MLc B t ML f (L + 1)) (hL : L < 5) (ho : o ≤ 6) (hD : 8 * (6 - o) + (9 - L) ≤ D) (h : MT t B p s MI) (h20 : MI 46 20 = nI o) (hs : s ≤ p) (hpt : p < t) (a1 : pa B t f false (L + 1) o (p + 1) = some r1) (hy : y = mtk (jsg (nxt B t p))) :
    ∃ M M', mrc D (mlv (L + 1)) [.ref 46] (mup MI 46 (mput (MI 46) 18 (nI (p + 1)))) ML none M ML ∧ mrc D 199 [.ref 46, .int y] M ML none M' ML ∧ MRs B t (r1.1, r1.2.1, r1.2.2 ++ [jsg (nxt B t p)]) s MI M' := by
  have h160 := h.1
  have k := pa_ok f false (L + 1) o (p + 1) r1 hpt (fun z => by cases z) a1
  obtain ⟨M, m1, m2⟩ := hn D o (p + 1) s _ r1 ho (by omega) (h.adv hpt) (by simp (disch := omega) only [mup_n, mup_s, mput_n, mput_s, mup_mup]; exact h20) (by omega) a1
  replace m2 := m2.ad
  obtain ⟨D, rfl⟩ : ∃ D', D = D' + 1 := ⟨D - 1, by omega⟩
  obtain ⟨M', w1, w2⟩ := m2.wr (D := D) (ML := ML) (x := jsg (nxt B t p)) (y := y) (by omega) hy
  exact ⟨M, M', m1, w1, w2⟩
theorem lvO_i {c : Nat} (h : c < 256) : lvO c = 0 ↔ c = 124 := by
  unfold lvO
  repeat' split
  all_goals omega
theorem lvO_i1 {c : Nat} (h : c < 256) : lvO c = 1 ↔ c = 38 := by
  unfold lvO
  repeat' split
  all_goals omega
theorem lvO_i2 {c : Nat} : lvO c = 2 ↔ c = 60 ∨ c = 61 ∨ c = 62 := by
  unfold lvO
  repeat' split
  all_goals omega
theorem lvO_i3 {c : Nat} : lvO c = 3 ↔ c = 43 ∨ c = 45 := by
  unfold lvO
  repeat' split
  all_goals omega
theorem lvO_i4 {c : Nat} : lvO c = 4 ↔ c = 42 ∨ c = 47 ∨ c = 37 := by
  unfold lvO
  repeat' split
  all_goals omega
theorem jsg_m {c : Nat} (h : lvO c < 5) : (-100 : Int32) - nI c = mtk (jsg c) := by
  rcases lvO_c h with rfl | rfl | rfl | rfl | rfl | rfl | rfl | rfl | rfl | rfl <;> decide
/-- the joins that follow, but for what a level's first test looks like -/
theorem m_tl {B : Nat → Nat} {t f L D o p s : Nat} {MI : mI} {ML : mJ} {r : pR} {Q : Option Value → mI → mJ → Prop} (hn : MLc B t ML f (L + 1)) (ht : MTc B t ML f L) (hL : L < 5) (ho : o ≤ 6) (hD : 8 * (6 - o) + (9 - L) ≤ D) (h : MT t B p s MI) (h20 : MI 46 20 = nI o) (hs : s ≤ p) (hr : pa B t (f + 1) true L o p = some r) (K : ∀ M, MRs B t r s MI M → Q none M ML) :
    (lvO (nxt B t p) ≠ L → Q none MI ML) ∧ (lvO (nxt B t p) = L → ∃ M M', mrc D (mlv (L + 1)) [.ref 46] (mup MI 46 (mput (MI 46) 18 (nI (p + 1)))) ML none M ML ∧ mrc D 199 [.ref 46, .int ((-100 : Int32) - nI (nxt B t p))] M ML none M' ML ∧ (L = 2 → Q none M' ML) ∧ (L ≠ 2 → tlM L D Q M' ML)) := by
  rw [pa_t] at hr
  constructor
  · intro hv
    rw [if_neg hv] at hr
    have c3 := Option.some.inj hr
    subst c3
    exact K MI ⟨FMr.rf, fun _ => ⟨h, wSg_nil⟩, fun z => (by cases z)⟩
  · intro hv
    rw [if_pos hv] at hr
    have hpt := nxt_lt (B := B) (t := t) (p := p) (lvO_lt (by omega))
    obtain ⟨r1, a1, a2⟩ := Option.bind_eq_some_iff.mp hr
    have k := pa_ok f false (L + 1) o (p + 1) r1 hpt (fun z => by cases z) a1
    obtain ⟨M, M', m1, m2, m3⟩ := m_join (D := D) hn hL ho hD h h20 hs hpt a1 (jsg_m (by omega))
    refine ⟨M, M', m1, m2, ?_⟩
    have e20 : M' 46 20 = nI o := by rw [m3.1.2 20 (by decide) (by decide) (by decide)]; exact h20
    by_cases b1 : r1.1 = true
    · rw [if_pos b1] at a2
      by_cases h2 : L = 2
      · rw [if_pos h2] at a2
        have c3 := Option.some.inj a2
        subst c3
        rw [b1] at m3
        exact ⟨fun _ => K M' m3, fun z => absurd h2 z⟩
      · rw [if_neg h2] at a2
        obtain ⟨r2, c1, c2⟩ := Option.bind_eq_some_iff.mp a2
        have c3 := Option.some.inj c2
        subst c3
        refine ⟨fun z => absurd z h2, fun _ => ?_⟩
        rw [b1] at m3
        have k3 := k.2.2.1 b1 rfl
        have hl : (r1.2.2 ++ [jsg (nxt B t p)]).length = r1.2.2.length + 1 := by
          rw [List.length_append]
          rfl
        refine ht D o r1.2.1 _ M' r2 Q ho hD (m3.2.1 rfl).1 e20 (by show s + (r1.2.2 ++ [jsg (nxt B t p)]).length ≤ r1.2.1; omega) c1 (fun M2 n1 => K M2 ?_)
        have go := m3.tr n1
        rw [List.append_assoc] at go
        exact go
    · rw [if_neg b1] at a2
      have c3 := Option.some.inj a2
      subst c3
      have hf := m3.2.2 (bnf b1)
      obtain ⟨D, rfl⟩ : ∃ D', D = D' + 1 := ⟨D - 1, by omega⟩
      have kk := K M' ⟨m3.1, fun z => absurd z b1, fun _ => hf⟩
      exact ⟨fun _ => kk, fun _ => tl_F hf kk L hL⟩
theorem mtc_s {B : Nat → Nat} {t f : Nat} {ML : mJ} (L : Nat) (hL : L < 5) (hn : MLc B t ML f (L + 1)) (ht : MTc B t ML f L) : MTc B t ML (f + 1) L := by
  intro D o p s MI r Q ho hD h h20 hs hr K
  obtain ⟨k1, k2⟩ := m_tl hn ht hL ho hD h h20 hs hr K
  obtain ⟨D, rfl⟩ : ∃ D', D = D' + 2 := ⟨D - 2, by omega⟩
  have hm := h
  obtain ⟨h1, h2, h3, h4, h5, h6, h7⟩ := hm
  have hx := h.n6
  have h160 := h.1
  rcases (show L = 0 ∨ L = 1 ∨ L = 2 ∨ L = 3 ∨ L = 4 by omega) with rfl | rfl | rfl | rfl | rfl
  · by_cases q : nxt B t p = 124
    · obtain ⟨M, M', m1, m2, m3, m4⟩ := k2 (by rw [q]; rfl)
      rw [q] at m2
      exact BX11_readsEither_4 (usei (t_takesY h1 h2 h3 h4 (by omega) h7 (by decide) (by decide) q) (cF (by decide) (usev m1 (usev m2 (m4 (by decide))))))
    · refine BX11_readsEither_4 (usei (t_takesN h1 h2 h3 h4 (by omega) h7 (by decide) (by decide) q) (cT rfl (k1 (fun z => ?_))))
      unfold lvO at z
      repeat' split at z
      all_goals omega
  · by_cases q : nxt B t p = 38
    · obtain ⟨M, M', m1, m2, m3, m4⟩ := k2 (by rw [q]; rfl)
      rw [q] at m2
      exact BX11_readsBoth_4 (usei (t_takesY h1 h2 h3 h4 (by omega) h7 (by decide) (by decide) q) (cF (by decide) (usev m1 (usev m2 (m4 (by decide))))))
    · refine BX11_readsBoth_4 (usei (t_takesN h1 h2 h3 h4 (by omega) h7 (by decide) (by decide) q) (cT rfl (k1 (fun z => ?_))))
      unfold lvO at z
      repeat' split at z
      all_goals omega
  · have go : nxt B t p = 60 ∨ nxt B t p = 61 ∨ nxt B t p = 62 → VX11_readsCompared_34 (D + 2) Q (zI (nxt B t p)) MI ML := by
      intro q
      obtain ⟨M, M', m1, m2, m3, m4⟩ := k2 (lvO_i2.mpr q)
      refine BX11_readsCompared_34 ?_
      rw [h4, nI_add, show zI (nxt B t p) = nI (nxt B t p) from if_neg (by omega)]
      exact usev m1 (usev m2 (m3 rfl))
    refine usei h.nx (cF h.m1 ?_)
    rw [zI_eq hx (by decide) (by decide), zI_eq hx (by decide) (by decide), zI_eq hx (by decide) (by decide)]
    refine br (fun q => go (Or.inl q)) (fun q1 => br (fun q => go (Or.inr (Or.inl q))) (fun q2 => br (fun q => go (Or.inr (Or.inr q))) (fun q3 => k1 (fun z => ?_))))
    have := lvO_i2.mp z
    omega
  · have go : nxt B t p = 43 ∨ nxt B t p = 45 → VX11_readsSums_29 (D + 2) Q MI ML := by
      intro q
      obtain ⟨M, M', m1, m2, m3, m4⟩ := k2 (lvO_i3.mpr q)
      refine BX11_readsSums_29 (usei h.nx ?_)
      rw [h4, nI_add, show zI (nxt B t p) = nI (nxt B t p) from if_neg (by omega)]
      exact usev m1 (usev m2 (m4 (by decide)))
    refine BX11_readsSums_4 (cF h.m1 (usei h.nx ?_))
    rw [zI_eq hx (by decide) (by decide)]
    refine br (fun q => go (Or.inl q)) (fun q1 => usei h.nx ?_)
    rw [zI_eq hx (by decide) (by decide)]
    refine br (fun q => go (Or.inr q)) (fun q2 => k1 (fun z => ?_))
    have := lvO_i3.mp z
    omega
  · have go : nxt B t p = 42 ∨ nxt B t p = 47 ∨ nxt B t p = 37 → VX11_readsProduct_38 (D + 2) Q MI ML := by
      intro q
      obtain ⟨M, M', m1, m2, m3, m4⟩ := k2 (lvO_i4.mpr q)
      refine BX11_readsProduct_38 (usei h.nx ?_)
      rw [h4, nI_add, show zI (nxt B t p) = nI (nxt B t p) from if_neg (by omega)]
      exact usev m1 (usev m2 (m4 (by decide)))
    refine BX11_readsProduct_4 (cF h.m1 (usei h.nx ?_))
    rw [zI_eq hx (by decide) (by decide)]
    refine br (fun q => go (Or.inl q)) (fun q1 => usei h.nx ?_)
    rw [zI_eq hx (by decide) (by decide)]
    refine br (fun q => go (Or.inr (Or.inl q))) (fun q2 => usei h.nx ?_)
    rw [zI_eq hx (by decide) (by decide)]
    refine br (fun q => go (Or.inr (Or.inr q))) (fun q3 => k1 (fun z => ?_))
    have := lvO_i4.mp z
    omega
theorem mlc_s {B : Nat → Nat} {t f : Nat} {ML : mJ} (L : Nat) (hL : L < 5) (hn : MLc B t ML f (L + 1)) (ht : MTc B t ML f L) : MLc B t ML (f + 1) L := by
  intro D o p s MI r ho hD h h20 hs hr
  obtain ⟨D, rfl⟩ : ∃ D', D = D' + 2 := ⟨D - 2, by omega⟩
  have hpt := h.2.2.2.2.2.1
  have go : ∃ (M1 : mI) (N1 : mJ), mrc (D + 1) (mlv (L + 1)) [.ref 46] MI ML none M1 N1 ∧ tlM L (D + 1) (fun v M L' => v = none ∧ L' = ML ∧ MRs B t r s MI M) M1 N1 := by
    rw [pa_f, if_pos hL] at hr
    obtain ⟨r1, a1, a2⟩ := Option.bind_eq_some_iff.mp hr
    have k := pa_ok f false (L + 1) o p r1 hpt (fun z => by cases z) a1
    obtain ⟨M, m1, m2⟩ := hn (D + 1) o p s MI r1 ho (by omega) h h20 hs a1
    refine ⟨M, ML, m1, ?_⟩
    have e20 : M 46 20 = nI o := by rw [m2.1.2 20 (by decide) (by decide) (by decide)]; exact h20
    by_cases b1 : r1.1 = true
    · rw [if_pos b1] at a2
      obtain ⟨r2, c1, c2⟩ := Option.bind_eq_some_iff.mp a2
      have c3 := Option.some.inj c2
      subst c3
      have m2' : MRs B t (true, r1.2.1, r1.2.2) s MI M := by
        rw [← b1]
        exact m2
      exact ht (D + 1) o r1.2.1 _ M r2 _ ho (by omega) (m2.2.1 b1).1 e20 (by omega) c1 (fun M2 n1 => ⟨rfl, rfl, m2'.tr n1⟩)
    · rw [if_neg b1] at a2
      have c3 := Option.some.inj a2
      subst c3
      exact tl_F (m2.2.2 (bnf b1)) ⟨rfl, rfl, m2⟩ L hL
  rcases (show L = 0 ∨ L = 1 ∨ L = 2 ∨ L = 3 ∨ L = 4 by omega) with rfl | rfl | rfl | rfl | rfl
  · obtain ⟨v, M, L', ⟨rfl, rfl, hr⟩, hh⟩ := EX11_readsEither (BX11_readsEither_0 go)
    exact ⟨M, hh, hr⟩
  · obtain ⟨v, M, L', ⟨rfl, rfl, hr⟩, hh⟩ := EX11_readsBoth (BX11_readsBoth_0 go)
    exact ⟨M, hh, hr⟩
  · obtain ⟨v, M, L', ⟨rfl, rfl, hr⟩, hh⟩ := EX11_readsCompared (BX11_readsCompared_0 (D := D + 1) (Q := fun v M L' => v = none ∧ L' = ML ∧ MRs B t r s MI M) go)
    exact ⟨M, hh, hr⟩
  · obtain ⟨v, M, L', ⟨rfl, rfl, hr⟩, hh⟩ := EX11_readsSums (BX11_readsSums_0 go)
    exact ⟨M, hh, hr⟩
  · obtain ⟨v, M, L', ⟨rfl, rfl, hr⟩, hh⟩ := EX11_readsProduct (BX11_readsProduct_0 go)
    exact ⟨M, hh, hr⟩
