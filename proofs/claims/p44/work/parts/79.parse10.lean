/-! reading a law's text: the class's reader against the grammar -/
def wSg (g g' : Nat → Int32) (s : Nat) (l : List Int32) : Prop := (∀ j, j < s → g' j = g j) ∧ ∀ i, i < l.length → g' (s + i) = l.getD i 0
theorem wSg_nil {g : Nat → Int32} {s : Nat} : wSg g g s [] := ⟨fun _ _ => rfl, fun _ hi => absurd hi (Nat.not_lt_zero _)⟩
theorem wSg_one {g : Nat → Int32} {s : Nat} {x : Int32} : wSg g (mput g s x) s [x] := by
  refine ⟨fun j hj => mput_n (by omega), fun i hi => ?_⟩
  have hi : i < 1 := hi
  have e : i = 0 := by omega
  subst e
  exact mput_s
theorem wSg_app {g g1 g2 : Nat → Int32} {s : Nat} {l1 l2 : List Int32} (h1 : wSg g g1 s l1) (h2 : wSg g1 g2 (s + l1.length) l2) : wSg g g2 s (l1 ++ l2) := by
  refine ⟨fun j hj => (h2.1 j (by omega)).trans (h1.1 j hj), fun i hi => ?_⟩
  rw [List.length_append] at hi
  by_cases q : i < l1.length
  · rw [h2.1 (s + i) (by omega), h1.2 i q]
    simp [List.getD_eq_getElem?_getD, List.getElem?_append_left q]
  · have k := h2.2 (i - l1.length) (by omega)
    rw [show s + l1.length + (i - l1.length) = s + i by omega] at k
    rw [k]
    simp [List.getD_eq_getElem?_getD, List.getElem?_append_right (show l1.length ≤ i by omega)]
def CRs (B : Nat → Nat) (t : Nat) (r : pR) (s : Nat) (MI M : mI) : Prop := FCr M MI ∧ ∃ s', CT t B r.2.1 s' M ∧ (r.1 = true → s' = s + r.2.2.length ∧ wSg (MI 4) (M 4) s r.2.2)
theorem CRs.pre {B : Nat → Nat} {t s : Nat} {r : pR} {MI M : mI} {x : Int32} (h : CRs B t r s (mup MI 3 (mput (MI 3) 4 x)) M) : CRs B t r s MI M := by
  obtain ⟨a, s', b, c⟩ := h
  refine ⟨a.tr ⟨fun q a _ => mup_n a, by simp (disch := omega) only [mup_n, mup_s, mput_n, mput_s, mup_mup]⟩, s', b, fun z => ⟨(c z).1, ?_⟩⟩
  have k := (c z).2
  rw [mup_n (by decide)] at k
  exact k
def C59 (B : Nat → Nat) (t f : Nat) : Prop := ∀ (D o p s : Nat) (MI : mI) (ML : mJ) (r : pR), o ≤ 6 → 8 * (6 - o) + 4 ≤ D → CT t B p s MI → s ≤ p → pa B t f false 5 o p = some r → ∃ M, mrc D 59 [.ref 3, .int (nI o)] MI ML (some (.int (bI r.1))) M ML ∧ CRs B t r s MI M
def C57 (B : Nat → Nat) (t f : Nat) : Prop := ∀ (D L o p s : Nat) (MI : mI) (ML : mJ) (r : pR), L ≤ 5 → o ≤ 6 → 8 * (6 - o) + (10 - L) ≤ D → CT t B p s MI → s ≤ p → pa B t f false L o p = some r → ∃ M, mrc D 57 [.ref 3, .int (nI L), .int (nI o)] MI ML (some (.int (bI r.1))) M ML ∧ CRs B t r s MI M
def C40 (B : Nat → Nat) (t f : Nat) : Prop := ∀ (D L o p s j : Nat) (MI : mI) (ML : mJ) (r : pR) (Q : Option Value → mI → mJ → Prop), L < 5 → o ≤ 6 → 8 * (6 - o) + (9 - L) ≤ D → CT t B p s MI → s ≤ p → j < p → (L = 2 → j = 0) → pa B t f true L o p = some r → (∀ M, CRs B t r s MI M → Q (some (.int (bI r.1))) M ML) → VX4_readLevel_40 D Q (nI L) (nI o) (nI (if L = 2 then 1 else 160)) (nI j) MI ML
theorem c60_s {B : Nat → Nat} {t f : Nat} (h57 : C57 B t f) (h59 : C59 B t f) {D o p s : Nat} {MI : mI} {ML : mJ} {r : pR} (ho : o < 6) (hD : 8 * (6 - o) + 3 ≤ D) (h : CT t B p s MI) (hs : s ≤ p) (hc : nxt B t p = 40 ∨ nxt B t p = 33 ∨ nxt B t p = 45)
    (hr : (if nxt B t p = 40 then (pa B t f false 0 (o + 1) (p + 1)).bind (fun r => if r.1 = true then (if nxt B t r.2.1 = 41 then some (true, r.2.1 + 1, r.2.2) else some (false, r.2.1, r.2.2)) else some r)
      else (pa B t f false 5 (o + 1) (p + 1)).bind (fun r => if r.1 = true then some (true, r.2.1, r.2.2 ++ [if nxt B t p = 33 then -33 else -126]) else some r)) = some r) :
    ∃ M, mrc D 60 [.ref 3, .int (cI (nxt B t p)), .int (nI (o + 1))] MI ML (some (.int (bI r.1))) M ML ∧ CRs B t r s MI M := by
  obtain ⟨D, rfl⟩ : ∃ D', D = D' + 2 := ⟨D - 2, by omega⟩
  suffices hh : VX4_readOpened_0 (D + 1) (fun v M L' => v = some (.int (bI r.1)) ∧ L' = ML ∧ CRs B t r s MI M) (cI (nxt B t p)) (nI (o + 1)) MI ML by
    obtain ⟨v, M, L', ⟨rfl, rfl, hr⟩, hh⟩ := EX4_readOpened hh
    exact ⟨M, hh, hr⟩
  have hn := h.n6
  have hpt := nxt_lt (B := B) (t := t) (p := p) (by omega)
  have h160 := h.1
  have ha := h.adv hpt
  refine BX4_readOpened_0 ?_
  rw [cI_eq hn (by decide), cI_eq hn (by decide), h.2.2.2.1, nI_add]
  by_cases h4 : nxt B t p = 40
  · rw [if_pos h4] at hr
    obtain ⟨r1, a1, a2⟩ := Option.bind_eq_some_iff.mp hr
    have k := pa_ok f false 0 (o + 1) (p + 1) r1 hpt (fun z => by cases z) a1
    obtain ⟨M, m1, m2⟩ := h57 (D + 1) 0 (o + 1) (p + 1) s _ ML r1 (by omega) (by omega) (by omega) ha (by omega) a1
    refine cT h4 (usei m1 ?_)
    replace m2 := m2.pre
    by_cases b1 : r1.1 = true
    · rw [if_pos b1] at a2
      obtain ⟨m3, s', m4, m5⟩ := m2
      refine bT b1 (usei m4.nx ?_)
      rw [cI_eq m4.n6 (by decide)]
      by_cases h41 : nxt B t r1.2.1 = 41
      · rw [if_pos h41] at a2
        have c3 := Option.some.inj a2
        subst c3
        have hrt := nxt_lt (B := B) (t := t) (p := r1.2.1) (by omega)
        refine cT h41 ⟨rfl, rfl, FCr.tr ⟨fun q a _ => mup_n a, by simp (disch := omega) only [mup_n, mup_s, mput_n, mput_s, mup_mup]⟩ m3, s', ?_, fun _ => ?_⟩
        · rw [m4.2.2.2.1, nI_add]
          exact m4.adv hrt
        · rw [mup_n (by decide)]
          exact m5 b1
      · rw [if_neg h41] at a2
        have c3 := Option.some.inj a2
        subst c3
        exact cF h41 ⟨rfl, rfl, m3, s', m4, fun z => (by cases z)⟩
    · rw [if_neg b1] at a2
      have c3 := Option.some.inj a2
      subst c3
      exact bF (bnf b1) ⟨by rw [bnf b1]; rfl, rfl, m2⟩
  · rw [if_neg h4] at hr
    obtain ⟨r1, a1, a2⟩ := Option.bind_eq_some_iff.mp hr
    have k := pa_ok f false 5 (o + 1) (p + 1) r1 hpt (fun z => by cases z) a1
    obtain ⟨M, m1, m2⟩ := h59 (D + 1) (o + 1) (p + 1) s _ ML r1 (by omega) (by omega) ha (by omega) a1
    refine cF h4 (usei m1 ?_)
    replace m2 := m2.pre
    by_cases b1 : r1.1 = true
    · rw [if_pos b1] at a2
      have c3 := Option.some.inj a2
      subst c3
      obtain ⟨m3, s', m4, m5⟩ := m2
      obtain ⟨e1, e2⟩ := m5 b1
      subst e1
      have k3 := k.2.2.1 b1 rfl
      have wr : ∀ x : Int32, ∃ M', mrc (D + 1) 67 [.ref 3, .int x] M ML none M' ML ∧ CRs B t (true, r1.2.1, r1.2.2 ++ [x]) s MI M' := by
        intro x
        obtain ⟨M', w1, w2, w3, w4⟩ := m4.wr (D := D) (ML := ML) (x := x) (by omega)
        refine ⟨M', w1, w4.tr m3, _, w2, fun _ => ⟨?_, ?_⟩⟩
        · show s + r1.2.2.length + 1 = s + (r1.2.2 ++ [x]).length
          rw [List.length_append]
          rfl
        · rw [w3]
          exact wSg_app e2 wSg_one
      refine bT b1 ?_
      by_cases h33 : nxt B t p = 33
      · rw [if_pos h33]
        obtain ⟨M', w1, w2⟩ := wr (-33)
        exact cT h33 (usev w1 ⟨rfl, rfl, w2⟩)
      · rw [if_neg h33]
        obtain ⟨M', w1, w2⟩ := wr (-126)
        exact cF h33 (usev w1 ⟨rfl, rfl, w2⟩)
    · rw [if_neg b1] at a2
      have c3 := Option.some.inj a2
      subst c3
      exact bF (bnf b1) ⟨by rw [bnf b1]; rfl, rfl, m2⟩
theorem c59_s {B : Nat → Nat} {t f : Nat} (h57 : C57 B t f) (h59 : C59 B t f) : C59 B t (f + 1) := by
  intro D o p s MI ML r ho hD h hs hr
  obtain ⟨D, rfl⟩ : ∃ D', D = D' + 3 := ⟨D - 3, by omega⟩
  suffices hh : VX4_readOperand_0 (D + 2) (fun v M L' => v = some (.int (bI r.1)) ∧ L' = ML ∧ CRs B t r s MI M) (nI o) MI ML by
    obtain ⟨v, M, L', ⟨rfl, rfl, hr⟩, hh⟩ := EX4_readOperand hh
    exact ⟨M, hh, hr⟩
  have hn := h.n6
  have h160 := h.1
  have ht := h.2.2.2.2.2
  rw [pa_f, if_neg (by decide)] at hr
  refine BX4_readOperand_0 (usei h.nx ?_)
  rw [cI_eq hn (by decide), cI_eq hn (by decide), cI_eq hn (by decide)]
  have opn : nxt B t p = 40 ∨ nxt B t p = 33 ∨ nxt B t p = 45 → VX4_readOperand_23 (D + 2) (fun v M L' => v = some (.int (bI r.1)) ∧ L' = ML ∧ CRs B t r s MI M) (nI o) (cI (nxt B t p)) MI ML := by
    intro hc
    rw [if_pos hc] at hr
    refine BX4_readOperand_23 ?_
    by_cases h6 : 6 ≤ o
    · rw [if_pos h6] at hr
      have c3 := Option.some.inj hr
      subst c3
      exact cT (nI_le h6 (by omega)) ⟨rfl, rfl, FCr.rf, s, h, fun z => (by cases z)⟩
    · rw [if_neg h6] at hr
      refine cF (nI_ge (by omega) (by omega)) ?_
      rw [nI_add]
      obtain ⟨M, m1, m2⟩ := c60_s h57 h59 (D := D + 2) (ML := ML) (by omega) (by omega) h hs hc hr
      refine usei m1 ?_
      by_cases b1 : r.1 = true
      · exact bT b1 ⟨by rw [b1]; rfl, rfl, m2⟩
      · exact bF (bnf b1) ⟨by rw [bnf b1]; rfl, rfl, m2⟩
  refine br (fun q => opn (Or.inl q)) (fun q1 => br (fun q => opn (Or.inr (Or.inl q))) (fun q2 => br (fun q => opn (Or.inr (Or.inr q))) (fun q3 => usei (s_isDigit hn) ?_)))
  rw [if_neg (by omega)] at hr
  by_cases hd : dgB (nxt B t p) = true
  · rw [if_pos hd] at hr
    have c3 := Option.some.inj hr
    subst c3
    obtain ⟨M, w1, w2, w3, w4⟩ := s_readNumber (D := D) (ML := ML) h (by omega)
    exact bT hd (usev w1 ⟨rfl, rfl, w4, s + 1, w2, fun _ => ⟨rfl, by rw [w3]; exact wSg_one⟩⟩)
  · rw [if_neg hd] at hr
    obtain ⟨y1, y2⟩ := s_readWord (D := D) (ML := ML) h (by omega)
    by_cases hw : wxP B t p < 6
    · rw [if_pos hw] at hr
      have c3 := Option.some.inj hr
      subst c3
      obtain ⟨M, w1, w2, w3, w4⟩ := y1 hw
      exact bF (bnf hd) (usei w1 ⟨Or.inr rfl, rfl, rfl, w4, s + 1, w2, fun _ => ⟨rfl, by rw [w3]; exact wSg_one⟩⟩)
    · rw [if_neg hw] at hr
      have c3 := Option.some.inj hr
      subst c3
      exact bF (bnf hd) (usei (y2 hw) ⟨Or.inl rfl, rfl, rfl, FCr.rf, s, h, fun z => (by cases z)⟩)
theorem c57_s {B : Nat → Nat} {t f : Nat} (h57 : C57 B t f) (h40 : C40 B t f) (h59 : C59 B t (f + 1)) : C57 B t (f + 1) := by
  intro D L o p s MI ML r hL ho hD h hs hr
  obtain ⟨D, rfl⟩ : ∃ D', D = D' + 3 := ⟨D - 3, by omega⟩
  suffices hh : VX4_readLevel_0 (D + 2) (fun v M L' => v = some (.int (bI r.1)) ∧ L' = ML ∧ CRs B t r s MI M) (nI L) (nI o) MI ML by
    obtain ⟨v, M, L', ⟨rfl, rfl, hr⟩, hh⟩ := EX4_readLevel hh
    exact ⟨M, hh, hr⟩
  have ht := h.2.2.2.2.2
  refine BX4_readLevel_0 ?_
  rw [nI_ltI (by omega) (by omega), nI_eq (by omega) (by omega)]
  by_cases hL5 : L < 5
  · rw [pa_f, if_pos hL5] at hr
    obtain ⟨r1, a1, a2⟩ := Option.bind_eq_some_iff.mp hr
    have k := pa_ok f false (L + 1) o p r1 ht (fun z => by cases z) a1
    obtain ⟨M, m1, m2⟩ := h57 (D + 2) (L + 1) o p s MI ML r1 (by omega) ho (by omega) h hs a1
    refine cT hL5 ?_
    rw [nI_add]
    refine usei m1 ?_
    by_cases b1 : r1.1 = true
    · rw [if_pos b1] at a2
      obtain ⟨r2, c1, c2⟩ := Option.bind_eq_some_iff.mp a2
      have c3 := Option.some.inj c2
      subst c3
      obtain ⟨m3, s', m4, m5⟩ := m2
      obtain ⟨e1, e2⟩ := m5 b1
      subst e1
      have k3 := k.2.2.1 b1 rfl
      have go := h40 (D + 2) L o r1.2.1 _ 0 M ML r2 (fun v M L' => v = some (.int (bI r2.1)) ∧ L' = ML ∧ CRs B t (r2.1, r2.2.1, r1.2.2 ++ r2.2.2) s MI M) hL5 ho (by omega) m4 (by omega) (by omega) (fun _ => rfl) c1 (fun M' n1 => by
        obtain ⟨n2, s2, n3, n4⟩ := n1
        refine ⟨rfl, rfl, n2.tr m3, s2, n3, fun z => ?_⟩
        obtain ⟨e3, e4⟩ := n4 z
        refine ⟨?_, wSg_app e2 e4⟩
        show s2 = s + (r1.2.2 ++ r2.2.2).length
        rw [List.length_append]
        omega)
      refine bT b1 (br (fun q => ?_) (fun q => ?_))
      · rw [if_pos q] at go
        exact go
      · rw [if_neg q] at go
        exact go
    · rw [if_neg b1] at a2
      have c3 := Option.some.inj a2
      subst c3
      exact bF (bnf b1) ⟨by rw [bnf b1]; rfl, rfl, m2⟩
  · have e : L = 5 := by omega
    subst e
    obtain ⟨M, m1, m2⟩ := h59 (D + 2) o p s MI ML r ho (by omega) h hs hr
    exact cF hL5 (usei m1 ⟨bI_01 _, rfl, rfl, m2⟩)
theorem c40_s {B : Nat → Nat} {t f : Nat} (h57 : C57 B t f) (h40 : C40 B t f) : C40 B t (f + 1) := by
  intro D L o p s j MI ML r Q hL ho hD h hs hj hj2 hr K
  obtain ⟨D, rfl⟩ : ∃ D', D = D' + 1 := ⟨D - 1, by omega⟩
  have hn := h.n6
  have h160 := h.1
  have ht := h.2.2.2.2.2
  have hm : j < (if L = 2 then 1 else 160) := by
    by_cases q : L = 2
    · rw [if_pos q, hj2 q]; decide
    · rw [if_neg q]; omega
  have hm2 : (if L = 2 then 1 else 160) ≤ 160 := by
    by_cases q : L = 2
    · rw [if_pos q]; decide
    · rw [if_neg q]; exact Nat.le_refl _
  refine BX4_readLevel_40 (cF (nI_ge hm (by omega)) (usei h.nx (usei (s_levelOf hn) ?_)))
  have hl : lvO (nxt B t p) < 6 := by
    unfold lvO
    repeat' split
    all_goals omega
  rw [nI_eq (by omega) (by omega)]
  rw [pa_t] at hr
  by_cases hv : lvO (nxt B t p) = L
  · rw [if_pos hv] at hr
    have hne := lvO_lt (x := nxt B t p) (by omega)
    have hpt := nxt_lt (B := B) (t := t) (p := p) hne
    have ha := h.adv hpt
    refine cT hv (usei h.nx ?_)
    rw [h.2.2.2.1, nI_add, nI_add]
    obtain ⟨r1, a1, a2⟩ := Option.bind_eq_some_iff.mp hr
    have k := pa_ok f false (L + 1) o (p + 1) r1 hpt (fun z => by cases z) a1
    obtain ⟨M, m1, m2⟩ := h57 (D + 1) (L + 1) o (p + 1) s _ ML r1 (by omega) ho (by omega) ha (by omega) a1
    refine usei m1 ?_
    replace m2 := m2.pre
    by_cases b1 : r1.1 = true
    · rw [if_pos b1] at a2
      obtain ⟨m3, s', m4, m5⟩ := m2
      obtain ⟨e1, e2⟩ := m5 b1
      subst e1
      have k3 := k.2.2.1 b1 rfl
      have ec : -cI (nxt B t p) = jsg (nxt B t p) := by
        unfold cI jsg
        rw [if_neg hne]
      obtain ⟨M', w1, w2, w3, w4⟩ := m4.wr (D := D) (ML := ML) (x := jsg (nxt B t p)) (by omega)
      rw [ec, nI_add]
      refine bT b1 (usev w1 ?_)
      have e5 : wSg (MI 4) (M' 4) s (r1.2.2 ++ [jsg (nxt B t p)]) := by
        rw [w3]
        exact wSg_app e2 wSg_one
      have e6 : s + r1.2.2.length + 1 = s + (r1.2.2 ++ [jsg (nxt B t p)]).length := by
        rw [List.length_append]
        rfl
      by_cases h2 : L = 2
      · rw [if_pos h2] at a2
        have c3 := Option.some.inj a2
        subst c3
        rw [if_pos h2, hj2 h2]
        refine BX4_readLevel_40 (cT (by decide) (K M' ⟨w4.tr m3, _, w2, fun _ => ⟨e6, e5⟩⟩))
      · rw [if_neg h2] at a2
        obtain ⟨r2, c1, c2⟩ := Option.bind_eq_some_iff.mp a2
        have c3 := Option.some.inj c2
        subst c3
        refine h40 (D + 1) L o r1.2.1 _ (j + 1) M' ML r2 Q hL ho (by omega) w2 (by omega) (by omega) (fun z => absurd z h2) c1 (fun M2 n1 => K M2 ?_)
        obtain ⟨n2, s2, n3, n4⟩ := n1
        refine ⟨n2.tr (w4.tr m3), s2, n3, fun z => ?_⟩
        obtain ⟨e3, e4⟩ := n4 z
        rw [← List.append_assoc]
        rw [e6] at e4
        refine ⟨?_, wSg_app e5 e4⟩
        rw [List.length_append]
        omega
    · rw [if_neg b1] at a2
      have c3 := Option.some.inj a2
      subst c3
      refine bF (bnf b1) ?_
      have k5 := K M m2
      rw [bnf b1] at k5
      exact k5
  · rw [if_neg hv] at hr
    have c3 := Option.some.inj hr
    subst c3
    exact cF hv (K MI ⟨FCr.rf, s, h, fun _ => ⟨rfl, wSg_nil⟩⟩)
theorem c_all {B : Nat → Nat} {t : Nat} : ∀ f, C59 B t f ∧ C57 B t f ∧ C40 B t f
  | 0 => ⟨(by intro D o p s MI ML r a1 a2 a3 a4 hr; cases hr), (by intro D L o p s MI ML r a1 a2 a3 a4 a5 hr; cases hr), (by intro D L o p s j MI ML r Q a1 a2 a3 a4 a5 a6 a7 hr; cases hr)⟩
  | f + 1 => by
    obtain ⟨a, b, c⟩ := c_all (B := B) (t := t) f
    have d := c59_s b a
    exact ⟨d, c57_s b c d, c40_s b c⟩
