/-! reading a law's text: lines; the class -/
def pE (B : Nat → Nat) (t p : Nat) : Option pR := pa B t (8 * (t - p) + 8) false 0 0 p
theorem pE_ex {B : Nat → Nat} {t p : Nat} (hp : p ≤ t) : ∃ r, pE B t p = some r := pa_ex _ false 0 0 p hp (fun z => by cases z) (Nat.le_refl _)
abbrev lnR : Type := Bool × Nat × (List Int32 × List Int32)
def ln (B : Nat → Nat) (t p : Nat) : Option lnR := (pE B t p).bind (fun r => if r.1 = true then (if nxt B t r.2.1 = 63 then (pE B t (r.2.1 + 1)).bind (fun r2 => some (r2.1, r2.2.1, (r.2.2, r2.2.2))) else some (true, r.2.1, ([], r.2.2))) else some (false, r.2.1, ([], [])))
def lnC (l : List Int32 × List Int32) : List Int32 := (if l.1 = [] then [] else l.1 ++ [-63]) ++ (l.2 ++ [-59])
theorem EX_ne {ts : List Int32} (h : EX ts) : ts ≠ [] := by
  rintro rfl
  exact absurd h.1 (by decide)
theorem ln_ok {B : Nat → Nat} {t p : Nat} {r : lnR} (hp : p ≤ t) (h : ln B t p = some r) : p ≤ r.2.1 ∧ r.2.1 ≤ t ∧ (r.1 = true → p < r.2.1 ∧ (r.2.2.1 = [] ∨ EX r.2.2.1) ∧ EX r.2.2.2 ∧ (lnC r.2.2).length ≤ r.2.1 - p + 1 ∧ r.2.2.1.length + r.2.2.2.length ≤ r.2.1 - p) := by
  obtain ⟨r1, b1, b2⟩ := Option.bind_eq_some_iff.mp h
  have k := pa_ok _ false 0 0 p r1 hp (fun z => by cases z) b1
  by_cases c : r1.1 = true
  · rw [if_pos c] at b2
    have e1 := pa_EX b1 c
    have k3 := k.2.2.1 c rfl
    by_cases q : nxt B t r1.2.1 = 63
    · rw [if_pos q] at b2
      have hpt := nxt_lt (B := B) (t := t) (p := r1.2.1) (by omega)
      obtain ⟨r2, d1, d2⟩ := Option.bind_eq_some_iff.mp b2
      have k2 := pa_ok _ false 0 0 (r1.2.1 + 1) r2 hpt (fun z => by cases z) d1
      have c3 := Option.some.inj d2
      subst c3
      refine ⟨by show p ≤ r2.2.1; omega, k2.2.1, fun z => ?_⟩
      have e2 := pa_EX d1 z
      have k4 := k2.2.2.1 z rfl
      refine ⟨by show p < r2.2.1; omega, Or.inr e1, e2, ?_, by show r1.2.2.length + r2.2.2.length ≤ r2.2.1 - p; omega⟩
      show (lnC (r1.2.2, r2.2.2)).length ≤ r2.2.1 - p + 1
      unfold lnC
      rw [if_neg (EX_ne e1)]
      simp only [List.length_append, List.length_cons, List.length_nil]
      omega
    · rw [if_neg q] at b2
      have c3 := Option.some.inj b2
      subst c3
      refine ⟨k.1, k.2.1, fun _ => ⟨k3, Or.inl rfl, e1, ?_, ?_⟩⟩
      · show (lnC ([], r1.2.2)).length ≤ r1.2.1 - p + 1
        unfold lnC
        rw [if_pos rfl]
        simp only [List.length_append, List.length_cons, List.length_nil]
        omega
      · show 0 + r1.2.2.length ≤ r1.2.1 - p
        omega
  · rw [if_neg c] at b2
    have c3 := Option.some.inj b2
    subst c3
    exact ⟨k.1, k.2.1, fun z => (by cases z)⟩
theorem ln_ex {B : Nat → Nat} {t p : Nat} (hp : p ≤ t) : ∃ r, ln B t p = some r := by
  obtain ⟨r1, b1⟩ := pE_ex (B := B) hp
  have k := pa_ok _ false 0 0 p r1 hp (fun z => by cases z) b1
  unfold ln
  rw [b1]
  show ∃ r, (if r1.1 = true then _ else _) = some r
  by_cases c : r1.1 = true
  · rw [if_pos c]
    by_cases q : nxt B t r1.2.1 = 63
    · rw [if_pos q]
      have hpt := nxt_lt (B := B) (t := t) (p := r1.2.1) (by omega)
      obtain ⟨r2, d1⟩ := pE_ex (B := B) (t := t) (p := r1.2.1 + 1) hpt
      rw [d1]
      exact ⟨_, rfl⟩
    · rw [if_neg q]
      exact ⟨_, rfl⟩
  · rw [if_neg c]
    exact ⟨_, rfl⟩
abbrev xR : Type := Bool × Nat × mLaw
def tx (B : Nat → Nat) (t : Nat) : Nat → Nat → Option xR
  | 0, _ => none
  | k + 1, p => (ln B t p).bind (fun r => if r.1 = true then (if nxt B t r.2.1 = 59 then (tx B t k (r.2.1 + 1)).bind (fun r2 => some (r2.1, r2.2.1, r.2.2 :: r2.2.2)) else some (decide (nxt B t r.2.1 = 256), r.2.1, [r.2.2])) else some (false, r.2.1, []))
theorem tx_s (B : Nat → Nat) (t k p : Nat) : tx B t (k + 1) p = (ln B t p).bind (fun r => if r.1 = true then (if nxt B t r.2.1 = 59 then (tx B t k (r.2.1 + 1)).bind (fun r2 => some (r2.1, r2.2.1, r.2.2 :: r2.2.2)) else some (decide (nxt B t r.2.1 = 256), r.2.1, [r.2.2])) else some (false, r.2.1, [])) := rfl
theorem tx_ex {B : Nat → Nat} {t : Nat} : ∀ (k p : Nat), p ≤ t → t - p < k → ∃ r, tx B t k p = some r
  | 0, _, _, h => absurd h (Nat.not_lt_zero _)
  | k + 1, p, hp, h => by
    rw [tx_s]
    obtain ⟨r, b1⟩ := ln_ex (B := B) hp
    have k1 := ln_ok hp b1
    rw [b1]
    show ∃ x, (if r.1 = true then _ else _) = some x
    by_cases c : r.1 = true
    · rw [if_pos c]
      by_cases q : nxt B t r.2.1 = 59
      · rw [if_pos q]
        have hpt := nxt_lt (B := B) (t := t) (p := r.2.1) (by omega)
        obtain ⟨r2, d1⟩ := tx_ex (B := B) (t := t) k (r.2.1 + 1) hpt (by omega)
        rw [d1]
        exact ⟨_, rfl⟩
      · rw [if_neg q]
        exact ⟨_, rfl⟩
    · rw [if_neg c]
      exact ⟨_, rfl⟩
theorem s_readLine {B : Nat → Nat} {t D p s : Nat} {MI : mI} {ML : mJ} {r : lnR} (hD : 60 ≤ D) (h : CT t B p s MI) (hs : s ≤ p) (hr : ln B t p = some r) : ∃ M, mrc D 56 [.ref 3] MI ML (some (.int (bI r.1))) M ML ∧ FCr M MI ∧ ∃ s', CT t B r.2.1 s' M ∧ (r.1 = true → s' = s + (lnC r.2.2).length ∧ wSg (MI 4) (M 4) s (lnC r.2.2)) := by
  obtain ⟨D, rfl⟩ : ∃ D', D = D' + 2 := ⟨D - 2, by omega⟩
  suffices hh : VX4_readLine_0 (D + 1) (fun v M L' => v = some (.int (bI r.1)) ∧ L' = ML ∧ FCr M MI ∧ ∃ s', CT t B r.2.1 s' M ∧ (r.1 = true → s' = s + (lnC r.2.2).length ∧ wSg (MI 4) (M 4) s (lnC r.2.2))) MI ML by
    obtain ⟨v, M, L', ⟨rfl, rfl, hr⟩, hh⟩ := EX4_readLine hh
    exact ⟨M, hh, hr⟩
  have ht := h.2.2.2.2.2
  have h160 := h.1
  obtain ⟨r1, b1, b2⟩ := Option.bind_eq_some_iff.mp hr
  have k := pa_ok _ false 0 0 p r1 ht (fun z => by cases z) b1
  obtain ⟨M, m1, m2, s', m3, m4⟩ := (c_all (B := B) (t := t) _).2.1 (D + 1) 0 0 p s MI ML r1 (by decide) (by decide) (by omega) h hs b1
  refine BX4_readLine_0 (usei m1 ?_)
  have fin : ∀ (M2 : mI) (s2 : Nat) (l : List Int32), r.1 = true → CT t B r.2.1 s2 M2 → FCr M2 MI → s2 = s + l.length → s2 < 161 → wSg (MI 4) (M2 4) s l → lnC r.2.2 = l ++ [-59] → VX4_readLine_47 (D + 1) (fun v M L' => v = some (.int (bI r.1)) ∧ L' = ML ∧ FCr M MI ∧ ∃ s', CT t B r.2.1 s' M ∧ (r.1 = true → s' = s + (lnC r.2.2).length ∧ wSg (MI 4) (M 4) s (lnC r.2.2))) M2 ML := by
    intro M2 s2 l hr1 g1 g2 g3 g4 g5 g6
    obtain ⟨M', w1, w2, w3, w4⟩ := g1.wr (D := D) (ML := ML) (x := -59) g4
    refine BX4_readLine_47 (usev w1 ⟨by rw [hr1]; rfl, rfl, w4.tr g2, s2 + 1, w2, fun _ => ?_⟩)
    rw [g6]
    refine ⟨by rw [List.length_append, g3]; rfl, wSg_app g5 ?_⟩
    rw [w3, ← g3]
    exact wSg_one
  by_cases c : r1.1 = true
  · rw [if_pos c] at b2
    obtain ⟨e1, e2⟩ := m4 c
    have k3 := k.2.2.1 c rfl
    have eX := pa_EX b1 c
    refine bT c (usei m3.nx ?_)
    rw [cI_eq m3.n6 (by decide)]
    by_cases q : nxt B t r1.2.1 = 63
    · rw [if_pos q] at b2
      have hpt := nxt_lt (B := B) (t := t) (p := r1.2.1) (by omega)
      obtain ⟨r2, d1, d2⟩ := Option.bind_eq_some_iff.mp b2
      have k2 := pa_ok _ false 0 0 (r1.2.1 + 1) r2 hpt (fun z => by cases z) d1
      have c3 := Option.some.inj d2
      subst c3
      refine cT q ?_
      rw [m3.2.2.2.1, nI_add]
      obtain ⟨M2, w1, w2, w3, w4⟩ := (m3.adv hpt).wr (D := D) (ML := ML) (x := -63) (by omega)
      obtain ⟨M3, n1, n2, s3, n3, n4⟩ := (c_all (B := B) (t := t) _).2.1 (D + 1) 0 0 (r1.2.1 + 1) (s' + 1) M2 ML r2 (by decide) (by decide) (by omega) w2 (by omega) d1
      have f2 : FCr M2 MI := w4.tr (FCr.tr ⟨fun q a _ => mup_n a, by simp (disch := omega) only [mup_n, mup_s, mput_n, mput_s, mup_mup]⟩ m2)
      rw [mup_n (by decide)] at w3
      refine usev w1 (usei n1 ?_)
      by_cases c2 : r2.1 = true
      · obtain ⟨e3, e4⟩ := n4 c2
        refine bT c2 (fin M3 s3 ((r1.2.2 ++ [-63]) ++ r2.2.2) c2 n3 (n2.tr f2) ?_ (by omega) ?_ ?_)
        · simp only [List.length_append, List.length_cons, List.length_nil]
          omega
        · refine wSg_app (g1 := M2 4) (wSg_app (g1 := M 4) e2 ?_) ?_
          · rw [w3, ← e1]
            exact wSg_one
          · rw [List.length_append, ← Nat.add_assoc, ← e1]
            exact e4
        · show lnC (r1.2.2, r2.2.2) = _
          unfold lnC
          rw [if_neg (EX_ne eX), ← List.append_assoc]
      · refine bF (bnf c2) ⟨by rw [bnf c2]; rfl, rfl, n2.tr f2, s3, n3, fun z => absurd z c2⟩
    · rw [if_neg q] at b2
      have c3 := Option.some.inj b2
      subst c3
      refine cF q (fin M s' r1.2.2 rfl m3 m2 e1 (by omega) e2 ?_)
      show lnC ([], r1.2.2) = _
      unfold lnC
      rw [if_pos rfl]
      rfl
  · rw [if_neg c] at b2
    have c3 := Option.some.inj b2
    subst c3
    exact bF (bnf c) ⟨rfl, rfl, m2, s', m3, fun z => (by cases z)⟩
theorem s_rd {B : Nat → Nat} {t D : Nat} {ML : mJ} {Q : Option Value → mI → mJ → Prop} : ∀ (k p s j : Nat) (MI : mI) (r : xR), tx B t k p = some r → CT t B p s MI → s ≤ p → j ≤ p → (∀ M, FCr M MI → (r.1 = true → M 3 1 = nI (s + (flC r.2.2).length) ∧ wSg (MI 4) (M 4) s (flC r.2.2)) → Q (some (.int (if r.1 = true then -1 else nI r.2.1))) M ML) → VX4_read_12 (D + 60) Q (nI j) MI ML
  | 0, _, _, _, _, _, h, _, _, _, _ => by cases h
  | k + 1, p, s, j, MI, r, hr, h, hs, hj, K => by
    have ht := h.2.2.2.2.2
    have h160 := h.1
    rw [tx_s] at hr
    obtain ⟨r1, b1, b2⟩ := Option.bind_eq_some_iff.mp hr
    have k1 := ln_ok ht b1
    obtain ⟨M, m1, m2, s', m3, m4⟩ := s_readLine (ML := ML) (D := D + 60) (by omega) h hs b1
    refine BX4_read_12 (cF (nI_nlt (by omega) (by omega)) (usei m1 ?_))
    by_cases c : r1.1 = true
    · rw [if_pos c] at b2
      obtain ⟨k2, k3, k4, k5, k6⟩ := k1.2.2 c
      obtain ⟨e1, e2⟩ := m4 c
      refine bT c (usei m3.nx ?_)
      rw [cI_eq m3.n6 (by decide)]
      by_cases q : nxt B t r1.2.1 = 59
      · rw [if_pos q] at b2
        have hpt := nxt_lt (B := B) (t := t) (p := r1.2.1) (by omega)
        obtain ⟨r2, d1, d2⟩ := Option.bind_eq_some_iff.mp b2
        have c3 := Option.some.inj d2
        subst c3
        refine cT q ?_
        rw [m3.2.2.2.1, nI_add, nI_add]
        refine s_rd k (r1.2.1 + 1) s' (j + 1) _ r2 d1 (m3.adv hpt) (by omega) (by omega) (fun M2 n1 n2 => K M2 (n1.tr (FCr.tr ⟨fun q a _ => mup_n a, by simp (disch := omega) only [mup_n, mup_s, mput_n, mput_s, mup_mup]⟩ m2)) (fun z => ?_))
        obtain ⟨n3, n4⟩ := n2 z
        rw [mup_n (by decide)] at n4
        refine ⟨?_, ?_⟩
        · rw [n3, e1]
          show _ = nI (s + (lnC r1.2.2 ++ flC r2.2.2).length)
          rw [List.length_append, Nat.add_assoc]
        · refine wSg_app (l1 := lnC r1.2.2) (l2 := flC r2.2.2) e2 ?_
          rw [← e1]
          exact n4
      · rw [if_neg q] at b2
        have c3 := Option.some.inj b2
        subst c3
        refine cF q (usei m3.nx ?_)
        rw [cI_m1 m3.n6]
        by_cases q2 : nxt B t r1.2.1 = 256
        · have kk := K M m2 (fun _ => by
            show M 3 1 = nI (s + (lnC r1.2.2 ++ []).length) ∧ wSg (MI 4) (M 4) s (lnC r1.2.2 ++ [])
            rw [List.append_nil]
            exact ⟨by rw [m3.2.2.2.2.1, e1], e2⟩)
          rw [if_pos (decide_eq_true q2)] at kk
          exact cT q2 kk
        · have kk := K M m2 (fun z => absurd (of_decide_eq_true z) q2)
          rw [if_neg (fun z => q2 (of_decide_eq_true z))] at kk
          refine cF q2 ?_
          rw [m3.2.2.2.1]
          exact kk
    · rw [if_neg c] at b2
      have c3 := Option.some.inj b2
      subst c3
      have kk := K M m2 (fun z => (by cases z))
      rw [if_neg (fun z => by cases z)] at kk
      refine bF (bnf c) ?_
      rw [m3.2.2.2.1]
      exact kk
