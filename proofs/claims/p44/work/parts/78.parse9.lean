/-! reading a law's text: what a success read is a row of signs that keeps one more number, within the room -/
theorem dps_one {t : Int32} {d : Nat} (h : opd t = true) (hd : d < 36) : dps 36 [t] d = some (d + 1) := by
  show (dp1 36 t d).bind (dps 36 []) = _
  unfold dp1
  rw [if_pos h, if_pos hd]
  rfl
theorem dps_un {t : Int32} {d : Nat} (h : t = -126 ∨ t = -33) (hd : 1 ≤ d) : dps 36 [t] d = some d := by
  show (dp1 36 t d).bind (dps 36 []) = _
  unfold dp1
  rw [if_neg (by rcases h with rfl | rfl <;> decide), if_pos h, if_pos hd]
  rfl
theorem pa_sg {B : Nat → Nat} {t : Nat} : ∀ (f : Nat) (m : Bool) (L o p : Nat) (r : pR), (m = true → L < 5) → pa B t f m L o p = some r → r.1 = true → (∀ s ∈ r.2.2, sgn s) ∧ ∀ d, (m = true → 1 ≤ d) → d + (if m = true then (4 - L) + 5 * (6 - o) + 1 else (5 - L) + 5 * (6 - o) + 1) ≤ 36 → dps 36 r.2.2 d = some (if m = true then d else d + 1)
  | 0, m, L, o, p, r, _, h, _ => by cases m <;> cases h
  | f + 1, false, L, o, p, r, _, h, hr => by
    rw [pa_f] at h
    simp only [Bool.false_eq_true, if_false, false_implies, true_implies]
    by_cases hL : L < 5
    · rw [if_pos hL] at h
      obtain ⟨r1, a1, a2⟩ := Option.bind_eq_some_iff.mp h
      by_cases b1 : r1.1 = true
      · have i1 := pa_sg f false (L + 1) o p r1 (fun z => by cases z) a1 b1
        simp only [Bool.false_eq_true, if_false, false_implies, true_implies] at i1
        rw [if_pos b1] at a2
        obtain ⟨r2, c1, c2⟩ := Option.bind_eq_some_iff.mp a2
        have c3 := Option.some.inj c2
        subst c3
        have i2 := pa_sg f true L o r1.2.1 r2 (fun _ => hL) c1 hr
        simp only [if_true, true_implies] at i2
        refine ⟨fun s hs => (List.mem_append.mp hs).elim (i1.1 s) (i2.1 s), fun d hd => ?_⟩
        show dps 36 (r1.2.2 ++ r2.2.2) d = _
        rw [dps_app, i1.2 d (by omega), Option.bind_some]
        exact i2.2 (d + 1) (by omega) (by omega)
      · rw [if_neg b1] at a2
        have c3 := Option.some.inj a2
        subst c3
        exact absurd hr b1
    · rw [if_neg hL] at h
      by_cases hc : nxt B t p = 40 ∨ nxt B t p = 33 ∨ nxt B t p = 45
      · rw [if_pos hc] at h
        by_cases ho : 6 ≤ o
        · rw [if_pos ho] at h
          have c3 := Option.some.inj h
          subst c3
          cases hr
        · rw [if_neg ho] at h
          by_cases h4 : nxt B t p = 40
          · rw [if_pos h4] at h
            obtain ⟨r1, a1, a2⟩ := Option.bind_eq_some_iff.mp h
            by_cases b1 : r1.1 = true
            · have i1 := pa_sg f false 0 (o + 1) (p + 1) r1 (fun z => by cases z) a1 b1
              simp only [Bool.false_eq_true, if_false, false_implies, true_implies] at i1
              rw [if_pos b1] at a2
              by_cases h41 : nxt B t r1.2.1 = 41
              · rw [if_pos h41] at a2
                have c3 := Option.some.inj a2
                subst c3
                exact ⟨i1.1, fun d hd => i1.2 d (by omega)⟩
              · rw [if_neg h41] at a2
                have c3 := Option.some.inj a2
                subst c3
                cases hr
            · rw [if_neg b1] at a2
              have c3 := Option.some.inj a2
              subst c3
              exact absurd hr b1
          · rw [if_neg h4] at h
            obtain ⟨r1, a1, a2⟩ := Option.bind_eq_some_iff.mp h
            by_cases b1 : r1.1 = true
            · have i1 := pa_sg f false 5 (o + 1) (p + 1) r1 (fun z => by cases z) a1 b1
              simp only [Bool.false_eq_true, if_false, false_implies, true_implies] at i1
              rw [if_pos b1] at a2
              have c3 := Option.some.inj a2
              subst c3
              have hu : (if nxt B t p = 33 then (-33 : Int32) else -126) = -126 ∨ (if nxt B t p = 33 then (-33 : Int32) else -126) = -33 := by
                split
                · exact Or.inr rfl
                · exact Or.inl rfl
              refine ⟨fun s hs => (List.mem_append.mp hs).elim (i1.1 s) (fun z => ?_), fun d hd => ?_⟩
              · rw [List.mem_singleton.mp z]
                unfold sgn
                exact Or.inr (Or.inr (hu.elim Or.inl (fun z => Or.inr (Or.inl z))))
              · show dps 36 (r1.2.2 ++ [_]) d = _
                rw [dps_app, i1.2 d (by omega), Option.bind_some]
                exact dps_un hu (by omega)
            · rw [if_neg b1] at a2
              have c3 := Option.some.inj a2
              subst c3
              exact absurd hr b1
      · rw [if_neg hc] at h
        by_cases hd : dgB (nxt B t p) = true
        · rw [if_pos hd] at h
          have c3 := Option.some.inj h
          subst c3
          have hv : (rnP B t 4 0 p).1 < 10000 := by
            have q1 := dgB_c.mp hd
            have q2 := nxt_lt (B := B) (t := t) (p := p) (by omega)
            have q3 := (rnP_ok (B := B) (t := t) 4 0 p (by omega)).2.2.1
            have q4 : (0 + 1) * 10 ^ 4 = 10000 := by decide
            omega
          refine ⟨fun s hs => ?_, fun d hd => dps_one (opd_n hv) (by omega)⟩
          rw [List.mem_singleton.mp hs]
          exact Or.inl ⟨_, hv, rfl⟩
        · rw [if_neg hd] at h
          by_cases hw : wxP B t p < 6
          · rw [if_pos hw] at h
            have c3 := Option.some.inj h
            subst c3
            refine ⟨fun s hs => ?_, fun d hd => dps_one (wcs hw).1 (by omega)⟩
            rw [List.mem_singleton.mp hs]
            exact Or.inr (Or.inl ⟨_, hw, rfl⟩)
          · rw [if_neg hw] at h
            have c3 := Option.some.inj h
            subst c3
            cases hr
  | f + 1, true, L, o, p, r, hL, h, hr => by
    rw [pa_t] at h
    have hL5 := hL rfl
    simp only [if_true, true_implies]
    by_cases hv : lvO (nxt B t p) = L
    · rw [if_pos hv] at h
      obtain ⟨r1, a1, a2⟩ := Option.bind_eq_some_iff.mp h
      obtain ⟨j1, j2⟩ := jsg_ok (c := nxt B t p) (by omega)
      by_cases b1 : r1.1 = true
      · have i1 := pa_sg f false (L + 1) o (p + 1) r1 (fun z => by cases z) a1 b1
        simp only [Bool.false_eq_true, if_false, false_implies, true_implies] at i1
        rw [if_pos b1] at a2
        by_cases h2 : L = 2
        · rw [if_pos h2] at a2
          have c3 := Option.some.inj a2
          subst c3
          refine ⟨fun s hs => (List.mem_append.mp hs).elim (i1.1 s) (fun z => by rw [List.mem_singleton.mp z]; exact j1), fun d h1 hd => ?_⟩
          show dps 36 (r1.2.2 ++ [_]) d = _
          rw [dps_app, i1.2 d (by omega), Option.bind_some]
          exact j2 (d + 1) (by omega)
        · rw [if_neg h2] at a2
          obtain ⟨r2, c1, c2⟩ := Option.bind_eq_some_iff.mp a2
          have c3 := Option.some.inj c2
          subst c3
          have i2 := pa_sg f true L o r1.2.1 r2 (fun _ => hL5) c1 hr
          simp only [if_true, true_implies] at i2
          refine ⟨fun s hs => (List.mem_append.mp hs).elim (i1.1 s) (fun z => (List.mem_append.mp z).elim (fun y => by rw [List.mem_singleton.mp y]; exact j1) (i2.1 s)), fun d h1 hd => ?_⟩
          show dps 36 (r1.2.2 ++ ([_] ++ r2.2.2)) d = _
          rw [dps_app, i1.2 d (by omega), Option.bind_some, dps_app, j2 (d + 1) (by omega), Option.bind_some]
          exact i2.2 d h1 (by omega)
      · rw [if_neg b1] at a2
        have c3 := Option.some.inj a2
        subst c3
        exact absurd hr b1
    · rw [if_neg hv] at h
      have c3 := Option.some.inj h
      subst c3
      exact ⟨fun s hs => (by cases hs), fun d _ _ => rfl⟩
theorem pa_EX {B : Nat → Nat} {t f p : Nat} {r : pR} (h : pa B t f false 0 0 p = some r) (hr : r.1 = true) : EX r.2.2 := by
  obtain ⟨i1, i2⟩ := pa_sg f false 0 0 p r (fun z => by cases z) h hr
  exact ⟨i2 0 (fun z => by cases z) (by decide), i1⟩
