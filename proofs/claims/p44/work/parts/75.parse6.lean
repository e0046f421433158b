/-! reading a law's text: the grammar, as a function: level L (5: an operand), or the joins that follow at a level -/
abbrev pR : Type := Bool × Nat × List Int32
def jsg (c : Nat) : Int32 := -(nI c)
def pa (B : Nat → Nat) (t : Nat) : Nat → Bool → Nat → Nat → Nat → Option pR
  | 0, _, _, _, _ => none
  | f + 1, false, L, o, p =>
    if L < 5 then (pa B t f false (L + 1) o p).bind (fun r => if r.1 = true then (pa B t f true L o r.2.1).bind (fun r2 => some (r2.1, r2.2.1, r.2.2 ++ r2.2.2)) else some r)
    else if nxt B t p = 40 ∨ nxt B t p = 33 ∨ nxt B t p = 45 then
      (if 6 ≤ o then some (false, p, [])
      else if nxt B t p = 40 then (pa B t f false 0 (o + 1) (p + 1)).bind (fun r => if r.1 = true then (if nxt B t r.2.1 = 41 then some (true, r.2.1 + 1, r.2.2) else some (false, r.2.1, r.2.2)) else some r)
      else (pa B t f false 5 (o + 1) (p + 1)).bind (fun r => if r.1 = true then some (true, r.2.1, r.2.2 ++ [if nxt B t p = 33 then -33 else -126]) else some r))
    else if dgB (nxt B t p) = true then some (true, (rnP B t 4 0 p).2, [nI (rnP B t 4 0 p).1])
    else if wxP B t p < 6 then some (true, wnP B t p, [-1 - nI (wxP B t p)]) else some (false, p, [])
  | f + 1, true, L, o, p =>
    if lvO (nxt B t p) = L then (pa B t f false (L + 1) o (p + 1)).bind (fun r => if r.1 = true then (if L = 2 then some (true, r.2.1, r.2.2 ++ [jsg (nxt B t p)]) else (pa B t f true L o r.2.1).bind (fun r2 => some (r2.1, r2.2.1, r.2.2 ++ ([jsg (nxt B t p)] ++ r2.2.2)))) else some r)
    else some (true, p, [])
theorem pa_f (B : Nat → Nat) (t f L o p : Nat) : pa B t (f + 1) false L o p =
    (if L < 5 then (pa B t f false (L + 1) o p).bind (fun r => if r.1 = true then (pa B t f true L o r.2.1).bind (fun r2 => some (r2.1, r2.2.1, r.2.2 ++ r2.2.2)) else some r)
    else if nxt B t p = 40 ∨ nxt B t p = 33 ∨ nxt B t p = 45 then
      (if 6 ≤ o then some (false, p, [])
      else if nxt B t p = 40 then (pa B t f false 0 (o + 1) (p + 1)).bind (fun r => if r.1 = true then (if nxt B t r.2.1 = 41 then some (true, r.2.1 + 1, r.2.2) else some (false, r.2.1, r.2.2)) else some r)
      else (pa B t f false 5 (o + 1) (p + 1)).bind (fun r => if r.1 = true then some (true, r.2.1, r.2.2 ++ [if nxt B t p = 33 then -33 else -126]) else some r))
    else if dgB (nxt B t p) = true then some (true, (rnP B t 4 0 p).2, [nI (rnP B t 4 0 p).1])
    else if wxP B t p < 6 then some (true, wnP B t p, [-1 - nI (wxP B t p)]) else some (false, p, [])) := rfl
theorem pa_t (B : Nat → Nat) (t f L o p : Nat) : pa B t (f + 1) true L o p =
    (if lvO (nxt B t p) = L then (pa B t f false (L + 1) o (p + 1)).bind (fun r => if r.1 = true then (if L = 2 then some (true, r.2.1, r.2.2 ++ [jsg (nxt B t p)]) else (pa B t f true L o r.2.1).bind (fun r2 => some (r2.1, r2.2.1, r.2.2 ++ ([jsg (nxt B t p)] ++ r2.2.2)))) else some r)
    else some (true, p, [])) := rfl
theorem lvO_lt {x : Nat} (h : lvO x < 5) : x ≠ 256 := by
  rintro rfl
  exact absurd h (by decide)
theorem wxP_lt {B : Nat → Nat} {t p : Nat} (h : wxP B t p < 6) : p + 3 ≤ wnP B t p := by
  have hy := fa_first_yes (fun k => decide (lsP B p (wnP B t p) = wdL.getD k [])) 6 h
  have hy2 : lsP B p (wnP B t p) = wdL.getD (wxP B t p) [] := of_decide_eq_true hy
  have hl : (lsP B p (wnP B t p)).length = (wdL.getD (wxP B t p) []).length := by rw [hy2]
  rw [lsP_len] at hl
  have h3 : ∀ k : Fin 6, 3 ≤ (wdL.getD k.val []).length := by decide
  have := h3 ⟨wxP B t p, h⟩
  dsimp only at this
  omega
/-- a success moves on (an operand, a level), or stays (no join); never past the end; no more signs than bytes -/
theorem pa_ok {B : Nat → Nat} {t : Nat} : ∀ (f : Nat) (m : Bool) (L o p : Nat) (r : pR), p ≤ t → (m = true → L < 5) → pa B t f m L o p = some r → p ≤ r.2.1 ∧ r.2.1 ≤ t ∧ (r.1 = true → m = false → p < r.2.1) ∧ r.2.2.length ≤ r.2.1 - p
  | 0, m, L, o, p, r, _, _, h => by cases m <;> cases h
  | f + 1, false, L, o, p, r, hp, _, h => by
    rw [pa_f] at h
    by_cases hL : L < 5
    · rw [if_pos hL] at h
      obtain ⟨r1, a1, a2⟩ := Option.bind_eq_some_iff.mp h
      have i1 := pa_ok f false (L + 1) o p r1 hp (fun z => by cases z) a1
      by_cases b1 : r1.1 = true
      · rw [if_pos b1] at a2
        obtain ⟨r2, c1, c2⟩ := Option.bind_eq_some_iff.mp a2
        have i2 := pa_ok f true L o r1.2.1 r2 i1.2.1 (fun _ => hL) c1
        have i3 := i1.2.2.1 b1 rfl
        have c3 := Option.some.inj c2
        subst c3
        refine ⟨Nat.le_trans i1.1 i2.1, i2.2.1, fun _ _ => Nat.lt_of_lt_of_le i3 i2.1, ?_⟩
        show (r1.2.2 ++ r2.2.2).length ≤ r2.2.1 - p
        rw [List.length_append]
        omega
      · rw [if_neg b1] at a2
        have c3 := Option.some.inj a2
        subst c3
        exact ⟨i1.1, i1.2.1, fun z => absurd z b1, i1.2.2.2⟩
    · rw [if_neg hL] at h
      by_cases hc : nxt B t p = 40 ∨ nxt B t p = 33 ∨ nxt B t p = 45
      · have hpt := nxt_lt (B := B) (t := t) (p := p) (by omega)
        rw [if_pos hc] at h
        by_cases ho : 6 ≤ o
        · rw [if_pos ho] at h
          have c3 := Option.some.inj h
          subst c3
          exact ⟨Nat.le_refl _, hp, fun z => (by cases z), Nat.zero_le _⟩
        · rw [if_neg ho] at h
          by_cases h4 : nxt B t p = 40
          · rw [if_pos h4] at h
            obtain ⟨r1, a1, a2⟩ := Option.bind_eq_some_iff.mp h
            have i1 := pa_ok f false 0 (o + 1) (p + 1) r1 hpt (fun z => by cases z) a1
            by_cases b1 : r1.1 = true
            · rw [if_pos b1] at a2
              by_cases h41 : nxt B t r1.2.1 = 41
              · have hrt := nxt_lt (B := B) (t := t) (p := r1.2.1) (by omega)
                rw [if_pos h41] at a2
                have c3 := Option.some.inj a2
                subst c3
                exact ⟨by show p ≤ r1.2.1 + 1; omega, hrt, fun _ _ => by show p < r1.2.1 + 1; omega, by show r1.2.2.length ≤ r1.2.1 + 1 - p; omega⟩
              · rw [if_neg h41] at a2
                have c3 := Option.some.inj a2
                subst c3
                exact ⟨by show p ≤ r1.2.1; omega, i1.2.1, fun z => (by cases z), by show r1.2.2.length ≤ r1.2.1 - p; omega⟩
            · rw [if_neg b1] at a2
              have c3 := Option.some.inj a2
              subst c3
              exact ⟨by omega, i1.2.1, fun z => absurd z b1, by omega⟩
          · rw [if_neg h4] at h
            obtain ⟨r1, a1, a2⟩ := Option.bind_eq_some_iff.mp h
            have i1 := pa_ok f false 5 (o + 1) (p + 1) r1 hpt (fun z => by cases z) a1
            by_cases b1 : r1.1 = true
            · rw [if_pos b1] at a2
              have i3 := i1.2.2.1 b1 rfl
              have c3 := Option.some.inj a2
              subst c3
              refine ⟨by show p ≤ r1.2.1; omega, i1.2.1, fun _ _ => by show p < r1.2.1; omega, ?_⟩
              show (r1.2.2 ++ [_]).length ≤ r1.2.1 - p
              rw [List.length_append]
              simp only [List.length_cons, List.length_nil]
              omega
            · rw [if_neg b1] at a2
              have c3 := Option.some.inj a2
              subst c3
              exact ⟨by omega, i1.2.1, fun z => absurd z b1, by omega⟩
      · rw [if_neg hc] at h
        by_cases hd : dgB (nxt B t p) = true
        · rw [if_pos hd] at h
          have c3 := Option.some.inj h
          subst c3
          obtain ⟨j1, j2, j3, j4⟩ := rnP_ok (B := B) (t := t) 4 0 p hp
          have j5 := j4 hd (by omega)
          exact ⟨j1, j2, fun _ _ => j5, by show 1 ≤ (rnP B t 4 0 p).2 - p; omega⟩
        · rw [if_neg hd] at h
          by_cases hw : wxP B t p < 6
          · rw [if_pos hw] at h
            have c3 := Option.some.inj h
            subst c3
            have w3 := wxP_lt hw
            obtain ⟨e1, e2, e3⟩ := leP_ok (B := B) (t := t) 161 p hp
            exact ⟨by show p ≤ wnP B t p; omega, e2, fun _ _ => by show p < wnP B t p; omega, by show 1 ≤ wnP B t p - p; omega⟩
          · rw [if_neg hw] at h
            have c3 := Option.some.inj h
            subst c3
            exact ⟨Nat.le_refl _, hp, fun z => (by cases z), Nat.zero_le _⟩
  | f + 1, true, L, o, p, r, hp, hL, h => by
    rw [pa_t] at h
    have hL5 := hL rfl
    by_cases hv : lvO (nxt B t p) = L
    · have hpt := nxt_lt (B := B) (t := t) (p := p) (lvO_lt (by omega))
      rw [if_pos hv] at h
      obtain ⟨r1, a1, a2⟩ := Option.bind_eq_some_iff.mp h
      have i1 := pa_ok f false (L + 1) o (p + 1) r1 hpt (fun z => by cases z) a1
      by_cases b1 : r1.1 = true
      · rw [if_pos b1] at a2
        have i3 := i1.2.2.1 b1 rfl
        by_cases h2 : L = 2
        · rw [if_pos h2] at a2
          have c3 := Option.some.inj a2
          subst c3
          refine ⟨by show p ≤ r1.2.1; omega, i1.2.1, fun _ z => (by cases z), ?_⟩
          show (r1.2.2 ++ [_]).length ≤ r1.2.1 - p
          rw [List.length_append]
          simp only [List.length_cons, List.length_nil]
          omega
        · rw [if_neg h2] at a2
          obtain ⟨r2, c1, c2⟩ := Option.bind_eq_some_iff.mp a2
          have i2 := pa_ok f true L o r1.2.1 r2 i1.2.1 (fun _ => hL5) c1
          have c3 := Option.some.inj c2
          subst c3
          refine ⟨by show p ≤ r2.2.1; omega, i2.2.1, fun _ z => (by cases z), ?_⟩
          show (r1.2.2 ++ ([_] ++ r2.2.2)).length ≤ r2.2.1 - p
          rw [List.length_append, List.length_append]
          simp only [List.length_cons, List.length_nil]
          omega
      · rw [if_neg b1] at a2
        have c3 := Option.some.inj a2
        subst c3
        exact ⟨by omega, i1.2.1, fun z => absurd z b1, by omega⟩
    · rw [if_neg hv] at h
      have c3 := Option.some.inj h
      subst c3
      exact ⟨Nat.le_refl _, hp, fun _ z => (by cases z), Nat.zero_le _⟩
