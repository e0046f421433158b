/-! reading a law's text: enough fuel always ends -/
theorem pa_ex {B : Nat → Nat} {t : Nat} : ∀ (f : Nat) (m : Bool) (L o p : Nat), p ≤ t → (m = true → L < 5) → 8 * (t - p) + (if m = true then 1 else (5 - L) + 3) ≤ f → ∃ r, pa B t f m L o p = some r
  | 0, true, L, o, p, _, _, h => by rw [if_pos rfl] at h; omega
  | 0, false, L, o, p, _, _, h => by rw [if_neg (by decide)] at h; omega
  | f + 1, false, L, o, p, hp, _, h => by
    rw [if_neg (by decide)] at h
    rw [pa_f]
    by_cases hL : L < 5
    · rw [if_pos hL]
      obtain ⟨r1, a1⟩ := pa_ex f false (L + 1) o p hp (fun z => by cases z) (by rw [if_neg (by decide)]; omega)
      have i1 := pa_ok f false (L + 1) o p r1 hp (fun z => by cases z) a1
      rw [a1, Option.bind_some]
      by_cases b1 : r1.1 = true
      · rw [if_pos b1]
        have i3 := i1.2.2.1 b1 rfl
        have i4 := i1.2.1
        obtain ⟨r2, c1⟩ := pa_ex f true L o r1.2.1 i4 (fun _ => hL) (by rw [if_pos rfl]; omega)
        rw [c1, Option.bind_some]
        exact ⟨_, rfl⟩
      · rw [if_neg b1]
        exact ⟨_, rfl⟩
    · rw [if_neg hL]
      by_cases hc : nxt B t p = 40 ∨ nxt B t p = 33 ∨ nxt B t p = 45
      · have hpt := nxt_lt (B := B) (t := t) (p := p) (by omega)
        rw [if_pos hc]
        by_cases ho : 6 ≤ o
        · rw [if_pos ho]
          exact ⟨_, rfl⟩
        · rw [if_neg ho]
          by_cases h4 : nxt B t p = 40
          · rw [if_pos h4]
            obtain ⟨r1, a1⟩ := pa_ex f false 0 (o + 1) (p + 1) hpt (fun z => by cases z) (by rw [if_neg (by decide)]; omega)
            rw [a1, Option.bind_some]
            by_cases b1 : r1.1 = true
            · rw [if_pos b1]
              by_cases h41 : nxt B t r1.2.1 = 41
              · rw [if_pos h41]; exact ⟨_, rfl⟩
              · rw [if_neg h41]; exact ⟨_, rfl⟩
            · rw [if_neg b1]; exact ⟨_, rfl⟩
          · rw [if_neg h4]
            obtain ⟨r1, a1⟩ := pa_ex f false 5 (o + 1) (p + 1) hpt (fun z => by cases z) (by rw [if_neg (by decide)]; omega)
            rw [a1, Option.bind_some]
            by_cases b1 : r1.1 = true
            · rw [if_pos b1]; exact ⟨_, rfl⟩
            · rw [if_neg b1]; exact ⟨_, rfl⟩
      · rw [if_neg hc]
        by_cases hd : dgB (nxt B t p) = true
        · rw [if_pos hd]; exact ⟨_, rfl⟩
        · rw [if_neg hd]
          by_cases hw : wxP B t p < 6
          · rw [if_pos hw]; exact ⟨_, rfl⟩
          · rw [if_neg hw]; exact ⟨_, rfl⟩
  | f + 1, true, L, o, p, hp, hL, h => by
    rw [if_pos rfl] at h
    rw [pa_t]
    have hL5 := hL rfl
    by_cases hv : lvO (nxt B t p) = L
    · have hpt := nxt_lt (B := B) (t := t) (p := p) (lvO_lt (by omega))
      rw [if_pos hv]
      obtain ⟨r1, a1⟩ := pa_ex f false (L + 1) o (p + 1) hpt (fun z => by cases z) (by rw [if_neg (by decide)]; omega)
      have i1 := pa_ok f false (L + 1) o (p + 1) r1 hpt (fun z => by cases z) a1
      rw [a1, Option.bind_some]
      by_cases b1 : r1.1 = true
      · rw [if_pos b1]
        have i3 := i1.2.2.1 b1 rfl
        have i4 := i1.2.1
        by_cases h2 : L = 2
        · rw [if_pos h2]; exact ⟨_, rfl⟩
        · rw [if_neg h2]
          obtain ⟨r2, c1⟩ := pa_ex f true L o r1.2.1 i4 (fun _ => hL5) (by rw [if_pos rfl]; omega)
          rw [c1, Option.bind_some]
          exact ⟨_, rfl⟩
      · rw [if_neg b1]; exact ⟨_, rfl⟩
    · rw [if_neg hv]; exact ⟨_, rfl⟩
