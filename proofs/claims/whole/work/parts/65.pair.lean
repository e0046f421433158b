/-! pairing, as numbers: the least price for the last r of n people, who weighs already given; the first by weighers -/
def fAR : Nat := 1000000
/-- at what price one weighs for another -/
def prW (f : Nat → Int32) (n : Nat) (hm : Bool) (w b : Nat) : Nat := if w = b ∨ (frd f b w n).1 = 8 then 1000000 else if f (20 + w * 8 + b) < nI 0 then 0 else if hm = true then (f (20 + w * 8 + b)).toInt.toNat + 1 else 1000000
def mnc (c : Nat → Nat) : Nat → Nat → Nat
  | 0, a => a
  | i + 1, a => min (c i) (mnc c i a)
theorem mnc_le {c : Nat → Nat} {a : Nat} : ∀ {i : Nat}, mnc c i a ≤ a ∧ ∀ w, w < i → mnc c i a ≤ c w
  | 0 => ⟨Nat.le_refl _, fun w h => absurd h (Nat.not_lt_zero _)⟩
  | i + 1 => by
    obtain ⟨h1, h2⟩ := mnc_le (c := c) (a := a) (i := i)
    unfold mnc
    refine ⟨by omega, fun w hw => ?_⟩
    by_cases q : w = i
    · subst q; omega
    · have := h2 w (by omega)
      omega
theorem mnc_at {c : Nat → Nat} {a : Nat} : ∀ {i : Nat}, mnc c i a = a ∨ ∃ w, w < i ∧ mnc c i a = c w
  | 0 => Or.inl rfl
  | i + 1 => by
    have ih := mnc_at (c := c) (a := a) (i := i)
    unfold mnc
    rcases Nat.le_total (c i) (mnc c i a) with q | q
    · exact Or.inr ⟨i, by omega, by omega⟩
    · rw [Nat.min_eq_right q]
      rcases ih with ih | ⟨w, h1, h2⟩
      · exact Or.inl ih
      · exact Or.inr ⟨w, by omega, h2⟩
def adS (S : Nat → Bool) (w : Nat) : Nat → Bool := fun i => S i || decide (i = w)
def Lc (pr : Nat → Nat → Nat) (al n : Nat) : Nat → (Nat → Bool) → Nat
  | 0, _ => 0
  | r + 1, S => min 1000000 (mnc (fun w => if S w = false ∧ pr w (n - (r + 1)) < 1000000 then pr w (n - (r + 1)) + Lc pr al n r (adS S w) else 1000000) n (al + Lc pr al n r S))
def cwP (pr : Nat → Nat → Nat) (al n r : Nat) (S : Nat → Bool) (w : Nat) : Nat := if S w = true then 1000000 else min (pr w (n - (r + 1)) + Lc pr al n r (adS S w)) 1000000
def cnP (pr : Nat → Nat → Nat) (al n r : Nat) (S : Nat → Bool) : Nat := min (al + Lc pr al n r S) 1000000
/-- the cheapest of the first i, the first of like ones -/
def chP (pr : Nat → Nat → Nat) (al n r : Nat) (S : Nat → Bool) : Nat → Nat × Nat
  | 0 => (8, 1000001)
  | i + 1 => if (chP pr al n r S i).2 ≤ cwP pr al n r S i then chP pr al n r S i else (i, cwP pr al n r S i)
def whP (pr : Nat → Nat → Nat) (al n r : Nat) (S : Nat → Bool) : Nat := if (chP pr al n r S n).2 ≤ cnP pr al n r S then (chP pr al n r S n).1 else 8
section PP
variable {pr : Nat → Nat → Nat} {al n r : Nat} {S : Nat → Bool}
theorem Lc_le : Lc pr al n r S ≤ 1000000 := by
  cases r with
  | zero => exact Nat.zero_le _
  | succ r => exact Nat.min_le_left _ _
theorem cwP_le (w : Nat) : cwP pr al n r S w ≤ 1000000 := by
  unfold cwP
  split <;> omega
theorem chP_ok : ∀ i, (∀ w, w < i → (chP pr al n r S i).2 ≤ cwP pr al n r S w) ∧ (((chP pr al n r S i).1 = 8 ∧ (chP pr al n r S i).2 = 1000001 ∧ i = 0) ∨ ((chP pr al n r S i).1 < i ∧ (chP pr al n r S i).2 = cwP pr al n r S (chP pr al n r S i).1 ∧ ∀ v, v < (chP pr al n r S i).1 → (chP pr al n r S i).2 < cwP pr al n r S v))
  | 0 => ⟨fun w h => absurd h (Nat.not_lt_zero _), Or.inl ⟨rfl, rfl, rfl⟩⟩
  | i + 1 => by
    obtain ⟨h1, h2⟩ := chP_ok i
    have hc := cwP_le (pr := pr) (al := al) (n := n) (r := r) (S := S) i
    unfold chP
    by_cases q : (chP pr al n r S i).2 ≤ cwP pr al n r S i
    · rw [if_pos q]
      refine ⟨fun w hw => ?_, ?_⟩
      · by_cases e : w = i
        · subst e; exact q
        · exact h1 w (by omega)
      · rcases h2 with h2 | h2
        · omega
        · exact Or.inr ⟨by omega, h2.2⟩
    · rw [if_neg q]
      refine ⟨fun w hw => ?_, Or.inr ⟨Nat.lt_succ_self _, rfl, fun v hv => ?_⟩⟩
      · by_cases e : w = i
        · subst e; exact Nat.le_refl _
        · have := h1 w (by omega)
          show cwP pr al n r S i ≤ _
          omega
      · have hv : v < i := hv
        have := h1 v hv
        show cwP pr al n r S i < _
        omega
/-- the least price is the chosen one's -/
theorem Lc_ch (hr : r < n) : Lc pr al n (r + 1) S = min (chP pr al n r S n).2 (cnP pr al n r S) := by
  obtain ⟨h1, h2⟩ := chP_ok (pr := pr) (al := al) (n := n) (r := r) (S := S) n
  have h2 := h2.resolve_left (fun q => by omega)
  obtain ⟨m1, m2⟩ := mnc_le (c := fun w => if S w = false ∧ pr w (n - (r + 1)) < 1000000 then pr w (n - (r + 1)) + Lc pr al n r (adS S w) else 1000000) (a := al + Lc pr al n r S) (i := n)
  have m3 := mnc_at (c := fun w => if S w = false ∧ pr w (n - (r + 1)) < 1000000 then pr w (n - (r + 1)) + Lc pr al n r (adS S w) else 1000000) (a := al + Lc pr al n r S) (i := n)
  have e : ∀ w, cwP pr al n r S w = min (if S w = false ∧ pr w (n - (r + 1)) < 1000000 then pr w (n - (r + 1)) + Lc pr al n r (adS S w) else 1000000) 1000000 := by
    intro w
    unfold cwP
    cases hS : S w
    · rw [if_neg (by decide)]
      by_cases q : pr w (n - (r + 1)) < 1000000
      · rw [if_pos ⟨rfl, q⟩]
      · rw [if_neg (fun z => q z.2)]
        omega
    · rw [if_pos rfl, if_neg (fun z => by cases z.1)]
      exact (Nat.min_self _).symm
  show min 1000000 (mnc _ n _) = _
  unfold cnP
  generalize hX : mnc (fun w => if S w = false ∧ pr w (n - (r + 1)) < 1000000 then pr w (n - (r + 1)) + Lc pr al n r (adS S w) else 1000000) n (al + Lc pr al n r S) = X at *
  have k1 := m2 _ h2.1
  have k2 := e (chP pr al n r S n).1
  rcases m3 with m3 | ⟨w, w1, w2⟩
  · omega
  · have k3 := h1 w w1
    have k4 := e w
    omega
/-- who is chosen, told as the first of those who reach the least price -/
theorem whP_first (hr : r < n) (hL : Lc pr al n (r + 1) S < 1000000) : whP pr al n r S = if fa_first (fun w => !S w && (decide (pr w (n - (r + 1)) < 1000000) && decide (pr w (n - (r + 1)) + Lc pr al n r (adS S w) = Lc pr al n (r + 1) S))) n < n then fa_first (fun w => !S w && (decide (pr w (n - (r + 1)) < 1000000) && decide (pr w (n - (r + 1)) + Lc pr al n r (adS S w) = Lc pr al n (r + 1) S))) n else 8 := by
  obtain ⟨h1, h2⟩ := chP_ok (pr := pr) (al := al) (n := n) (r := r) (S := S) n
  have h2 := h2.resolve_left (fun q => by omega)
  have hc := Lc_ch (pr := pr) (al := al) (S := S) hr
  have hp : ∀ w, (!S w && (decide (pr w (n - (r + 1)) < 1000000) && decide (pr w (n - (r + 1)) + Lc pr al n r (adS S w) = Lc pr al n (r + 1) S))) = decide (cwP pr al n r S w = Lc pr al n (r + 1) S) := by
    intro w
    unfold cwP
    cases hS : S w
    · rw [if_neg (by decide), Bool.not_false, Bool.true_and]
      by_cases q : pr w (n - (r + 1)) + Lc pr al n r (adS S w) = Lc pr al n (r + 1) S
      · rw [decide_eq_true q, decide_eq_true (by omega), decide_eq_true (by omega)]; rfl
      · rw [decide_eq_false q, Bool.and_false, decide_eq_false (by omega)]
    · rw [if_pos rfl, Bool.not_true, Bool.false_and, decide_eq_false (by omega)]
  rw [show (fun w => !S w && (decide (pr w (n - (r + 1)) < 1000000) && decide (pr w (n - (r + 1)) + Lc pr al n r (adS S w) = Lc pr al n (r + 1) S))) = fun w => decide (cwP pr al n r S w = Lc pr al n (r + 1) S) from funext hp]
  unfold whP
  by_cases q : (chP pr al n r S n).2 ≤ cnP pr al n r S
  · rw [if_pos q]
    rw [first_at h2.1 (decide_eq_true (by omega)) (fun t ht => decide_eq_false (by have := h2.2.2 t ht; omega)), if_pos h2.1]
  · rw [if_neg q, first_none (fun t ht => decide_eq_false (by have := h1 t ht; omega)), if_neg (Nat.lt_irrefl _)]
theorem Lc_cong {S S' : Nat → Bool} (h : ∀ i, i < n → S i = S' i) : Lc pr al n r S = Lc pr al n r S' := by
  induction r generalizing S S' with
  | zero => rfl
  | succ r ih =>
    have e : ∀ (m : Nat) (a a' : Nat), m ≤ n → a = a' → mnc (fun w => if S w = false ∧ pr w (n - (r + 1)) < 1000000 then pr w (n - (r + 1)) + Lc pr al n r (adS S w) else 1000000) m a = mnc (fun w => if S' w = false ∧ pr w (n - (r + 1)) < 1000000 then pr w (n - (r + 1)) + Lc pr al n r (adS S' w) else 1000000) m a' := by
      intro m
      induction m with
      | zero => intro a a' _ h; exact h
      | succ m im =>
        intro a a' hm ha
        unfold mnc
        rw [im a a' (by omega) ha, h m (by omega), ih (S := adS S m) (S' := adS S' m) (fun i hi => by unfold adS; rw [h i hi])]
    unfold Lc
    rw [e n _ _ (Nat.le_refl _) (by rw [ih h])]
end PP
