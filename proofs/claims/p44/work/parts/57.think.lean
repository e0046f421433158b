/-! days in thought: class and model -/
def dyN (La : mLaw) (n : Nat) (f : Nat → Int32) : Nat → (Nat → Int32)
  | 0 => f
  | k + 1 => dyF La n (dyN La n f k)
def dyK (La : mLaw) (n : Nat) (f : Nat → Int32) (k : Nat) : List dR := dyL La n (dyN La n f k)
def fdN (La : mLaw) (n : Nat) (f : Nat → Int32) : Nat → Nat
  | 0 => 0
  | k + 1 => fdN La n f k + (dyK La n f k).length
theorem dyN_PB {La : mLaw} {n : Nat} {f : Nat → Int32} (h8 : n ≤ 8) (hf : PB f) : ∀ k, PB (dyN La n f k)
  | 0 => hf
  | k + 1 => dyF_PB h8 (dyN_PB h8 hf k)
theorem dyK_ok {La : mLaw} {n : Nat} {f : Nat → Int32} (h8 : n ≤ 8) (hf : PB f) (k : Nat) : (∀ q ∈ dyK La n f k, rOk n q) ∧ (dyK La n f k).length ≤ n := dyL_ok h8 (dyN_PB h8 hf k)
theorem lgE {x y : Int64} : lg_cmp x y = nI 0 ↔ x = y := lg_cmp_eq x y
def WC (n : Nat) (La : mLaw) (f : Nat → Int32) (M : mI) : Prop := n ≤ 8 ∧ M 16 0 = nI n ∧ M 17 = f ∧ PB f ∧ wfL La ∧ LC La (M 6 1) (M 7)
/-- frames: a day of the class's thought, the class's thought, the model's -/
def FT (M MI : mI) : Prop := FR 17 18 19 20 21 22 M MI
def FA (M MI : mI) : Prop := ∀ q, q ≠ 8 → q ≠ 9 → (q < 15 ∨ 27 < q) → M q = MI q
theorem FT.rf {M : mI} : FT M M := fun _ _ _ _ _ _ _ _ _ => rfl
theorem FT.tr {M N MI : mI} (h : FT M N) (h2 : FT N MI) : FT M MI := FR.tr h h2
theorem FA.rf {M : mI} : FA M M := fun _ _ _ _ => rfl
theorem FA.tr {M N MI : mI} (h : FA M N) (h2 : FA N MI) : FA M MI := fun q a b c => (h q a b c).trans (h2 q a b c)
theorem FT.a {M MI : mI} (h : FT M MI) : FA M MI := fun q a b c => h q (by omega) (by omega) (by omega) (by omega) (by omega) (by omega) a b
theorem FT.at {M MI : mI} (h : FT M MI) {q : Nat} (a : q ≠ 8) (b : q ≠ 9) (c : q < 17 ∨ 22 < q) : M q = MI q := h q (by omega) (by omega) (by omega) (by omega) (by omega) (by omega) a b
theorem wgL_8 {n : Nat} {L : List dR} (h8 : n ≤ 8) (hL : ∀ q ∈ L, rOk n q) {p : Nat} : wgL L p = 8 ↔ fbL L p = false := by
  constructor
  · intro h
    induction L with
    | nil => rfl
    | cons q L ih =>
      have ho := hL q List.mem_cons_self
      unfold rOk at ho
      unfold wgL at h
      by_cases hq : q.1 = p
      · rw [if_pos hq] at h
        omega
      · rw [if_neg hq] at h
        have := ih (fun q hq => hL q (List.mem_cons_of_mem _ hq)) h
        simp only [fbL, List.any_cons, Bool.or_eq_false_iff, decide_eq_false_iff_not] at this ⊢
        exact ⟨hq, this⟩
  · exact wgL_no
theorem wgL_le {n : Nat} {L : List dR} (h8 : n ≤ 8) (hL : ∀ q ∈ L, rOk n q) (p : Nat) : wgL L p ≤ 8 := by
  induction L with
  | nil => exact Nat.le_refl _
  | cons q L ih =>
    have ho := hL q List.mem_cons_self
    unfold rOk at ho
    unfold wgL
    split
    · omega
    · exact ih (fun q hq => hL q (List.mem_cons_of_mem _ hq))
section C57
variable {D n : Nat} {La : mLaw} {f : Nat → Int32} {MI : mI} {ML : mJ} {x y : Int32}
theorem c_day (hW : WC n La f MI) : ∃ M, mrc (D + 7) 96 [.ref 18, .ref 16, .ref 6] MI ML (some (.int (nI (dyL La n f).length))) M ML ∧ WC n La (dyF La n f) M ∧ RW n 18 19 20 21 22 (dyL La n f) M ∧ FT M MI := by
  obtain ⟨h8, h1, h2, h3, h4, h5⟩ := hW
  obtain ⟨M, m1, m2, m3, m4⟩ := s_goByB (D := D) (ML := ML) (MI := MI) (La := La) (n := n) h1 h8 (by rw [h2]; exact h3) h4 h5
  rw [h2] at m1 m2 m3
  exact ⟨M, m1, ⟨h8, by rw [FT.at m4 (by decide) (by decide) (by decide)]; exact h1, m2, dyF_PB h8 h3, h4, by rw [FT.at m4 (by decide) (by decide) (by decide), FT.at m4 (by decide) (by decide) (by decide)]; exact h5⟩, m3, m4⟩
theorem c_goOn {d : Nat} (hW : WC n La f MI) (hd : d < 1000) : ∃ M, mrc (D + 8) 123 [.ref 15, .int (nI d)] MI ML (some (.int (nI (fdN La n f d)))) M ML ∧ WC n La (dyN La n f d) M ∧ FT M MI := by
  suffices h : VX9_goOn_0 (D + 7) (fun v M L' => v = some (.int (nI (fdN La n f d))) ∧ L' = ML ∧ WC n La (dyN La n f d) M ∧ FT M MI) (nI d) MI ML by
    obtain ⟨v, M, L', ⟨rfl, rfl, hr⟩, h⟩ := EX9_goOn h
    exact ⟨M, h, hr⟩
  refine BX9_goOn_0 ?_
  refine up (P := fun k => ∀ M : mI, WC n La (dyN La n f k) M → FT M MI → VX9_goOn_4 (D + 7) _ (nI d) (nI (fdN La n f k)) (nI k) M ML) d (Nat.zero_le _) ?_ ?_ MI hW FT.rf
  · intro M hM hF
    exact BX9_goOn_4 (cT (nI_le (Nat.le_refl _) (by omega)) ⟨rfl, rfl, hM, hF⟩)
  · intro k _ hk ih M hM hF
    obtain ⟨M2, m1, m2, m3, m4⟩ := c_day (D := D) (ML := ML) hM
    refine BX9_goOn_4 (cF (nI_ge hk (by omega)) (usei m1 ?_))
    rw [nI_add, nI_add]
    exact ih M2 m2 (m4.tr hF)
/-- how many days from now on one is fed -/
def lst (La : mLaw) (n : Nat) (f : Nat → Int32) (one : Nat) : Nat := fa_first (fun k => decide (wgL (dyK La n f k) one = 8)) 40
theorem first_at {p : Nat → Bool} {N d : Nat} (h1 : d < N) (h2 : p d = true) (h3 : ∀ t, t < d → p t = false) : fa_first p N = d := by
  rcases Nat.lt_trichotomy (fa_first p N) d with q | q | q
  · have := fa_first_yes p N (by omega)
    rw [h3 _ q] at this
    cases this
  · exact q
  · have := fa_first_no p N d q
    rw [h2] at this
    cases this
theorem first_none {p : Nat → Bool} {N : Nat} (h3 : ∀ t, t < N → p t = false) : fa_first p N = N := by
  have h := fa_first_le p N
  rcases Nat.lt_or_ge (fa_first p N) N with q | q
  · have := fa_first_yes p N q
    rw [h3 _ q] at this
    cases this
  · omega
theorem c_daysFed {one : Nat} (hW : WC n La f MI) (ho : one < n) : ∃ M f', mrc (D + 8) 124 [.ref 15, .int (nI one)] MI ML (some (.int (nI (lst La n f one)))) M ML ∧ WC n La f' M ∧ FT M MI := by
  have h8 := hW.1
  have hf := hW.2.2.2.1
  suffices h : VX9_daysFed_0 (D + 7) (fun v M L' => v = some (.int (nI (lst La n f one))) ∧ L' = ML ∧ ∃ f', WC n La f' M ∧ FT M MI) (nI one) MI ML by
    obtain ⟨v, M, L', ⟨rfl, rfl, f', hr⟩, h⟩ := EX9_daysFed h
    exact ⟨M, f', h, hr⟩
  refine BX9_daysFed_0 ?_
  refine up (P := fun k => ∀ M : mI, WC n La (dyN La n f k) M → FT M MI → (∀ t, t < k → decide (wgL (dyK La n f t) one = 8) = false) → VX9_daysFed_2 (D + 7) _ (nI one) (nI k) M ML) 40 (Nat.zero_le _) ?_ ?_ MI hW FT.rf (fun t ht => absurd ht (Nat.not_lt_zero _))
  · intro M hM hF hno
    refine BX9_daysFed_2 (cT (nI_le (Nat.le_refl _) (by omega)) ⟨?_, rfl, _, hM, hF⟩)
    unfold lst
    rw [first_none hno]
  · intro k _ hk ih M hM hF hno
    obtain ⟨M2, m1, m2, m3, m4⟩ := c_day (D := D) (ML := ML) hM
    have hdo := dyK_ok (La := La) h8 hf k
    refine BX9_daysFed_2 (cF (nI_ge hk (by omega)) (usei m1 (usei (s_weigherOf (n := n) (L := dyK La n f k) rd18 (by omega) hdo.1 h8 (by omega) m3) ?_)))
    rw [nI_eq (by have := wgL_le h8 hdo.1 one; omega) (by omega), nI_add]
    refine br (fun h => ⟨?_, rfl, _, m2, m4.tr hF⟩) (fun h => ih M2 m2 (m4.tr hF) (fun t ht => ?_))
    · unfold lst
      rw [first_at hk (decide_eq_true h) hno]
    · by_cases q : t < k
      · exact hno t q
      · have : t = k := by omega
        subst this
        exact decide_eq_false h
/-- is day k not as it was seen -/
def unB (La : mLaw) (n : Nat) (f : Nat → Int32) (g : Nat → Int64) (one k : Nat) : Bool := !decide (g k = 9) && !decide (g k = (nI (wgL (dyK La n f k) one)).toInt64)
def unl (La : mLaw) (n : Nat) (f : Nat → Int32) (g : Nat → Int64) (z one : Nat) : Int32 := if fa_first (unB La n f g one) (min z 40) < min z 40 then nI (fa_first (unB La n f g one) (min z 40)) else -2
theorem unl_no {g : Nat → Int64} {z one : Nat} (h : ∀ t, t < min z 40 → unB La n f g one t = false) : unl La n f g z one = -2 := by
  unfold unl
  rw [first_none h, if_neg (Nat.lt_irrefl _)]
theorem unl_at {g : Nat → Int64} {z one k : Nat} (hk : k < min z 40) (h : unB La n f g one k = true) (hno : ∀ t, t < k → unB La n f g one t = false) : unl La n f g z one = nI k := by
  unfold unl
  rw [first_at hk h hno, if_pos hk]
theorem unl_cong {g g' : Nat → Int64} {z one : Nat} (h : ∀ p, p < z → g p = g' p) : unl La n f g z one = unl La n f g' z one := by
  have e : ∀ k, k < min z 40 → unB La n f g one k = unB La n f g' one k := by
    intro k hk
    unfold unB
    rw [h k (by omega)]
  rcases Nat.lt_or_ge (fa_first (unB La n f g one) (min z 40)) (min z 40) with q | q
  · have h1 := fa_first_yes (unB La n f g one) (min z 40) q
    have h2 := fa_first_no (unB La n f g one) (min z 40)
    rw [unl_at q h1 h2, unl_at q (by rw [← e _ q]; exact h1) (fun t ht => by rw [← e t (by omega)]; exact h2 t ht)]
  · have h2 := fa_first_no (unB La n f g one) (min z 40)
    rw [unl_no (fun t ht => h2 t (by omega)), unl_no (fun t ht => by rw [← e t ht]; exact h2 t (by omega))]
end C57
