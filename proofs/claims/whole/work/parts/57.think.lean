/-! days in thought: class and model -/
def dyN (La : mLaw) (n : Nat) (f : Nat → Int32) : Nat → (Nat → Int32)
  | 0 => f
  | k + 1 => dyF La n (dyN La n f k)
def dyK (La : mLaw) (n : Nat) (f : Nat → Int32) (k : Nat) : List dR := dyL La n (dyN La n f k)
def fdN (La : mLaw) (n : Nat) (f : Nat → Int32) : Nat → Nat
  | 0 => 0
  | k + 1 => fdN La n f k + (dyK La n f k).length
theorem dyN_PB {La : mLaw} {n : Nat} {f : Nat → Int32} (h8 : n ≤ 8) (hf : PB f) : ∀ k, PB (dyN La n f k)
  | 0 => hf
  | k + 1 => dyF_PB h8 (dyN_PB h8 hf k)
theorem dyK_ok {La : mLaw} {n : Nat} {f : Nat → Int32} (h8 : n ≤ 8) (hf : PB f) (k : Nat) : (∀ q ∈ dyK La n f k, rOk n q) ∧ (dyK La n f k).length ≤ n := dyL_ok h8 (dyN_PB h8 hf k)
theorem lgE {x y : Int64} : lg_cmp x y = nI 0 ↔ x = y := lg_cmp_eq x y
def WC (n : Nat) (La : mLaw) (f : Nat → Int32) (M : mI) : Prop := n ≤ 8 ∧ M 16 0 = nI n ∧ M 17 = f ∧ PB f ∧ wfL La ∧ LC La (M 6 1) (M 7)
def WM (n : Nat) (La : mLaw) (f : Nat → Int32) (M : mI) : Prop := n ≤ 8 ∧ M 46 6 = nI n ∧ M 61 = f ∧ PB f ∧ wfL La ∧ LM La (M 46 17) (M 53) (M 56) (M 57) ∧ M 46 30 = nI 0
/-- frames: a day of the class's thought, the class's thought, the model's -/
def FT (M MI : mI) : Prop := FR 17 18 19 20 21 22 M MI
def FA (M MI : mI) : Prop := ∀ q, q ≠ 8 → q ≠ 9 → (q < 15 ∨ 27 < q) → M q = MI q
def FB (M MI : mI) : Prop := (∀ q, q ≠ 46 → (q < 58 ∨ q = 60 ∨ 69 < q) → M q = MI q) ∧ ∀ j, j ≠ 29 → M 46 j = MI 46 j
theorem FT.rf {M : mI} : FT M M := fun _ _ _ _ _ _ _ _ _ => rfl
theorem FT.tr {M N MI : mI} (h : FT M N) (h2 : FT N MI) : FT M MI := FR.tr h h2
theorem FA.rf {M : mI} : FA M M := fun _ _ _ _ => rfl
theorem FA.tr {M N MI : mI} (h : FA M N) (h2 : FA N MI) : FA M MI := fun q a b c => (h q a b c).trans (h2 q a b c)
theorem FB.rf {M : mI} : FB M M := ⟨fun _ _ _ => rfl, fun _ _ => rfl⟩
theorem FB.tr {M N MI : mI} (h : FB M N) (h2 : FB N MI) : FB M MI := ⟨fun q a b => (h.1 q a b).trans (h2.1 q a b), fun j a => (h.2 j a).trans (h2.2 j a)⟩
theorem FT.a {M MI : mI} (h : FT M MI) : FA M MI := fun q a b c => h q (by omega) (by omega) (by omega) (by omega) (by omega) (by omega) a b
theorem FT.at {M MI : mI} (h : FT M MI) {q : Nat} (a : q ≠ 8) (b : q ≠ 9) (c : q < 17 ∨ 22 < q) : M q = MI q := h q (by omega) (by omega) (by omega) (by omega) (by omega) (by omega) a b
theorem wgL_8 {n : Nat} {L : List dR} (h8 : n ≤ 8) (hL : ∀ q ∈ L, rOk n q) {p : Nat} : wgL L p = 8 ↔ fbL L p = false := by
  constructor
  · intro h
    induction L with
    | nil => rfl
    | cons q L ih =>
      have ho := hL q List.mem_cons_self
      unfold rOk at ho
      unfold wgL at h
      by_cases hq : q.1 = p
      · rw [if_pos hq] at h
        omega
      · rw [if_neg hq] at h
        have := ih (fun q hq => hL q (List.mem_cons_of_mem _ hq)) h
        simp only [fbL, List.any_cons, Bool.or_eq_false_iff, decide_eq_false_iff_not] at this ⊢
        exact ⟨hq, this⟩
  · exact wgL_no
theorem wgL_le {n : Nat} {L : List dR} (h8 : n ≤ 8) (hL : ∀ q ∈ L, rOk n q) (p : Nat) : wgL L p ≤ 8 := by
  induction L with
  | nil => exact Nat.le_refl _
  | cons q L ih =>
    have ho := hL q List.mem_cons_self
    unfold rOk at ho
    unfold wgL
    split
    · omega
    · exact ih (fun q hq => hL q (List.mem_cons_of_mem _ hq))
section C57
variable {D n : Nat} {La : mLaw} {f : Nat → Int32} {MI : mI} {ML : mJ} {x y : Int32}
theorem c_day (hW : WC n La f MI) : ∃ M, mrc (D + 7) 96 [.ref 18, .ref 16, .ref 6] MI ML (some (.int (nI (dyL La n f).length))) M ML ∧ WC n La (dyF La n f) M ∧ RW n 18 19 20 21 22 (dyL La n f) M ∧ FT M MI := by
  obtain ⟨h8, h1, h2, h3, h4, h5⟩ := hW
  obtain ⟨M, m1, m2, m3, m4⟩ := s_goByB (D := D) (ML := ML) (MI := MI) (La := La) (n := n) h1 h8 (by rw [h2]; exact h3) h4 h5
  rw [h2] at m1 m2 m3
  exact ⟨M, m1, ⟨h8, by rw [FT.at m4 (by decide) (by decide) (by decide)]; exact h1, m2, dyF_PB h8 h3, h4, by rw [FT.at m4 (by decide) (by decide) (by decide), FT.at m4 (by decide) (by decide) (by decide)]; exact h5⟩, m3, m4⟩
theorem m_day (hW : WM n La f MI) : ∃ M, mrc (D + 7) 216 [.ref 46] MI ML none M ML ∧ WM n La (dyF La n f) M ∧ M 46 29 = nI (dyL La n f).length ∧ (∀ i, i < n → M 62 i = bI (fbL (dyL La n f) i)) ∧ (∀ i, i < n → M 65 i = nI (wgL (dyL La n f) i)) ∧ FB M MI := by
  obtain ⟨h8, h1, h2, h3, h4, h5, h6⟩ := hW
  obtain ⟨M, m1, m2, ⟨w1, w2, w3, w4, w5, w6, w7⟩, m4⟩ := t_goesBy (D := D) (ML := ML) (MI := MI) (La := La) (n := n) (told := false) h1 h8 (by rw [h2]; exact h3) h4 h5 h6 (fun q => by cases q)
  rw [h2] at m2 w1 w2 w3 w4
  have w5 : M 46 37 = MI 46 37 := w5
  have w6 : M 71 = MI 71 := w6
  have w8 : ∀ j, j ≠ 29 → M 46 j = MI 46 j := by
    intro j hj
    by_cases q : j = 37
    · subst q; exact w5
    · exact w7 j hj q
  have hF : FB M MI := ⟨fun q a b => by
    by_cases q71 : q = 71
    · subst q71; exact w6
    · exact m4 q a (by omega) (by omega) (by omega) (by omega) (by omega) (by omega) (by omega) q71, w8⟩
  exact ⟨M, m1, ⟨h8, by rw [w8 6 (by decide)]; exact h1, m2, dyF_PB h8 h3, h4, by rw [w8 17 (by decide), hF.1 53 (by decide) (by decide), hF.1 56 (by decide) (by decide), hF.1 57 (by decide) (by decide)]; exact h5, by rw [w8 30 (by decide)]; exact h6⟩, w1, w2, w4, hF⟩
theorem c_goOn {d : Nat} (hW : WC n La f MI) (hd : d < 1000) : ∃ M, mrc (D + 8) 123 [.ref 15, .int (nI d)] MI ML (some (.int (nI (fdN La n f d)))) M ML ∧ WC n La (dyN La n f d) M ∧ FT M MI := by
  suffices h : VX9_goOn_0 (D + 7) (fun v M L' => v = some (.int (nI (fdN La n f d))) ∧ L' = ML ∧ WC n La (dyN La n f d) M ∧ FT M MI) (nI d) MI ML by
    obtain ⟨v, M, L', ⟨rfl, rfl, hr⟩, h⟩ := EX9_goOn h
    exact ⟨M, h, hr⟩
  refine BX9_goOn_0 ?_
  refine up (P := fun k => ∀ M : mI, WC n La (dyN La n f k) M → FT M MI → VX9_goOn_4 (D + 7) _ (nI d) (nI (fdN La n f k)) (nI k) M ML) d (Nat.zero_le _) ?_ ?_ MI hW FT.rf
  · intro M hM hF
    exact BX9_goOn_4 (cT (nI_le (Nat.le_refl _) (by omega)) ⟨rfl, rfl, hM, hF⟩)
  · intro k _ hk ih M hM hF
    obtain ⟨M2, m1, m2, m3, m4⟩ := c_day (D := D) (ML := ML) hM
    refine BX9_goOn_4 (cF (nI_ge hk (by omega)) (usei m1 ?_))
    rw [nI_add, nI_add]
    exact ih M2 m2 (m4.tr hF)
theorem m_fedBehind {d : Nat} (hW : WM n La f MI) (hd : d < 1000) : ∃ M, mrc (D + 8) 224 [.ref 46, .int (nI d)] MI ML (some (.int (nI (fdN La n f d)))) M ML ∧ WM n La (dyN La n f d) M ∧ FB M MI := by
  suffices h : VX11_fedBehind_0 (D + 7) (fun v M L' => v = some (.int (nI (fdN La n f d))) ∧ L' = ML ∧ WM n La (dyN La n f d) M ∧ FB M MI) (nI d) MI ML by
    obtain ⟨v, M, L', ⟨rfl, rfl, hr⟩, h⟩ := EX11_fedBehind h
    exact ⟨M, h, hr⟩
  refine BX11_fedBehind_0 ?_
  refine up (P := fun k => ∀ M : mI, WM n La (dyN La n f k) M → FB M MI → VX11_fedBehind_4 (D + 7) _ (nI d) (nI (fdN La n f k)) (nI k) M ML) d (Nat.zero_le _) ?_ ?_ MI hW FB.rf
  · intro M hM hF
    exact BX11_fedBehind_4 (cT (nI_le (Nat.le_refl _) (by omega)) ⟨rfl, rfl, hM, hF⟩)
  · intro k _ hk ih M hM hF
    obtain ⟨M2, m1, m2, m3, m4, m5, m6⟩ := m_day (D := D) (ML := ML) hM
    refine BX11_fedBehind_4 (cF (nI_ge hk (by omega)) (usev m1 ?_))
    rw [m3, nI_add, nI_add]
    exact ih M2 m2 (m6.tr hF)
/-- how many days from now on one is fed -/
def lst (La : mLaw) (n : Nat) (f : Nat → Int32) (one : Nat) : Nat := fa_first (fun k => decide (wgL (dyK La n f k) one = 8)) 40
theorem first_at {p : Nat → Bool} {N d : Nat} (h1 : d < N) (h2 : p d = true) (h3 : ∀ t, t < d → p t = false) : fa_first p N = d := by
  rcases Nat.lt_trichotomy (fa_first p N) d with q | q | q
  · have := fa_first_yes p N (by omega)
    rw [h3 _ q] at this
    cases this
  · exact q
  · have := fa_first_no p N d q
    rw [h2] at this
    cases this
theorem first_none {p : Nat → Bool} {N : Nat} (h3 : ∀ t, t < N → p t = false) : fa_first p N = N := by
  have h := fa_first_le p N
  rcases Nat.lt_or_ge (fa_first p N) N with q | q
  · have := fa_first_yes p N q
    rw [h3 _ q] at this
    cases this
  · omega
theorem c_daysFed {one : Nat} (hW : WC n La f MI) (ho : one < n) : ∃ M f', mrc (D + 8) 124 [.ref 15, .int (nI one)] MI ML (some (.int (nI (lst La n f one)))) M ML ∧ WC n La f' M ∧ FT M MI := by
  have h8 := hW.1
  have hf := hW.2.2.2.1
  suffices h : VX9_daysFed_0 (D + 7) (fun v M L' => v = some (.int (nI (lst La n f one))) ∧ L' = ML ∧ ∃ f', WC n La f' M ∧ FT M MI) (nI one) MI ML by
    obtain ⟨v, M, L', ⟨rfl, rfl, f', hr⟩, h⟩ := EX9_daysFed h
    exact ⟨M, f', h, hr⟩
  refine BX9_daysFed_0 ?_
  refine up (P := fun k => ∀ M : mI, WC n La (dyN La n f k) M → FT M MI → (∀ t, t < k → decide (wgL (dyK La n f t) one = 8) = false) → VX9_daysFed_2 (D + 7) _ (nI one) (nI k) M ML) 40 (Nat.zero_le _) ?_ ?_ MI hW FT.rf (fun t ht => absurd ht (Nat.not_lt_zero _))
  · intro M hM hF hno
    refine BX9_daysFed_2 (cT (nI_le (Nat.le_refl _) (by omega)) ⟨?_, rfl, _, hM, hF⟩)
    unfold lst
    rw [first_none hno]
  · intro k _ hk ih M hM hF hno
    obtain ⟨M2, m1, m2, m3, m4⟩ := c_day (D := D) (ML := ML) hM
    have hdo := dyK_ok (La := La) h8 hf k
    refine BX9_daysFed_2 (cF (nI_ge hk (by omega)) (usei m1 (usei (s_weigherOf (n := n) (L := dyK La n f k) rd18 (by omega) hdo.1 h8 (by omega) m3) ?_)))
    rw [nI_eq (by have := wgL_le h8 hdo.1 one; omega) (by omega), nI_add]
    refine br (fun h => ⟨?_, rfl, _, m2, m4.tr hF⟩) (fun h => ih M2 m2 (m4.tr hF) (fun t ht => ?_))
    · unfold lst
      rw [first_at hk (decide_eq_true h) hno]
    · by_cases q : t < k
      · exact hno t q
      · have : t = k := by omega
        subst this
        exact decide_eq_false h
theorem m_lastsThen {one : Nat} (hW : WM n La f MI) (ho : one < n) : ∃ M f', mrc (D + 8) 227 [.ref 46, .int (nI one)] MI ML (some (.int (nI (lst La n f one)))) M ML ∧ WM n La f' M ∧ FB M MI := by
  have h8 := hW.1
  have hf := hW.2.2.2.1
  suffices h : VX11_lastsThen_0 (D + 7) (fun v M L' => v = some (.int (nI (lst La n f one))) ∧ L' = ML ∧ ∃ f', WM n La f' M ∧ FB M MI) (nI one) MI ML by
    obtain ⟨v, M, L', ⟨rfl, rfl, f', hr⟩, h⟩ := EX11_lastsThen h
    exact ⟨M, f', h, hr⟩
  refine BX11_lastsThen_0 ?_
  refine up (P := fun k => ∀ M : mI, WM n La (dyN La n f k) M → FB M MI → (∀ t, t < k → decide (wgL (dyK La n f t) one = 8) = false) → VX11_lastsThen_2 (D + 7) _ (nI one) (nI k) M ML) 40 (Nat.zero_le _) ?_ ?_ MI hW FB.rf (fun t ht => absurd ht (Nat.not_lt_zero _))
  · intro M hM hF hno
    refine BX11_lastsThen_2 (cT (nI_le (Nat.le_refl _) (by omega)) ⟨?_, rfl, _, hM, hF⟩)
    unfold lst
    rw [first_none hno]
  · intro k _ hk ih M hM hF hno
    obtain ⟨M2, m1, m2, m3, m4, m5, m6⟩ := m_day (D := D) (ML := ML) hM
    have hdo := dyK_ok (La := La) h8 hf k
    have m4 : ∀ i, i < n → M2 62 i = bI (fbL (dyK La n f k) i) := m4
    refine BX11_lastsThen_2 (cF (nI_ge hk (by omega)) (usev m1 ⟨one, rfl, by omega, ?_⟩))
    rw [m4 one ho, bI_0, ← wgL_8 h8 hdo.1, nI_add]
    refine br (fun h => ⟨?_, rfl, _, m2, m6.tr hF⟩) (fun h => ih M2 m2 (m6.tr hF) (fun t ht => ?_))
    · unfold lst
      rw [first_at hk (decide_eq_true h) hno]
    · by_cases q : t < k
      · exact hno t q
      · have : t = k := by omega
        subst this
        exact decide_eq_false h
/-- is day k not as it was seen -/
def unB (La : mLaw) (n : Nat) (f : Nat → Int32) (g : Nat → Int64) (one k : Nat) : Bool := !decide (g k = 9) && !decide (g k = (nI (wgL (dyK La n f k) one)).toInt64)
def unl (La : mLaw) (n : Nat) (f : Nat → Int32) (g : Nat → Int64) (z one : Nat) : Int32 := if fa_first (unB La n f g one) (min z 40) < min z 40 then nI (fa_first (unB La n f g one) (min z 40)) else -2
theorem unl_no {g : Nat → Int64} {z one : Nat} (h : ∀ t, t < min z 40 → unB La n f g one t = false) : unl La n f g z one = -2 := by
  unfold unl
  rw [first_none h, if_neg (Nat.lt_irrefl _)]
theorem unl_at {g : Nat → Int64} {z one k : Nat} (hk : k < min z 40) (h : unB La n f g one k = true) (hno : ∀ t, t < k → unB La n f g one t = false) : unl La n f g z one = nI k := by
  unfold unl
  rw [first_at hk h hno, if_pos hk]
theorem unl_cong {g g' : Nat → Int64} {z one : Nat} (h : ∀ p, p < z → g p = g' p) : unl La n f g z one = unl La n f g' z one := by
  have e : ∀ k, k < min z 40 → unB La n f g one k = unB La n f g' one k := by
    intro k hk
    unfold unB
    rw [h k (by omega)]
  rcases Nat.lt_or_ge (fa_first (unB La n f g one) (min z 40)) (min z 40) with q | q
  · have h1 := fa_first_yes (unB La n f g one) (min z 40) q
    have h2 := fa_first_no (unB La n f g one) (min z 40)
    rw [unl_at q h1 h2, unl_at q (by rw [← e _ q]; exact h1) (fun t ht => by rw [← e t (by omega)]; exact h2 t ht)]
  · have h2 := fa_first_no (unB La n f g one) (min z 40)
    rw [unl_no (fun t ht => h2 t (by omega)), unl_no (fun t ht => by rw [← e t ht]; exact h2 t (by omega))]
theorem c_unlike {d z one : Nat} (hW : WC n La f MI) (ho : one < n) (hd : d < 6) (hz : z ≤ 60) (h12 : MI 12 d = nI z) : ∃ M f', mrc (D + 8) 126 [.ref 15, .int (nI d), .int (nI one)] MI ML (some (.int (unl La n f (fun p => ML 14 (d * 60 + p)) z one))) M ML ∧ WC n La f' M ∧ FT M MI := by
  have h8 := hW.1
  have hf := hW.2.2.2.1
  suffices h : VX9_firstUnlike_0 (D + 7) (fun v M L' => v = some (.int (unl La n f (fun p => ML 14 (d * 60 + p)) z one)) ∧ L' = ML ∧ ∃ f', WC n La f' M ∧ FT M MI) (nI d) (nI one) MI ML by
    obtain ⟨v, M, L', ⟨rfl, rfl, f', hr⟩, h⟩ := EX9_firstUnlike h
    exact ⟨M, f', h, hr⟩
  refine BX9_firstUnlike_0 (usei (s_sizeOf hd) ?_)
  rw [h12]
  have em : (if nI 40 < nI z then nI 40 else nI z) = nI (min z 40) := by
    by_cases q : 40 < z
    · rw [if_pos (nI_lt q (by omega)), show min z 40 = 40 by omega]
    · rw [if_neg (nI_nlt (by omega) (by omega)), show min z 40 = z by omega]
  rw [em]
  refine up (P := fun k => ∀ M : mI, WC n La (dyN La n f k) M → FT M MI → (∀ t, t < k → unB La n f (fun p => ML 14 (d * 60 + p)) one t = false) → VX9_firstUnlike_17 (D + 7) _ (nI d) (nI one) (nI (min z 40)) (nI k) M ML) (min z 40) (Nat.zero_le _) ?_ ?_ MI hW FT.rf (fun t ht => absurd ht (Nat.not_lt_zero _))
  · intro M hM hF hno
    exact BX9_firstUnlike_17 (cT (nI_le (Nat.le_refl _) (by omega)) ⟨by rw [unl_no hno], rfl, _, hM, hF⟩)
  · intro k _ hk ih M hM hF hno
    obtain ⟨M2, m1, m2, m3, m4⟩ := c_day (D := D) (ML := ML) hM
    have hdo := dyK_ok (La := La) h8 hf k
    refine BX9_firstUnlike_17 (cF (nI_ge hk (by omega)) (usel (s_at (s := z) hd (by rw [hF.at (by decide) (by decide) (by decide)]; exact h12) hz (by omega)) (usei m1 ?_)))
    rw [lgE, nI_add]
    refine br (fun h => ih M2 m2 (m4.tr hF) (fun t ht => ?_)) (fun h => usei (s_weigherOf (n := n) (L := dyK La n f k) rd18 (by omega) hdo.1 h8 (by omega) m3) ?_)
    · by_cases q : t < k
      · exact hno t q
      · have : t = k := by omega
        subst this
        unfold unB
        rw [decide_eq_true h]; rfl
    · rw [lgE]
      refine br (fun h2 => ih M2 m2 (m4.tr hF) (fun t ht => ?_)) (fun h2 => ⟨?_, rfl, _, m2, m4.tr hF⟩)
      · by_cases q : t < k
        · exact hno t q
        · have : t = k := by omega
          subst this
          unfold unB
          rw [decide_eq_true h2, Bool.not_true, Bool.and_false]
      · rw [unl_at hk (by unfold unB; rw [decide_eq_false h, decide_eq_false h2]; rfl) hno]
theorem m_wrongDay {d z one : Nat} (hW : WM n La f MI) (ho : one < n) (hd : d < 6) (hz : z ≤ 60) (h77 : MI 77 d = nI z) : ∃ M f', mrc (D + 8) 233 [.ref 46, .int (nI d), .int (nI one)] MI ML (some (.int (unl La n f (fun p => ML 78 (d * 60 + p)) z one))) M ML ∧ WM n La f' M ∧ FB M MI := by
  have h8 := hW.1
  have hf := hW.2.2.2.1
  suffices h : VX11_wrongDay_0 (D + 7) (fun v M L' => v = some (.int (unl La n f (fun p => ML 78 (d * 60 + p)) z one)) ∧ L' = ML ∧ ∃ f', WM n La f' M ∧ FB M MI) (nI d) (nI one) MI ML by
    obtain ⟨v, M, L', ⟨rfl, rfl, f', hr⟩, h⟩ := EX11_wrongDay h
    exact ⟨M, f', h, hr⟩
  refine BX11_wrongDay_0 ?_
  refine up (P := fun k => ∀ M : mI, WM n La (dyN La n f k) M → FB M MI → (∀ t, t < k → unB La n f (fun p => ML 78 (d * 60 + p)) one t = false) → VX11_wrongDay_2 (D + 7) _ (nI d) (nI one) (nI k) M ML) (min z 40) (Nat.zero_le _) ?_ ?_ MI hW FB.rf (fun t ht => absurd ht (Nat.not_lt_zero _))
  · intro M hM hF hno
    refine BX11_wrongDay_2 ⟨d, rfl, hd, ?_⟩
    rw [hF.1 77 (by decide) (by decide), h77]
    by_cases q : z ≤ 40
    · exact cT (nI_le (by omega) (by omega)) ⟨by rw [unl_no hno], rfl, _, hM, hF⟩
    · exact cF (nI_ge (by omega) (by omega)) (cT (nI_le (by omega) (by omega)) ⟨by rw [unl_no hno], rfl, _, hM, hF⟩)
  · intro k _ hk ih M hM hF hno
    obtain ⟨M2, m1, m2, m3, m4, m5, m6⟩ := m_day (D := D) (ML := ML) hM
    have hdo := dyK_ok (La := La) h8 hf k
    have m5 : ∀ i, i < n → M2 65 i = nI (wgL (dyK La n f k) i) := m5
    refine BX11_wrongDay_2 ⟨d, rfl, hd, ?_⟩
    rw [hF.1 77 (by decide) (by decide), h77]
    refine cF (nI_ge (by omega) (by omega)) (cF (nI_ge (by omega) (by omega)) (usev m1 ⟨d * 60 + k, by rw [pk_mul, nI_add, Nat.mul_comm], by omega, ?_⟩))
    rw [lgE, nI_add]
    refine br (fun h => ih M2 m2 (m6.tr hF) (fun t ht => ?_)) (fun h => ⟨one, rfl, by omega, ?_⟩)
    · by_cases q : t < k
      · exact hno t q
      · have : t = k := by omega
        subst this
        unfold unB
        rw [decide_eq_true h]; rfl
    · rw [lgE, m5 one ho]
      refine br (fun h2 => ih M2 m2 (m6.tr hF) (fun t ht => ?_)) (fun h2 => ⟨?_, rfl, _, m2, m6.tr hF⟩)
      · by_cases q : t < k
        · exact hno t q
        · have : t = k := by omega
          subst this
          unfold unB
          rw [decide_eq_true h2, Bool.not_true, Bool.and_false]
      · rw [unl_at hk (by unfold unB; rw [decide_eq_false h, decide_eq_false h2]; rfl) hno]
end C57
