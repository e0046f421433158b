/-! the call that takes a law over -/
def FL (M MI : mI) : Prop := (∀ q, q ≠ 3 → q ≠ 4 → q ≠ 6 → q ≠ 7 → q ≠ 46 → q ≠ 52 → q ≠ 53 → q ≠ 54 → q ≠ 55 → q ≠ 56 → q ≠ 57 → M q = MI q) ∧ ∀ j, j ≠ 8 → j ≠ 10 → j ≠ 14 → j ≠ 17 → j ≠ 18 → j ≠ 19 → j ≠ 20 → M 46 j = MI 46 j
theorem Inv_L {MI M : mI} {ML : mJ} (hI : Inv MI ML) (h : FL M MI) (hIt : It M) (hIl : Il M) : Inv M ML := by
  refine ⟨?_, Ic_c (by rw [h.1 39 (by decide) (by decide) (by decide) (by decide) (by decide) (by decide) (by decide) (by decide) (by decide) (by decide) (by decide)]) (by rw [h.1 39 (by decide) (by decide) (by decide) (by decide) (by decide) (by decide) (by decide) (by decide) (by decide) (by decide) (by decide)]) (h.1 40 (by decide) (by decide) (by decide) (by decide) (by decide) (by decide) (by decide) (by decide) (by decide) (by decide) (by decide)) (h.1 41 (by decide) (by decide) (by decide) (by decide) (by decide) (by decide) (by decide) (by decide) (by decide) (by decide) (by decide)) (h.1 42 (by decide) (by decide) (by decide) (by decide) (by decide) (by decide) (by decide) (by decide) (by decide) (by decide) (by decide)) (h.2 4 (by decide) (by decide) (by decide) (by decide) (by decide) (by decide) (by decide)) (h.2 5 (by decide) (by decide) (by decide) (by decide) (by decide) (by decide) (by decide)) (h.1 48 (by decide) (by decide) (by decide) (by decide) (by decide) (by decide) (by decide) (by decide) (by decide) (by decide) (by decide)) (h.1 49 (by decide) (by decide) (by decide) (by decide) (by decide) (by decide) (by decide) (by decide) (by decide) (by decide) (by decide)) (h.1 50 (by decide) (by decide) (by decide) (by decide) (by decide) (by decide) (by decide) (by decide) (by decide) (by decide) (by decide)) hI.2.1, hIt, hIl, Is_c (h.1 11 (by decide) (by decide) (by decide) (by decide) (by decide) (by decide) (by decide) (by decide) (by decide) (by decide) (by decide)) (h.1 12 (by decide) (by decide) (by decide) (by decide) (by decide) (by decide) (by decide) (by decide) (by decide) (by decide) (by decide)) (h.1 13 (by decide) (by decide) (by decide) (by decide) (by decide) (by decide) (by decide) (by decide) (by decide) (by decide) (by decide)) (by rw [h.1 43 (by decide) (by decide) (by decide) (by decide) (by decide) (by decide) (by decide) (by decide) (by decide) (by decide) (by decide)]) (h.1 44 (by decide) (by decide) (by decide) (by decide) (by decide) (by decide) (by decide) (by decide) (by decide) (by decide) (by decide)) (h.2 41 (by decide) (by decide) (by decide) (by decide) (by decide) (by decide) (by decide)) (h.1 74 (by decide) (by decide) (by decide) (by decide) (by decide) (by decide) (by decide) (by decide) (by decide) (by decide) (by decide)) (h.1 76 (by decide) (by decide) (by decide) (by decide) (by decide) (by decide) (by decide) (by decide) (by decide) (by decide) (by decide)) (h.1 77 (by decide) (by decide) (by decide) (by decide) (by decide) (by decide) (by decide) (by decide) (by decide) (by decide) (by decide)) rfl rfl hI.2.2.2.2.1, Ir_c (by rw [h.1 43 (by decide) (by decide) (by decide) (by decide) (by decide) (by decide) (by decide) (by decide) (by decide) (by decide) (by decide)]) (h.1 45 (by decide) (by decide) (by decide) (by decide) (by decide) (by decide) (by decide) (by decide) (by decide) (by decide) (by decide)) (h.2 44 (by decide) (by decide) (by decide) (by decide) (by decide) (by decide) (by decide)) (h.1 75 (by decide) (by decide) (by decide) (by decide) (by decide) (by decide) (by decide) (by decide) (by decide) (by decide) (by decide)) (h.2 30 (by decide) (by decide) (by decide) (by decide) (by decide) (by decide) (by decide)) hI.2.2.2.2.2.1, Ib_c (h.1 34 (by decide) (by decide) (by decide) (by decide) (by decide) (by decide) (by decide) (by decide) (by decide) (by decide) (by decide)) (h.1 70 (by decide) (by decide) (by decide) (by decide) (by decide) (by decide) (by decide) (by decide) (by decide) (by decide) (by decide)) (by rw [h.1 33 (by decide) (by decide) (by decide) (by decide) (by decide) (by decide) (by decide) (by decide) (by decide) (by decide) (by decide)]) (h.1 35 (by decide) (by decide) (by decide) (by decide) (by decide) (by decide) (by decide) (by decide) (by decide) (by decide) (by decide)) (h.2 37 (by decide) (by decide) (by decide) (by decide) (by decide) (by decide) (by decide)) (h.1 71 (by decide) (by decide) (by decide) (by decide) (by decide) (by decide) (by decide) (by decide) (by decide) (by decide) (by decide)) hI.2.2.2.2.2.2.1, Ii_c (by rw [h.1 33 (by decide) (by decide) (by decide) (by decide) (by decide) (by decide) (by decide) (by decide) (by decide) (by decide) (by decide)]) (by rw [h.1 36 (by decide) (by decide) (by decide) (by decide) (by decide) (by decide) (by decide) (by decide) (by decide) (by decide) (by decide)]) (h.1 37 (by decide) (by decide) (by decide) (by decide) (by decide) (by decide) (by decide) (by decide) (by decide) (by decide) (by decide)) (h.1 38 (by decide) (by decide) (by decide) (by decide) (by decide) (by decide) (by decide) (by decide) (by decide) (by decide) (by decide)) (h.2 40 (by decide) (by decide) (by decide) (by decide) (by decide) (by decide) (by decide)) (h.1 72 (by decide) (by decide) (by decide) (by decide) (by decide) (by decide) (by decide) (by decide) (by decide) (by decide) (by decide)) (h.1 73 (by decide) (by decide) (by decide) (by decide) (by decide) (by decide) (by decide) (by decide) (by decide) (by decide) (by decide)) hI.2.2.2.2.2.2.2.1, hI.2.2.2.2.2.2.2.2⟩
  obtain ⟨n, h8, hn, hm, hM, hP, z1, z2, z3, z4⟩ := hI.1
  exact ⟨n, h8, (show M 1 0 = MI 1 0 from (by rw [h.1 1 (by decide) (by decide) (by decide) (by decide) (by decide) (by decide) (by decide) (by decide) (by decide) (by decide) (by decide)])).trans hn, (show M 46 6 = MI 46 6 from (h.2 6 (by decide) (by decide) (by decide) (by decide) (by decide) (by decide) (by decide))).trans hm, (show M 47 = MI 47 from (h.1 47 (by decide) (by decide) (by decide) (by decide) (by decide) (by decide) (by decide) (by decide) (by decide) (by decide) (by decide))).trans (hM.trans (show M 2 = MI 2 from (h.1 2 (by decide) (by decide) (by decide) (by decide) (by decide) (by decide) (by decide) (by decide) (by decide) (by decide) (by decide))).symm), (show M 2 = MI 2 from (h.1 2 (by decide) (by decide) (by decide) (by decide) (by decide) (by decide) (by decide) (by decide) (by decide) (by decide) (by decide))) ▸ hP, (show M 17 = MI 17 from (h.1 17 (by decide) (by decide) (by decide) (by decide) (by decide) (by decide) (by decide) (by decide) (by decide) (by decide) (by decide))) ▸ z1, (show M 37 = MI 37 from (h.1 37 (by decide) (by decide) (by decide) (by decide) (by decide) (by decide) (by decide) (by decide) (by decide) (by decide) (by decide))) ▸ z2, (show M 61 = MI 61 from (h.1 61 (by decide) (by decide) (by decide) (by decide) (by decide) (by decide) (by decide) (by decide) (by decide) (by decide) (by decide))) ▸ z3, (show M 72 = MI 72 from (h.1 72 (by decide) (by decide) (by decide) (by decide) (by decide) (by decide) (by decide) (by decide) (by decide) (by decide) (by decide))) ▸ z4⟩
section P84
variable {B : Nat → Nat} {t D : Nat} {MI : mI} {ML : mJ} {r : xR}
theorem s_read (h : tBy t B MI) (hr : tx B t 161 0 = some r) : ∃ M, mrc (D + 61) 55 [.ref 3] MI ML (some (.int (if r.1 = true then -1 else nI r.2.1))) M ML ∧ FCr M MI ∧ (r.1 = true → M 3 1 = nI (flC r.2.2).length ∧ ∀ i, i < (flC r.2.2).length → M 4 i = (flC r.2.2).getD i 0) := by
  suffices hh : VX4_read_0 (D + 60) (fun v M L' => v = some (.int (if r.1 = true then -1 else nI r.2.1)) ∧ L' = ML ∧ FCr M MI ∧ (r.1 = true → M 3 1 = nI (flC r.2.2).length ∧ ∀ i, i < (flC r.2.2).length → M 4 i = (flC r.2.2).getD i 0)) MI ML by
    obtain ⟨v, M, L', ⟨rfl, rfl, hr⟩, hh⟩ := EX4_read hh
    exact ⟨M, hh, hr⟩
  obtain ⟨h1, h2, h3, h4⟩ := h
  refine BX4_read_0 (s_rd 161 0 0 0 _ r hr ⟨h1, ?_, ?_, ?_, ?_, Nat.zero_le _⟩ (Nat.le_refl _) (Nat.le_refl _) (fun M m1 m2 => ⟨rfl, rfl, m1.tr ⟨fun q a b => by rw [mup_n a, mup_n a], by simp (disch := omega) only [mup_n, mup_s, mput_n, mput_s, mup_mup]⟩, fun z => ?_⟩))
  · simp (disch := omega) only [mup_n, mup_s, mput_n, mput_s, mup_mup]
    exact h2
  · simp (disch := omega) only [mup_n, mup_s, mput_n, mput_s, mup_mup]
    exact fun j hj => ⟨(h4 j hj).1, (h4 j hj).2.2⟩
  · simp (disch := omega) only [mup_n, mup_s, mput_n, mput_s, mup_mup]
  · simp (disch := omega) only [mup_n, mup_s, mput_n, mput_s, mup_mup]
  · obtain ⟨k1, k2⟩ := m2 z
    rw [Nat.zero_add] at k1
    refine ⟨k1, fun i hi => ?_⟩
    have := k2.2 i hi
    rw [Nat.zero_add] at this
    exact this
theorem s_become {n : Nat} (h : MI 3 1 = nI n) (hn : n ≤ 161) : mrc (D + 1) 46 [.ref 6, .ref 3] MI ML none (mup (mup MI 6 (mput (MI 6) 1 (nI n))) 7 (va_cpy (MI 4) (MI 7) 0 0 n)) ML := by
  have e : (if (nI 161) < (MI 3 1) then (nI 161) else (MI 3 1)) = nI n := by
    rw [h, if_neg (nI_nlt hn (by omega))]
  refine mrc_of (EX3_become (BX3_become_0 ?_))
  rw [e]
  refine ⟨0, 0, n, rfl, rfl, by simp (disch := omega) only [mup_n, mup_s, mput_n, mput_s, mup_mup], by omega, by omega, vR ?_⟩
  simp (disch := omega) only [mup_n, mup_s, mput_n, mput_s, mup_mup]
def FLc (M MI : mI) : Prop := ∀ q, q ≠ 3 → q ≠ 4 → q ≠ 6 → q ≠ 7 → M q = MI q
theorem s_law (h : tBy t B MI) (hr : tx B t 161 0 = some r) : ∃ M, mrc (D + 63) 142 [.ref 0] MI ML (some (.int (if r.1 = true then nI 1 else (-100 : Int32) - nI r.2.1))) M ML ∧ FLc M MI ∧ M 3 3 = nI 0 ∧ (r.1 = true → LC r.2.2 (M 6 1) (M 7)) ∧ (r.1 = false → M 6 1 = MI 6 1 ∧ M 7 = MI 7) := by
  suffices hh : VX10_law_0 (D + 62) (fun v M L' => v = some (.int (if r.1 = true then nI 1 else (-100 : Int32) - nI r.2.1)) ∧ L' = ML ∧ FLc M MI ∧ M 3 3 = nI 0 ∧ (r.1 = true → LC r.2.2 (M 6 1) (M 7)) ∧ (r.1 = false → M 6 1 = MI 6 1 ∧ M 7 = MI 7)) MI ML by
    obtain ⟨v, M, L', ⟨rfl, rfl, hr⟩, hh⟩ := EX10_law hh
    exact ⟨M, hh, hr⟩
  have h160 := h.1
  have ok := tx_ok 161 0 r (Nat.zero_le _) hr
  obtain ⟨M, m1, m2, m3⟩ := s_read (D := D + 1) (ML := ML) h hr
  have s_clear : ∀ (M : mI) (D : Nat), mrc (D + 1) 54 [.ref 3] M ML none (mup M 3 (mput (M 3) 3 (nI 0))) ML := fun M D => mrc_of (EX4_clear (BX4_clear_0 eRr))
  refine BX10_law_0 (usei m1 ?_)
  by_cases c : r.1 = true
  · rw [if_pos c, if_pos c]
    obtain ⟨k1, k2, k3, k4⟩ := ok.2 c
    obtain ⟨j1, j2⟩ := m3 c
    refine cT rfl (usev (s_become (D := D + 61) j1 (by omega)) (BX10_law_24 (usev (s_clear _ (D + 61)) (cT rfl ⟨rfl, rfl, fun q a b e f => ?_, by simp (disch := omega) only [mup_n, mup_s, mput_n, mput_s, mup_mup], fun _ => ⟨by omega, by simp (disch := omega) only [mup_n, mup_s, mput_n, mput_s, mup_mup], fun i hi => ?_⟩, fun z => absurd (c.symm.trans z) (by decide)⟩))))
    · rw [mup_n a, mup_n f, mup_n e]
      exact m2.1 q a b
    · rw [mup_n (by decide), mup_s]
      unfold va_cpy
      rw [if_pos (by omega), show 0 + (i - 0) = i by omega]
      exact j2 i hi
  · rw [if_neg c, if_neg c]
    have hne : ¬ nI r.2.1 = -1 := by
      intro z
      rw [fa_eq, nI_toInt (by omega), show (-1 : Int32).toInt = -1 by decide] at z
      omega
    refine cF hne (BX10_law_24 (usev (s_clear _ (D + 61)) (cF hne ⟨rfl, rfl, fun q a b e f => ?_, by simp (disch := omega) only [mup_n, mup_s, mput_n, mput_s, mup_mup], fun z => absurd z c, fun _ => ⟨?_, ?_⟩⟩)))
    · rw [mup_n a]
      exact m2.1 q a b
    · rw [mup_n (by decide), m2.1 6 (by decide) (by decide)]
    · rw [mup_n (by decide), m2.1 7 (by decide) (by decide)]
theorem t_194 {Q : Option Value → mI → mJ → Prop} {m : Nat} (hm : m ≤ 160) (h10 : MI 46 10 = nI m) (K : ∀ M, (∀ q, q ≠ 53 → M q = MI q) → (∀ i, i < m → M 53 i = MI 52 i) → Q (some (.int (nI 1))) M ML) : VX11_law_194 D Q (nI 0) MI ML := by
  refine up (P := fun j => ∀ M : mI, (∀ q, q ≠ 53 → M q = MI q) → (∀ i, i < j → M 53 i = MI 52 i) → VX11_law_194 D Q (nI j) M ML) m (Nat.zero_le _) ?_ ?_ MI (fun _ _ => rfl) (fun i hi => absurd hi (Nat.not_lt_zero _))
  · intro M f1 f2
    exact BX11_law_194 (cT (by rw [f1 46 (by decide), h10]; exact nI_le (Nat.le_refl _) (by omega)) (K M f1 f2))
  · intro j _ hj ih M f1 f2
    refine BX11_law_194 (cF (by rw [f1 46 (by decide), h10]; exact nI_ge hj (by omega)) ⟨j, rfl, by omega, j, rfl, by omega, ?_⟩)
    rw [nI_add]
    refine ih _ (fun q a => by rw [mup_n a, f1 q a]) (fun i hi => ?_)
    rw [mup_s]
    by_cases e : i = j
    · subst e
      rw [mput_s, f1 52 (by decide)]
    · rw [mput_n e]
      exact f2 i (by omega)
theorem t_154 {Q : Option Value → mI → mJ → Prop} {n : Nat} (hn : n ≤ 160) (h17 : MI 46 17 = nI n) (K : ∀ M, (∀ q, q ≠ 56 → q ≠ 57 → M q = MI q) → (∀ i, i < n → M 56 i = MI 54 i ∧ M 57 i = MI 55 i) → VX11_law_194 D Q (nI 0) M ML) : VX11_law_154 D Q (nI 0) MI ML := by
  refine up (P := fun j => ∀ M : mI, (∀ q, q ≠ 56 → q ≠ 57 → M q = MI q) → (∀ i, i < j → M 56 i = MI 54 i ∧ M 57 i = MI 55 i) → VX11_law_154 D Q (nI j) M ML) n (Nat.zero_le _) ?_ ?_ MI (fun _ _ _ => rfl) (fun i hi => absurd hi (Nat.not_lt_zero _))
  · intro M f1 f2
    exact BX11_law_154 (cT (by rw [f1 46 (by decide) (by decide), h17]; exact nI_le (Nat.le_refl _) (by omega)) (K M f1 f2))
  · intro j _ hj ih M f1 f2
    refine BX11_law_154 (cF (by rw [f1 46 (by decide) (by decide), h17]; exact nI_ge hj (by omega)) ⟨j, rfl, by omega, j, rfl, by omega, j, rfl, by omega, j, rfl, by omega, ?_⟩)
    rw [nI_add]
    refine ih _ (fun q a b => by rw [mup_n b, mup_n a, f1 q a b]) (fun i hi => ?_)
    rw [mup_n (show 56 ≠ 57 by decide), mup_s, mup_s, mup_n (show 57 ≠ 56 by decide), mup_n (show 55 ≠ 56 by decide)]
    by_cases e : i = j
    · subst e
      rw [mput_s, mput_s, f1 54 (by decide) (by decide), f1 55 (by decide) (by decide)]
      exact ⟨rfl, rfl⟩
    · rw [mput_n e, mput_n e]
      exact f2 i (by omega)
theorem asM_len : ∀ (La : mLaw) (s : Nat), (asM La s).length = La.length
  | [], _ => rfl
  | l :: a, s => congrArg (· + 1) (asM_len a _)
theorem enM_len : ∀ (La : mLaw) (s : Nat), (enM La s).length = La.length
  | [], _ => rfl
  | l :: a, s => congrArg (· + 1) (enM_len a _)
theorem getD_map {α : Type} {f : α → Int32} {l : List α} {i : Nat} {d : α} (h : i < l.length) : (l.map f).getD i 0 = f (l.getD i d) := by
  simp [List.getD_eq_getElem?_getD, List.getElem?_map, h]
theorem t_law (hI : Iw ML) (h1 : t ≤ 160) (h2 : MI 46 8 = nI t) (h3 : ∀ j, j < t → MI 51 j = nI (B j) ∧ B j < 256) (hr : tx B t 161 0 = some r) : ∃ M, mrc (D + 61) 207 [.ref 46] MI ML (some (.int (if r.1 = true then nI 1 else (-100 : Int32) - nI r.2.1))) M ML ∧ (∀ q, q ≠ 46 → q ≠ 52 → q ≠ 53 → q ≠ 54 → q ≠ 55 → q ≠ 56 → q ≠ 57 → M q = MI q) ∧ (∀ j, j ≠ 8 → j ≠ 10 → j ≠ 14 → j ≠ 17 → j ≠ 18 → j ≠ 19 → j ≠ 20 → M 46 j = MI 46 j) ∧ M 46 8 = nI 0 ∧ (r.1 = true → LM r.2.2 (M 46 17) (M 53) (M 56) (M 57)) ∧ (r.1 = false → M 46 17 = MI 46 17 ∧ M 53 = MI 53 ∧ M 56 = MI 56 ∧ M 57 = MI 57) := by
  have ok := tx_ok 161 0 r (Nat.zero_le _) hr
  suffices hh : VX11_law_0 (D + 60) (fun v M L' => v = some (.int (if r.1 = true then nI 1 else (-100 : Int32) - nI r.2.1)) ∧ L' = ML ∧ (∀ q, q ≠ 46 → q ≠ 52 → q ≠ 53 → q ≠ 54 → q ≠ 55 → q ≠ 56 → q ≠ 57 → M q = MI q) ∧ (∀ j, j ≠ 8 → j ≠ 10 → j ≠ 14 → j ≠ 17 → j ≠ 18 → j ≠ 19 → j ≠ 20 → M 46 j = MI 46 j) ∧ M 46 8 = nI 0 ∧ (r.1 = true → LM r.2.2 (M 46 17) (M 53) (M 56) (M 57)) ∧ (r.1 = false → M 46 17 = MI 46 17 ∧ M 53 = MI 53 ∧ M 56 = MI 56 ∧ M 57 = MI 57)) MI ML by
    obtain ⟨v, M, L', ⟨rfl, rfl, hr⟩, hh⟩ := EX11_law hh
    exact ⟨M, hh, hr⟩
  refine BX11_law_0 ?_
  simp (disch := omega) only [mup_mup, mup_s]
  refine t_lw hI 161 0 0 0 _ r hr ⟨h1, ?_, ?_, ?_, ?_, Nat.zero_le _, ?_⟩ ?_ ?_ (Nat.le_refl _) (Nat.le_refl _) (fun M m1 m2 m3 => BX11_law_124 ?_)
  · simp (disch := omega) only [mup_n, mup_s, mput_n, mput_s, mup_mup]
    exact h2
  · simp (disch := omega) only [mup_n, mup_s, mput_n, mput_s, mup_mup]
    exact h3
  · simp (disch := omega) only [mup_n, mup_s, mput_n, mput_s, mup_mup]
  · simp (disch := omega) only [mup_n, mup_s, mput_n, mput_s, mup_mup]
  · simp (disch := omega) only [mup_n, mup_s, mput_n, mput_s, mup_mup]
  · simp (disch := omega) only [mup_n, mup_s, mput_n, mput_s, mup_mup]
  · simp (disch := omega) only [mup_n, mup_s, mput_n, mput_s, mup_mup]
  · have m4 : ∀ q, q ≠ 46 → q ≠ 52 → q ≠ 54 → q ≠ 55 → M q = MI q := fun q a b c d => by rw [m1.1 q a b c d, mup_n a]
    have m5 : ∀ j, j ≠ 10 → j ≠ 14 → j ≠ 18 → j ≠ 19 → j ≠ 20 → M 46 j = MI 46 j := fun j a b c d e => by
      rw [m1.2 j a b c d, mup_s, mput_n b, mput_n a, mput_n e, mput_n d, mput_n c]
    by_cases c : r.1 = true
    · obtain ⟨k1, k2, k3, k4⟩ := ok.2 c
      obtain ⟨v1, v2, v3, v4, v5, v6⟩ := m2 c
      rw [Nat.zero_add] at v2 v4
      rw [if_pos c]
      have e19 : (mup M 46 (mput (M 46) 8 (nI 0))) 46 19 = -1 := by simp (disch := omega) only [mup_n, mup_s, mput_n, mput_s, mup_mup]; exact v1
      refine cT (by rw [e19]; decide) ?_
      refine t_154 (n := r.2.2.length) (by omega) (by simp (disch := omega) only [mup_n, mup_s, mput_n, mput_s, mup_mup]; exact v4) (fun M2 n1 n2 => t_194 (m := (flM r.2.2).length) (by omega) ?_ (fun M3 o1 o2 => ⟨rfl, rfl, ?_, ?_, ?_, ?_, fun z => absurd (c.symm.trans z) (by decide)⟩))
      · rw [n1 46 (by decide) (by decide)]
        simp (disch := omega) only [mup_n, mup_s, mput_n, mput_s, mup_mup]
        exact v2
      · intro q a b c d e f g
        rw [o1 q c, n1 q f g, mup_n a, mup_n a, m4 q a b d e]
      · intro j a b c d e f g
        rw [o1 46 (by decide), n1 46 (by decide) (by decide), mup_s, mput_n d, mup_s, mput_n a, m5 j b c e f g]
      · rw [o1 46 (by decide), n1 46 (by decide) (by decide)]
        simp (disch := omega) only [mup_n, mup_s, mput_n, mput_s, mup_mup]
      · intro _
        refine ⟨by omega, by omega, ?_, fun i hi => ?_, fun i hi => ?_⟩
        · rw [o1 46 (by decide), n1 46 (by decide) (by decide)]
          simp (disch := omega) only [mup_n, mup_s, mput_n, mput_s, mup_mup]
          exact v4
        · have k := v3.2 i (by rw [List.length_map]; exact hi)
          rw [Nat.zero_add, getD_map (d := 0) hi] at k
          rw [o2 i hi, n1 52 (by decide) (by decide), mup_n (by decide), mup_n (by decide), k]
        · have ka := v5.2 i (by rw [List.length_map, asM_len]; exact hi)
          have ke := v6.2 i (by rw [List.length_map, enM_len]; exact hi)
          rw [Nat.zero_add, getD_map (d := 0) (by rw [asM_len]; exact hi)] at ka
          rw [Nat.zero_add, getD_map (d := 0) (by rw [enM_len]; exact hi)] at ke
          obtain ⟨q1, q2⟩ := n2 i hi
          rw [o1 56 (by decide), o1 57 (by decide), q1, q2, mup_n (by decide), mup_n (by decide), mup_n (by decide), mup_n (by decide)]
          exact ⟨ka, ke⟩
    · have v := m3 (bnf c)
      rw [if_neg c]
      have e19 : (mup M 46 (mput (M 46) 8 (nI 0))) 46 19 = nI r.2.1 := by simp (disch := omega) only [mup_n, mup_s, mput_n, mput_s, mup_mup]; exact v
      rw [e19]
      refine cF (nI_nlt (Nat.zero_le _) (by omega)) ⟨rfl, rfl, ?_, ?_, by simp (disch := omega) only [mup_n, mup_s, mput_n, mput_s, mup_mup], fun z => absurd z c, fun _ => ⟨?_, ?_, ?_, ?_⟩⟩
      · intro q a b c d e f g
        rw [mup_n a, m4 q a b d e]
      · intro j a b c d e f g
        rw [mup_s, mput_n a, m5 j b c e f g]
      · rw [mup_s, mput_n (by decide), m5 17 (by decide) (by decide) (by decide) (by decide) (by decide)]
      · rw [mup_n (by decide), m4 53 (by decide) (by decide) (by decide) (by decide)]
      · rw [mup_n (by decide), m4 56 (by decide) (by decide) (by decide) (by decide)]
      · rw [mup_n (by decide), m4 57 (by decide) (by decide) (by decide) (by decide)]
end P84
theorem p_law : Sim 142 207 [] := by
  intro MI ML hI
  obtain ⟨t, B, hB⟩ := tBy_ok hI.2.2.1
  have h160 := hB.1
  obtain ⟨r, hr⟩ := tx_ex (B := B) (t := t) 161 0 (Nat.zero_le _) (by omega)
  have ok := tx_ok 161 0 r (Nat.zero_le _) hr
  have hIw := hI.2.2.2.2.2.2.2.2
  obtain ⟨M, m1, m2, m3, m4, m5⟩ := s_law (D := 237) (ML := ML) hB hr
  obtain ⟨M2, n1, n2, n3, n4, n5, n6⟩ := t_law (D := 239) (MI := M) hIw h160 ((show M 46 8 = MI 46 8 by rw [m2 46 (by decide) (by decide) (by decide) (by decide)]).trans hB.2.2.1) (by rw [m2 51 (by decide) (by decide) (by decide) (by decide)]; exact fun j hj => (hB.2.2.2 j hj).2) hr
  refine ⟨_, M, ML, M2, ML, m1, n1, Inv_L hI ⟨fun q a b c d e f g h i j k => by rw [n2 q e f g h i j k, m2 q a b c d], fun j a b c d e f g => by rw [n3 j a b c d e f g, m2 46 (by decide) (by decide) (by decide) (by decide)]⟩ ⟨0, Nat.zero_le _, ?_, n4, fun j hj => absurd hj (Nat.not_lt_zero _)⟩ ?_⟩
  · rw [n2 3 (by decide) (by decide) (by decide) (by decide) (by decide) (by decide) (by decide)]
    exact m3
  · by_cases c : r.1 = true
    · refine ⟨r.2.2, (ok.2 c).1, ?_, n5 c⟩
      have k := m4 c
      rw [n2 6 (by decide) (by decide) (by decide) (by decide) (by decide) (by decide) (by decide), n2 7 (by decide) (by decide) (by decide) (by decide) (by decide) (by decide) (by decide)]
      exact k
    · obtain ⟨a1, a2⟩ := m5 (bnf c)
      obtain ⟨b1, b2, b3, b4⟩ := n6 (bnf c)
      have f : ∀ q, q ≠ 3 → q ≠ 4 → q ≠ 6 → q ≠ 7 → M q = MI q := m2
      refine Il_c (by rw [n2 6 (by decide) (by decide) (by decide) (by decide) (by decide) (by decide) (by decide)]; exact a1) (by rw [n2 7 (by decide) (by decide) (by decide) (by decide) (by decide) (by decide) (by decide)]; exact a2) (by rw [b1, f 46 (by decide) (by decide) (by decide) (by decide)]) (by rw [b2, f 53 (by decide) (by decide) (by decide) (by decide)]) (by rw [b3, f 56 (by decide) (by decide) (by decide) (by decide)]) (by rw [b4, f 57 (by decide) (by decide) (by decide) (by decide)]) hI.2.2.2.1
