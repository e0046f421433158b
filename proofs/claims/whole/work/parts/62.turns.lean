/-! byTurns: pair -/
/-- hunger behind r last turns, by the feeling (from -9 on) -/
def tT (La : mLaw) (n : Nat) (f : Nat → Int32) (a b N : Nat) : Nat → Nat → Int32
  | 0, i => dyF La n (mput f (20 + b * 8 + a) (nI i - nI 9)) a
  | r + 1, i => if (N - (r + 1)) % 2 = 0 then mn (tT La n f a b N r i) (tT La n f a b N r (i - 2)) else mx (tT La n f a b N r i) (tT La n f a b N r (min (i + 2) 18))
theorem tT_s (La : mLaw) (n : Nat) (f : Nat → Int32) (a b N r i : Nat) : tT La n f a b N (r + 1) i = if (N - (r + 1)) % 2 = 0 then mn (tT La n f a b N r i) (tT La n f a b N r (i - 2)) else mx (tT La n f a b N r i) (tT La n f a b N r (min (i + 2) 18)) := rfl
theorem fe_ix {x : Int32} (h1 : -9 ≤ x.toInt) (h2 : x.toInt ≤ 9) : ∃ i, i < 19 ∧ x = nI i - nI 9 := by
  refine ⟨(x.toInt + 9).toNat, by omega, ?_⟩
  rw [fa_eq, pk_sub_toInt (by omega) (by omega)]
  omega
theorem fe_ok {i a b : Nat} (hi : i < 19) (ha : a < 8) (hb : b < 8) (hne : b ≠ a) : okv (20 + b * 8 + a) (nI i - nI 9) := (okv_ft hb ha hne).mpr (by rw [pk_sub_toInt (by omega) (by omega)]; omega)
theorem ha_0 {i : Nat} (h : i < 19) : (if -9 < (if nI 9 < nI i - nI 9 then nI 9 else nI i - nI 9) then (if nI 9 < nI i - nI 9 then nI 9 else nI i - nI 9) else -9) + nI 9 = nI i := by
  have : ∀ i : Fin 19, (if -9 < (if nI 9 < nI i.val - nI 9 then nI 9 else nI i.val - nI 9) then (if nI 9 < nI i.val - nI 9 then nI 9 else nI i.val - nI 9) else -9) + nI 9 = nI i.val := by decide +kernel
  exact this ⟨i, h⟩
theorem ha_d {i : Nat} (h : i < 19) : (if -9 < (if nI 9 < nI i - nI 9 - nI 2 then nI 9 else nI i - nI 9 - nI 2) then (if nI 9 < nI i - nI 9 - nI 2 then nI 9 else nI i - nI 9 - nI 2) else -9) + nI 9 = nI (i - 2) := by
  have : ∀ i : Fin 19, (if -9 < (if nI 9 < nI i.val - nI 9 - nI 2 then nI 9 else nI i.val - nI 9 - nI 2) then (if nI 9 < nI i.val - nI 9 - nI 2 then nI 9 else nI i.val - nI 9 - nI 2) else -9) + nI 9 = nI (i.val - 2) := by decide +kernel
  exact this ⟨i, h⟩
theorem ha_u {i : Nat} (h : i < 19) : (if -9 < (if nI 9 < nI i - nI 9 + nI 2 then nI 9 else nI i - nI 9 + nI 2) then (if nI 9 < nI i - nI 9 + nI 2 then nI 9 else nI i - nI 9 + nI 2) else -9) + nI 9 = nI (min (i + 2) 18) := by
  have : ∀ i : Fin 19, (if -9 < (if nI 9 < nI i.val - nI 9 + nI 2 then nI 9 else nI i.val - nI 9 + nI 2) then (if nI 9 < nI i.val - nI 9 + nI 2 then nI 9 else nI i.val - nI 9 + nI 2) else -9) + nI 9 = nI (min (i.val + 2) 18) := by decide +kernel
  exact this ⟨i, h⟩
theorem mdn {i : Nat} (h : i < 19) : (if -9 < nI i - nI 9 - nI 2 then nI i - nI 9 - nI 2 else -9) = nI (i - 2) - nI 9 := by
  have : ∀ i : Fin 19, (if -9 < nI i.val - nI 9 - nI 2 then nI i.val - nI 9 - nI 2 else -9) = nI (i.val - 2) - nI 9 := by decide +kernel
  exact this ⟨i, h⟩
theorem mup9 {i : Nat} (h : i < 19) : (if nI i - nI 9 + nI 2 < nI 9 then nI i - nI 9 + nI 2 else nI 9) = nI (min (i + 2) 18) - nI 9 := by
  have : ∀ i : Fin 19, (if nI i.val - nI 9 + nI 2 < nI 9 then nI i.val - nI 9 + nI 2 else nI 9) = nI (min (i.val + 2) 18) - nI 9 := by decide +kernel
  exact this ⟨i, h⟩
theorem ev2 {k : Nat} (h : k < 1000) : nI k - nI k / nI 2 * nI 2 = nI 0 ↔ k % 2 = 0 := by
  rw [pk_rem (by omega) (by decide) (by decide), nI_eq (by omega) (by decide)]
section T62
variable {n : Nat} {La : mLaw} {f : Nat → Int32} {MI : mI} {ML : mJ}
theorem s_at0 {D i : Nat} (h : i < 19) : mrc (D + 1) 131 [.ref 15, .int (nI i - nI 9)] MI ML (some (.int (MI 23 i))) MI ML := mrc_of (EX9_hungerAt (BX9_hungerAt_0 ⟨i, ha_0 h, h, eRr⟩))
theorem s_atd {D i : Nat} (h : i < 19) : mrc (D + 1) 131 [.ref 15, .int (nI i - nI 9 - nI 2)] MI ML (some (.int (MI 23 (i - 2)))) MI ML := mrc_of (EX9_hungerAt (BX9_hungerAt_0 ⟨i - 2, ha_d h, by omega, eRr⟩))
theorem s_atu {D i : Nat} (h : i < 19) : mrc (D + 1) 131 [.ref 15, .int (nI i - nI 9 + nI 2)] MI ML (some (.int (MI 23 (min (i + 2) 18)))) MI ML := mrc_of (EX9_hungerAt (BX9_hungerAt_0 ⟨min (i + 2) 18, ha_u h, by omega, eRr⟩))
theorem s_playWrong {D : Nat} {H : Nat → Int32} (hH : ∀ i, i < 19 → MI 23 i = H i) : ∃ M, mrc (D + 2) 129 [.ref 15] MI ML none M ML ∧ (∀ q, q ≠ 23 → M q = MI q) ∧ ∀ i, i < 19 → M 23 i = mn (H i) (H (i - 2)) := by
  suffices h : VX9_playWrong_0 (D + 1) (fun v M L' => v = none ∧ L' = ML ∧ (∀ q, q ≠ 23 → M q = MI q) ∧ ∀ i, i < 19 → M 23 i = mn (H i) (H (i - 2))) MI ML by
    obtain ⟨v, M, L', ⟨rfl, rfl, hr⟩, h⟩ := EX9_playWrong h
    exact ⟨M, h, hr⟩
  refine BX9_playWrong_0 ?_
  have hdn := dn (P := fun j => j ≤ 19 → ∀ M : mI, (∀ q, q ≠ 23 → M q = MI q) → (∀ i, i < j → M 23 i = H i) → (∀ i, j ≤ i → i < 19 → M 23 i = mn (H i) (H (i - 2))) → VX9_playWrong_3 (D + 1) (fun v M L' => v = none ∧ L' = ML ∧ (∀ q, q ≠ 23 → M q = MI q) ∧ ∀ i, i < 19 → M 23 i = mn (H i) (H (i - 2))) (tp j) M ML) 19 ?_ ?_
  · exact hdn (Nat.le_refl _) MI (fun _ _ => rfl) hH (fun i h1 h2 => by omega)
  · intro _ M hF h1 h2
    exact BX9_playWrong_3 (cT (by decide) ⟨rfl, rfl, hF, fun i hi => h2 i (Nat.zero_le _) hi⟩)
  · intro j hj ih hj9 M hF h1 h2
    refine BX9_playWrong_3 (cF (nI_nlt (Nat.zero_le _) (by omega)) ⟨j, rfl, hj, usei (s_atd hj) ⟨j, rfl, hj, ?_⟩⟩)
    rw [tp_dn, h1 j (by omega), h1 (j - 2) (by omega)]
    refine ih (by omega) _ (fun q hq => (mup_n hq).trans (hF q hq)) (fun i hi => ?_) (fun i i1 i2 => ?_)
    · rw [mup_s, mput_n (by omega)]
      exact h1 i (by omega)
    · rw [mup_s]
      by_cases q : i = j
      · subst q
        rw [mput_s]
      · rw [mput_n q]
        exact h2 i (by omega) i2
theorem s_playForgive {D : Nat} {H : Nat → Int32} (hH : ∀ i, i < 19 → MI 23 i = H i) : ∃ M, mrc (D + 2) 130 [.ref 15] MI ML none M ML ∧ (∀ q, q ≠ 23 → M q = MI q) ∧ ∀ i, i < 19 → M 23 i = mx (H i) (H (min (i + 2) 18)) := by
  suffices h : VX9_playForgive_0 (D + 1) (fun v M L' => v = none ∧ L' = ML ∧ (∀ q, q ≠ 23 → M q = MI q) ∧ ∀ i, i < 19 → M 23 i = mx (H i) (H (min (i + 2) 18))) MI ML by
    obtain ⟨v, M, L', ⟨rfl, rfl, hr⟩, h⟩ := EX9_playForgive h
    exact ⟨M, h, hr⟩
  refine BX9_playForgive_0 ?_
  refine up (P := fun j => ∀ M : mI, (∀ q, q ≠ 23 → M q = MI q) → (∀ i, j ≤ i → i < 19 → M 23 i = H i) → (∀ i, i < j → M 23 i = mx (H i) (H (min (i + 2) 18)) ∨ 19 ≤ i) → VX9_playForgive_2 (D + 1) _ (nI j) M ML) 19 (Nat.zero_le _) ?_ ?_ MI (fun _ _ => rfl) (fun i _ h2 => hH i h2) (fun i hi => absurd hi (Nat.not_lt_zero _))
  · intro M hF h1 h2
    exact BX9_playForgive_2 (cT (nI_le (Nat.le_refl _) (by omega)) ⟨rfl, rfl, hF, fun i hi => (h2 i hi).resolve_right (by omega)⟩)
  · intro j _ hj ih M hF h1 h2
    refine BX9_playForgive_2 (cF (nI_ge hj (by omega)) ⟨j, rfl, hj, usei (s_atu hj) ⟨j, rfl, hj, ?_⟩⟩)
    rw [nI_add, h1 j (by omega) hj, h1 (min (j + 2) 18) (by omega) (by omega)]
    refine ih _ (fun q hq => (mup_n hq).trans (hF q hq)) (fun i i1 i2 => ?_) (fun i hi => ?_)
    · rw [mup_s, mput_n (by omega)]
      exact h1 i (by omega) i2
    · rw [mup_s]
      by_cases q : i = j
      · subst q
        rw [mput_s]
        exact Or.inl rfl
      · rw [mput_n q]
        exact h2 i (by omega)
theorem c_turns {a b N : Nat} {felt : Nat} (ht : ∀ (D : Nat) (M : mI), FA M MI → Z84 (M 17) → ∃ M', mrc (D + 3) 122 [.ref 15] M ML none M' ML ∧ WC n La (MI 2) M' ∧ FA M' M ∧ ∀ q, q ≠ 16 → q ≠ 17 → M' q = M q) (hz : Z84 (MI 17)) (h8 : n ≤ 8) (ha : a < n) (hb : b < n) (hne : b ≠ a) (hN0 : 0 < N) (hN : N ≤ 5) (hfe : felt < 19) (hft : MI 2 (20 + b * 8 + a) = nI felt - nI 9) : ∃ M, mrc 299 128 [.ref 15, .int (nI a), .int (nI b), .int (nI N)] MI ML none M ML ∧ FA M MI ∧ Z84 (M 17) ∧ M 15 3 = mn (tT La n (MI 2) a b N (N - 1) (felt - 2)) (tT La n (MI 2) a b N (N - 1) felt) ∧ M 15 4 = if tT La n (MI 2) a b N (N - 1) felt ≤ tT La n (MI 2) a b N (N - 1) (felt - 2) then nI 0 else nI 1 := by
  suffices h : VX9_playTurns_0 298 (fun v M L' => v = none ∧ L' = ML ∧ FA M MI ∧ Z84 (M 17) ∧ M 15 3 = mn (tT La n (MI 2) a b N (N - 1) (felt - 2)) (tT La n (MI 2) a b N (N - 1) felt) ∧ M 15 4 = if tT La n (MI 2) a b N (N - 1) felt ≤ tT La n (MI 2) a b N (N - 1) (felt - 2) then nI 0 else nI 1) (nI a) (nI b) (nI N) MI ML by
    obtain ⟨v, M, L', ⟨rfl, rfl, hr⟩, h⟩ := EX9_playTurns h
    exact ⟨M, h, hr⟩
  have F23 : ∀ {M N : mI}, (∀ q, q ≠ 23 → M q = N q) → FA N MI → FA M MI := fun h h2 q a b c => (h q (by omega)).trans (h2 q a b c)
  refine BX9_playTurns_0 ?_
  refine up (P := fun i => ∀ M : mI, FA M MI → Z84 (M 17) → (∀ j, j < i → M 23 j = tT La n (MI 2) a b N 0 j) → VX9_playTurns_3 298 _ (nI a) (nI b) (nI N) (nI i) M ML) 19 (Nat.zero_le _) ?_ ?_ MI FA.rf hz (fun j hj => absurd hj (Nat.not_lt_zero _))
  · intro M hF hz' hH
    refine BX9_playTurns_3 (cT (nI_le (Nat.le_refl _) (by omega)) ?_)
    rw [pk_sub (by omega)]
    suffices hs : ∀ (m t : Nat), m + t = N - 1 → ∀ M : mI, FA M MI → Z84 (M 17) → (∀ j, j < 19 → M 23 j = tT La n (MI 2) a b N t j) → VX9_playTurns_60 298 (fun v M L' => v = none ∧ L' = ML ∧ FA M MI ∧ Z84 (M 17) ∧ M 15 3 = mn (tT La n (MI 2) a b N (N - 1) (felt - 2)) (tT La n (MI 2) a b N (N - 1) felt) ∧ M 15 4 = if tT La n (MI 2) a b N (N - 1) felt ≤ tT La n (MI 2) a b N (N - 1) (felt - 2) then nI 0 else nI 1) (nI a) (nI b) (nI m) M ML from hs (N - 1) 0 rfl M hF hz' hH
    intro m
    induction m with
    | zero =>
      intro t hm M hF hz' hH
      have ht' : t = N - 1 := by omega
      subst ht'
      refine BX9_playTurns_60 (cT (nI_le (Nat.le_refl _) (by omega)) (usei (s_felt bz1 (by omega) (by omega)) ?_))
      rw [hF 2 (by decide) (by decide) (by decide), hft]
      refine usei (s_at0 hfe) (usei (s_atd hfe) ?_)
      rw [hH felt hfe, hH (felt - 2) (by omega)]
      refine br (fun q => ⟨rfl, rfl, fun q' a b c => ?_, ?_, ?_, ?_⟩) (fun q => ⟨rfl, rfl, fun q' a b c => ?_, ?_, ?_, ?_⟩)
      · simp only [mup_n (show q' ≠ 15 by omega)]
        exact hF q' a b c
      · simp (disch := omega) only [mup_n, mup_s, mput_n, mput_s, mup_mup]
        exact hz'
      · simp (disch := omega) only [mup_n, mup_s, mput_n, mput_s, mup_mup]
      · simp (disch := omega) only [mup_n, mup_s, mput_n, mput_s, mup_mup]
        rw [if_pos q]
      · simp only [mup_n (show q' ≠ 15 by omega)]
        exact hF q' a b c
      · simp (disch := omega) only [mup_n, mup_s, mput_n, mput_s, mup_mup]
        exact hz'
      · simp (disch := omega) only [mup_n, mup_s, mput_n, mput_s, mup_mup]
      · simp (disch := omega) only [mup_n, mup_s, mput_n, mput_s, mup_mup]
        rw [if_neg q]
    | succ m ih =>
      intro t hm M hF hz' hH
      refine BX9_playTurns_60 (cF (nI_ge (by omega) (by omega)) ?_)
      rw [ev2 (by omega), nI_up1]
      have et : N - (t + 1) = m + 1 := by omega
      refine br (fun q => ?_) (fun q => ?_)
      · obtain ⟨M2, m1, m2, m3⟩ := s_playWrong (D := 296) (ML := ML) (MI := M) hH
        refine usev m1 (ih (t + 1) (by omega) M2 (F23 m2 hF) (by rw [m2 17 (by decide)]; exact hz') (fun j hj => ?_))
        rw [m3 j hj]
        rw [tT_s, et, if_pos q]
      · obtain ⟨M2, m1, m2, m3⟩ := s_playForgive (D := 296) (ML := ML) (MI := M) hH
        refine usev m1 (ih (t + 1) (by omega) M2 (F23 m2 hF) (by rw [m2 17 (by decide)]; exact hz') (fun j hj => ?_))
        rw [m3 j hj]
        rw [tT_s, et, if_neg q]
  · intro i _ hi ih M hF hz' hH
    obtain ⟨M1, b1, b2, b3, b4⟩ := ht 295 M hF hz'
    have hF1 : FA (mup M1 17 (mput (M1 17) (20 + b * 8 + a) (nI i - nI 9))) MI := FA.u.tr (b3.tr hF)
    obtain ⟨M2, g1, g2, g3⟩ := c_goOn (D := 290) (ML := ML) (b2.put (p := 20 + b * 8 + a) (by omega) (fe_ok hi (by omega) (by omega) hne)) (d := 1) (by omega)
    have hF2 : FA M2 MI := g3.a.tr hF1
    have e23 : M2 23 = M 23 := by rw [g3.at (by decide) (by decide) (by decide), mup_n (by decide), b4 23 (by decide) (by decide)]
    refine BX9_playTurns_3 (cF (nI_ge hi (by omega)) (usev b1 (usev (s_setFelt bz16 (by omega) (by omega)) (usei g1 (usei (s_hungerOf bz16 (by omega)) ⟨i, rfl, hi, ?_⟩)))))
    rw [nI_add, g2.2.2.1]
    refine ih _ (fun q' a b c => (mup_n (by omega)).trans (hF2 q' a b c)) (by rw [mup_n (by decide)]; exact g2.z) (fun j hj => ?_)
    rw [mup_s]
    by_cases q : j = i
    · subst q
      rw [mput_s]
      rfl
    · rw [mput_n q, e23]
      exact hH j (by omega)
theorem m_played {a b N : Nat} {N0 : mI} (ht : ∀ (D : Nat) (M : mI), FB M N0 → Z84 (M 61) → ∃ M', mrc (D + 1) 211 [.ref 46] M ML none M' ML ∧ WM n La f M' ∧ FB M' M) (h8 : n ≤ 8) (ha : a < n) (hb : b < n) (hne : b ≠ a) (hN : N ≤ 5) : ∀ (r k i : Nat) (M : mI), k + r = N → i < 19 → FB M N0 → Z84 (M 61) → ∃ M', mrc (280 + 1 + r) 236 [.ref 46, .int (nI a), .int (nI b), .int (nI k), .int (nI N), .int (nI i - nI 9)] M ML (some (.int (tT La n f a b N r i))) M' ML ∧ FB M' N0 ∧ Z84 (M' 61)
  | 0, k, i, M, hk, hi, hF, hz => by
    obtain ⟨M1, b1, b2, b3⟩ := ht 279 M hF hz
    obtain ⟨M2, g1, g2, g3, g4, g5, g6⟩ := m_day (D := 273) (ML := ML) (b2.put (p := 20 + b * 8 + a) (by omega) (fe_ok hi (by omega) (by omega) hne))
    refine ⟨M2, ?_, g6.tr (FB.u.tr (b3.tr hF)), g2.z⟩
    refine mrc_of (EX11_playedFrom (BX11_playedFrom_0 (cT (by rw [show k = N by omega]) (usev b1 (usei t_felt ⟨20 + b * 8 + a, rfl, by omega, usev g1 ⟨a, rfl, by omega, ?_⟩⟩)))))
    rw [g2.2.2.1]
    exact eRr
  | r + 1, k, i, M, hk, hi, hF, hz => by
    obtain ⟨M1, c1, c2, c3⟩ := m_played ht h8 ha hb hne hN r (k + 1) i M (by omega) hi hF hz
    have et : N - (r + 1) = k := by omega
    by_cases hp : k % 2 = 0
    · obtain ⟨M2, d1, d2, d3⟩ := m_played ht h8 ha hb hne hN r (k + 1) (i - 2) M1 (by omega) (by omega) c2 c3
      refine ⟨M2, ?_, d2, d3⟩
      refine mrc_of (EX11_playedFrom (BX11_playedFrom_0 (cF (by rw [nI_eq (by omega) (by omega)]; omega) ?_)))
      rw [nI_add, ev2 (by omega), mdn hi]
      refine usei c1 (cT hp (BX11_playedFrom_83 (usei d1 ?_)))
      rw [ev2 (by omega)]
      refine cT hp (iR ?_ rfl)
      show _ = tT La n f a b N (r + 1) i
      rw [tT_s, et, if_pos hp]
    · obtain ⟨M2, d1, d2, d3⟩ := m_played ht h8 ha hb hne hN r (k + 1) (min (i + 2) 18) M1 (by omega) (by omega) c2 c3
      refine ⟨M2, ?_, d2, d3⟩
      refine mrc_of (EX11_playedFrom (BX11_playedFrom_0 (cF (by rw [nI_eq (by omega) (by omega)]; omega) ?_)))
      rw [nI_add, ev2 (by omega), mup9 hi]
      refine usei c1 (cF hp (BX11_playedFrom_83 (usei d1 ?_)))
      rw [ev2 (by omega)]
      refine cF hp (iR ?_ rfl)
      show _ = tT La n f a b N (r + 1) i
      rw [tT_s, et, if_neg hp]
theorem mn_c (x y : Int32) : mn x y = mn y x := by
  rw [fa_eq, mn_ti, mn_ti]
  omega
theorem mn_w (x y : Int32) : x = mn x y ↔ x ≤ y := by
  rw [fa_eq, mn_ti, fa_le]
  omega
theorem rng1 {x : Int32} {A B : Prop} (h : wiB (nI 0) (nI 1) x = true) (k : B) : (x < nI 0 → A) ∧ (¬ x < nI 0 → (x ≤ nI 1 → B) ∧ (¬ x ≤ nI 1 → A)) := by
  rcases wi01 h with rfl | rfl <;> exact cF (by decide) (cT (by decide) k)
theorem rng1F {x : Int32} {A B : Prop} (h : ¬ wiB (nI 0) (nI 1) x = true) (k : A) : (x < nI 0 → A) ∧ (¬ x < nI 0 → (x ≤ nI 1 → B) ∧ (¬ x ≤ nI 1 → A)) := by
  refine ⟨fun _ => k, fun q => ⟨fun q2 => absurd ?_ h, fun _ => k⟩⟩
  simp only [wiB, Bool.and_eq_true, Bool.not_eq_true', decide_eq_false_iff_not]
  exact ⟨q, fun w => (fa_of_lt w).2.1 q2⟩
theorem p_byTurns (x y w : Int32) : Sim 156 237 [.int x, .int y, .int w] := by
  intro MI ML hI
  obtain ⟨n, hIn⟩ := hI.1
  obtain ⟨La, hw, hC, hL⟩ := hI.2.2.2.1
  have h8 := hIn.1
  have hn := hIn.2.1
  have hm := hIn.2.2.1
  have hz := hIn.2.2.2.2.2.1
  have hf := hIn.2.2.2.2.1
  by_cases h1 : pairB n x = true
  · obtain ⟨a, b, ha, hb, hne, ea, eb⟩ := pairB_ix h8 h1
    by_cases h2 : wiB (nI 1) (nI 5) y = true
    · obtain ⟨N, hN0, hN, rfl⟩ : ∃ N, 0 < N ∧ N ≤ 5 ∧ y = nI N := by
        have q := wi_ti h2
        rw [nI_toInt (by omega), nI_toInt (by omega)] at q
        exact ⟨y.toInt.toNat, by omega, by omega, by rw [fa_eq, nI_toInt (by omega)]; omega⟩
      by_cases h3 : wiB (nI 0) (nI 1) w = true
      · obtain ⟨ft, hft, eft⟩ := fe_ix (hf.fe (i := b) (b := a) (by omega) (by omega)).1 (hf.fe (i := b) (b := a) (by omega) (by omega)).2
        have eT : tT La n (MI 2) a b N N ft = mn (tT La n (MI 2) a b N (N - 1) ft) (tT La n (MI 2) a b N (N - 1) (ft - 2)) := by
          obtain ⟨r, rfl⟩ : ∃ r, N = r + 1 := ⟨N - 1, by omega⟩
          show (if (r + 1 - (r + 1)) % 2 = 0 then _ else _) = _
          rw [if_pos (by omega)]
          rfl
        refine pair_T (v := (if w = nI 0 then mn (tT La n (MI 2) a b N (N - 1) ft) (tT La n (MI 2) a b N (N - 1) (ft - 2)) else if tT La n (MI 2) a b N (N - 1) ft ≤ tT La n (MI 2) a b N (N - 1) (ft - 2) then nI 0 else nI 1)) hI hIn hw hC hL (fun ht => ?_) (fun N0 n1 n2 n3 ht hz2 => ?_)
        · obtain ⟨M, g1, g2, g3, g4, g5⟩ := c_turns (N := N) (felt := ft) ht hz h8 ha hb (fun q => hne q.symm) hN0 hN hft eft
          refine ⟨M, mrc_of (EX10_byTurns (BX10_byTurns_0 (usei (s_hasPair bz1 hn) (bT h1 (rngT h2 (rng1 h3 ?_)))))), g2, g3⟩
          rw [eb, ea]
          refine usev g1 (br (fun q => iR ?_ rfl) (fun q => iR ?_ rfl))
          · rw [if_pos q, g4, mn_c]
          · rw [if_neg q, g5]
        · obtain ⟨M, g1, g2, g3⟩ := m_played (N := N) ht h8 ha hb (fun q => hne q.symm) hN N 0 ft N0 (by omega) hft FB.rf hz2
          obtain ⟨M', k1, k2, k3⟩ := m_played (N := N) ht h8 ha hb (fun q => hne q.symm) hN (N - 1) 1 ft M (by omega) hft g2 g3
          have g1' := mrc_le g1 (show 280 + 1 + N ≤ 299 by omega)
          have k1' := mrc_le k1 (show 280 + 1 + (N - 1) ≤ 299 by omega)
          suffices hs : VX11_byTurns_0 299 (fun v M L' => v = some (.int (if w = nI 0 then mn (tT La n (MI 2) a b N (N - 1) ft) (tT La n (MI 2) a b N (N - 1) (ft - 2)) else if tT La n (MI 2) a b N (N - 1) ft ≤ tT La n (MI 2) a b N (N - 1) (ft - 2) then nI 0 else nI 1)) ∧ L' = ML ∧ FB M N0 ∧ Z84 (M 61)) x (nI N) w N0 ML by
            obtain ⟨v, M, L', ⟨rfl, rfl, hr'⟩, hh⟩ := EX11_byTurns hs
            exact ⟨M, hh, hr'⟩
          refine BX11_byTurns_0 (usei (t_isPair n1 h8) (bT h1 (usei (t_within (lo := nI 1) (hi := nI 5) rfl rfl) (bT h2 (usei (t_within (lo := nI 0) (hi := nI 1) rfl rfl) (bT h3 ?_))))))
          rw [eb, ea]
          refine usei t_felt ⟨20 + b * 8 + a, rfl, by omega, ?_⟩
          rw [n2, eft]
          refine usei g1' (br (fun q => ⟨?_, rfl, g2, g3⟩) (fun q => usei k1' (br (fun q2 => ⟨?_, rfl, k2, k3⟩) (fun q2 => ⟨?_, rfl, k2, k3⟩))))
          · rw [if_pos q, eT]
          · rw [eT] at q2
            rw [if_neg q, if_pos ((mn_w _ _).mp q2)]
          · rw [eT] at q2
            rw [if_neg q, if_neg (fun z => q2 ((mn_w _ _).mpr z))]
      · exact ⟨_, _, _, _, _, mrc_of (EX10_byTurns (BX10_byTurns_0 (usei (s_hasPair bz1 hn) (bT h1 (rngT h2 (rng1F h3 eRr)))))), mrc_of (EX11_byTurns (BX11_byTurns_0 (usei (t_isPair hm h8) (bT h1 (usei (t_within (lo := nI 1) (hi := nI 5) rfl rfl) (bT h2 (usei (t_within (lo := nI 0) (hi := nI 1) rfl rfl) (bF (bnf h3) eRr)))))))), hI⟩
    · exact ⟨_, _, _, _, _, mrc_of (EX10_byTurns (BX10_byTurns_0 (usei (s_hasPair bz1 hn) (bT h1 (rngF h2 eRr))))), mrc_of (EX11_byTurns (BX11_byTurns_0 (usei (t_isPair hm h8) (bT h1 (usei (t_within (lo := nI 1) (hi := nI 5) rfl rfl) (bF (bnf h2) eRr)))))), hI⟩
  · exact ⟨_, _, _, _, _, mrc_of (EX10_byTurns (BX10_byTurns_0 (usei (s_hasPair bz1 hn) (bF (bnf h1) eRr)))), mrc_of (EX11_byTurns (BX11_byTurns_0 (usei (t_isPair hm h8) (bF (bnf h1) eRr)))), hI⟩
end T62
