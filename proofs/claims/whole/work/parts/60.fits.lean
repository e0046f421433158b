/-! fits: pair -/
/-- of the numbers lo, lo + 1, .. at a place: which fit -/
def fiB (La : mLaw) (n : Nat) (f : Nat → Int32) (g : Nat → Int64) (z one p : Nat) (lo : Int32) (k : Nat) : Bool := decide (unl La n (mput f p (lo + nI k)) g z one = -2)
theorem cn_succ (p : Nat → Bool) (i : Nat) : cn p (i + 1) = cn p i + if p i then 1 else 0 := rfl
theorem lo_dn (lo : Int32) (i : Nat) : lo + nI (i + 1) + (-1) = lo + nI i := by
  rw [Int32.add_assoc, nI_up1]
theorem lo_ti {lo : Int32} (h1 : -9 ≤ lo.toInt) (h2 : lo.toInt ≤ 0) {i : Nat} (hi : i ≤ 1000) : (lo + nI i).toInt = lo.toInt + i := by
  rw [ti_add (by omega) (by omega) (by rw [nI_toInt (by omega)]; omega) (by rw [nI_toInt (by omega)]; omega), nI_toInt (by omega)]
section T60
variable {n : Nat} {MI : mI} {ML : mJ} {La : mLaw}
theorem c_try {d z one p N : Nat} {lo : Int32} (ht : ∀ (D : Nat) (M : mI), FA M MI → Z84 (M 17) → ∃ M', mrc (D + 3) 122 [.ref 15] M ML none M' ML ∧ WC n La (MI 2) M' ∧ FA M' M ∧ ∀ q, q ≠ 16 → q ≠ 17 → M' q = M q) (hz : Z84 (MI 17)) (ho : one < n) (hd : d < 6) (hz6 : z ≤ 60) (h12 : MI 12 d = nI z) (hp : p < 84) (hN0 : 0 < N) (hN : N ≤ 100) (h1 : -9 ≤ lo.toInt) (h2 : lo.toInt ≤ 0) (hok : ∀ k, k < N → okv p (lo + nI k)) : ∃ M, mrc 299 127 [.ref 15, .int (nI d), .int (nI one), .int (nI p), .int lo, .int (lo + nI (N - 1))] MI ML none M ML ∧ FA M MI ∧ Z84 (M 17) ∧ M 15 5 = nI (cn (fiB La n (MI 2) (fun q => ML 14 (d * 60 + q)) z one p lo) N) ∧ (fa_first (fiB La n (MI 2) (fun q => ML 14 (d * 60 + q)) z one p lo) N < N → M 15 6 = lo + nI (fa_first (fiB La n (MI 2) (fun q => ML 14 (d * 60 + q)) z one p lo) N)) := by
  generalize hB : fiB La n (MI 2) (fun q => ML 14 (d * 60 + q)) z one p lo = B
  suffices h : VX9_tryNumbers_0 298 (fun v M L' => v = none ∧ L' = ML ∧ FA M MI ∧ Z84 (M 17) ∧ M 15 5 = nI (cn B N) ∧ (fa_first B N < N → M 15 6 = lo + nI (fa_first B N))) (nI d) (nI one) (nI p) lo (lo + nI (N - 1)) MI ML by
    obtain ⟨v, M, L', ⟨rfl, rfl, hr⟩, h⟩ := EX9_tryNumbers h
    exact ⟨M, h, hr⟩
  refine BX9_tryNumbers_0 ?_
  simp (disch := omega) only [mup_n, mup_s, mput_n, mput_s, mup_mup]
  have hdn := dn (P := fun i => i ≤ N → ∀ (M : mI) (c : Nat), FA M MI → Z84 (M 17) → M 15 5 = nI c → c + cn B i = cn B N → (∀ k, i ≤ k → k < N → B k = true → (∀ t, i ≤ t → t < k → B t = false) → M 15 6 = lo + nI k) → VX9_tryNumbers_15 298 (fun v M L' => v = none ∧ L' = ML ∧ FA M MI ∧ Z84 (M 17) ∧ M 15 5 = nI (cn B N) ∧ (fa_first B N < N → M 15 6 = lo + nI (fa_first B N))) (nI d) (nI one) (nI p) lo (lo + nI i + (-1)) M ML) N ?_ ?_
  · have := hdn (Nat.le_refl N) (mup MI 15 (mput (mput (MI 15) 5 (nI 0)) 6 (lo + nI (N - 1)))) 0 (fun q _ _ c => mup_n (by omega)) (by rw [mup_n (by decide)]; exact hz) (by simp (disch := omega) only [mup_n, mup_s, mput_n, mput_s, mup_mup]) (by omega) (fun k k1 k2 => by omega)
    rwa [show lo + nI N + (-1) = lo + nI (N - 1) from by
      obtain ⟨m, rfl⟩ : ∃ m, N = m + 1 := ⟨N - 1, by omega⟩
      rw [lo_dn]; rfl] at this
  · intro _ M c hF hz' h5 hc h6
    refine BX9_tryNumbers_15 (cT ?_ ⟨rfl, rfl, hF, hz', ?_, fun h => ?_⟩)
    · rw [fa_lt, ti_add (by rw [lo_ti h1 h2 (by omega)]; omega) (by rw [lo_ti h1 h2 (by omega)]; omega) (by decide) (by decide), lo_ti h1 h2 (by omega), show (-1 : Int32).toInt = -1 by decide]
      omega
    · rw [h5, show c = cn B N from by
        have : cn B 0 = 0 := rfl
        omega]
    · exact h6 _ (Nat.zero_le _) h (fa_first_yes B N h) (fun t _ ht => fa_first_no B N t ht)
  · intro i hi ih hiN M c hF hz' h5 hc h6
    rw [lo_dn]
    refine BX9_tryNumbers_15 (cF ?_ ?_)
    · rw [fa_lt, lo_ti h1 h2 (by omega)]
      omega
    obtain ⟨M1, b1, b2, b3, b4⟩ := ht 295 M hF hz'
    have hF1 : FA (mup M1 17 (mput (M1 17) p (lo + nI i))) MI := FA.u.tr (b3.tr hF)
    obtain ⟨M2, f', g1, g2, g3⟩ := c_unlike (D := 290) (ML := ML) (b2.put hp (hok i hi)) ho hd hz6 (by rw [hF1 12 (by decide) (by decide) (by decide)]; exact h12)
    have hF2 : FA M2 MI := g3.a.tr hF1
    have e15 : M2 15 = M 15 := by rw [g3.at (by decide) (by decide) (by decide), mup_n (by decide), b4 15 (by decide) (by decide)]
    have eB : B i = decide (unl La n (mput (MI 2) p (lo + nI i)) (fun q => ML 14 (d * 60 + q)) z one = -2) := by rw [← hB]; rfl
    refine usev b1 (usev (s_setNumber bz16 hp) (usei g1 (br (fun q => ?_) (fun q => ?_))))
    · have hBt : B i = true := by rw [eB]; exact decide_eq_true q
      simp (disch := omega) only [mup_n, mup_s, mput_n, mput_s, mup_mup]
      rw [e15, h5, nI_add]
      refine ih (by omega) _ (c + 1) (fun q' a b c => ?_) (by simp (disch := omega) only [mup_n, mup_s, mput_n, mput_s, mup_mup]; exact g2.z) (by simp (disch := omega) only [mup_n, mup_s, mput_n, mput_s, mup_mup]) ?_ (fun k k1 k2 k3 k4 => ?_)
      · rw [mup_n (by omega)]
        exact hF2 q' a b c
      · rw [cn_succ, hBt, if_pos rfl] at hc
        omega
      · simp (disch := omega) only [mup_n, mup_s, mput_n, mput_s, mup_mup]
        have : k = i := by
          rcases Nat.lt_or_ge i k with w | w
          · rw [k4 i (Nat.le_refl _) w] at hBt
            cases hBt
          · omega
        rw [this]
    · have hBf : B i = false := by rw [eB]; exact decide_eq_false q
      refine ih (by omega) M2 c hF2 g2.z (by rw [e15]; exact h5) ?_ (fun k k1 k2 k3 k4 => ?_)
      · rw [cn_succ, hBf, if_neg (by decide)] at hc
        omega
      · rw [e15]
        have hk : i + 1 ≤ k := by
          rcases Nat.lt_or_ge i k with w | w
          · exact w
          · have : k = i := by omega
            rw [this, hBf] at k3
            cases k3
        exact h6 k hk k2 k3 (fun t t1 t2 => k4 t (by omega) t2)
theorem first_succ (p : Nat → Bool) (j : Nat) : fa_first p (j + 1) = if fa_first p j < j then fa_first p j else if p j then j else j + 1 := rfl
theorem m_fits {N0 : mI} {f : Nat → Int32} {d z one p N i : Nat} {what lo ab : Int32} (ht : ∀ (D : Nat) (M : mI), FB M N0 → Z84 (M 61) → ∃ M', mrc (D + 1) 211 [.ref 46] M ML none M' ML ∧ WM n La f M' ∧ FB M' M) (hz : Z84 (N0 61)) (ho : one < n) (hd : d < 6) (hz6 : z ≤ 60) (h77 : N0 77 d = nI z) (hp : p < 84) (hN : N ≤ 100) (h1 : -9 ≤ lo.toInt) (h2 : lo.toInt ≤ 0) (hok : ∀ k, k < N → okv p (lo + nI k)) (hN0 : 0 < N) (hpl : (what = nI 2 ∧ p = one) ∨ (¬ what = nI 2 ∧ ab / nI 10 = nI i ∧ p = 20 + i * 8 + one)) : VX11_fits_87 299 (fun v M L' => v = some (.int (if what = nI 1 then (if fa_first (fiB La n f (fun q => ML 78 (d * 60 + q)) z one p lo) N < N then lo + nI (fa_first (fiB La n f (fun q => ML 78 (d * 60 + q)) z one p lo) N) + nI 100 else -2) else nI (cn (fiB La n f (fun q => ML 78 (d * 60 + q)) z one p lo) N))) ∧ L' = ML ∧ FB M N0 ∧ Z84 (M 61)) (nI d) ab what (nI one) (nI 0) (-2) (lo + nI (N - 1)) lo N0 ML := by
  generalize hB : fiB La n f (fun q => ML 78 (d * 60 + q)) z one p lo = B
  have hup := up (P := fun j => ∀ M : mI, FB M N0 → Z84 (M 61) → VX11_fits_87 299 (fun v M L' => v = some (.int (if what = nI 1 then (if fa_first B N < N then lo + nI (fa_first B N) + nI 100 else -2) else nI (cn B N))) ∧ L' = ML ∧ FB M N0 ∧ Z84 (M 61)) (nI d) ab what (nI one) (nI (cn B j)) (if fa_first B j < j then lo + nI (fa_first B j) + nI 100 else -2) (lo + nI (N - 1)) (lo + nI j) M ML) (i0 := 0) N (Nat.zero_le _) ?_ ?_
  · have := hup N0 FB.rf hz
    rwa [show lo + nI 0 = lo from Int32.add_zero lo] at this
  · intro M hF hz'
    refine BX11_fits_87 (cT ?_ (br (fun q => ⟨?_, rfl, hF, hz'⟩) (fun q => ⟨?_, rfl, hF, hz'⟩)))
    · rw [fa_lt, lo_ti h1 h2 (by omega), lo_ti h1 h2 (by omega)]
      omega
    · rw [if_pos q]
    · rw [if_neg q]
  · intro j _ hj ih M hF hz'
    obtain ⟨M1, b1, b2, b3⟩ := ht 298 M hF hz'
    have hF1 : FB (mup M1 61 (mput (M1 61) p (lo + nI j))) N0 := FB.u.tr (b3.tr hF)
    obtain ⟨M2, f', g1, g2, g3⟩ := m_wrongDay (D := 291) (ML := ML) (b2.put hp (hok j hj)) ho hd hz6 (by rw [hF1.1 77 (by decide) (by decide)]; exact h77)
    have hF2 : FB M2 N0 := g3.tr hF1
    have eB : B j = decide (unl La n (mput f p (lo + nI j)) (fun q => ML 78 (d * 60 + q)) z one = -2) := by rw [← hB]; rfl
    have hfl := fa_first_le B j
    have key : VX11_fits_121 299 (fun v M L' => v = some (.int (if what = nI 1 then (if fa_first B N < N then lo + nI (fa_first B N) + nI 100 else -2) else nI (cn B N))) ∧ L' = ML ∧ FB M N0 ∧ Z84 (M 61)) (nI d) ab what (nI one) (nI (cn B j)) (if fa_first B j < j then lo + nI (fa_first B j) + nI 100 else -2) (lo + nI (N - 1)) (lo + nI j) (nI p) M1 ML := by
      refine BX11_fits_121 ⟨p, rfl, hp, usei g1 (br (fun q => ?_) (fun q => ?_))⟩
      · have hBt : B j = true := by rw [eB]; exact decide_eq_true q
        have ih := ih M2 hF2 g2.z
        rw [first_succ, show cn B (j + 1) = cn B j + 1 from by rw [cn_succ, hBt]; rfl] at ih
        rw [nI_add, Int32.add_assoc lo (nI j) (nI 1), nI_add]
        by_cases hl : fa_first B j < j
        · rw [if_pos hl]
          rw [if_pos hl, if_pos (show fa_first B j < j + 1 by omega)] at ih
          refine cF ?_ ih
          rw [fa_eq, ti_add (by rw [lo_ti h1 h2 (by omega)]; omega) (by rw [lo_ti h1 h2 (by omega)]; omega) (by decide) (by decide), lo_ti h1 h2 (by omega), show (-2 : Int32).toInt = -2 by decide, show (nI 100).toInt = 100 by decide]
          omega
        · rw [if_neg hl]
          rw [if_neg hl, if_pos hBt, if_pos (show j < j + 1 by omega)] at ih
          exact cT rfl ih
      · have hBf : B j = false := by rw [eB]; exact decide_eq_false q
        have ih := ih M2 hF2 g2.z
        rw [first_succ, show cn B (j + 1) = cn B j from by rw [cn_succ, hBf]; rfl] at ih
        rw [Int32.add_assoc lo (nI j) (nI 1), nI_add]
        by_cases hl : fa_first B j < j
        · rw [if_pos hl]
          rw [if_pos hl, if_pos (show fa_first B j < j + 1 by omega)] at ih
          exact ih
        · rw [if_neg hl]
          rw [if_neg hl, if_neg (show ¬ B j = true by rw [hBf]; decide), if_neg (show ¬ j + 1 < j + 1 by omega)] at ih
          exact ih
    refine BX11_fits_87 (cF ?_ (usev b1 ?_))
    · rw [fa_lt, lo_ti h1 h2 (by omega), lo_ti h1 h2 (by omega)]
      omega
    · rcases hpl with ⟨w1, w2⟩ | ⟨w1, w2, w3⟩
      · rw [w2] at key
        exact cT w1 key
      · rw [w2]
        refine cF w1 (usei t_felt ?_)
        rw [w3] at key
        exact key
theorem wi02 {w : Int32} (h : wiB (nI 0) (nI 2) w = true) : w = nI 0 ∨ w = nI 1 ∨ w = nI 2 := by
  obtain ⟨d, hd, rfl⟩ := wi_ix (by omega) h
  rcases (show d = 0 ∨ d = 1 ∨ d = 2 by omega) with rfl | rfl | rfl
  · exact Or.inl rfl
  · exact Or.inr (Or.inl rfl)
  · exact Or.inr (Or.inr rfl)
theorem fiB_cong {f : Nat → Int32} {g g' : Nat → Int64} {z one p : Nat} {lo : Int32} (h : ∀ q, q < z → g q = g' q) : fiB La n f g z one p lo = fiB La n f g' z one p lo := by
  funext k
  unfold fiB
  rw [unl_cong h]
theorem rng2 {x : Int32} {A B : Prop} (h : wiB (nI 0) (nI 2) x = true) (k : B) : (x < nI 0 → A) ∧ (¬ x < nI 0 → (x ≤ nI 2 → B) ∧ (¬ x ≤ nI 2 → A)) := by
  rcases wi02 h with rfl | rfl | rfl <;> exact cF (by decide) (cT (by decide) k)
theorem rng2F {x : Int32} {A B : Prop} (h : ¬ wiB (nI 0) (nI 2) x = true) (k : A) : (x < nI 0 → A) ∧ (¬ x < nI 0 → (x ≤ nI 2 → B) ∧ (¬ x ≤ nI 2 → A)) := by
  refine ⟨fun _ => k, fun q => ⟨fun q2 => absurd ?_ h, fun _ => k⟩⟩
  simp only [wiB, Bool.and_eq_true, Bool.not_eq_true', decide_eq_false_iff_not]
  exact ⟨q, fun w => (fa_of_lt w).2.1 q2⟩
theorem cn_first {p : Nat → Bool} : ∀ {N : Nat}, cn p N = 0 ↔ ¬ fa_first p N < N
  | 0 => by simp [cn]
  | N + 1 => by
    have ih := cn_first (p := p) (N := N)
    have hl := fa_first_le p N
    rw [first_succ, cn_succ]
    by_cases h : fa_first p N < N
    · rw [if_pos h]
      have : ¬ cn p N = 0 := fun q => (ih.mp q) h
      omega
    · rw [if_neg h]
      have := ih.mpr h
      by_cases hp : p N = true
      · rw [if_pos hp, if_pos hp]; omega
      · rw [if_neg hp, if_neg hp]; omega
theorem p_fits (x y w : Int32) : Sim 155 235 [.int x, .int y, .int w] := by
  intro MI ML hI
  obtain ⟨n, hIn⟩ := hI.1
  obtain ⟨La, hw, hC, hL⟩ := hI.2.2.2.1
  obtain ⟨nb, hnb, hsd⟩ := hI.2.2.2.2.1
  have h8 := hIn.1
  have hn := hIn.2.1
  have hm := hIn.2.2.1
  have hz := hIn.2.2.2.2.2.1
  have wr : ∀ x : Int32, mrc 299 178 [.long x.toInt64, .long 0, .long 2] MI ML (some (.int (bI (wiB (nI 0) (nI 2) x)))) MI ML := fun x => t_within (lo := nI 0) (hi := nI 2) rfl rfl
  by_cases h0 : hasB 6 x = true
  · obtain ⟨d, hd, rfl⟩ := hasB_ix (n := 6) (by omega) h0
    by_cases h1 : pairB n y = true
    · obtain ⟨i, one, hi, ho, hne, ei, ej⟩ := pairB_ix h8 h1
      by_cases h2 : wiB (nI 0) (nI 2) w = true
      · rcases refBy_c (MI 11 d) with hr | hr
        · obtain ⟨z, hz60, k12, k77, kel⟩ := by_row (hsd d hd) hr
          have hsN : ∀ N : mI, FA N MI → Isd nb d N ML := fun N n3 => Isd_o (e := 0) (hsd d hd) (by rw [n3 11 (by decide) (by decide) (by decide)]) (by rw [n3 12 (by decide) (by decide) (by decide)]) (by rw [n3 13 (by decide) (by decide) (by decide)]) (by rw [n3 76 (by decide) (by decide) (by decide)]) (by rw [n3 77 (by decide) (by decide) (by decide)]) (fun i _ => ⟨rfl, rfl⟩)
          have hlN : ∀ N : mI, FA N MI → mrc 299 232 [.ref 46, .int (nI d)] N ML (some (.int (refBy (MI 11 d)))) N ML := fun N n3 => by
            have hl := t_lookAt (D := 296) (nb := nb) (MI := N) (ML := ML) hd (hsN N n3) hnb.1
            rwa [n3 11 (by decide) (by decide) (by decide)] at hl
          by_cases h3 : w = nI 2
          · subst h3
            have hok : ∀ k, k < 100 → okv one (nI 0 + nI k) := fun k hk => (okv_hu (by omega)).mpr (by rw [nI_add, nI_toInt (by omega)]; omega)
            refine pair_T (v := (nI (cn (fiB La n (MI 2) (fun q => ML 14 (d * 60 + q)) z one one (nI 0)) 100))) hI hIn hw hC hL (fun ht => ?_) (fun N n1 n2 n3 ht hz2 => ?_)
            · obtain ⟨M, g1, g2, g3, g4, g5⟩ := c_try (N := 100) (lo := nI 0) ht hz ho hd hz60 k12 (p := one) (by omega) (by omega) (Nat.le_refl _) (by decide) (by decide) hok
              refine ⟨M, mrc_of (EX10_fits (BX10_fits_0 (usei s_shas (bT h0 (usei (s_hasPair bz1 hn) (bT h1 (rng2 h2 (usei (s_refusalOfBytes hd) (cT hr (cT rfl ?_)))))))))), g2, g3⟩
              rw [ej, nI_add, Nat.zero_add]
              exact usev g1 (iR (by rw [g4]) rfl)
            · have hmf := m_fits (N := 100) (lo := nI 0) (what := nI 2) (ab := y) (i := i) (ML := ML) ht hz2 ho hd hz60 (by rw [n3 77 (by decide) (by decide) (by decide)]; exact k77) (p := one) (by omega) (Nat.le_refl _) (by decide) (by decide) hok (by omega) (Or.inl ⟨rfl, rfl⟩)
              rw [fiB_cong kel, if_neg (by decide)] at hmf
              suffices hs : VX11_fits_0 299 (fun v M L' => v = some (.int (nI (cn (fiB La n (MI 2) (fun q => ML 14 (d * 60 + q)) z one one (nI 0)) 100))) ∧ L' = ML ∧ FB M N ∧ Z84 (M 61)) (nI d) y (nI 2) N ML by
                obtain ⟨v, M, L', ⟨rfl, rfl, hr'⟩, hh⟩ := EX11_fits hs
                exact ⟨M, hh, hr'⟩
              refine BX11_fits_0 (usei t_isShelf (bT h0 (usei (t_isPair n1 h8) (bT h1 (usei (t_within (lo := nI 0) (hi := nI 2) rfl rfl) (bT h2 (usei (hlN N n3) (cT (by rw [hr]; decide) (cT rfl (BX11_fits_67 (cT rfl ?_)))))))))))
              rw [ej]
              exact hmf
          · have hok : ∀ k, k < 19 → okv (20 + i * 8 + one) (-9 + nI k) := fun k hk => (okv_ft (by omega) (by omega) hne).mpr (by rw [lo_ti (by decide) (by decide) (by omega), m9]; omega)
            refine pair_T (v := (if w = nI 1 then (if fa_first (fiB La n (MI 2) (fun q => ML 14 (d * 60 + q)) z one (20 + i * 8 + one) (-9)) 19 < 19 then -9 + nI (fa_first (fiB La n (MI 2) (fun q => ML 14 (d * 60 + q)) z one (20 + i * 8 + one) (-9)) 19) + nI 100 else -2) else nI (cn (fiB La n (MI 2) (fun q => ML 14 (d * 60 + q)) z one (20 + i * 8 + one) (-9)) 19))) hI hIn hw hC hL (fun ht => ?_) (fun N n1 n2 n3 ht hz2 => ?_)
            · obtain ⟨M, g1, g2, g3, g4, g5⟩ := c_try (N := 19) (lo := -9) ht hz ho hd hz60 k12 (p := 20 + i * 8 + one) (by omega) (by omega) (by omega) (by decide) (by decide) hok
              refine ⟨M, mrc_of (EX10_fits (BX10_fits_0 (usei s_shas (bT h0 (usei (s_hasPair bz1 hn) (bT h1 (rng2 h2 (usei (s_refusalOfBytes hd) (cT hr (cF h3 ?_)))))))))), g2, g3⟩
              rw [ej, ei]
              refine usei s_placeOfFeeling (usev g1 ?_)
              have hc0 := cn_first (p := fiB La n (MI 2) (fun q => ML 14 (d * 60 + q)) z one (20 + i * 8 + one) (-9)) (N := 19)
              have hcl := cn_le (fiB La n (MI 2) (fun q => ML 14 (d * 60 + q)) z one (20 + i * 8 + one) (-9)) 19
              rw [g4, nI_eq (by omega) (by omega)]
              have hw01 := wi02 h2
              refine br (fun q => iR ?_ rfl) (fun q => br (fun q2 => iR ?_ rfl) (fun q2 => iR ?_ rfl))
              · rw [q, if_neg (by decide)]
              · rw [if_pos ((hw01.resolve_left q).resolve_right h3), if_neg (hc0.mp q2)]
              · have hlt : fa_first (fiB La n (MI 2) (fun q => ML 14 (d * 60 + q)) z one (20 + i * 8 + one) (-9)) 19 < 19 := Classical.not_not.mp (fun w => q2 (hc0.mpr w))
                rw [if_pos ((hw01.resolve_left q).resolve_right h3), if_pos hlt, g5 hlt]
            · have hmf := m_fits (N := 19) (lo := -9) (what := w) (ab := y) (i := i) (ML := ML) ht hz2 ho hd hz60 (by rw [n3 77 (by decide) (by decide) (by decide)]; exact k77) (p := 20 + i * 8 + one) (by omega) (by omega) (by decide) (by decide) hok (by omega) (Or.inr ⟨h3, ei, rfl⟩)
              rw [fiB_cong kel] at hmf
              suffices hs : VX11_fits_0 299 (fun v M L' => v = some (.int (if w = nI 1 then (if fa_first (fiB La n (MI 2) (fun q => ML 14 (d * 60 + q)) z one (20 + i * 8 + one) (-9)) 19 < 19 then -9 + nI (fa_first (fiB La n (MI 2) (fun q => ML 14 (d * 60 + q)) z one (20 + i * 8 + one) (-9)) 19) + nI 100 else -2) else nI (cn (fiB La n (MI 2) (fun q => ML 14 (d * 60 + q)) z one (20 + i * 8 + one) (-9)) 19))) ∧ L' = ML ∧ FB M N ∧ Z84 (M 61)) (nI d) y w N ML by
                obtain ⟨v, M, L', ⟨rfl, rfl, hr'⟩, hh⟩ := EX11_fits hs
                exact ⟨M, hh, hr'⟩
              refine BX11_fits_0 (usei t_isShelf (bT h0 (usei (t_isPair n1 h8) (bT h1 (usei (t_within (lo := nI 0) (hi := nI 2) rfl rfl) (bT h2 (usei (hlN N n3) (cT (by rw [hr]; decide) (cF h3 (BX11_fits_67 (cF h3 ?_)))))))))))
              rw [ej]
              exact hmf
        · exact ⟨_, _, _, _, _, mrc_of (EX10_fits (BX10_fits_0 (usei s_shas (bT h0 (usei (s_hasPair bz1 hn) (bT h1 (rng2 h2 (usei (s_refusalOfBytes hd) (cF hr.1 eRr))))))))), mrc_of (EX11_fits (BX11_fits_0 (usei t_isShelf (bT h0 (usei (t_isPair hm h8) (bT h1 (usei (wr w) (bT h2 (usei (t_lookAt hd (hsd d hd) hnb.1) (cF hr.2 (usei (t_lookAt hd (hsd d hd) hnb.1) eRr))))))))))), hI⟩
      · exact ⟨_, _, _, _, _, mrc_of (EX10_fits (BX10_fits_0 (usei s_shas (bT h0 (usei (s_hasPair bz1 hn) (bT h1 (rng2F h2 eRr))))))), mrc_of (EX11_fits (BX11_fits_0 (usei t_isShelf (bT h0 (usei (t_isPair hm h8) (bT h1 (usei (wr w) (bF (bnf h2) eRr)))))))), hI⟩
    · exact ⟨_, _, _, _, _, mrc_of (EX10_fits (BX10_fits_0 (usei s_shas (bT h0 (usei (s_hasPair bz1 hn) (bF (bnf h1) eRr)))))), mrc_of (EX11_fits (BX11_fits_0 (usei t_isShelf (bT h0 (usei (t_isPair hm h8) (bF (bnf h1) eRr)))))), hI⟩
  · exact ⟨_, _, _, _, _, mrc_of (EX10_fits (BX10_fits_0 (usei s_shas (bF (bnf h0) eRr)))), mrc_of (EX11_fits (BX11_fits_0 (usei t_isShelf (bF (bnf h0) eRr)))), hI⟩
end T60
