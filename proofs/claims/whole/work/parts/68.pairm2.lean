/-! pairing: the model's search; paired, harm: pairs -/
def ngS (m : Nat) : Nat → Bool := fun i => !m.testBit i
theorem clr {m w : Nat} (hm : m < 256) (hw : w < 8) (h : m.testBit w = true) : nI m &&& ((nI 1 <<< (nI w &&& 31)) ^^^ (-1)) = nI (m ^^^ 2 ^ w) := by
  have : ∀ m : Fin 256, ∀ w : Fin 8, m.val.testBit w.val = true → nI m.val &&& ((nI 1 <<< (nI w.val &&& 31)) ^^^ (-1)) = nI (m.val ^^^ 2 ^ w.val) := by decide +kernel
  exact this ⟨m, hm⟩ ⟨w, hw⟩ h
theorem shl8 {b : Nat} (h : b < 8) : nI b <<< (nI 8 &&& 31) = nI (b * 256) := by
  have : ∀ b : Fin 8, nI b.val <<< (nI 8 &&& 31) = nI (b.val * 256) := by decide +kernel
  exact this ⟨b, h⟩
theorem ngS_x {m w : Nat} (h : m.testBit w = true) : ngS (m ^^^ 2 ^ w) = adS (ngS m) w := by
  funext i
  unfold ngS adS
  rw [Nat.testBit_xor, Nat.testBit_two_pow]
  by_cases q : i = w
  · subst q
    rw [h]
    simp
  · have : ¬ w = i := fun z => q z.symm
    simp [q, this]
theorem xor_lt {m w n : Nat} (hm : m < 2 ^ n) (hw : w < n) : m ^^^ 2 ^ w < 2 ^ n := Nat.xor_lt_two_pow hm (Nat.pow_lt_pow_right (by decide) hw)
def KnF (n : Nat) (pr : Nat → Nat → Nat) (al : Nat) (M : mI) : Prop := ∀ b, b < n → ∀ m, m < 2 ^ n → M 66 (b * 256 + m) = -1 ∨ M 66 (b * 256 + m) = nI (Lc pr al n (n - b) (ngS m))
section C68
variable {D n al : Nat} {hm : Bool} {f : Nat → Int32} {MI : mI} {ML : mJ}
theorem t_price {w b : Nat} (hn : MI 46 6 = nI n) (h8 : n ≤ 8) (hf : PB f) (h61 : MI 61 = f) (hw : w < n) (hb : b < n) : mrc (D + 3) 217 [.ref 46, .int (nI w), .int (nI b), .int (bI hm)] MI ML (some (.int (nI (prX f n hm w b)))) MI ML := by
  have hfo := frd_ok f b w n
  rw [prX_in hw hb]
  refine mrc_of (EX11_price (BX11_price_0 ?_))
  rw [nI_eq (by omega) (by omega)]
  refine br (fun h => iR ?_ rfl) (fun h => usei (t_friendOf (n := n) hn h8 (by omega) (by omega) (by rw [h61]; exact hf.dg (by omega))) ?_)
  · unfold prW
    rw [if_pos (Or.inl h)]
  · rw [h61, fI_no (by rcases hfo with q | q <;> omega)]
    refine br (fun h2 => iR ?_ rfl) (fun h2 => usei t_felt ⟨20 + w * 8 + b, rfl, by omega, ?_⟩)
    · unfold prW
      rw [if_pos (Or.inr h2)]
    · have hno : ¬ (w = b ∨ (frd f b w n).1 = 8) := fun q => q.elim h h2
      rw [h61, bI_0]
      refine br (fun h3 => br (fun h4 => iR ?_ rfl) (fun h4 => iR ?_ rfl)) (fun h3 => iR ?_ rfl)
      · unfold prW
        rw [if_neg hno, if_neg (fun z => (fa_of_lt z).2.1 h3), if_neg (by rw [h4]; decide)]
      · obtain ⟨g1, g2⟩ := fe_nat hf (w := w) (b := b) (by omega) (by omega) h3
        unfold prW
        rw [if_neg hno, if_neg (fun z => (fa_of_lt z).2.1 h3), if_pos (by simpa using h4)]
        rw [g1, nI_add, nI_toInt (by omega)]
        rfl
      · unfold prW
        rw [if_neg hno, if_pos (fa_of_nle h3)]
theorem minN {a b : Nat} (ha : a < 1000000000) (hb : b < 1000000000) : (if nI a < nI b then nI a else nI b) = nI (min a b) := by
  by_cases h : a < b
  · rw [if_pos (nI_lt h (by omega)), Nat.min_eq_left (by omega)]
  · rw [if_neg (nI_nlt (by omega) (by omega)), Nat.min_eq_right (by omega)]
theorem t_leastFrom (h8 : n ≤ 8) (hf : PB f) (hal : al ≤ 1000000) : ∀ (r : Nat), r ≤ n → ∀ (m : Nat) (M : mI), m < 2 ^ n → M 46 6 = nI n → M 61 = f → KnF n (prX f n hm) al M → ∃ M', mrc (200 + r) 218 [.ref 46, .int (nI (n - r)), .int (nI m), .int (nI al), .int (bI hm)] M ML (some (.int (nI (Lc (prX f n hm) al n r (ngS m))))) M' ML ∧ KnF n (prX f n hm) al M' ∧ ∀ q, q ≠ 66 → M' q = M q
  | 0, _, m, M, hmm, hn, h61, hK => ⟨M, mrc_of (EX11_leastFrom (BX11_leastFrom_0 (cT (by rw [hn]; rfl) eRr))), hK, fun _ _ => rfl⟩
  | r + 1, hr, m, M, hmm, hn, h61, hK => by
    have h256 := p2_8 h8
    have eb : n - (n - (r + 1)) = r + 1 := by omega
    have eb1 : n - (r + 1) + 1 = n - r := by omega
    have hbn : n - (r + 1) < n := by omega
    generalize hb : n - (r + 1) = b at *
    have eix : nI b <<< (nI 8 &&& 31) + nI m = nI (b * 256 + m) := by rw [shl8 (by omega), nI_add]
    suffices h : VX11_leastFrom_0 (200 + r) (fun v M' L' => v = some (.int (nI (Lc (prX f n hm) al n (r + 1) (ngS m)))) ∧ L' = ML ∧ KnF n (prX f n hm) al M' ∧ ∀ q, q ≠ 66 → M' q = M q) (nI b) (nI m) (nI al) (bI hm) M ML by
      obtain ⟨v, M', L', ⟨rfl, rfl, hr⟩, h⟩ := EX11_leastFrom h
      exact ⟨M', h, hr⟩
    refine BX11_leastFrom_0 (cF (by rw [hn, nI_eq (by omega) (by omega)]; omega) ⟨b * 256 + m, eix, by omega, br (fun h => ?_) (fun h => ⟨b * 256 + m, eix, by omega, ?_, rfl, hK, fun _ _ => rfl⟩)⟩)
    · obtain ⟨M1, c1, c2, c3⟩ := t_leastFrom h8 hf hal r (by omega) m M hmm hn h61 hK
      rw [nI_add, eb1]
      refine usei c1 ?_
      rw [nI_add]
      have hL := Lc_le (pr := prX f n hm) (al := al) (n := n) (r := r) (S := ngS m)
      generalize hc : (fun w => if ngS m w = false ∧ prX f n hm w (n - (r + 1)) < 1000000 then prX f n hm w (n - (r + 1)) + Lc (prX f n hm) al n r (adS (ngS m) w) else 1000000) = c
      have hcw : ∀ w, c w = if ngS m w = false ∧ prX f n hm w b < 1000000 then prX f n hm w b + Lc (prX f n hm) al n r (adS (ngS m) w) else 1000000 := fun w => by rw [← hc, hb]
      have hLdef : Lc (prX f n hm) al n (r + 1) (ngS m) = min 1000000 (mnc c n (al + Lc (prX f n hm) al n r (ngS m))) := by rw [← hc]; rfl
      refine up (P := fun w => ∀ (M' : mI) (X : Nat), X ≤ 2000000 → min 1000000 X = min 1000000 (mnc c w (al + Lc (prX f n hm) al n r (ngS m))) → KnF n (prX f n hm) al M' → (∀ q, q ≠ 66 → M' q = M q) → VX11_leastFrom_55 (200 + r) _ (nI b) (nI m) (nI al) (bI hm) (nI X) (nI w) M' ML) n (Nat.zero_le _) ?_ ?_ M1 _ (by omega) rfl c2 c3
      · intro M' X hX hmin hK' hF
        refine BX11_leastFrom_55 (cT (by rw [hF 46 (by decide), hn]; exact nI_le (Nat.le_refl _) (by omega)) ⟨b * 256 + m, eix, by omega, b * 256 + m, eix, by omega, ?_⟩)
        rw [minN (by omega) (by omega)]
        simp (disch := omega) only [mup_n, mup_s, mput_n, mput_s, mup_mup]
        rw [hmin, ← hLdef]
        refine ⟨by trivial, by trivial, fun b2 hb2 m2 hm2 => ?_, fun q hq => (mup_n hq).trans (hF q hq)⟩
        rw [mup_s]
        by_cases q : b2 * 256 + m2 = b * 256 + m
        · have q1 : b2 = b := by omega
          have q2 : m2 = m := by omega
          subst q1 q2
          rw [mput_s, eb]
          exact Or.inr rfl
        · rw [mput_n q]
          exact hK' b2 hb2 m2 hm2
      · intro w _ hw ih M' X hX hmin hK' hF
        have hpl := prX_le (hm := hm) hf h8 w b
        have hstep : mnc c (w + 1) (al + Lc (prX f n hm) al n r (ngS m)) = min (c w) (mnc c w (al + Lc (prX f n hm) al n r (ngS m))) := rfl
        have skip : c w = 1000000 → VX11_leastFrom_55 (200 + r) (fun v M' L' => v = some (.int (nI (Lc (prX f n hm) al n (r + 1) (ngS m)))) ∧ L' = ML ∧ KnF n (prX f n hm) al M' ∧ ∀ q, q ≠ 66 → M' q = M q) (nI b) (nI m) (nI al) (bI hm) (nI X) (nI (w + 1)) M' ML := fun hcf => ih M' X hX (by rw [hstep, hcf]; omega) hK' hF
        refine BX11_leastFrom_55 (cF (by rw [hF 46 (by decide), hn]; exact nI_ge hw (by omega)) (usei (mrc_le (t_price (D := 190) (n := n) (hm := hm) (by rw [hF 46 (by decide)]; exact hn) h8 hf (by rw [hF 61 (by decide)]; exact h61) hw hbn) (by omega)) ?_))
        rw [tst1 _ (by omega), bt_nI (by omega), nI_leI (by omega) (by omega), nI_add, nI_add]
        refine br (fun h1 => br (fun h2 => skip ?_) (fun h2 => ?_)) (fun h1 => skip ?_)
        · rw [hcw, if_neg (fun z => by omega)]
        · obtain ⟨M2, d1, d2, d3⟩ := t_leastFrom h8 hf hal r (by omega) (m ^^^ 2 ^ w) M' (xor_lt hmm hw) (by rw [hF 46 (by decide)]; exact hn) (by rw [hF 61 (by decide)]; exact h61) hK'
          rw [clr (by omega) (by omega) h1, eb1]
          refine usei d1 ?_
          have hL2 := Lc_le (pr := prX f n hm) (al := al) (n := n) (r := r) (S := ngS (m ^^^ 2 ^ w))
          rw [nI_add, minN (by omega) (by omega)]
          refine ih M2 _ (by omega) ?_ d2 (fun q hq => (d3 q hq).trans (hF q hq))
          rw [hstep, hcw, if_pos ⟨by unfold ngS; rw [h1]; rfl, by omega⟩, ngS_x h1]
          omega
        · rw [hcw, if_neg (fun z => by
            have z1 := z.1
            unfold ngS at z1
            rw [bnf h1] at z1
            cases z1)]
    · rcases hK b hbn m hmm with q | q
      · exact absurd q h
      · rw [q, eb]
theorem Lc_1 : ∀ (r : Nat) (S : Nat → Bool), Lc (prX f n hm) 1 n r S ≤ r
  | 0, _ => Nat.le_refl _
  | r + 1, S => by
    have ih := Lc_1 r S
    have := (mnc_le (c := fun w => if S w = false ∧ prX f n hm w (n - (r + 1)) < 1000000 then prX f n hm w (n - (r + 1)) + Lc (prX f n hm) 1 n r (adS S w) else 1000000) (a := 1 + Lc (prX f n hm) 1 n r S) (i := n)).1
    unfold Lc
    omega
theorem Lc_none {pr : Nat → Nat → Nat} {r : Nat} {S : Nat → Bool} (hL : Lc pr al n (r + 1) S < 1000000) (hno : ∀ w, w < n → (!S w && (decide (pr w (n - (r + 1)) < 1000000) && decide (pr w (n - (r + 1)) + Lc pr al n r (adS S w) = Lc pr al n (r + 1) S))) = false) : Lc pr al n (r + 1) S = al + Lc pr al n r S := by
  have m3 := mnc_at (c := fun w => if S w = false ∧ pr w (n - (r + 1)) < 1000000 then pr w (n - (r + 1)) + Lc pr al n r (adS S w) else 1000000) (a := al + Lc pr al n r S) (i := n)
  have e : Lc pr al n (r + 1) S = min 1000000 (mnc (fun w => if S w = false ∧ pr w (n - (r + 1)) < 1000000 then pr w (n - (r + 1)) + Lc pr al n r (adS S w) else 1000000) n (al + Lc pr al n r S)) := rfl
  generalize mnc (fun w => if S w = false ∧ pr w (n - (r + 1)) < 1000000 then pr w (n - (r + 1)) + Lc pr al n r (adS S w) else 1000000) n (al + Lc pr al n r S) = X at *
  rcases m3 with m3 | ⟨w, w1, w2⟩
  · omega
  · have hn := hno w w1
    by_cases q : S w = false ∧ pr w (n - (r + 1)) < 1000000
    · rw [if_pos q] at w2
      rw [q.1, decide_eq_true q.2, decide_eq_true (by omega)] at hn
      cases hn
    · rw [if_neg q] at w2
      omega
theorem t_planned (h8 : n ≤ 8) (hf : PB f) (hal : al ≤ 1000000) (hn : MI 46 6 = nI n) (h61 : MI 61 = f) : ∃ M, mrc 250 219 [.ref 46, .int (nI al), .int (bI hm)] MI ML (some (.int (nI (Lc (prX f n hm) al n n (mkS 0))))) M ML ∧ (∀ q, q ≠ 66 → q ≠ 67 → M q = MI q) ∧ (Lc (prX f n hm) al n n (mkS 0) < 1000000 → ∀ b, b < n → M 67 b = nI (wgP (prX f n hm) al n b)) := by
  have h256 := p2_8 h8
  have hp0 : 0 < 2 ^ n := Nat.two_pow_pos n
  generalize hpr : prX f n hm = pr
  suffices h : VX11_planned_0 249 (fun v M L' => v = some (.int (nI (Lc pr al n n (mkS 0)))) ∧ L' = ML ∧ (∀ q, q ≠ 66 → q ≠ 67 → M q = MI q) ∧ (Lc pr al n n (mkS 0) < 1000000 → ∀ b, b < n → M 67 b = nI (wgP pr al n b))) (nI al) (bI hm) MI ML by
    obtain ⟨v, M, L', ⟨rfl, rfl, hr⟩, h⟩ := EX11_planned h
    exact ⟨M, h, hr⟩
  have hlf : ∀ (r : Nat), r ≤ n → ∀ (m : Nat) (M : mI), m < 2 ^ n → M 46 6 = nI n → M 61 = f → KnF n pr al M → ∃ M', mrc 249 218 [.ref 46, .int (nI (n - r)), .int (nI m), .int (nI al), .int (bI hm)] M ML (some (.int (nI (Lc pr al n r (ngS m))))) M' ML ∧ KnF n pr al M' ∧ ∀ q, q ≠ 66 → M' q = M q := by
    intro r hr m M a b c d
    rw [← hpr] at d ⊢
    obtain ⟨M', e1, e2, e3⟩ := t_leastFrom (ML := ML) h8 hf hal r hr m M a b c d
    exact ⟨M', mrc_le e1 (by omega), e2, e3⟩
  refine BX11_planned_0 ?_
  refine up (P := fun k => ∀ M : mI, (∀ q, q ≠ 66 → M q = MI q) → (∀ j, j < k → M 66 j = -1) → VX11_planned_2 249 _ (nI al) (bI hm) (nI k) M ML) 2048 (Nat.zero_le _) ?_ ?_ MI (fun _ _ => rfl) (fun j hj => absurd hj (Nat.not_lt_zero _))
  · intro M hF hm1
    have hl0 : nI 1 <<< (M 46 6 &&& 31) - nI 1 = nI (2 ^ n - 1) := by rw [hF 46 (by decide), hn, shl1 h8, pk_sub (by omega)]
    obtain ⟨M1, c1, c2, c3⟩ := hlf n (Nat.le_refl _) (2 ^ n - 1) M (by omega) (by rw [hF 46 (by decide)]; exact hn) (by rw [hF 61 (by decide)]; exact h61) (fun b hb m hmm => Or.inl (hm1 _ (by omega)))
    rw [Nat.sub_self] at c1
    have hS0 : ∀ i, i < n → ngS (2 ^ n - 1) i = mkS 0 i := by
      intro i hi
      unfold ngS mkS
      rw [Nat.testBit_two_pow_sub_one, decide_eq_true hi, Nat.zero_testBit]; rfl
    rw [Lc_cong (S := ngS (2 ^ n - 1)) (S' := mkS 0) hS0] at c1
    refine BX11_planned_2 (cT (nI_le (Nat.le_refl _) (by omega)) ?_)
    rw [hl0]
    refine usei c1 ?_
    have hLW := Lc_le (pr := pr) (al := al) (n := n) (r := n) (S := mkS 0)
    by_cases hW : Lc pr al n n (mkS 0) < 1000000
    · refine up (P := fun b => ∀ (M : mI) (lf : Nat), lf < 2 ^ n → (∀ i, i < n → ngS lf i = mkS (tkP pr al n b) i) → Lc pr al n (n - b) (mkS (tkP pr al n b)) < 1000000 → KnF n pr al M → (∀ q, q ≠ 66 → q ≠ 67 → M q = MI q) → (∀ c, c < b → M 67 c = nI (wgP pr al n c)) → VX11_planned_50 249 _ (nI al) (bI hm) (nI lf) (nI (Lc pr al n n (mkS 0))) (nI (Lc pr al n (n - b) (mkS (tkP pr al n b)))) (nI b) M ML) n (Nat.zero_le _) ?_ ?_ M1 _ (by omega) hS0 hW c2 (fun q a _ => (c3 q a).trans (hF q a)) (fun c hc => absurd hc (Nat.not_lt_zero _))
      · intro M lf _ _ _ _ hF hc
        exact BX11_planned_50 (cT (by rw [hF 46 (by decide) (by decide), hn]; exact nI_le (Nat.le_refl _) (by omega)) ⟨rfl, rfl, hF, fun _ => hc⟩)
      · intro b _ hb ih M lf hlf0 hS hLb hK hF hc
        have er : n - b = n - (b + 1) + 1 := by omega
        have er2 : n - (n - (b + 1) + 1) = b := by omega
        have er3 : n - (n - (b + 1)) = b + 1 := by omega
        have hwF := whP_first (pr := pr) (al := al) (n := n) (r := n - (b + 1)) (S := mkS (tkP pr al n b)) (by omega) (by rw [← er]; exact hLb)
        have hwd : whP pr al n (n - (b + 1)) (mkS (tkP pr al n b)) = wgP pr al n b := rfl
        have htd : tkP pr al n (b + 1) = if wgP pr al n b = 8 then tkP pr al n b else tkP pr al n b ||| 2 ^ wgP pr al n b := rfl
        rw [hwd, er2, ← er] at hwF
        refine BX11_planned_50 (cF (by rw [hF 46 (by decide) (by decide), hn]; exact nI_ge hb (by omega)) (cF (nI_ge hW (by omega)) ⟨b, rfl, by omega, ?_⟩))
        generalize hca : (fun w => !mkS (tkP pr al n b) w && (decide (pr w b < 1000000) && decide (pr w b + Lc pr al n (n - (b + 1)) (adS (mkS (tkP pr al n b)) w) = Lc pr al n (n - b) (mkS (tkP pr al n b))))) = ca at hwF
        have hcaw : ∀ w, ca w = (!mkS (tkP pr al n b) w && (decide (pr w b < 1000000) && decide (pr w b + Lc pr al n (n - (b + 1)) (adS (mkS (tkP pr al n b)) w) = Lc pr al n (n - b) (mkS (tkP pr al n b))))) := fun w => by rw [← hca]
        have hprl : ∀ w, pr w b ≤ 1000000 := fun w => by rw [← hpr]; exact prX_le hf h8 w b
        have hLb2 := Lc_le (pr := pr) (al := al) (n := n) (r := n - (b + 1)) (S := mkS (tkP pr al n b))
        refine up (P := fun w => ∀ M : mI, KnF n pr al M → (∀ q, q ≠ 66 → q ≠ 67 → M q = MI q) → (∀ c, c < b → M 67 c = nI (wgP pr al n c)) → M 67 b = nI 8 → (∀ t, t < w → ca t = false) → VX11_planned_79 249 _ (nI al) (bI hm) (nI lf) (nI (Lc pr al n n (mkS 0))) (nI (Lc pr al n (n - b) (mkS (tkP pr al n b)))) (nI b) (nI w) M ML) n (Nat.zero_le _) ?_ ?_ _ (fun b2 h2 m2 hm2 => by rw [mup_n (by decide)]; exact hK b2 h2 m2 hm2) (fun q a b => (mup_n b).trans (hF q a b)) (fun c hc' => by rw [mup_s, mput_n (by omega)]; exact hc c hc') (by rw [mup_s, mput_s]) (fun t ht => absurd ht (Nat.not_lt_zero _))
        · intro M hK hF hc h67 hno
          have hw8 : wgP pr al n b = 8 := by rw [hwF, first_none hno, if_neg (Nat.lt_irrefl _)]
          have hLn : Lc pr al n (n - b) (mkS (tkP pr al n b)) = al + Lc pr al n (n - (b + 1)) (mkS (tkP pr al n b)) := by
            rw [er] at hLb ⊢
            refine Lc_none hLb (fun w hw => ?_)
            rw [er2, ← er, ← hcaw]
            exact hno w hw
          have ht : tkP pr al n (b + 1) = tkP pr al n b := by rw [htd, if_pos hw8]
          refine BX11_planned_79 (cT (by rw [hF 46 (by decide) (by decide), hn]; exact nI_le (Nat.le_refl _) (by omega)) (BX11_planned_186 ⟨b, rfl, by omega, cT h67 ?_⟩))
          rw [hLn, pk_sub (by omega), nI_add, show al + Lc pr al n (n - (b + 1)) (mkS (tkP pr al n b)) - al = Lc pr al n (n - (b + 1)) (mkS (tkP pr al n (b + 1))) from by rw [ht]; omega]
          refine ih M lf hlf0 (by rw [ht]; exact hS) (by rw [ht]; omega) hK hF (fun c hcb => ?_)
          by_cases q : c = b
          · subst q
            rw [h67, hw8]
          · exact hc c (by omega)
        · intro w _ hw ih2 M hK hF hc h67 hno
          have hn' : M 46 6 = nI n := by rw [hF 46 (by decide) (by decide)]; exact hn
          have h61' : M 61 = f := by rw [hF 61 (by decide) (by decide)]; exact h61
          have hpw := hprl w
          have htp := t_price (D := 246) (ML := ML) (hm := hm) hn' h8 hf h61' hw hb
          rw [hpr] at htp
          have skip : ∀ M2 : mI, KnF n pr al M2 → (∀ q, q ≠ 66 → M2 q = M q) → ca w = false → VX11_planned_79 249 (fun v M L' => v = some (.int (nI (Lc pr al n n (mkS 0)))) ∧ L' = ML ∧ (∀ q, q ≠ 66 → q ≠ 67 → M q = MI q) ∧ (Lc pr al n n (mkS 0) < 1000000 → ∀ b, b < n → M 67 b = nI (wgP pr al n b))) (nI al) (bI hm) (nI lf) (nI (Lc pr al n n (mkS 0))) (nI (Lc pr al n (n - b) (mkS (tkP pr al n b)))) (nI b) (nI (w + 1)) M2 ML := by
            intro M2 hK2 hF2 hcf
            refine ih2 M2 hK2 (fun q a b => (hF2 q a).trans (hF q a b)) (fun c hcb => by rw [hF2 67 (by decide)]; exact hc c hcb) (by rw [hF2 67 (by decide)]; exact h67) (fun t ht => ?_)
            by_cases q : t = w
            · subst q; exact hcf
            · exact hno t (by omega)
          refine BX11_planned_79 (cF (by rw [hn']; exact nI_ge hw (by omega)) ⟨b, rfl, by omega, cT h67 (usei htp ?_)⟩)
          rw [tst1 _ (by omega), bt_nI (by omega), nI_leI (by omega) (by omega), nI_add]
          have hSw := hS w hw
          refine br (fun h1 => br (fun h2 => skip M hK (fun _ _ => rfl) ?_) (fun h2 => ?_)) (fun h1 => skip M hK (fun _ _ => rfl) ?_)
          · rw [hcaw, decide_eq_false (show ¬ pr w b < 1000000 by omega), Bool.false_and, Bool.and_false]
          · obtain ⟨M2, d1, d2, d3⟩ := hlf (n - (b + 1)) (by omega) (lf ^^^ 2 ^ w) M (xor_lt hlf0 hw) hn' h61' hK
            rw [er3] at d1
            have hS2 : ∀ i, i < n → ngS (lf ^^^ 2 ^ w) i = adS (mkS (tkP pr al n b)) w i := by
              intro i hi
              rw [ngS_x h1]
              unfold adS
              rw [hS i hi]
            rw [Lc_cong hS2] at d1
            have hSf : mkS (tkP pr al n b) w = false := by
              rw [← hSw]
              unfold ngS
              rw [h1]; rfl
            have hLa := Lc_le (pr := pr) (al := al) (n := n) (r := n - (b + 1)) (S := adS (mkS (tkP pr al n b)) w)
            rw [clr (by omega) (by omega) h1, nI_add]
            refine usei d1 ?_
            rw [nI_add, nI_eq (by omega) (by omega)]
            refine br (fun h3 => ⟨b, rfl, by omega, ?_⟩) (fun h3 => skip M2 d2 d3 ?_)
            · have hct : ca w = true := by rw [hcaw, hSf, decide_eq_true (show pr w b < 1000000 by omega), decide_eq_true h3]; rfl
              have hw8 : wgP pr al n b = w := by rw [hwF, first_at hw hct hno, if_pos hw]
              have ht : tkP pr al n (b + 1) = tkP pr al n b ||| 2 ^ w := by rw [htd, hw8, if_neg (by omega)]
              have h186 : VX11_planned_186 249 (fun v M L' => v = some (.int (nI (Lc pr al n n (mkS 0)))) ∧ L' = ML ∧ (∀ q, q ≠ 66 → q ≠ 67 → M q = MI q) ∧ (Lc pr al n n (mkS 0) < 1000000 → ∀ b, b < n → M 67 b = nI (wgP pr al n b))) (nI al) (bI hm) (nI (lf ^^^ 2 ^ w)) (nI (Lc pr al n n (mkS 0))) (nI (Lc pr al n (n - b) (mkS (tkP pr al n b))) - nI (pr w b)) (nI b) (mup M2 67 (mput (M2 67) b (nI w))) ML := by
                refine BX11_planned_186 ⟨b, rfl, by omega, cF (by rw [mup_s, mput_s, nI_eq (by omega) (by omega)]; omega) ?_⟩
                rw [pk_sub (by omega), show nI (Lc pr al n (n - b) (mkS (tkP pr al n b)) - pr w b) - nI 0 = nI (Lc pr al n (n - (b + 1)) (mkS (tkP pr al n (b + 1)))) from by
                  rw [pk_sub (by omega), ht, mS_or]
                  congr 1
                  omega, nI_add]
                refine ih _ (lf ^^^ 2 ^ w) (xor_lt hlf0 hw) (fun i hi => by rw [hS2 i hi, ht, mS_or]) (by rw [ht, mS_or]; omega) (fun b2 h2 m2 hm2 => by rw [mup_n (by decide)]; exact d2 b2 h2 m2 hm2) (fun q a b => (mup_n b).trans ((d3 q a).trans (hF q a b))) (fun c hcb => ?_)
                rw [mup_s]
                by_cases q : c = b
                · subst q
                  rw [mput_s, hw8]
                · rw [mput_n q, d3 67 (by decide)]
                  exact hc c (by omega)
              by_cases hwn : w + 1 = n
              · exact BX11_planned_79 (cT (by rw [mup_n (by decide), d3 46 (by decide), hn', hwn]; exact nI_le (Nat.le_refl _) (by omega)) h186)
              · exact BX11_planned_79 (cF (by rw [mup_n (by decide), d3 46 (by decide), hn']; exact nI_ge (by omega) (by omega)) ⟨b, rfl, by omega, cF (by rw [mup_s, mput_s, nI_eq (by omega) (by omega)]; omega) h186⟩)
            · rw [hcaw, decide_eq_false h3, Bool.and_false, Bool.and_false]
          · have hSt : mkS (tkP pr al n b) w = true := by
              rw [← hSw]
              unfold ngS
              rw [bnf h1]; rfl
            rw [hcaw, hSt]; rfl
    · by_cases hn0 : n = 0
      · exact BX11_planned_50 (cT (by rw [c3 46 (by decide), hF 46 (by decide), hn, hn0]; exact nI_le (Nat.le_refl _) (by omega)) ⟨rfl, rfl, fun q a _ => (c3 q a).trans (hF q a), fun h => absurd h hW⟩)
      · exact BX11_planned_50 (cF (by rw [c3 46 (by decide), hF 46 (by decide), hn]; exact nI_ge (by omega) (by omega)) (cT (nI_le (by omega) (by omega)) ⟨rfl, rfl, fun q a _ => (c3 q a).trans (hF q a), fun h => absurd h hW⟩))
  · intro k _ hk ih M hF hm1
    refine BX11_planned_2 (cF (nI_ge hk (by omega)) ⟨k, rfl, hk, ?_⟩)
    rw [nI_add]
    refine ih _ (fun q hq => (mup_n hq).trans (hF q hq)) (fun j hj => ?_)
    rw [mup_s]
    by_cases q : j = k
    · subst q; rw [mput_s]
    · rw [mput_n q]; exact hm1 j (by omega)
theorem s_prWeigher {one : Nat} (ho : one < 8) : mrc (D + 1) 88 [.ref 24, .int (nI one)] MI ML (some (.int (MI 27 one))) MI ML := mrc_of (EX6_weigherOf (BX6_weigherOf_0 (cF (nI_nlt (Nat.zero_le _) (by omega)) (cF (nI_ge ho (by omega)) ⟨one, rfl, ho, eRr⟩))))
theorem s_prPrice : mrc (D + 1) 87 [.ref 24] MI ML (some (.int (MI 26 0))) MI ML := mrc_of (EX6_price (BX6_price_0 eRr))
theorem FP.a {M N : mI} (h : FP M N) : FA M N := fun q _ _ c => h q (by omega) (by omega) (by omega)
end C68
theorem p_paired (x : Int32) : Sim 144 220 [.int x] := by
  intro MI ML hI
  obtain ⟨n, hIn⟩ := hI.1
  obtain ⟨La, hw, hC, hL⟩ := hI.2.2.2.1
  have h8 := hIn.1
  have hn := hIn.2.1
  have hm := hIn.2.2.1
  have hz := hIn.2.2.2.2.2.1
  have hf := hIn.2.2.2.2.1
  have hW1 : Lc (prX (MI 2) n false) 1 n n (mkS 0) < 1000000 := Nat.lt_of_le_of_lt (Lc_1 n (mkS 0)) (by omega)
  obtain ⟨M, c1, c2, c3, c4⟩ := c_asMany (D := 295) (ML := ML) hn h8 hf
  have hz1 : Z84 (M 17) := by rw [c2 17 (by decide) (by decide) (by decide)]; exact hz
  have hm16 : ∀ N : mI, N 46 6 = nI n → (∀ (D : Nat) (M : mI), FB M N → Z84 (M 61) → ∃ M', mrc (D + 1) 211 [.ref 46] M ML none M' ML ∧ WM n La (MI 2) M' ∧ FB M' M) → Z84 (N 61) → (x = -1 ∨ ∃ o, o < n ∧ x = nI o) → ∃ M2, VX11_paired_16 299 (eR (some (.int (if x = -1 then nI n - nI (Lc (prX (MI 2) n false) 1 n n (mkS 0)) else nI (wgP (prX (MI 2) n false) 1 n x.toNatClampNeg)))) M2 ML) x N ML ∧ FB M2 N ∧ Z84 (M2 61) := by
    intro N n1 ht hz2 hx
    obtain ⟨M1, b1, b2, b3⟩ := ht 298 N FB.rf hz2
    obtain ⟨M2, g1, g2, g3⟩ := t_planned (al := 1) (hm := false) (ML := ML) (MI := M1) h8 hf (by omega) b2.2.1 b2.2.2.1
    refine ⟨M2, BX11_paired_16 (usev b1 (usei (mrc_le g1 (by omega)) ?_)), ⟨fun q a b => (g2 q (by omega) (by omega)).trans (b3.1 q a b), fun j a => by rw [g2 46 (by decide) (by decide)]; exact b3.2 j a⟩, by rw [g2 61 (by decide) (by decide)]; exact b2.z⟩
    rw [g2 46 (by decide) (by decide), b2.2.1]
    rcases hx with rfl | ⟨o, ho, rfl⟩
    · exact cT rfl (iR (by rw [if_pos rfl]) rfl)
    · refine cF (nI_m1 (by omega)) ⟨o, rfl, by omega, iR ?_ rfl⟩
      rw [if_neg (nI_m1 (by omega)), nI_clamp (by omega), g3 hW1 o ho]
  by_cases hx : x = -1
  · subst hx
    refine pair_T (v := (if (-1 : Int32) = -1 then nI n - nI (Lc (prX (MI 2) n false) 1 n n (mkS 0)) else nI (wgP (prX (MI 2) n false) 1 n (-1 : Int32).toNatClampNeg))) hI hIn hw hC hL (fun ht => ⟨M, mrc_of (EX10_paired (BX10_paired_0 (usei (s_isOneOrAll hn) (bT rfl (usev c1 (cT rfl (usei s_prPrice (iR ?_ rfl)))))))), c2.a, hz1⟩) (fun N n1 n2 n3 ht hz2 => ?_)
    · rw [if_pos rfl, c2 1 (by decide) (by decide) (by decide), hn, c3]
    · obtain ⟨M2, h1, h2, h3⟩ := hm16 N n1 ht hz2 (Or.inl rfl)
      exact ⟨M2, mrc_of (EX11_paired (BX11_paired_0 (cT rfl h1))), h2, h3⟩
  · by_cases h1 : hasB n x = true
    · obtain ⟨o, ho, rfl⟩ := hasB_ix h8 h1
      refine pair_T (v := (if nI o = -1 then nI n - nI (Lc (prX (MI 2) n false) 1 n n (mkS 0)) else nI (wgP (prX (MI 2) n false) 1 n (nI o).toNatClampNeg))) hI hIn hw hC hL (fun ht => ⟨M, mrc_of (EX10_paired (BX10_paired_0 (usei (s_isOneOrAll hn) (bT (by rw [h1, Bool.or_true]) (usev c1 (cF hx (usei (s_prWeigher (by omega)) (iR ?_ rfl)))))))), c2.a, hz1⟩) (fun N n1 n2 n3 ht hz2 => ?_)
      · rw [if_neg hx, c4 o ho, nI_clamp (by omega)]
      · obtain ⟨M2, k1, k2, k3⟩ := hm16 N n1 ht hz2 (Or.inr ⟨o, ho, rfl⟩)
        exact ⟨M2, mrc_of (EX11_paired (BX11_paired_0 (cF hx (usei (t_isOne n1 h8) (bT h1 k1))))), k2, k3⟩
    · exact ⟨_, _, _, _, _, mrc_of (EX10_paired (BX10_paired_0 (usei (s_isOneOrAll hn) (bF (by rw [bnf h1, decide_eq_false hx]; rfl) eRr)))), mrc_of (EX11_paired (BX11_paired_0 (cF hx (usei (t_isOne hm h8) (bF (bnf h1) eRr))))), hI⟩
theorem p_harm (x : Int32) : Sim 145 221 [.int x] := by
  intro MI ML hI
  obtain ⟨n, hIn⟩ := hI.1
  obtain ⟨La, hw, hC, hL⟩ := hI.2.2.2.1
  have h8 := hIn.1
  have hn := hIn.2.1
  have hm := hIn.2.2.1
  have hz := hIn.2.2.2.2.2.1
  have hf := hIn.2.2.2.2.1
  have hLW := Lc_le (pr := prX (MI 2) n true) (al := 1000000) (n := n) (r := n) (S := mkS 0)
  obtain ⟨M, c1, c2, c3, c4⟩ := c_harm (D := 295) (ML := ML) hn h8 hf
  have hz1 : Z84 (M 17) := by rw [c2 17 (by decide) (by decide) (by decide)]; exact hz
  have hway : mrc 299 86 [.ref 24] M ML (some (.int (bI (decide (Lc (prX (MI 2) n true) 1000000 n n (mkS 0) < 1000000))))) M ML := by
    refine mrc_of (EX6_isThereAWay (BX6_isThereAWay_0 (usei s_prPrice ?_)))
    rw [c3, nI_leI (by omega) (by omega)]
    refine br (fun q => iR ?_ rfl) (fun q => iR ?_ rfl)
    · rw [decide_eq_false (by omega)]; rfl
    · rw [decide_eq_true (by omega)]; rfl
  have hm16 : ∀ N : mI, N 46 6 = nI n → (∀ (D : Nat) (M : mI), FB M N → Z84 (M 61) → ∃ M', mrc (D + 1) 211 [.ref 46] M ML none M' ML ∧ WM n La (MI 2) M' ∧ FB M' M) → Z84 (N 61) → (x = -1 ∨ ∃ o, o < n ∧ x = nI o) → ∃ M2, VX11_harm_16 299 (eR (some (.int (if Lc (prX (MI 2) n true) 1000000 n n (mkS 0) < 1000000 then (if x = -1 then nI (Lc (prX (MI 2) n true) 1000000 n n (mkS 0)) else nI (wgP (prX (MI 2) n true) 1000000 n x.toNatClampNeg)) else -2))) M2 ML) x N ML ∧ FB M2 N ∧ Z84 (M2 61) := by
    intro N n1 ht hz2 hx
    obtain ⟨M1, b1, b2, b3⟩ := ht 298 N FB.rf hz2
    obtain ⟨M2, g1, g2, g3⟩ := t_planned (al := 1000000) (hm := true) (ML := ML) (MI := M1) h8 hf (by omega) b2.2.1 b2.2.2.1
    refine ⟨M2, BX11_harm_16 (usev b1 (usei (mrc_le g1 (by omega)) ?_)), ⟨fun q a b => (g2 q (by omega) (by omega)).trans (b3.1 q a b), fun j a => by rw [g2 46 (by decide) (by decide)]; exact b3.2 j a⟩, by rw [g2 61 (by decide) (by decide)]; exact b2.z⟩
    rw [nI_ltI (by omega) (by omega)]
    refine br (fun q => ?_) (fun q => iR (by rw [if_neg q]) rfl)
    rw [if_pos q]
    rcases hx with rfl | ⟨o, ho, rfl⟩
    · exact cT rfl (iR (by rw [if_pos rfl]) rfl)
    · refine cF (nI_m1 (by omega)) ⟨o, rfl, by omega, iR ?_ rfl⟩
      rw [if_neg (nI_m1 (by omega)), nI_clamp (by omega), g3 q o ho]
  have hcl : (x = -1 ∨ ∃ o, o < n ∧ x = nI o) → (decide (x = -1) || hasB n x) = true → mrc 300 145 [.ref 0, .int x] MI ML (some (.int (if Lc (prX (MI 2) n true) 1000000 n n (mkS 0) < 1000000 then (if x = -1 then nI (Lc (prX (MI 2) n true) 1000000 n n (mkS 0)) else nI (wgP (prX (MI 2) n true) 1000000 n x.toNatClampNeg)) else -2))) M ML := by
    intro hx hb
    refine mrc_of (EX10_harm (BX10_harm_0 (usei (s_isOneOrAll hn) (bT hb (usev c1 (usei hway ?_))))))
    rw [bI_0, decide_eq_false_iff_not]
    refine br (fun q => iR (by rw [if_neg q]) rfl) (fun q => ?_)
    have q := Classical.not_not.mp q
    rw [if_pos q]
    rcases hx with rfl | ⟨o, ho, rfl⟩
    · exact cT rfl (usei s_prPrice (iR (by rw [if_pos rfl, c3]) rfl))
    · refine cF (nI_m1 (by omega)) (usei (s_prWeigher (by omega)) (iR ?_ rfl))
      rw [if_neg (nI_m1 (by omega)), nI_clamp (by omega), c4 o ho]
  by_cases hx : x = -1
  · refine pair_T hI hIn hw hC hL (fun ht => ⟨M, hcl (Or.inl hx) (by rw [decide_eq_true hx]; rfl), c2.a, hz1⟩) (fun N n1 n2 n3 ht hz2 => ?_)
    obtain ⟨M2, h1, h2, h3⟩ := hm16 N n1 ht hz2 (Or.inl hx)
    exact ⟨M2, mrc_of (EX11_harm (BX11_harm_0 (cT hx h1))), h2, h3⟩
  · by_cases h1 : hasB n x = true
    · obtain ⟨o, ho, eo⟩ := hasB_ix h8 h1
      refine pair_T hI hIn hw hC hL (fun ht => ⟨M, hcl (Or.inr ⟨o, ho, eo⟩) (by rw [h1, Bool.or_true]), c2.a, hz1⟩) (fun N n1 n2 n3 ht hz2 => ?_)
      obtain ⟨M2, k1, k2, k3⟩ := hm16 N n1 ht hz2 (Or.inr ⟨o, ho, eo⟩)
      exact ⟨M2, mrc_of (EX11_harm (BX11_harm_0 (cF hx (usei (t_isOne n1 h8) (bT h1 k1))))), k2, k3⟩
    · exact ⟨_, _, _, _, _, mrc_of (EX10_harm (BX10_harm_0 (usei (s_isOneOrAll hn) (bF (by rw [bnf h1, decide_eq_false hx]; rfl) eRr)))), mrc_of (EX11_harm (BX11_harm_0 (cF hx (usei (t_isOne hm h8) (bF (bnf h1) eRr))))), hI⟩
