/-! the law's own day, whole -/
section L90
variable {D n w e k : Nat} {g : Nat → Int32} {La : mLaw} {Sh : List mT} {MI M : mI} {ML : mJ} {v5 v6 v7 : Int32} {Q : Option Value → mS → Prop}
theorem hunF_s {f : Nat → Int32} {fed : Nat → Bool} {p : Nat} (hp : p < 18) : hunF f fed (p + 1) = if fed p = false then mput (hunF f fed p) p (mn (hunF f fed p p + hunF f fed p 18) (nI 99)) else hunF f fed p := by
  have e1 : hunF f fed p p = f p := if_neg (fun q => absurd q.1 (Nat.lt_irrefl _))
  have e2 : hunF f fed p 18 = f 18 := if_neg (fun q => by omega)
  funext j
  rw [e1, e2]
  by_cases c : fed p = false
  · rw [if_pos c]
    unfold mput hunF
    by_cases q : j = p
    · subst q
      rw [if_pos rfl, if_pos ⟨Nat.lt_succ_self _, c⟩]
    · rw [if_neg q]
      by_cases q2 : j < p ∧ fed j = false
      · rw [if_pos q2, if_pos ⟨by omega, q2.2⟩]
      · rw [if_neg q2, if_neg (fun z => q2 ⟨by omega, z.2⟩)]
  · rw [if_neg c]
    unfold hunF
    by_cases q2 : j < p ∧ fed j = false
    · rw [if_pos q2, if_pos ⟨by omega, q2.2⟩]
    · rw [if_neg q2, if_neg (fun z => by
        by_cases q : j = p
        · subst q; exact c z.2
        · exact q2 ⟨by omega, z.2⟩)]
theorem AR_put {X H F : Nat → Int32} (hA : AR n g X H F) {p : Nat} (hp : p < 8) {v : Int32} : AR n (mput g p v) X (mput H (2 * p) v) F := by
  obtain ⟨x0, x1, x2, x3, x4, hh, hf⟩ := hA
  refine ⟨x0, ?_, ?_, ?_, ?_, fun q hq => ⟨?_, ?_⟩, fun q hq => ?_⟩
  · rw [mput_n (by omega)]; exact x1
  · rw [mput_n (by omega)]; exact x2
  · rw [mput_n (by omega)]; exact x3
  · rw [mput_n (by omega)]; exact x4
  · by_cases c : q = p
    · subst c; rw [mput_s, mput_s]
    · rw [mput_n (by omega), mput_n c]; exact (hh q hq).1
  · rw [mput_n (by omega), mput_n (by omega)]; exact (hh q hq).2
  · rw [mput_n (by omega)]; exact hf q hq
theorem AR_day {X H F : Nat → Int32} (hA : AR n g X H F) {v : Int32} : AR n (mput g 19 v) (mput X 4 v) H F := by
  obtain ⟨x0, x1, x2, x3, x4, hh, hf⟩ := hA
  refine ⟨?_, ?_, ?_, ?_, ?_, fun q hq => ⟨?_, ?_⟩, fun q hq => ?_⟩
  · rw [mput_n (by omega)]; exact x0
  · rw [mput_n (by omega), mput_n (by omega)]; exact x1
  · rw [mput_n (by omega), mput_n (by omega)]; exact x2
  · rw [mput_n (by omega), mput_n (by omega)]; exact x3
  · rw [mput_s, mput_s]
  · rw [mput_n (by omega)]; exact (hh q hq).1
  · rw [mput_n (by omega)]; exact (hh q hq).2
  · rw [mput_n (by omega)]; exact hf q hq
theorem AR_fe {X H F : Nat → Int32} (hA : AR n g X H F) {i : Nat} (hi : i < 64) {v : Int32} : AR n (mput g (20 + i) v) X H (mput F i v) := by
  obtain ⟨x0, x1, x2, x3, x4, hh, hf⟩ := hA
  refine ⟨x0, ?_, ?_, ?_, ?_, fun q hq => ⟨?_, ?_⟩, fun q hq => ?_⟩
  · rw [mput_n (by omega)]; exact x1
  · rw [mput_n (by omega)]; exact x2
  · rw [mput_n (by omega)]; exact x3
  · rw [mput_n (by omega)]; exact x4
  · rw [mput_n (by omega)]; exact (hh q hq).1
  · rw [mput_n (by omega)]; exact (hh q hq).2
  · by_cases c : q = i
    · subst c; rw [mput_s, mput_s]
    · rw [mput_n c, mput_n (by omega)]; exact hf q hq
theorem fadF_s {f : Nat → Int32} {i : Nat} : fadF f (20 + (i + 1)) = mput (fadF f (20 + i)) (20 + i) (fdv (fadF f (20 + i) (20 + i))) := by
  have e1 : fadF f (20 + i) (20 + i) = f (20 + i) := if_neg (fun q => absurd q.2 (Nat.lt_irrefl _))
  funext j
  rw [e1]
  unfold fadF mput
  by_cases q : j = 20 + i
  · subst q
    rw [if_pos rfl, if_pos ⟨by omega, by omega⟩]
  · rw [if_neg q]
    dsimp only
    by_cases q2 : 20 ≤ j ∧ j < 20 + i
    · rw [if_pos q2, if_pos ⟨q2.1, by omega⟩]
    · rw [if_neg q2, if_neg (fun z => q2 ⟨z.1, by omega⟩)]
theorem fadF_0 {f : Nat → Int32} : fadF f (20 + 0) = f := by
  funext j
  unfold fadF
  rw [if_neg (by omega)]
theorem hunF_0 {f : Nat → Int32} {fed : Nat → Bool} : hunF f fed 0 = f := by
  funext j
  unfold hunF
  rw [if_neg (by omega)]
/-- the fading -/
theorem l_fade {v : Int32} (hx : e = 46 ∨ 51 < e) (hF : asz Sh (e + 2) 64) (hA : AR n g (M e) (M (e + 1)) (M (e + 2))) (K : ∀ M' : mI, AR n (fadF g 84) (M' e) (M' (e + 1)) (M' (e + 2)) → (∀ q, q ≠ e + 2 → M' q = M q) → Q (some (.int v)) (w, Sh, M', ML)) : VL_day_391 (mrnT mTb (D + 2)) Q (e + 2) v (nI 0) w Sh M ML := by
  refine up (i0 := 0) (P := fun i => ∀ M' : mI, AR n (fadF g (20 + i)) (M' e) (M' (e + 1)) (M' (e + 2)) → (∀ q, q ≠ e + 2 → M' q = M q) → VL_day_391 (mrnT mTb (D + 2)) Q (e + 2) v (nI i) w Sh M' ML) 64 (by decide) ?_ ?_ M (by rw [fadF_0]; exact hA) (fun _ _ => rfl)
  · intro M' h1 h2
    exact BL_day_391 (cT (by decide) (K M' h1 h2))
  · intro i _ hi ih M' h1 h2
    refine BL_day_391 (cF (nI_ge hi (by omega)) ⟨i, hF.cell i hi, i, hF.cell i hi, ?_⟩)
    rw [nI_add]
    have hfi : M' (e + 2) i = fadF g (20 + i) (20 + i) := h1.2.2.2.2.2.2 i hi
    have go : ∀ x : Int32, x = fdv (fadF g (20 + i) (20 + i)) → VL_day_391 (mrnT mTb (D + 2)) Q (e + 2) v (nI (i + 1)) w Sh (mup M' (e + 2) (mput (M' (e + 2)) i x)) ML := fun x hx' => by
      refine ih _ ?_ (fun q hq => by rw [mup_n hq]; exact h2 q hq)
      simp (disch := omega) only [mup_n, mup_s]
      rw [hx', fadF_s]
      exact AR_fe h1 hi
    rw [hfi]
    unfold fdv at go
    by_cases c1 : fadF g (20 + i) (20 + i) ≤ nI 0
    · rw [if_pos c1] at go
      refine cT c1 ⟨i, hF.cell i hi, ?_⟩
      rw [hfi]
      by_cases c2 : nI 0 ≤ fadF g (20 + i) (20 + i)
      · rw [if_pos c2] at go
        refine cT c2 ⟨i, hF.cell i hi, go _ ?_⟩
        rw [fa_eq, Int32.toInt_add, nI0_ti]
        rw [fa_le, nI0_ti] at c1 c2
        rw [show (fadF g (20 + i) (20 + i)).toInt = 0 by omega]
        rfl
      · rw [if_neg c2] at go
        exact cF c2 ⟨i, hF.cell i hi, go _ rfl⟩
    · rw [if_neg c1] at go
      refine cF c1 ⟨i, hF.cell i hi, go _ ?_⟩
      rw [Int32.sub_eq_add_neg]
      rfl
theorem AR_x {X H F : Nat → Int32} (hA : AR n g X H F) : X 0 = nI n ∧ X 1 = g 16 ∧ X 2 = g 17 ∧ X 3 = g 18 ∧ X 4 = g 19 := ⟨hA.1, hA.2.1, hA.2.2.1, hA.2.2.2.1, hA.2.2.2.2.1⟩
/-- what a day ends with -/
theorem l_end {L : List dR} {v : Int32} (hx : e = 46 ∨ 51 < e) (hX : asz Sh e 5) (hH : asz Sh (e + 1) 16) (hF : asz Sh (e + 2) 64) (hW : asz Sh 51 8) (h8 : n ≤ 8) (hg : PB g) (hL : ∀ q ∈ L, rOk n q) (hA : AR n g (M e) (M (e + 1)) (M (e + 2))) (hwho : ∀ p, p < 8 → M 51 p = nI (wgL L p)) (K : ∀ M' : mI, AR n (endF g n (fbL L)) (M' e) (M' (e + 1)) (M' (e + 2)) → (∀ q, q ≠ e → q ≠ e + 1 → q ≠ e + 2 → M' q = M q) → Q (some (.int v)) (w, Sh, M', ML)) : VL_day_297 (mrnT mTb (D + 2)) Q e (e + 1) (e + 2) 51 v (nI 0) w Sh M ML := by
  refine up (i0 := 0) (P := fun p => ∀ M' : mI, AR n (hunF g (fbL L) p) (M' e) (M' (e + 1)) (M' (e + 2)) → (∀ q, q ≠ e + 1 → M' q = M q) → VL_day_297 (mrnT mTb (D + 2)) Q e (e + 1) (e + 2) 51 v (nI p) w Sh M' ML) n (Nat.zero_le _) ?_ ?_ M (by rw [hunF_0]; exact hA) (fun _ _ => rfl)
  · intro M1 h1 h2
    obtain ⟨x0, x1, x2, x3, x4⟩ := AR_x h1
    have hPB := hun_PB hg (fbL L) h8
    have hb19 : 0 ≤ (hunF g (fbL L) n 19).toInt ∧ (hunF g (fbL L) n 19).toInt ≤ 99 := hPB.ok (p := 19) (by omega)
    have h372 : ∀ M2 : mI, AR n (dayF (hunF g (fbL L) n)) (M2 e) (M2 (e + 1)) (M2 (e + 2)) → (∀ q, q ≠ e → q ≠ e + 1 → M2 q = M q) → VL_day_372 (mrnT mTb (D + 2)) Q e (e + 2) v w Sh M2 ML := by
      intro M2 g1 g2
      obtain ⟨y0, y1, y2, y3, y4⟩ := AR_x g1
      have K2 := K
      unfold endF at K2
      generalize dayF (hunF g (fbL L) n) = G at *
      refine BL_day_372 ⟨hX.cell 2 (by omega), ?_⟩
      rw [y2]
      by_cases c1 : G 17 = nI 0
      · rw [if_pos c1] at K2
        exact cT c1 (K2 M2 g1 (fun q a b _ => g2 q a b))
      · rw [if_neg c1] at K2
        refine cF c1 ⟨hX.cell 4 (by omega), hX.cell 2 (by omega), c1, ?_⟩
        rw [y4]
        by_cases c2 : G 19 - G 19 / G 17 * G 17 = nI 0
        · rw [if_pos c2] at K2
          exact cT c2 (l_fade hx hF g1 (fun M3 k1 k2 => K2 M3 k1 (fun q a b c => (k2 q c).trans (g2 q a b))))
        · rw [if_neg c2] at K2
          exact cF c2 (K2 M2 g1 (fun q a b _ => g2 q a b))
    refine BL_day_297 ⟨hX.cell 0 (by omega), cT (by rw [x0]; exact nI_le (Nat.le_refl _) (by omega)) ⟨hX.cell 4 (by omega), ?_⟩⟩
    rw [x4]
    by_cases c : nI 99 ≤ hunF g (fbL L) n 19
    · refine cT c (h372 M1 ?_ (fun q a b => h2 q b))
      have : dayF (hunF g (fbL L) n) = hunF g (fbL L) n := by
        unfold dayF
        rw [show mn (hunF g (fbL L) n 19 + nI 1) (nI 99) = hunF g (fbL L) n 19 from ?_, mput_id]
        have e1 : (nI 1).toInt = 1 := by decide
        have e99 : (nI 99).toInt = 99 := by decide
        rw [fa_le, e99] at c
        rw [fa_eq, mn_ti, ti_add (by omega) (by omega) (by omega) (by omega)]
        omega
      rw [this]
      exact h1
    · refine cF c ⟨hX.cell 4 (by omega), hX.cell 4 (by omega), h372 _ ?_ (fun q a b => by rw [mup_n a]; exact h2 q b)⟩
      simp (disch := omega) only [mup_n, mup_s]
      have : dayF (hunF g (fbL L) n) = mput (hunF g (fbL L) n) 19 (hunF g (fbL L) n 19 + nI 1) := by
        unfold dayF
        congr 1
        have e1 : (nI 1).toInt = 1 := by decide
        have e99 : (nI 99).toInt = 99 := by decide
        rw [fa_le, e99] at c
        rw [fa_eq, mn_ti, ti_add (by omega) (by omega) (by omega) (by omega)]
        omega
      rw [this]
      exact AR_day h1
  · intro p _ hp ih M1 h1 h2
    obtain ⟨x0, x1, x2, x3, x4⟩ := AR_x h1
    refine BL_day_297 ⟨hX.cell 0 (by omega), cF (by rw [x0]; exact nI_ge hp (by omega)) ⟨p, hW.cell p (by omega), ?_⟩⟩
    rw [h2 51 (by omega), hwho p (by omega), nI_add]
    have hs := hunF_s (f := g) (fed := fbL L) (p := p) (by omega)
    rw [hs] at ih
    have h8' := wgL_8 h8 hL (p := p)
    have hle := wgL_le h8 hL p
    by_cases c : fbL L p = false
    · rw [if_pos c] at ih
      refine cT (by rw [h8'.mpr c]) ⟨2 * p, hH.ok (by rw [pk_mul]) (by omega), hX.cell 3 (by omega), ?_⟩
      rw [AR_h h1 (by omega), x3]
      have go : ∀ x : Int32, x = mn (hunF g (fbL L) p p + hunF g (fbL L) p 18) (nI 99) → VL_day_297 (mrnT mTb (D + 2)) Q e (e + 1) (e + 2) 51 v (nI (p + 1)) w Sh (mup M1 (e + 1) (mput (M1 (e + 1)) (2 * p) x)) ML := fun x hx' => by
        refine ih _ ?_ (fun q a => by rw [mup_n a]; exact h2 q a)
        simp (disch := omega) only [mup_n, mup_s]
        rw [hx']
        exact AR_put h1 (by omega)
      by_cases c2 : hunF g (fbL L) p p + hunF g (fbL L) p 18 ≤ nI 99
      · refine cT c2 ⟨2 * p, hH.ok (by rw [pk_mul]) (by omega), hX.cell 3 (by omega), 2 * p, hH.ok (by rw [pk_mul]) (by omega), ?_⟩
        refine go _ ?_
        rw [AR_h h1 (by omega)]
        unfold mn
        rw [if_neg (fun q => (fa_of_lt q).2.1 c2)]
      · refine cF c2 ⟨2 * p, hH.ok (by rw [pk_mul]) (by omega), go _ ?_⟩
        unfold mn
        rw [if_pos (fa_of_nle c2)]
    · rw [if_neg c] at ih
      exact cF (by rw [nI_eq (by omega) (by omega)]; exact fun q => c (h8'.mp q)) (ih M1 h1 h2)
theorem l_day (hx : e = 46 ∨ 51 < e) (hX : asz Sh e 5) (hH : asz Sh (e + 1) 16) (hF : asz Sh (e + 2) 64) (hB : asz Sh 49 3) (hW : asz Sh 51 8) (hL : LB La (MI 49)) (h8 : n ≤ 8) (hg : PB g) (hA : AR n g (MI e) (MI (e + 1)) (MI (e + 2))) : ∃ M, mrnT mTb (D + 3) 282 [.ref e, .ref (e + 1), .ref (e + 2), .ref 49, .ref 51] (w, Sh, MI, ML) (some (.int (nI (dyL La n g).length))) (w, Sh, M, ML) ∧ AR n (dyF La n g) (M e) (M (e + 1)) (M (e + 2)) ∧ (∀ p, p < 8 → M 51 p = nI (wgL (dyL La n g) p)) ∧ ∀ q, q ≠ e → q ≠ e + 1 → q ≠ e + 2 → q ≠ 51 → M q = MI q := by
  suffices h : VL_day_0 (mrnT mTb (D + 2)) (fun v S => v = some (.int (nI (dyL La n g).length)) ∧ ∃ M, S = (w, Sh, M, ML) ∧ AR n (dyF La n g) (M e) (M (e + 1)) (M (e + 2)) ∧ (∀ p, p < 8 → M 51 p = nI (wgL (dyL La n g) p)) ∧ ∀ q, q ≠ e → q ≠ e + 1 → q ≠ e + 2 → q ≠ 51 → M q = MI q) e (e + 1) (e + 2) 49 51 w Sh MI ML by
    obtain ⟨v, S', ⟨rfl, M, rfl, k⟩, h⟩ := EL_day (by rintro _ _ ⟨-, M, rfl, -⟩; exact ⟨Nat.le_refl _, Nat.le_refl _⟩) h
    exact ⟨M, h, k⟩
  refine BL_day_0 ?_
  -- nobody weighed yet
  refine up (i0 := 0) (P := fun i => ∀ M : mI, (∀ p, p < i → M 51 p = nI 8) → (∀ q, q ≠ 51 → M q = MI q) → VL_day_12 (mrnT mTb (D + 2)) _ e (e + 1) (e + 2) 49 51 (nI 0) (nI 0) (nI 0) (nI i) w Sh M ML) 8 (by decide) ?_ ?_ MI (fun p hp => absurd hp (Nat.not_lt_zero _)) (fun _ _ => rfl)
  rotate_left
  · intro i _ hi ih M h1 h2
    refine BL_day_12 (cF (nI_ge hi (by omega)) ⟨i, hW.cell i hi, ?_⟩)
    rw [nI_add]
    refine ih _ (fun p hp => ?_) (fun q a => by rw [mup_n a]; exact h2 q a)
    rw [mup_s]
    by_cases c : p = i
    · subst c; rw [mput_s]
    · rw [mput_n c]; exact h1 p (by omega)
  · intro M h1 h2
    refine BL_day_12 (cT (by decide) ?_)
    -- the turns
    refine up (i0 := 0) (P := fun k => ∀ (M : mI) (u5 u6 u7 : Int32), DI e n k La g u5 u6 u7 MI M → VL_day_35 (mrnT mTb (D + 2)) _ e (e + 1) (e + 2) 49 51 u5 u6 u7 (nI k) w Sh M ML) n (Nat.zero_le _) ?_ ?_ M _ _ _ ⟨by rw [h2 e (by omega), h2 (e + 1) (by omega), h2 (e + 2) (by omega)]; exact hA, rfl, fun i hi => bt_0 i, fun i hi => bt_0 i, h1, fun q _ _ _ a => h2 q a⟩
    rotate_left
    · intro k _ hk ih M u5 u6 u7 hD
      exact l_turn hx hX hH hF hB hW hL h8 hg hk hD ih
    · intro M u5 u6 u7 hD
      obtain ⟨t1, t2, t3, t4, t5, t6⟩ := trn_ok (La := La) h8 hg n (Nat.le_refl _)
      obtain ⟨hA', rfl, hw6, hT7, hwho, hfr⟩ := hD
      refine BL_day_35 ⟨hX.cell 0 (by omega), cT (by rw [hA'.1]; exact nI_le (Nat.le_refl _) (by omega)) ?_⟩
      exact l_end (L := (trn La n g n).2.1) hx hX hH hF hW h8 t1 t2 hA' hwho (fun M' k1 k2 => ⟨rfl, M', rfl, k1, fun p hp => (by rw [k2 51 (by omega) (by omega) (by omega)]; exact hwho p hp), fun q a b c d => (k2 q a b c).trans (hfr q a b c d)⟩)
end L90
