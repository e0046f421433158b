/-! a day: the model buys, goes by -/
theorem mn_eq (s c : Int32) : (if s < c then s else c) = mn s c := (mm2 s c).symm
section DM2
variable {D n : Nat} {Q : Option Value → mI → mJ → Prop} {ML : mJ}
theorem t_buys_end {told : Bool} {b w fr c : Nat} {o s2 : Int32} {f : Nat → Int32} {N : mI} (hb : b < 8) (hw : w < 8) (hN : N 61 = f) (h30 : N 46 30 = bI told) (hc : told = true → N 46 37 = nI c ∧ c + 9 ≤ 72) (hs : s2 = mx (f b - o) (nI 0)) (K : ∀ M : mI, M 61 = mput (mput f (20 + w * 8 + b) (mn (f (20 + w * 8 + b) + f 16) (nI 9))) b (mx (f b - o) (nI 0)) → (∀ q, q ≠ 46 → q ≠ 61 → q ≠ 71 → M q = N q) → (∀ j, j ≠ 37 → M 46 j = N 46 j) → (M 46 37 = if told then nI (c + (tl1 (b, w, fr, o)).length) else N 46 37) → (M 71 = if told then wf (N 71) c (tl1 (b, w, fr, o)) else N 71) → Q none M ML) : VX11_buys_168 (D + 2) Q (nI b) (nI w) o (nI fr) (nI b) s2 N ML := by
  refine BX11_buys_168 ⟨b, rfl, by omega, usei t_felt (usei t_felt ⟨20 + w * 8 + b, rfl, by omega, 20 + w * 8 + b, rfl, by omega, ?_⟩)⟩
  simp (disch := omega) only [mup_n, mup_s, mput_n, mput_s, mup_mup]
  rw [hN, h30, bI_0, mn_eq, hs]
  have e : mput (mput f b (mx (f b - o) (nI 0))) (20 + w * 8 + b) (mn (f (20 + w * 8 + b) + f 16) (nI 9)) = mput (mput f (20 + w * 8 + b) (mn (f (20 + w * 8 + b) + f 16) (nI 9))) b (mx (f b - o) (nI 0)) := mput_cm (by omega)
  rw [e]
  refine br (fun h => ?_) (fun h => ?_)
  · subst h
    exact K _ mup_s (fun q _ h61 _ => mup_n h61) (fun j _ => by rw [mup_n (by decide)]) (by rw [mup_n (by decide)]; rfl) (by rw [mup_n (by decide)]; rfl)
  · have ht : told = true := by simpa using h
    subst ht
    obtain ⟨c1, c2⟩ := hc rfl
    have hl := tl1_len (b, w, fr, o)
    generalize hG : mup N 61 (mput (mput f (20 + w * 8 + b) (mn (f (20 + w * 8 + b) + f 16) (nI 9))) b (mx (f b - o) (nI 0))) = G
    have hG46 : G 46 = N 46 := by rw [← hG]; exact mup_n (by decide)
    refine usev (t_tells (q := (b, w, fr, o)) (c := c) (MI := G) (by rw [hG46]; exact c1) (by omega)) ?_
    refine K _ ?_ ?_ ?_ ?_ ?_
    · unfold wtS
      simp (disch := omega) only [mup_n, mup_s, mput_n, mput_s, mup_mup]
      rw [← hG, mup_s]
    · intro q h46 h61 h71
      unfold wtS
      rw [mup_n h46, mup_n h71, ← hG, mup_n h61]
    · intro j hj
      unfold wtS
      rw [mup_s, mput_n hj, hG46]
    · rw [wtS_c]; rfl
    · unfold wtS
      simp (disch := omega) only [mup_n, mup_s, mput_n, mput_s, mup_mup]
      rw [← hG, mup_n (by decide)]; rfl
theorem t_buys {La : mLaw} {L : List dR} {b : Nat} {told : Bool} {MI M0 : mI} (hn : MI 46 6 = nI n) (h8 : n ≤ 8) (hb : b < n) (hf : PB (MI 61)) (hw : wfL La) (hL : LM La (MI 46 17) (MI 53) (MI 56) (MI 57)) (hl : L.length < n) (hfb : fbL L b = false) (hW : RM n told L MI M0) (h30 : MI 46 30 = bI told) : ∃ M, mrc (D + 6) 215 [.ref 46, .int (nI b)] MI ML none M ML ∧ M 61 = (srv La n (MI 61) L b).1 ∧ RM n told (srv La n (MI 61) L b).2 M M0 ∧ FM M MI ∧ M 63 = MI 63 := by
  obtain ⟨w1, w2, w3, w4, w5, w6, w7⟩ := hW
  suffices h : VX11_buys_0 (D + 5) (fun v M L' => v = none ∧ L' = ML ∧ M 61 = (srv La n (MI 61) L b).1 ∧ RM n told (srv La n (MI 61) L b).2 M M0 ∧ FM M MI ∧ M 63 = MI 63) (nI b) MI ML by
    obtain ⟨v, M, L', ⟨rfl, rfl, hr⟩, h⟩ := EX11_buys h
    exact ⟨M, h, hr⟩
  refine BX11_buys_0 ?_
  have hfo := frd_ok (MI 61) b 8 n
  have hdg := hf.dg (b := b) (by omega)
  unfold srv
  by_cases h1 : (frd (MI 61) b 8 n).1 = 8
  · rw [if_pos h1]
    refine up (P := fun i => VX11_buys_10 (D + 5) _ (nI b) (-1) (-1) (-1) (nI i) MI ML) n (Nat.zero_le _) ?_ ?_
    · exact BX11_buys_10 (cT (by rw [hn]; exact nI_le (Nat.le_refl _) (by omega)) (cT rfl ⟨rfl, rfl, rfl, ⟨w1, w2, w3, w4, w5, w6, w7⟩, fun _ _ _ _ _ _ _ _ _ _ => rfl, rfl⟩))
    · intro i _ hi ih
      refine BX11_buys_10 (cF (by rw [hn]; exact nI_ge hi (by omega)) (usei (t_friendOf (n := n) hn h8 (by omega) (by omega) hdg) ?_))
      rw [nI_eq (by omega) (by omega), nI_add]
      refine br (fun _ => ih) (fun _ => usei t_felt ⟨20 + i * 8 + b, rfl, by omega, br (fun _ => ih) (fun h2 => ⟨i, rfl, by omega, br (fun _ => ?_) (fun _ => ih)⟩)⟩)
      have hlt : MI 61 (20 + i * 8 + b) ≤ nI 0 := (fa_of_lt (fa_of_nle h2)).1
      rw [frd_w hlt n h8, h1]
      exact cT rfl ih
  · rw [if_neg h1]
    have hfo := hfo.resolve_left (fun q => h1 q.1)
    generalize hfr : (frd (MI 61) b 8 n).1 = fr at *
    refine up (P := fun i => ∀ M : mI, (∀ q, q ≠ 58 → q ≠ 59 → M q = MI q) → VX11_buys_10 (D + 5) _ (nI b) (fI (bst La (MI 61) b fr L i).1) (bst La (MI 61) b fr L i).2 (if (bst La (MI 61) b fr L i).1 = 8 then -1 else nI fr) (nI i) M ML) n (Nat.zero_le _) ?_ ?_ MI (fun _ _ _ => rfl)
    · intro M hM
      have e46 : M 46 = MI 46 := hM 46 (by decide) (by decide)
      have hbo := bst_ok La (MI 61) b fr L n
      refine BX11_buys_10 (cT (by rw [e46, hn]; exact nI_le (Nat.le_refl _) (by omega)) ?_)
      rw [fI_no (by rcases hbo with q | q <;> omega)]
      refine br (fun h2 => ?_) (fun h2 => ?_)
      · rw [if_pos h2]
        exact ⟨rfl, rfl, hM 61 (by decide) (by decide), ⟨by rw [e46]; exact w1, by rw [hM 62 (by decide) (by decide)]; exact w2, by rw [hM 64 (by decide) (by decide)]; exact w3, by rw [hM 65 (by decide) (by decide)]; exact w4, by rw [e46]; exact w5, by rw [hM 71 (by decide) (by decide)]; exact w6, by rw [e46]; exact w7⟩, fun q _ q58 q59 _ _ _ _ _ _ => hM q q58 q59, hM 63 (by decide) (by decide)⟩
      · rw [if_neg h2, if_neg h2, fI_yes h2]
        have hbo := hbo.resolve_left (fun q => h2 q.1)
        generalize hww : (bst La (MI 61) b fr L n).1 = w at *
        generalize hoo : (bst La (MI 61) b fr L n).2 = o at *
        have bb := (okv_hu (i := b) (by omega)).mp (hf.ok (p := b) (by omega))
        have hms := mx_sub bb.1 bb.2 hbo.2.2.2.1 hbo.2.2.2.2
        have htl := tlB_len L
        have e11 : nI 1 &&& 1 = nI 1 := by decide
        refine ⟨b, rfl, by omega, w, rfl, by omega, b, rfl, by omega, b, rfl, by omega, ?_⟩
        have hfin : ∀ (N : mI) (s2 : Int32), N = mup (mup (mup (mup M 62 (mput (M 62) b (nI 1))) 64 (mput (M 64) w (nI 1))) 65 (mput (M 65) b (nI w))) 46 (mput (M 46) 29 (nI (L.length + 1))) → s2 = mx (MI 61 b - o) (nI 0) → VX11_buys_168 (D + 3 + 2) (fun v M L' => v = none ∧ L' = ML ∧ M 61 = mput (mput (MI 61) (20 + w * 8 + b) (mn (MI 61 (20 + w * 8 + b) + MI 61 16) (nI 9))) b (mx (MI 61 b - o) (nI 0)) ∧ RM n told (L ++ [(b, w, fr, o)]) M M0 ∧ FM M MI ∧ M 63 = MI 63) (nI b) (nI w) o (nI fr) (nI b) s2 N ML := by
          intro N s2 hN hs2
          have n61 : N 61 = MI 61 := by
            rw [hN]
            simp (disch := omega) only [mup_n, mup_s, mput_n, mput_s, mup_mup]
            exact hM 61 (by decide) (by decide)
          have n46 : ∀ j, j ≠ 29 → N 46 j = MI 46 j := by
            intro j hj
            rw [hN, mup_s, mput_n hj, e46]
          refine t_buys_end (told := told) (c := (tlB L).length) (f := MI 61) (by omega) (by omega) n61 (by rw [n46 30 (by decide)]; exact h30) (fun ht => ?_) hs2 (fun M2 m61 mq m46 m37 m71 => ?_)
          · subst ht
            exact ⟨by rw [n46 37 (by decide), w5]; rfl, by omega⟩
          · have k62 : M2 62 = mput (M 62) b (nI 1) := by
              rw [mq 62 (by decide) (by decide) (by decide), hN]
              simp (disch := omega) only [mup_n, mup_s, mput_n, mput_s, mup_mup]
            have k64 : M2 64 = mput (M 64) w (nI 1) := by
              rw [mq 64 (by decide) (by decide) (by decide), hN]
              simp (disch := omega) only [mup_n, mup_s, mput_n, mput_s, mup_mup]
            have k65 : M2 65 = mput (M 65) b (nI w) := by
              rw [mq 65 (by decide) (by decide) (by decide), hN]
              simp (disch := omega) only [mup_n, mup_s, mput_n, mput_s, mup_mup]
            have k71 : N 71 = MI 71 := by
              rw [hN]
              simp (disch := omega) only [mup_n, mup_s, mput_n, mput_s, mup_mup]
              exact hM 71 (by decide) (by decide)
            refine ⟨rfl, rfl, m61, ⟨?_, fun i hi => ?_, fun i hi => ?_, fun i hi => ?_, ?_, ?_, fun j j1 j2 => ?_⟩, fun q a1 a2 a3 a4 a5 a6 a7 a8 a9 => ?_, ?_⟩
            · rw [m46 29 (by decide), hN, List.length_append]
              simp (disch := omega) only [mup_n, mup_s, mput_n, mput_s, mup_mup]
              rfl
            · rw [k62, fbL_app]
              by_cases q : i = b
              · subst q
                rw [mput_s, decide_eq_true rfl, Bool.or_true]; rfl
              · rw [mput_n q, hM 62 (by decide) (by decide), w2 i hi, decide_eq_false (fun w => q w.symm), Bool.or_false]
            · rw [k64, wbL_app]
              by_cases q : i = w
              · subst q
                rw [mput_s, decide_eq_true rfl, Bool.or_true]; rfl
              · rw [mput_n q, hM 64 (by decide) (by decide), w3 i hi, decide_eq_false (fun w => q w.symm), Bool.or_false]
            · rw [k65, wgL_app hfb]
              by_cases q : i = b
              · subst q
                rw [mput_s, if_pos rfl]
              · rw [mput_n q, hM 65 (by decide) (by decide), w4 i hi, if_neg (fun w => q w.symm)]
            · rw [m37, n46 37 (by decide), w5, tlB_app, List.length_append]
              cases told <;> rfl
            · rw [m71, k71, w6, tlB_app]
              cases told
              · rfl
              · have := wf_app (M0 71) 0 (tlB L) (tl1 (b, w, fr, o))
                rw [Nat.zero_add] at this
                exact this
            · rw [m46 j j2, n46 j j1]
              exact w7 j j1 j2
            · rw [mq q a1 a4 a9, hN, mup_n a1, mup_n a8, mup_n a7, mup_n a5]
              exact hM q a2 a3
            · rw [mq 63 (by decide) (by decide) (by decide), hN]
              simp (disch := omega) only [mup_n, mup_s, mput_n, mput_s, mup_mup]
              exact hM 63 (by decide) (by decide)
        have m61 : M 61 = MI 61 := hM 61 (by decide) (by decide)
        simp (disch := omega) only [mup_n, mup_s, mput_n, mput_s, mup_mup]
        rw [e11, m61]
        rw [show M 46 29 = nI L.length by rw [e46]; exact w1, nI_add]
        refine br (fun h => ?_) (fun h => ⟨b, rfl, by omega, ?_⟩)
        · exact hfin _ _ rfl (by rw [hms, if_pos h])
        · exact hfin _ _ rfl (by rw [hms, if_neg h])
    · intro i _ hi ih M hM
      have e46 : M 46 = MI 46 := hM 46 (by decide) (by decide)
      have e61 : M 61 = MI 61 := hM 61 (by decide) (by decide)
      have e : bst La (MI 61) b fr L (i + 1) = if MI 61 (20 + i * 8 + b) < nI 0 ∧ wbL L i = false then (if lwO (wds (MI 61) b fr i L.length) La ≤ (bst La (MI 61) b fr L i).2 then bst La (MI 61) b fr L i else (i, lwO (wds (MI 61) b fr i L.length) La)) else bst La (MI 61) b fr L i := rfl
      refine BX11_buys_10 (cF (by rw [e46, hn]; exact nI_ge hi (by omega)) (usei (t_friendOf (n := n) (by rw [e46]; exact hn) h8 (by omega) (by omega) (by rw [e61]; exact hdg)) ?_))
      rw [nI_eq (by omega) (by omega), nI_add]
      refine br (fun h2 => ?_) (fun h2 => usei t_felt ⟨20 + i * 8 + b, rfl, by omega, br (fun h3 => ?_) (fun h3 => ⟨i, rfl, by omega, ?_⟩)⟩)
      · rw [e.trans (if_neg (fun q => by
          rw [h2, hdg] at q
          exact absurd q.1 (by decide)))] at ih
        exact ih M hM
      · rw [e61] at h3
        rw [e.trans (if_neg (fun q => (fa_of_lt q.1).2.1 h3))] at ih
        exact ih M hM
      · rw [e61] at h3
        have hlt := fa_of_nle h3
        rw [hM 64 (by decide) (by decide), w3 i hi, bI_0]
        refine br (fun h4 => ?_) (fun h4 => ?_)
        · have e := e.trans (if_pos ⟨hlt, h4⟩)
          rw [e61, frd_w (fa_of_lt hlt).1 n h8, hfr, fI_yes h1]
          refine cF (fun q => by
            have : ∀ x : Fin 8, ¬ nI x.val = -1 := by decide
            exact this ⟨fr, by omega⟩ q) ?_
          rw [e46, w1]
          obtain ⟨M2, m1, m2⟩ := t_weighedOut (D := D + 1) (ML := ML) (MI := M) (La := La) (b := b) (fr := fr) (w := i) (fed := L.length) hw (by rw [e46, hM 53 (by decide) (by decide), hM 56 (by decide) (by decide), hM 57 (by decide) (by decide)]; exact hL) (by omega) (by omega) (by omega)
          rw [e61] at m1
          have hM2 : ∀ q, q ≠ 58 → q ≠ 59 → M2 q = MI q := fun q q1 q2 => (m2 q q1 q2).trans (hM q q1 q2)
          refine usei m1 (br (fun h5 => ?_) (fun h5 => ?_))
          · rw [e.trans (if_pos h5)] at ih
            exact ih M2 hM2
          · rw [e.trans (if_neg h5)] at ih
            have := ih M2 hM2
            rw [show fI (i, lwO (wds (MI 61) b fr i L.length) La).1 = nI i from fI_yes (by show ¬ i = 8; omega), if_neg (show ¬ (i, lwO (wds (MI 61) b fr i L.length) La).1 = 8 from by show ¬ i = 8; omega)] at this
            exact this
        · rw [e.trans (if_neg (fun q => h4 q.2))] at ih
          exact ih M hM
theorem fdv_a {v : Int32} (h : ¬ v ≤ nI 0) : v + (-1) = fdv v := by
  unfold fdv
  rw [if_neg h, Int32.sub_eq_add_neg]; rfl
theorem fdv_b {v : Int32} (h : v ≤ nI 0) (h2 : nI 0 ≤ v) : v + nI 0 = fdv v := by
  unfold fdv
  rw [if_pos h, if_pos h2]
  have : v = nI 0 := by
    rw [fa_eq]
    rw [fa_le] at h h2
    omega
  rw [this]; rfl
theorem fdv_c {v : Int32} (h : v ≤ nI 0) (h2 : ¬ nI 0 ≤ v) : v + nI 1 = fdv v := by
  unfold fdv
  rw [if_pos h, if_neg h2]
theorem fad_st (f : Nat → Int32) {i : Nat} (h20 : 20 ≤ i) {v : Int32} (hv : v = fdv (f i)) : mput (fadF f i) i v = fadF f (i + 1) := by
  funext p
  unfold mput fadF
  by_cases hp : p = i
  · subst hp; rw [if_pos rfl, if_pos (by omega), hv]
  · rw [if_neg hp]
    by_cases h2 : 20 ≤ p ∧ p < i
    · rw [if_pos h2, if_pos (by omega)]
    · rw [if_neg h2, if_neg (by omega)]
theorem fad_20 (f : Nat → Int32) : fadF f 20 = f := by
  funext p
  unfold fadF
  rw [if_neg (by omega)]
theorem t_fade {MI : mI} (K : Q none (mup MI 61 (fadF (MI 61) 84)) ML) : VX11_goesBy_185 D Q (nI 20) MI ML := by
  suffices h : VX11_goesBy_185 D Q (nI 20) (mup MI 61 (fadF (MI 61) 20)) ML by
    rwa [fad_20, mup_id] at h
  refine up (P := fun i => VX11_goesBy_185 D Q (nI i) (mup MI 61 (fadF (MI 61) i)) ML) 84 (by decide) ?_ ?_
  · exact BX11_goesBy_185 (cT (by decide) K)
  · intro i h20 hi ih
    have er : fadF (MI 61) i i = MI 61 i := if_neg (by omega)
    refine BX11_goesBy_185 (cF (nI_ge hi (by omega)) ⟨i, rfl, hi, i, rfl, hi, ?_⟩)
    simp only [mup_s, er, mup_mup, nI_add]
    refine br (fun h1 => ⟨i, rfl, hi, br (fun h2 => ⟨i, rfl, hi, ?_⟩) (fun h2 => ⟨i, rfl, hi, ?_⟩)⟩) (fun h1 => ⟨i, rfl, hi, ?_⟩)
    · rw [fad_st _ h20 (fdv_b h1 (by rw [er] at h2; exact h2))]; exact ih
    · rw [fad_st _ h20 (fdv_c h1 (by rw [er] at h2; exact h2))]; exact ih
    · rw [fad_st _ h20 (fdv_a h1)]; exact ih
theorem hun_0 (f : Nat → Int32) (fed : Nat → Bool) : hunF f fed 0 = f := by
  funext p
  unfold hunF
  rw [if_neg (by omega)]
theorem hun_st {f : Nat → Int32} {fed : Nat → Bool} {i : Nat} (hi : i < 8) (h1 : fed i = false) : mput (hunF f fed i) i (mn (hunF f fed i i + hunF f fed i 18) (nI 99)) = hunF f fed (i + 1) := by
  funext p
  unfold mput
  by_cases hp : p = i
  · subst hp
    rw [if_pos rfl]
    unfold hunF
    rw [if_neg (by omega), if_neg (by omega), if_pos ⟨by omega, h1⟩]
  · rw [if_neg hp]
    unfold hunF
    by_cases q : p < i ∧ fed p = false
    · rw [if_pos q, if_pos ⟨by omega, q.2⟩]
    · rw [if_neg q, if_neg (fun z => q ⟨by omega, z.2⟩)]
theorem hun_sk {f : Nat → Int32} {fed : Nat → Bool} {i : Nat} (h1 : ¬ fed i = false) : hunF f fed i = hunF f fed (i + 1) := by
  funext p
  unfold hunF
  by_cases q : p < i ∧ fed p = false
  · rw [if_pos q, if_pos ⟨by omega, q.2⟩]
  · rw [if_neg q, if_neg]
    intro z
    have : p = i := by
      rcases Nat.lt_or_ge p i with w | w
      · exact absurd ⟨w, z.2⟩ q
      · omega
    subst this
    exact h1 z.2
theorem t_endDay {MI : mI} {fed : Nat → Bool} (hn : MI 46 6 = nI n) (h8 : n ≤ 8) (h62 : ∀ i, i < n → MI 62 i = bI (fed i)) (K : Q none (mup MI 61 (endF (MI 61) n fed)) ML) : VX11_goesBy_85 D Q (nI 0) MI ML := by
  suffices h : VX11_goesBy_85 D Q (nI 0) (mup MI 61 (hunF (MI 61) fed 0)) ML by
    rwa [hun_0, mup_id] at h
  refine up (P := fun i => VX11_goesBy_85 D Q (nI i) (mup MI 61 (hunF (MI 61) fed i)) ML) n (Nat.zero_le _) ?_ ?_
  · refine BX11_goesBy_85 (cT (by rw [mup_n (by decide), hn]; exact nI_le (Nat.le_refl _) (by omega)) ?_)
    simp only [mup_s, mup_mup]
    rw [show (if hunF (MI 61) fed n 19 + nI 1 < nI 99 then hunF (MI 61) fed n 19 + nI 1 else nI 99) = mn (hunF (MI 61) fed n 19 + nI 1) (nI 99) from mn_eq _ _]
    show (dayF (hunF (MI 61) fed n) 17 = nI 0 → _) ∧ (¬ dayF (hunF (MI 61) fed n) 17 = nI 0 → ¬ dayF (hunF (MI 61) fed n) 17 = nI 0 ∧ ((dayF (hunF (MI 61) fed n) 19 - dayF (hunF (MI 61) fed n) 19 / dayF (hunF (MI 61) fed n) 17 * dayF (hunF (MI 61) fed n) 17 = nI 0 → _) ∧ (¬ dayF (hunF (MI 61) fed n) 19 - dayF (hunF (MI 61) fed n) 19 / dayF (hunF (MI 61) fed n) 17 * dayF (hunF (MI 61) fed n) 17 = nI 0 → _)))
    unfold endF at K
    refine br (fun h1 => ?_) (fun h1 => ⟨h1, br (fun h2 => ?_) (fun h2 => ?_)⟩)
    · rw [if_pos h1] at K; exact K
    · rw [if_neg h1, if_pos h2] at K
      refine t_fade ?_
      rw [mup_mup, mup_s]
      exact K
    · rw [if_neg h1, if_neg h2] at K; exact K
  · intro i _ hi ih
    refine BX11_goesBy_85 (cF (by rw [mup_n (by decide), hn]; exact nI_ge hi (by omega)) ⟨i, rfl, by omega, ?_⟩)
    rw [mup_n (by decide), h62 i hi, bI_0]
    simp only [mup_s, mup_mup, nI_add]
    refine br (fun h1 => ⟨i, rfl, by omega, i, rfl, by omega, ?_⟩) (fun h1 => ?_)
    · rw [show (if hunF (MI 61) fed i i + hunF (MI 61) fed i 18 < nI 99 then hunF (MI 61) fed i i + hunF (MI 61) fed i 18 else nI 99) = mn (hunF (MI 61) fed i i + hunF (MI 61) fed i 18) (nI 99) from mn_eq _ _, hun_st (by omega) h1]; exact ih
    · rw [hun_sk h1]; exact ih
theorem t_goesBy {La : mLaw} {told : Bool} {MI : mI} (hn : MI 46 6 = nI n) (h8 : n ≤ 8) (hf : PB (MI 61)) (hw : wfL La) (hL : LM La (MI 46 17) (MI 53) (MI 56) (MI 57)) (h30 : MI 46 30 = bI told) (h37 : told = true → MI 46 37 = nI 0) : ∃ M, mrc (D + 7) 216 [.ref 46] MI ML none M ML ∧ M 61 = dyF La n (MI 61) ∧ RM n told (dyL La n (MI 61)) M MI ∧ FM M MI := by
  suffices h : VX11_goesBy_0 (D + 6) (fun v M L' => v = none ∧ L' = ML ∧ M 61 = dyF La n (MI 61) ∧ RM n told (dyL La n (MI 61)) M MI ∧ FM M MI) MI ML by
    obtain ⟨v, M, L', ⟨rfl, rfl, hr⟩, h⟩ := EX11_goesBy h
    exact ⟨M, h, hr⟩
  refine BX11_goesBy_0 ?_
  refine up (P := fun i => ∀ M : mI, M 46 = mput (MI 46) 29 (nI 0) → (∀ q, q ≠ 46 → q ≠ 62 → q ≠ 63 → q ≠ 64 → q ≠ 65 → M q = MI q) → (∀ p, p < i → M 62 p = nI 0 ∧ M 63 p = nI 0 ∧ M 64 p = nI 0 ∧ M 65 p = nI 8) → VX11_goesBy_7 (D + 6) _ (nI i) M ML) n (Nat.zero_le _) ?_ ?_ _ mup_s (fun q h46 _ _ _ _ => mup_n h46) (fun p hp => absurd hp (Nat.not_lt_zero _))
  · intro M m46 mq m0
    refine BX11_goesBy_7 (cT (by rw [m46, mput_n (by decide), hn]; exact nI_le (Nat.le_refl _) (by omega)) ?_)
    refine up (P := fun t => ∀ M : mI, M 61 = (trn La n (MI 61) t).1 → RM n told (trn La n (MI 61) t).2.1 M MI → (∀ p, p < n → M 63 p = bI ((trn La n (MI 61) t).2.2 p)) → FM M MI → VX11_goesBy_52 (D + 6) _ (nI t) M ML) n (Nat.zero_le _) ?_ ?_ M (mq 61 (by decide) (by decide) (by decide) (by decide) (by decide)) ?_ (fun p hp => (m0 p hp).2.1) (fun q a1 a2 a3 a4 a5 a6 a7 a8 a9 => mq q a1 a5 a6 a7 a8)
    · intro M ha hW hx hFM
      obtain ⟨w1, w2, w3, w4, w5, w6, w7⟩ := hW
      have k6 : M 46 6 = nI n := by rw [w7 6 (by decide) (by decide)]; exact hn
      refine BX11_goesBy_52 (cT (by rw [k6]; exact nI_le (Nat.le_refl _) (by omega)) (t_endDay (n := n) k6 h8 w2 ?_))
      rw [ha]
      refine ⟨rfl, rfl, mup_s, ⟨by simp (disch := omega) only [mup_n, mup_s, mput_n, mput_s, mup_mup]; exact w1, by simp (disch := omega) only [mup_n, mup_s, mput_n, mput_s, mup_mup]; exact w2, by simp (disch := omega) only [mup_n, mup_s, mput_n, mput_s, mup_mup]; exact w3, by simp (disch := omega) only [mup_n, mup_s, mput_n, mput_s, mup_mup]; exact w4, by simp (disch := omega) only [mup_n, mup_s, mput_n, mput_s, mup_mup]; exact w5, by simp (disch := omega) only [mup_n, mup_s, mput_n, mput_s, mup_mup]; exact w6, by simp (disch := omega) only [mup_n, mup_s, mput_n, mput_s, mup_mup]; exact w7⟩, fun q a1 a2 a3 a4 a5 a6 a7 a8 a9 => (mup_n a4).trans (hFM q a1 a2 a3 a4 a5 a6 a7 a8 a9)⟩
    · intro t _ ht ih M ha hW hx hFM
      have k6 : M 46 6 = nI n := by rw [hW.2.2.2.2.2.2 6 (by decide) (by decide)]; exact hn
      obtain ⟨p1, p2, p3, p4, p5, p6⟩ := trn_ok (La := La) h8 hf t (by omega)
      obtain ⟨b1, b2⟩ := trn_b (La := La) h8 hf ht
      refine BX11_goesBy_52 (cF (by rw [k6]; exact nI_ge ht (by omega)) (usei (t_nextBuyer (n := n) k6 h8 (fun i hi => by rw [ha]; exact ((okv_hu hi).mp (p1.ok (p := i) (by omega))).1) hx) ?_))
      rw [ha, fI_yes (by omega)]
      obtain ⟨M2, m1, m2, m3, m4, m5⟩ := t_buys (D := D) (ML := ML) (MI := M) (M0 := MI) (La := La) (told := told) (L := (trn La n (MI 61) t).2.1) (b := (hgr (trn La n (MI 61) t).1 (trn La n (MI 61) t).2.2 n).1) k6 h8 b1 (by rw [ha]; exact p1) hw (by rw [hW.2.2.2.2.2.2 17 (by decide) (by decide), hFM 53 (by decide) (by decide) (by decide) (by decide) (by decide) (by decide) (by decide) (by decide) (by decide), hFM 56 (by decide) (by decide) (by decide) (by decide) (by decide) (by decide) (by decide) (by decide) (by decide), hFM 57 (by decide) (by decide) (by decide) (by decide) (by decide) (by decide) (by decide) (by decide) (by decide)]; exact hL) (by omega) (p5 _ b2) hW (by rw [hW.2.2.2.2.2.2 30 (by decide) (by decide)]; exact h30)
      refine usev m1 ⟨_, rfl, by omega, ?_⟩
      rw [nI_add]
      rw [ha] at m2 m3
      obtain ⟨w1, w2, w3, w4, w5, w6, w7⟩ := m3
      refine ih _ (by simp (disch := omega) only [mup_n, mup_s, mput_n, mput_s, mup_mup]; exact m2) ⟨by simp (disch := omega) only [mup_n, mup_s, mput_n, mput_s, mup_mup]; exact w1, by simp (disch := omega) only [mup_n, mup_s, mput_n, mput_s, mup_mup]; exact w2, by simp (disch := omega) only [mup_n, mup_s, mput_n, mput_s, mup_mup]; exact w3, by simp (disch := omega) only [mup_n, mup_s, mput_n, mput_s, mup_mup]; exact w4, by simp (disch := omega) only [mup_n, mup_s, mput_n, mput_s, mup_mup]; exact w5, by simp (disch := omega) only [mup_n, mup_s, mput_n, mput_s, mup_mup]; exact w6, by simp (disch := omega) only [mup_n, mup_s, mput_n, mput_s, mup_mup]; exact w7⟩ (fun p hp => ?_) (fun q a1 a2 a3 a4 a5 a6 a7 a8 a9 => (mup_n a6).trans ((m4 q a1 a2 a3 a4 a5 a6 a7 a8 a9).trans (hFM q a1 a2 a3 a4 a5 a6 a7 a8 a9)))
      rw [mup_s, m5]
      show _ = bI ((trn La n (MI 61) t).2.2 p || decide (p = (hgr (trn La n (MI 61) t).1 (trn La n (MI 61) t).2.2 n).1))
      by_cases q : p = (hgr (trn La n (MI 61) t).1 (trn La n (MI 61) t).2.2 n).1
      · rw [decide_eq_true q, Bool.or_true, q, mput_s]; decide
      · rw [mput_n q, decide_eq_false q, Bool.or_false]
        exact hx p hp
    · refine ⟨by rw [m46, mput_s]; rfl, fun i hi => (m0 i hi).1, fun i hi => (m0 i hi).2.2.1, fun i hi => (m0 i hi).2.2.2, ?_, ?_, fun j j1 _ => by rw [m46, mput_n j1]⟩
      · rw [m46, mput_n (by decide)]
        cases told
        · rfl
        · exact h37 rfl
      · rw [mq 71 (by decide) (by decide) (by decide) (by decide) (by decide)]
        cases told
        · rfl
        · exact (wf_0 _ _).symm
  · intro i _ hi ih M m46 mq m0
    refine BX11_goesBy_7 (cF (by rw [m46, mput_n (by decide), hn]; exact nI_ge hi (by omega)) ⟨i, rfl, by omega, i, rfl, by omega, i, rfl, by omega, i, rfl, by omega, ?_⟩)
    rw [nI_add]
    refine ih _ (by simp (disch := omega) only [mup_n, mup_s, mput_n, mput_s, mup_mup]; exact m46) (fun q q46 q62 q63 q64 q65 => by rw [mup_n q65, mup_n q64, mup_n q63, mup_n q62]; exact mq q q46 q62 q63 q64 q65) (fun p hp => ?_)
    simp (disch := omega) only [mup_n, mup_s, mput_n, mput_s, mup_mup]
    by_cases q : p = i
    · subst q
      simp (disch := omega) only [mup_n, mup_s, mput_n, mput_s, mup_mup]
      exact ⟨by decide, by decide, by decide, trivial⟩
    · simp only [mput_n q]
      exact m0 p (by omega)
end DM2
