/-! day in deed: pair -/
theorem wcS_o {l : List Int32} {c q : Nat} {MI : mI} (h1 : q ≠ 33) (h2 : q ≠ 35) : wcS l c MI q = MI q := by
  unfold wcS
  rw [mup_n h1, mup_n h2]
theorem lt10 {o : Int32} : o < nI 10 ↔ o ≤ nI 9 := by
  rw [fa_lt, fa_le, nI_toInt (by omega), nI_toInt (by omega)]
  omega
section T64
variable {D n : Nat} {La : mLaw} {MI : mI} {ML : mJ} {Q : Option Value → mI → mJ → Prop}
theorem s_tell33 {L : List dR} {B : mI} (hl : L.length ≤ 8) (h0 : B 28 0 = nI L.length) (hr : ∀ j, j < L.length → B 29 j = nI (L.getD j d0R).1 ∧ B 30 j = nI (L.getD j d0R).2.1 ∧ B 31 j = nI (L.getD j d0R).2.2.1 ∧ B 32 j = (L.getD j d0R).2.2.2) (K : Q none (wcS (tlB L) 0 B) ML) : ∀ (R P : List dR), L = P ++ R → VX1_tell_33 (D + 1) Q 28 29 30 31 32 (nI P.length) (wcS (tlB P) 0 B) ML
  | [], P, hL => by
    rw [List.append_nil] at hL
    subst hL
    exact BX1_tell_33 rd28 (cT (by rw [wcS_o (by decide) (by decide), h0]; exact nI_le (Nat.le_refl _) (by omega)) K)
  | q :: R, P, hL => by
    have hlen : L.length = P.length + (R.length + 1) := by rw [hL, List.length_append, List.length_cons]
    have eq : L.getD P.length d0R = q := by
      rw [hL]
      simp [List.getD_eq_getElem?_getD]
    obtain ⟨r1, r2, r3, r4⟩ := hr P.length (by omega)
    rw [eq] at r1 r2 r3 r4
    have hb := tlB_len P
    have h1 := tl1_len q
    have ih := s_tell33 hl h0 hr K R (P ++ [q]) (by rw [hL, List.append_assoc]; rfl)
    rw [List.length_append, tlB_app] at ih
    refine BX1_tell_33 rd28 (cF (by rw [wcS_o (by decide) (by decide), h0]; exact nI_ge (by omega) (by omega)) (cF (nI_ge (by omega) (by omega)) ⟨P.length, rfl, by omega, ?_⟩))
    rw [wcS_o (by decide) (by decide), r1]
    by_cases ho : q.2.2.2 ≤ nI 9
    · have e : tlB P ++ tl1 q = tlB P ++ [nI 48 + nI q.1] ++ [nI 60] ++ [nI 48 + nI q.2.1] ++ [nI 124] ++ [nI 48 + nI q.2.2.1] ++ [nI 58] ++ [nI 48 + (q.2.2.2 - q.2.2.2 / nI 10 * nI 10)] ++ [nI 59] := by
        unfold tl1
        rw [if_pos ho]
        simp only [List.append_assoc, List.nil_append, List.cons_append]
      rw [e] at ih
      refine usev (s_wr _ rfl (by omega)) (usev (s_wr _ rfl (by simp; omega)) ⟨P.length, rfl, by omega, ?_⟩)
      rw [wcS_o (by decide) (by decide), r2]
      refine usev (s_wr _ rfl (by simp; omega)) (usev (s_wr _ rfl (by simp; omega)) ⟨P.length, rfl, by omega, ?_⟩)
      rw [wcS_o (by decide) (by decide), r3]
      refine usev (s_wr _ rfl (by simp; omega)) (usev (s_wr _ rfl (by simp; omega)) ⟨P.length, rfl, by omega, ?_⟩)
      rw [wcS_o (by decide) (by decide), r4, lt10]
      refine cT ho (BX1_tell_131 rd28 ⟨P.length, rfl, by omega, ?_⟩)
      rw [wcS_o (by decide) (by decide), r4]
      refine usev (s_wr _ rfl (by simp; omega)) (usev (s_wr _ rfl (by simp; omega)) ?_)
      rw [nI_add]
      exact ih
    · have e : tlB P ++ tl1 q = tlB P ++ [nI 48 + nI q.1] ++ [nI 60] ++ [nI 48 + nI q.2.1] ++ [nI 124] ++ [nI 48 + nI q.2.2.1] ++ [nI 58] ++ [nI 48 + q.2.2.2 / nI 10] ++ [nI 48 + (q.2.2.2 - q.2.2.2 / nI 10 * nI 10)] ++ [nI 59] := by
        unfold tl1
        rw [if_neg ho]
        simp only [List.append_assoc, List.nil_append, List.cons_append]
      rw [e] at ih
      refine usev (s_wr _ rfl (by omega)) (usev (s_wr _ rfl (by simp; omega)) ⟨P.length, rfl, by omega, ?_⟩)
      rw [wcS_o (by decide) (by decide), r2]
      refine usev (s_wr _ rfl (by simp; omega)) (usev (s_wr _ rfl (by simp; omega)) ⟨P.length, rfl, by omega, ?_⟩)
      rw [wcS_o (by decide) (by decide), r3]
      refine usev (s_wr _ rfl (by simp; omega)) (usev (s_wr _ rfl (by simp; omega)) ⟨P.length, rfl, by omega, ?_⟩)
      rw [wcS_o (by decide) (by decide), r4, lt10]
      refine cF ho ⟨P.length, rfl, by omega, ?_⟩
      rw [r4]
      refine usev (s_wr _ rfl (by simp; omega)) (BX1_tell_131 rd28 ⟨P.length, rfl, by omega, ?_⟩)
      rw [wcS_o (by decide) (by decide), r4]
      refine usev (s_wr _ rfl (by simp; omega)) (usev (s_wr _ rfl (by simp; omega)) ?_)
      rw [nI_add]
      exact ih
def ctF (f : Nat → Int32) (fed n : Nat) : Nat → Int32 := mput (mput (mput f 0 (f 0 + nI 1)) 1 (f 1 + nI fed)) 2 (f 2 + (nI n - nI fed))
theorem s_tell {L : List dR} (hl : L.length ≤ 8) (hW : RW n 28 29 30 31 32 L MI) : mrc (D + 3) 31 [.ref 33, .ref 28, .int (nI n)] MI ML none (wcS (tlB L) 0 (mup (mup MI 34 (ctF (MI 34) L.length n)) 33 (mput (MI 33) 2 (nI 0)))) ML := by
  obtain ⟨w1, w2, w3, w4⟩ := hW
  refine mrc_of (EX1_tell (BX1_tell_0 rd28 (usev (s_bkAdd (d := 0) (by omega)) ?_)))
  rw [mup_n (by decide), w1]
  refine usev (s_bkAdd (d := 1) (by omega)) ?_
  rw [mup_n (by decide), mup_n (by decide), w1]
  refine usev (s_bkAdd (d := 2) (by omega)) ?_
  simp (disch := omega) only [mup_n, mup_s, mput_n, mput_s, mup_mup]
  generalize hB : mup (mup MI 34 (mput (mput (mput (MI 34) 0 (MI 34 0 + nI 1)) 1 (MI 34 1 + nI L.length)) 2 (MI 34 2 + (nI n - nI L.length)))) 33 (mput (MI 33) 2 (nI 0)) = B
  have hB33 : B 33 2 = nI 0 := by rw [← hB]; simp (disch := omega) only [mup_n, mup_s, mput_n, mput_s, mup_mup]
  have hBq : ∀ q, q ≠ 33 → q ≠ 34 → B q = MI q := fun q h1 h2 => by rw [← hB, mup_n h1, mup_n h2]
  have := s_tell33 (D := D + 1) (L := L) (B := B) (ML := ML) (Q := eR none (wcS (tlB L) 0 (mup (mup MI 34 (ctF (MI 34) L.length n)) 33 (mput (MI 33) 2 (nI 0)))) ML) hl (by rw [hBq 28 (by decide) (by decide)]; exact w1) (fun j hj => by
    rw [hBq 29 (by decide) (by decide), hBq 30 (by decide) (by decide), hBq 31 (by decide) (by decide), hBq 32 (by decide) (by decide)]
    exact w4 j hj) (vR (by rw [← hB]; rfl)) L [] rfl
  rw [show wcS (tlB []) 0 B = B from wcS_0 hB33] at this
  exact this
theorem p_day : Sim 158 241 [] := by
  intro MI ML hI
  obtain ⟨n, hIn⟩ := hI.1
  obtain ⟨La, hw, hC, hL⟩ := hI.2.2.2.1
  have hIn' := hIn
  obtain ⟨h8, hn, hm, hM, hP, z1, z2, z3, z4⟩ := hIn'
  obtain ⟨b1, tl, b2, b3, b4, b5⟩ := hI.2.2.2.2.2.2.1
  obtain ⟨M1, c1, c2, c3, c4⟩ := s_goByA (D := 292) (ML := ML) (MI := MI) (La := La) (n := n) hn h8 hP hw hC
  generalize hLL : dyL La n (MI 2) = L at *
  have hlen : L.length ≤ 8 := by
    have := (dyL_ok (La := La) h8 hP).2
    rw [hLL] at this
    omega
  have f1 : ∀ q, q ≠ 2 → (q < 28 ∨ 32 < q) → q ≠ 8 → q ≠ 9 → M1 q = MI q := fun q a b c d => c4 q a (by omega) (by omega) (by omega) (by omega) (by omega) c d
  have ct := s_tell (D := 296) (ML := ML) hlen c3
  have hcls : mrc 300 158 [.ref 0] MI ML (some (.int (nI L.length))) (wcS (tlB L) 0 (mup (mup M1 34 (ctF (M1 34) L.length n)) 33 (mput (M1 33) 2 (nI 0)))) ML := by
    refine mrc_of (EX10_day (BX10_day_0 (usei c1 ?_)))
    rw [f1 1 (by decide) (by decide) (by decide) (by decide), hn]
    exact usev ct eRr
  generalize hN : wcS (tlB L) 0 (mup (mup M1 34 (ctF (M1 34) L.length n)) 33 (mput (M1 33) 2 (nI 0))) = N at hcls
  have fN : ∀ q, q ≠ 33 → q ≠ 34 → q ≠ 35 → N q = M1 q := fun q a b c => by rw [← hN, wcS_o a c, mup_n a, mup_n b]
  have fN2 : ∀ q, q ≠ 2 → (q < 28 ∨ 35 < q) → q ≠ 8 → q ≠ 9 → N q = MI q := fun q a b c d => (fN q (by omega) (by omega) (by omega)).trans (f1 q a (by omega) c d)
  have n34 : N 34 = ctF (MI 34) L.length n := by
    rw [← hN, wcS_o (by decide) (by decide)]
    simp (disch := omega) only [mup_n, mup_s, mput_n, mput_s, mup_mup]
    rw [f1 34 (by decide) (by decide) (by decide) (by decide)]
  have n35 : N 35 = wf (MI 35) 0 (tlB L) := by
    rw [← hN]
    unfold wcS
    simp (disch := omega) only [mup_n, mup_s, mput_n, mput_s, mup_mup]
    rw [f1 35 (by decide) (by decide) (by decide) (by decide)]
  have n33 : N 33 2 = nI (tlB L).length := by
    rw [← hN, wcS_c, Nat.zero_add]
  have n335 : N 33 5 = MI 33 5 := by
    rw [← hN]
    unfold wcS
    simp (disch := omega) only [mup_n, mup_s, mput_n, mput_s, mup_mup]
    rw [f1 33 (by decide) (by decide) (by decide) (by decide)]
  have n2 : N 2 = dyF La n (MI 2) := (fN 2 (by decide) (by decide) (by decide)).trans c2
  have n46 : N 46 = MI 46 := fN2 46 (by decide) (by decide) (by decide) (by decide)
  have n47 : N 47 = MI 2 := (fN2 47 (by decide) (by decide) (by decide) (by decide)).trans hM
  -- the model
  obtain ⟨M3, g1, g2, g3, g4⟩ := t_goesBy (D := 292) (ML := ML) (MI := mup (mup N 61 (MI 2)) 46 (mput (mput (MI 46) 37 (nI 0)) 30 (nI 1))) (La := La) (n := n) (told := true) (by simp (disch := omega) only [mup_n, mup_s, mput_n, mput_s, mup_mup]; exact hm) h8 (by simp (disch := omega) only [mup_n, mup_s, mput_n, mput_s, mup_mup]; exact hP) hw (by simp (disch := omega) only [mup_n, mup_s, mput_n, mput_s, mup_mup]; rw [fN2 53 (by decide) (by decide) (by decide) (by decide), fN2 56 (by decide) (by decide) (by decide) (by decide), fN2 57 (by decide) (by decide) (by decide) (by decide)]; exact hL) (by simp (disch := omega) only [mup_n, mup_s, mput_n, mput_s, mup_mup]; rfl) (fun _ => by simp (disch := omega) only [mup_n, mup_s, mput_n, mput_s, mup_mup])
  have e61 : (mup (mup N 61 (MI 2)) 46 (mput (mput (MI 46) 37 (nI 0)) 30 (nI 1))) 61 = MI 2 := by simp (disch := omega) only [mup_n, mup_s, mput_n, mput_s, mup_mup]
  rw [e61, hLL] at g3
  rw [e61] at g2
  obtain ⟨w1, w2, w3, w4, w5, w6, w7⟩ := g3
  have w5 : M3 46 37 = nI (tlB L).length := w5
  have w6 : M3 71 = wf (MI 71) 0 (tlB L) := by
    have w6 : M3 71 = wf ((mup (mup N 61 (MI 2)) 46 (mput (mput (MI 46) 37 (nI 0)) 30 (nI 1))) 71) 0 (tlB L) := w6
    rw [w6]
    simp (disch := omega) only [mup_n, mup_s, mput_n, mput_s, mup_mup]
    rw [fN2 71 (by decide) (by decide) (by decide) (by decide)]
  have w7 : ∀ j, j ≠ 29 → j ≠ 30 → j ≠ 37 → M3 46 j = MI 46 j := fun j j1 j2 j3 => by
    rw [w7 j j1 j3, mup_s, mput_n j2, mput_n j3]
  have f3 : ∀ q, q ≠ 46 → (q < 58 ∨ q = 60 ∨ (65 < q ∧ q ≠ 71)) → M3 q = N q := fun q a b => by
    rw [g4 q a (by omega) (by omega) (by omega) (by omega) (by omega) (by omega) (by omega) (by omega), mup_n a, mup_n (by omega)]
  have hPd := dyF_PB (La := La) h8 hP
  have hmod : mrc 300 241 [.ref 46] N ML (some (.int (nI L.length))) (mup (mup (mup M3 46 (mput (M3 46) 30 (nI 0))) 47 (dyF La n (MI 2))) 70 (ctF (MI 70) L.length n)) ML := by
    have ht := t_thinks (D := 298) (ML := ML) (MI := N) (by rw [n47]; exact hP.2) (by rw [fN2 61 (by decide) (by decide) (by decide) (by decide)]; exact z3)
    rw [n47] at ht
    refine mrc_of (EX11_day (BX11_day_0 (usev ht ?_)))
    simp (disch := omega) only [mup_n, mup_s, mput_n, mput_s, mup_mup]
    rw [n46]
    refine usev g1 ?_
    suffices h : VX11_day_25 299 (eR (some (.int (nI L.length))) (mup (mup (mup M3 46 (mput (M3 46) 30 (nI 0))) 47 (dyF La n (MI 2))) 70 (ctF (MI 70) L.length n)) ML) (nI 0) (mup (mup M3 46 (mput (M3 46) 30 (nI 0))) 47 (fun p => if p < 0 then dyF La n (MI 2) p else MI 2 p)) ML by
      have e : mup (mup M3 46 (mput (M3 46) 30 (nI 0))) 47 (fun p => if p < 0 then dyF La n (MI 2) p else MI 2 p) = mup M3 46 (mput (M3 46) 30 (nI 0)) := by
        have : (fun p => if p < 0 then dyF La n (MI 2) p else MI 2 p) = (mup M3 46 (mput (M3 46) 30 (nI 0))) 47 := by
          rw [mup_n (by decide), f3 47 (by decide) (by decide), n47]
          rfl
        rw [this, mup_id]
      rwa [e] at h
    refine up (P := fun i => VX11_day_25 299 _ (nI i) (mup (mup M3 46 (mput (M3 46) 30 (nI 0))) 47 (fun p => if p < i then dyF La n (MI 2) p else MI 2 p)) ML) 84 (by decide) ?_ ?_
    · refine BX11_day_25 (cT (by decide) ?_)
      simp (disch := omega) only [mup_n, mup_s, mput_n, mput_s, mup_mup]
      have e47 : (fun p => if p < 84 then dyF La n (MI 2) p else MI 2 p) = dyF La n (MI 2) := by
        funext p
        by_cases h : p < 84
        · rw [if_pos h]
        · rw [if_neg h, hPd.2 p (by omega), hP.2 p (by omega)]
      rw [e47, w1, f3 70 (by decide) (by decide), fN2 70 (by decide) (by decide) (by decide) (by decide), w7 6 (by decide) (by decide) (by decide), hm]
      exact eRr
    · intro i _ hi ih
      refine BX11_day_25 (cF (nI_ge hi (by omega)) ⟨i, rfl, hi, i, rfl, hi, ?_⟩)
      simp (disch := omega) only [mup_n, mup_s, mput_n, mput_s, mup_mup]
      rw [g2, nI_add, show mput (fun p => if p < i then dyF La n (MI 2) p else MI 2 p) i (dyF La n (MI 2) i) = (fun p => if p < i + 1 then dyF La n (MI 2) p else MI 2 p) from by
        funext p
        unfold mput
        by_cases hp : p = i
        · subst hp; rw [if_pos rfl, if_pos (by omega)]
        · rw [if_neg hp]
          show (if p < i then dyF La n (MI 2) p else MI 2 p) = _
          by_cases q : p < i
          · rw [if_pos q, if_pos (by omega)]
          · rw [if_neg q, if_neg (by omega)]]
      exact ih
  generalize hX : mup (mup (mup M3 46 (mput (M3 46) 30 (nI 0))) 47 (dyF La n (MI 2))) 70 (ctF (MI 70) L.length n) = X at hmod
  refine ⟨_, N, ML, X, ML, hcls, hmod, ?_⟩
  have fX : ∀ q, q ≠ 46 → q ≠ 47 → q ≠ 70 → X q = M3 q := fun q a b c => by rw [← hX, mup_n c, mup_n b, mup_n a]
  have eX : ∀ q, q ≠ 2 → q ≠ 8 → q ≠ 9 → (q < 28 ∨ 35 < q) → q ≠ 46 → q ≠ 47 → (q < 58 ∨ q = 60 ∨ (65 < q ∧ q ≠ 70 ∧ q ≠ 71)) → X q = MI q := fun q a b c d e f g => by
    rw [fX q e f (by omega), f3 q e (by omega), fN2 q a d b c]
  have x46 : X 46 = mput (M3 46) 30 (nI 0) := by rw [← hX]; simp (disch := omega) only [mup_n, mup_s, mput_n, mput_s, mup_mup]
  have e46 : ∀ j, j ≠ 29 → j ≠ 30 → j ≠ 37 → X 46 j = MI 46 j := fun j a b c => by rw [x46, mput_n b, w7 j a b c]
  have e33 : X 33 5 = MI 33 5 := by rw [fX 33 (by decide) (by decide) (by decide), f3 33 (by decide) (by decide), n335]
  have x2 : X 2 = dyF La n (MI 2) := by rw [fX 2 (by decide) (by decide) (by decide), f3 2 (by decide) (by decide), n2]
  have x47 : X 47 = dyF La n (MI 2) := by rw [← hX]; simp (disch := omega) only [mup_n, mup_s, mput_n, mput_s, mup_mup]
  have x61 : X 61 = dyF La n (MI 2) := by rw [fX 61 (by decide) (by decide) (by decide), g2]
  have x34 : X 34 = ctF (MI 34) L.length n := by rw [fX 34 (by decide) (by decide) (by decide), f3 34 (by decide) (by decide), n34]
  have x70 : X 70 = ctF (MI 70) L.length n := by rw [← hX]; simp (disch := omega) only [mup_n, mup_s, mput_n, mput_s, mup_mup]
  have x35 : X 35 = wf (MI 35) 0 (tlB L) := by rw [fX 35 (by decide) (by decide) (by decide), f3 35 (by decide) (by decide), n35]
  have x71 : X 71 = wf (MI 71) 0 (tlB L) := by rw [fX 71 (by decide) (by decide) (by decide), w6]
  have x33 : X 33 2 = nI (tlB L).length := by rw [fX 33 (by decide) (by decide) (by decide), f3 33 (by decide) (by decide), n33]
  have x37 : X 46 37 = nI (tlB L).length := by rw [x46, mput_n (by decide), w5]
  have htl := tlB_len L
  refine ⟨⟨n, h8, by rw [eX 1 (by decide) (by decide) (by decide) (by decide) (by decide) (by decide) (by decide)]; exact hn, by rw [e46 6 (by decide) (by decide) (by decide)]; exact hm, by rw [x47, x2], by rw [x2]; exact hPd, by rw [eX 17 (by decide) (by decide) (by decide) (by decide) (by decide) (by decide) (by decide)]; exact z1, by rw [eX 37 (by decide) (by decide) (by decide) (by decide) (by decide) (by decide) (by decide)]; exact z2, by rw [x61]; exact hPd.2, by rw [eX 72 (by decide) (by decide) (by decide) (by decide) (by decide) (by decide) (by decide)]; exact z4⟩, (Ic_c (by rw [eX 39 (by decide) (by decide) (by decide) (by decide) (by decide) (by decide) (by decide)]) (by rw [eX 39 (by decide) (by decide) (by decide) (by decide) (by decide) (by decide) (by decide)]) (eX 40 (by decide) (by decide) (by decide) (by decide) (by decide) (by decide) (by decide)) (eX 41 (by decide) (by decide) (by decide) (by decide) (by decide) (by decide) (by decide)) (eX 42 (by decide) (by decide) (by decide) (by decide) (by decide) (by decide) (by decide)) (e46 4 (by decide) (by decide) (by decide)) (e46 5 (by decide) (by decide) (by decide)) (eX 48 (by decide) (by decide) (by decide) (by decide) (by decide) (by decide) (by decide)) (eX 49 (by decide) (by decide) (by decide) (by decide) (by decide) (by decide) (by decide)) (eX 50 (by decide) (by decide) (by decide) (by decide) (by decide) (by decide) (by decide)) hI.2.1), (It_c (by rw [eX 3 (by decide) (by decide) (by decide) (by decide) (by decide) (by decide) (by decide)]) (eX 5 (by decide) (by decide) (by decide) (by decide) (by decide) (by decide) (by decide)) (e46 8 (by decide) (by decide) (by decide)) (eX 51 (by decide) (by decide) (by decide) (by decide) (by decide) (by decide) (by decide)) hI.2.2.1), (Il_c (by rw [eX 6 (by decide) (by decide) (by decide) (by decide) (by decide) (by decide) (by decide)]) (eX 7 (by decide) (by decide) (by decide) (by decide) (by decide) (by decide) (by decide)) (e46 17 (by decide) (by decide) (by decide)) (eX 53 (by decide) (by decide) (by decide) (by decide) (by decide) (by decide) (by decide)) (eX 56 (by decide) (by decide) (by decide) (by decide) (by decide) (by decide) (by decide)) (eX 57 (by decide) (by decide) (by decide) (by decide) (by decide) (by decide) (by decide)) hI.2.2.2.1), (Is_c (eX 11 (by decide) (by decide) (by decide) (by decide) (by decide) (by decide) (by decide)) (eX 12 (by decide) (by decide) (by decide) (by decide) (by decide) (by decide) (by decide)) (eX 13 (by decide) (by decide) (by decide) (by decide) (by decide) (by decide) (by decide)) (by rw [eX 43 (by decide) (by decide) (by decide) (by decide) (by decide) (by decide) (by decide)]) (eX 44 (by decide) (by decide) (by decide) (by decide) (by decide) (by decide) (by decide)) (e46 41 (by decide) (by decide) (by decide)) (eX 74 (by decide) (by decide) (by decide) (by decide) (by decide) (by decide) (by decide)) (eX 76 (by decide) (by decide) (by decide) (by decide) (by decide) (by decide) (by decide)) (eX 77 (by decide) (by decide) (by decide) (by decide) (by decide) (by decide) (by decide)) rfl rfl hI.2.2.2.2.1), ?_, ⟨fun j hj => ?_, (tlB L).length, by omega, x33, x37, fun j hj => ?_⟩, (Ii_c e33 (by rw [eX 36 (by decide) (by decide) (by decide) (by decide) (by decide) (by decide) (by decide)]) (eX 37 (by decide) (by decide) (by decide) (by decide) (by decide) (by decide) (by decide)) (eX 38 (by decide) (by decide) (by decide) (by decide) (by decide) (by decide) (by decide)) (e46 40 (by decide) (by decide) (by decide)) (eX 72 (by decide) (by decide) (by decide) (by decide) (by decide) (by decide) (by decide)) (eX 73 (by decide) (by decide) (by decide) (by decide) (by decide) (by decide) (by decide)) hI.2.2.2.2.2.2.2.1), hI.2.2.2.2.2.2.2.2⟩
  · obtain ⟨_, r, r1, r2, r3, r4⟩ := hI.2.2.2.2.2.1
    refine ⟨by rw [x46, mput_s], r, r1, by rw [eX 43 (by decide) (by decide) (by decide) (by decide) (by decide) (by decide) (by decide)]; exact r2, by rw [e46 44 (by decide) (by decide) (by decide)]; exact r3, ?_⟩
    rw [eX 75 (by decide) (by decide) (by decide) (by decide) (by decide) (by decide) (by decide), eX 45 (by decide) (by decide) (by decide) (by decide) (by decide) (by decide) (by decide)]
    exact r4
  · rw [x70, x34]
    unfold ctF
    rcases (show j = 0 ∨ j = 1 ∨ j = 2 ∨ j = 3 ∨ j = 4 ∨ j = 5 by omega) with rfl | rfl | rfl | rfl | rfl | rfl
    all_goals
      simp (disch := omega) only [mup_n, mup_s, mput_n, mput_s, mup_mup]
      first
        | rw [b1 0 (by omega)]
        | rw [b1 1 (by omega)]
        | rw [b1 2 (by omega)]
        | exact b1 _ (by omega)
  · rw [x71, x35]
    unfold wf
    rw [if_pos (by omega), if_pos (by omega)]
end T64
