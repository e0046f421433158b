/-! a day: the class -/
theorem getD_snoc {α : Type} {L : List α} {q d : α} {j : Nat} : (L ++ [q]).getD j d = if j < L.length then L.getD j d else if j = L.length then q else d := by
  by_cases h : j < L.length
  · rw [if_pos h]
    simp [List.getD_eq_getElem?_getD, List.getElem?_append_left h]
  · rw [if_neg h]
    by_cases h2 : j = L.length
    · rw [if_pos h2]
      subst h2
      simp [List.getD_eq_getElem?_getD]
    · rw [if_neg h2]
      simp [List.getD_eq_getElem?_getD, List.getElem?_eq_none (show (L ++ [q]).length ≤ j by simp; omega)]
abbrev d0R : dR := (0, 0, 0, 0)
/-- what a round of n people keeps -/
def RW (n r r1 r2 r3 r4 : Nat) (L : List dR) (M : mI) : Prop := M r 0 = nI L.length ∧ (∀ i, i < n → bt (M r 5) i = fbL L i) ∧ (∀ i, i < n → bt (M r 6) i = wbL L i) ∧ ∀ j, j < L.length → M r1 j = nI (L.getD j d0R).1 ∧ M r2 j = nI (L.getD j d0R).2.1 ∧ M r3 j = nI (L.getD j d0R).2.2.1 ∧ M r4 j = (L.getD j d0R).2.2.2
/-- all but a round's and a bazaar's numbers is as it was -/
def FR (a r r1 r2 r3 r4 : Nat) (M MI : mI) : Prop := ∀ q, q ≠ a → q ≠ r → q ≠ r1 → q ≠ r2 → q ≠ r3 → q ≠ r4 → q ≠ 8 → q ≠ 9 → M q = MI q
theorem FR.tr {a r r1 r2 r3 r4 : Nat} {M N MI : mI} (h : FR a r r1 r2 r3 r4 M N) (h2 : FR a r r1 r2 r3 r4 N MI) : FR a r r1 r2 r3 r4 M MI := fun q a1 a2 a3 a4 a5 a6 a7 a8 => (h q a1 a2 a3 a4 a5 a6 a7 a8).trans (h2 q a1 a2 a3 a4 a5 a6 a7 a8)
theorem FR.rf {a r r1 r2 r3 r4 : Nat} {M : mI} : FR a r r1 r2 r3 r4 M M := fun _ _ _ _ _ _ _ _ _ => rfl
theorem neg_le0 {x : Int32} (h : -9 ≤ x.toInt) (h2 : x.toInt ≤ 9) : -x ≤ nI 0 ↔ ¬ x < nI 0 := by
  have e : (-x).toInt = -x.toInt := by
    rw [Int32.toInt_neg]
    simp only [Int.bmod]
    omega
  rw [fa_le, fa_lt, e, nI_toInt (by omega)]
  omega
section DC
variable {D k a n r r1 r2 r3 r4 : Nat} {MI : mI} {ML : mJ} {x y : Int32}
theorem s_setWords {x1 x2 x3 x4 x5 : Int32} : mrc (D + 1) 47 [.ref 6, .int x1, .int x2, .int x3, .int x4, .int x5] MI ML none (mup MI 8 (mput (mput (mput (mput (mput (MI 8) 1 x1) 2 x2) 3 x3) 4 x4) 5 x5)) ML := by
  refine mrc_of (EX3_setWords (BX3_setWords_0 (vR ?_)))
  simp (disch := omega) only [mup_n, mup_s, mput_n, mput_s, mup_mup]
theorem s_hungriest {T : Nat → Bool} (hB : bz k a) (hn : MI k 0 = nI n) (h8 : n ≤ 8) (hT : ∀ i, i < n → bt x i = T i) : mrc (D + 2) 97 [.ref k, .int x] MI ML (some (.int (nI (hgr (MI a) T n).1))) MI ML := by
  refine mrc_of (EX7_hungriest (BX7_hungriest_0 hB ?_))
  refine up (P := fun i => VX7_hungriest_8 (D + 1) _ k a x (nI (hgr (MI a) T i).1) (hgr (MI a) T i).2 (nI i) MI ML) n (Nat.zero_le _) ?_ ?_
  · exact BX7_hungriest_8 hB (cT (by rw [hn]; exact nI_le (Nat.le_refl _) (by omega)) eRr)
  · intro i _ hi ih
    refine BX7_hungriest_8 hB (cF (by rw [hn]; exact nI_ge hi (by omega)) (usei (s_hungerOf hB (by omega)) ?_))
    rw [tst0 x (by omega), hT i hi, nI_add]
    have e : hgr (MI a) T (i + 1) = if T i = false then (if MI a i ≤ (hgr (MI a) T i).2 then hgr (MI a) T i else (i, MI a i)) else hgr (MI a) T i := rfl
    rw [e] at ih
    refine br (fun h => br (fun h2 => ?_) (fun h2 => ?_)) (fun h => ?_)
    · rwa [if_pos h, if_pos h2] at ih
    · rwa [if_pos h, if_neg h2] at ih
    · rwa [if_neg h] at ih
theorem s_serveA {La : mLaw} {L : List dR} {b : Nat} (hn : MI 1 0 = nI n) (h8 : n ≤ 8) (hb : b < n) (hf : PB (MI 2)) (hw : wfL La) (hL : LC La (MI 6 1) (MI 7)) (hl : L.length < n) (hW : RW n 28 29 30 31 32 L MI) : ∃ M, mrc (D + 6) 98 [.ref 28, .ref 1, .ref 6, .int (nI b)] MI ML none M ML ∧ M 2 = (srv La n (MI 2) L b).1 ∧ RW n 28 29 30 31 32 (srv La n (MI 2) L b).2 M ∧ FR 2 28 29 30 31 32 M MI := by
  suffices h : VX7_serve_0 (D + 5) (fun v M L' => v = none ∧ L' = ML ∧ M 2 = (srv La n (MI 2) L b).1 ∧ RW n 28 29 30 31 32 (srv La n (MI 2) L b).2 M ∧ FR 2 28 29 30 31 32 M MI) 28 29 30 31 32 1 2 (nI b) MI ML by
    obtain ⟨v, M, L', ⟨rfl, rfl, hr⟩, h⟩ := EX7_serve h
    exact ⟨M, h, hr⟩
  refine BX7_serve_0 rd28 bz1 (usei (s_friendOf bz1 hn h8 (by omega) (Nat.le_refl 8)) ?_)
  have hfo := frd_ok (MI 2) b 8 n
  rw [nI_eq (by rcases hfo with q | q <;> omega) (by omega)]
  unfold srv
  refine br (fun h1 => ?_) (fun h1 => ?_)
  · rw [if_pos h1]
    exact ⟨rfl, rfl, rfl, hW, FR.rf⟩
  · rw [if_neg h1]
    have hfo := hfo.resolve_left (fun q => h1 q.1)
    generalize hfr : (frd (MI 2) b 8 n).1 = fr at *
    obtain ⟨w1, w2, w3, w4⟩ := hW
    rw [w1, nI_add]
    refine cT (nI_lt (by omega) (by omega)) (usei (s_felt bz1 (by omega) (by omega)) (usei (s_hungerOf bz1 (by omega)) (usei (s_numberAt bz1 (by omega)) (usei (s_numberAt bz1 (by omega)) (usev s_setWords ?_)))))
    refine up (P := fun i => ∀ M : mI, (∀ q, q ≠ 8 → q ≠ 9 → M q = MI q) → (∀ j, 1 ≤ j → j < 6 → M 8 j = wds (MI 2) b fr 0 L.length j) → VX7_serve_70 (D + 5) _ 28 29 30 31 32 1 2 (nI b) (nI fr) (nI (bst La (MI 2) b fr L i).1) (bst La (MI 2) b fr L i).2 (nI i) M ML) n (Nat.zero_le _) ?_ ?_ _ (fun q q8 q9 => mup_n q8) ?_
    · intro M hM hM8
      have hk : M 1 0 = nI n := by rw [hM 1 (by omega) (by omega)]; exact hn
      have ha : M 2 = MI 2 := hM 2 (by omega) (by omega)
      have hr0 : M 28 = MI 28 := hM 28 (by omega) (by omega)
      have hr1 : M 29 = MI 29 := hM 29 (by omega) (by omega)
      have hr2 : M 30 = MI 30 := hM 30 (by omega) (by omega)
      have hr3 : M 31 = MI 31 := hM 31 (by omega) (by omega)
      have hr4 : M 32 = MI 32 := hM 32 (by omega) (by omega)
      have hbo := bst_ok La (MI 2) b fr L n
      refine BX7_serve_70 rd28 bz1 (cT (by rw [hk]; exact nI_le (Nat.le_refl _) (by omega)) ?_)
      rw [nI_eq (by rcases hbo with q | q <;> omega) (by omega)]
      refine br (fun h2 => ?_) (fun h2 => ?_)
      · rw [if_pos h2]
        exact ⟨rfl, rfl, ha, ⟨by rw [hr0]; exact w1, by rw [hr0]; exact w2, by rw [hr0]; exact w3, by rw [hr1, hr2, hr3, hr4]; exact w4⟩, fun q _ _ _ _ _ _ q8 q9 => hM q q8 q9⟩
      · rw [if_neg h2]
        have hbo := hbo.resolve_left (fun q => h2 q.1)
        generalize hww : (bst La (MI 2) b fr L n).1 = w at *
        generalize hoo : (bst La (MI 2) b fr L n).2 = o at *
        refine usei (s_felt bz1 (by omega) (by omega)) (usei (s_numberAt bz1 (by omega)) (usev (s_setFelt bz1 (by omega) (by omega)) (usev (s_hungerLess bz1 (by omega)) ?_)))
        simp (disch := omega) only [mup_n, mup_s, mput_n, mput_s, mup_mup]
        rw [hr0, w1, ha]
        refine ⟨L.length, rfl, by omega, L.length, rfl, by omega, L.length, rfl, by omega, L.length, rfl, by omega, ?_⟩
        simp (disch := omega) only [mup_n, mup_s, mput_n, mput_s, mup_mup]
        refine ⟨by trivial, by trivial, ?_, ⟨?_, ?_, ?_, ?_⟩, ?_⟩
        · simp (disch := omega) only [mup_n, mup_s, mput_n, mput_s, mup_mup]
        · simp (disch := omega) only [mup_n, mup_s, mput_n, mput_s, mup_mup]
          rw [nI_add, List.length_append]
          rfl
        · intro i hi
          simp (disch := omega) only [mup_n, mup_s, mput_n, mput_s, mup_mup]
          rw [b_set _ (by omega) (by omega), w2 i hi, fbL_app]
          congr 1
          rw [decide_eq_decide]
          exact ⟨fun q => q.symm, fun q => q.symm⟩
        · intro i hi
          simp (disch := omega) only [mup_n, mup_s, mput_n, mput_s, mup_mup]
          rw [b_set _ (by omega) (by omega), w3 i hi, wbL_app]
          congr 1
          rw [decide_eq_decide]
          exact ⟨fun q => q.symm, fun q => q.symm⟩
        · intro j hj
          rw [List.length_append] at hj
          have hj : j < L.length + 1 := hj
          by_cases hjl : j = L.length
          · subst hjl
            rw [show (L ++ [(b, w, fr, o)]).getD L.length d0R = (b, w, fr, o) from by rw [getD_snoc, if_neg (by omega), if_pos rfl]]
            simp (disch := omega) only [mup_n, mup_s, mput_n, mput_s, mup_mup]
            exact ⟨by trivial, by trivial, by trivial, by trivial⟩
          · rw [show (L ++ [(b, w, fr, o)]).getD j d0R = L.getD j d0R from by rw [getD_snoc, if_pos (by omega)]]
            simp (disch := omega) only [mup_n, mup_s, mput_n, mput_s, mup_mup]
            rw [hr1, hr2, hr3, hr4]
            exact w4 j (by omega)
        · intro q a1 a2 a3 a4 a5 a6 a7 a8
          simp only [mup_n a1, mup_n a2, mup_n a3, mup_n a4, mup_n a5, mup_n a6]
          exact hM q a7 a8
    · intro i _ hi ih M hM hM8
      have hk : M 1 0 = nI n := by rw [hM 1 (by omega) (by omega)]; exact hn
      have ha : M 2 = MI 2 := hM 2 (by omega) (by omega)
      have hr0 : M 28 = MI 28 := hM 28 (by omega) (by omega)
      have hfe := hf.fe (i := i) (b := b) (by omega) (by omega)
      refine BX7_serve_70 rd28 bz1 (cF (by rw [hk]; exact nI_ge hi (by omega)) (usei (s_felt bz1 (by omega) (by omega)) ?_))
      rw [ha, hr0, neg_le0 hfe.1 hfe.2, tst0 _ (by omega), w3 i hi, nI_add]
      have e : bst La (MI 2) b fr L (i + 1) = if MI 2 (20 + i * 8 + b) < nI 0 ∧ wbL L i = false then (if lwO (wds (MI 2) b fr i L.length) La ≤ (bst La (MI 2) b fr L i).2 then bst La (MI 2) b fr L i else (i, lwO (wds (MI 2) b fr i L.length) La)) else bst La (MI 2) b fr L i := rfl
      refine br (fun h1 => ?_) (fun h1 => br (fun h2 => ?_) (fun h2 => ?_))
      · rw [e.trans (if_neg (fun q => h1 q.1))] at ih
        exact ih M hM hM8
      · obtain ⟨M2, m1, m2, m3⟩ := s_weighedOut (D := D + 3) (ML := ML) (MI := M) (La := La) (x := -MI 2 (20 + i * 8 + b)) hw (by rw [hM 6 (by decide) (by decide), hM 7 (by decide) (by decide)]; exact hL)
        have eo : lwO (mput (M 8) 0 (-MI 2 (20 + i * 8 + b))) La = lwO (wds (MI 2) b fr i L.length) La := by
          refine lwO_cong (fun j hj => ?_) hw
          by_cases j0 : j = 0
          · subst j0
            rw [mput_s]; rfl
          · rw [mput_n j0, hM8 j (by omega) hj]
            unfold wds
            rw [if_neg j0, if_neg j0]
        rw [eo] at m1
        have e := e.trans (if_pos ⟨Classical.not_not.mp h1, h2⟩)
        refine usei m1 (br (fun h3 => ?_) (fun h3 => ?_))
        · rw [e.trans (if_pos h3)] at ih
          exact ih M2 (fun q q8 q9 => (m2 q q8 q9).trans (hM q q8 q9)) (fun j j1 j6 => by rw [m3 j (by omega)]; exact hM8 j j1 j6)
        · rw [e.trans (if_neg h3)] at ih
          exact ih M2 (fun q q8 q9 => (m2 q q8 q9).trans (hM q q8 q9)) (fun j j1 j6 => by rw [m3 j (by omega)]; exact hM8 j j1 j6)
      · rw [e.trans (if_neg (fun q => h2 q.2))] at ih
        exact ih M hM hM8
    · intro j j1 j6
      rw [mup_s]
      rcases (show j = 1 ∨ j = 2 ∨ j = 3 ∨ j = 4 ∨ j = 5 by omega) with rfl | rfl | rfl | rfl | rfl
      all_goals (simp (disch := omega) only [mput_s, mput_n]; first | rfl | exact w1)
theorem s_goByA {La : mLaw} (hn : MI 1 0 = nI n) (h8 : n ≤ 8) (hf : PB (MI 2)) (hw : wfL La) (hL : LC La (MI 6 1) (MI 7)) : ∃ M, mrc (D + 7) 96 [.ref 28, .ref 1, .ref 6] MI ML (some (.int (nI (dyL La n (MI 2)).length))) M ML ∧ M 2 = dyF La n (MI 2) ∧ RW n 28 29 30 31 32 (dyL La n (MI 2)) M ∧ FR 2 28 29 30 31 32 M MI := by
  suffices h : VX7_goBy_0 (D + 6) (fun v M L' => v = some (.int (nI (dyL La n (MI 2)).length)) ∧ L' = ML ∧ M 2 = dyF La n (MI 2) ∧ RW n 28 29 30 31 32 (dyL La n (MI 2)) M ∧ FR 2 28 29 30 31 32 M MI) 28 29 30 31 32 1 2 MI ML by
    obtain ⟨v, M, L', ⟨rfl, rfl, hr⟩, h⟩ := EX7_goBy h
    exact ⟨M, h, hr⟩
  refine BX7_goBy_0 rd28 bz1 ?_
  simp (disch := omega) only [mup_n, mup_s, mput_n, mput_s, mup_mup]
  refine up (P := fun t => ∀ (M : mI) (x : Int32), M 2 = (trn La n (MI 2) t).1 → RW n 28 29 30 31 32 (trn La n (MI 2) t).2.1 M → (∀ i, i < n → bt x i = (trn La n (MI 2) t).2.2 i) → FR 2 28 29 30 31 32 M MI → VX7_goBy_20 (D + 6) _ 28 29 30 31 32 1 2 x (nI t) M ML) n (Nat.zero_le _) ?_ ?_ _ _ ?_ ?_ (fun i _ => bt_0 i) ?_
  · intro M x ha hW hx hFR
    have hk : M 1 = MI 1 := hFR 1 (by omega) (by omega) (by omega) (by omega) (by omega) (by omega) (by omega) (by omega)
    refine BX7_goBy_20 rd28 bz1 (cT (by rw [hk, hn]; exact nI_le (Nat.le_refl _) (by omega)) ?_)
    obtain ⟨w1, w2, w3, w4⟩ := hW
    refine usev (s_endDay (n := n) bz1 (by rw [hk]; exact hn) h8 w2) ?_
    rw [ha]
    refine ⟨by simp (disch := omega) only [mup_n, mup_s, mput_n, mput_s, mup_mup]; rw [w1]; rfl, rfl, by simp (disch := omega) only [mup_n, mup_s, mput_n, mput_s, mup_mup]; rfl, ⟨by simp (disch := omega) only [mup_n, mup_s, mput_n, mput_s, mup_mup]; exact w1, by simp (disch := omega) only [mup_n, mup_s, mput_n, mput_s, mup_mup]; exact w2, by simp (disch := omega) only [mup_n, mup_s, mput_n, mput_s, mup_mup]; exact w3, by simp (disch := omega) only [mup_n, mup_s, mput_n, mput_s, mup_mup]; exact w4⟩, fun q a1 a2 a3 a4 a5 a6 a7 a8 => (mup_n a1).trans (hFR q a1 a2 a3 a4 a5 a6 a7 a8)⟩
  · intro t _ ht ih M x ha hW hx hFR
    have hk : M 1 = MI 1 := hFR 1 (by omega) (by omega) (by omega) (by omega) (by omega) (by omega) (by omega) (by omega)
    obtain ⟨p1, p2, p3, p4, p5, p6⟩ := trn_ok (La := La) h8 hf t (by omega)
    obtain ⟨b1, b2⟩ := trn_b (La := La) h8 hf ht
    refine BX7_goBy_20 rd28 bz1 (cF (by rw [hk, hn]; exact nI_ge ht (by omega)) (usei (s_hungriest (n := n) bz1 (by rw [hk]; exact hn) h8 hx) ?_))
    rw [ha]
    obtain ⟨M2, m1, m2, m3, m4⟩ := s_serveA (D := D) (ML := ML) (MI := M) (La := La) (L := (trn La n (MI 2) t).2.1) (b := (hgr (trn La n (MI 2) t).1 (trn La n (MI 2) t).2.2 n).1) (by rw [hk]; exact hn) h8 b1 (by rw [ha]; exact p1) hw (by rw [hFR 6 (by omega) (by omega) (by omega) (by omega) (by omega) (by omega) (by omega) (by omega), hFR 7 (by omega) (by omega) (by omega) (by omega) (by omega) (by omega) (by omega) (by omega)]; exact hL) (by omega) hW
    refine usev m1 ?_
    rw [nI_add]
    rw [ha] at m2 m3
    refine ih M2 _ m2 m3 (fun i hi => ?_) (m4.tr hFR)
    rw [b_set _ (by omega) (by omega), hx i hi]
    rfl
  · simp (disch := omega) only [mup_n, mup_s, mput_n, mput_s, mup_mup]
    rfl
  · refine ⟨by simp (disch := omega) only [mup_n, mup_s, mput_n, mput_s, mup_mup]; rfl, fun i _ => ?_, fun i _ => ?_, fun j hj => absurd hj (Nat.not_lt_zero _)⟩
    · simp (disch := omega) only [mup_n, mup_s, mput_n, mput_s, mup_mup]
      exact bt_0 i
    · simp (disch := omega) only [mup_n, mup_s, mput_n, mput_s, mup_mup]
      exact bt_0 i
  · intro q a1 a2 a3 a4 a5 a6 a7 a8
    exact mup_n a2
theorem s_serveB {La : mLaw} {L : List dR} {b : Nat} (hn : MI 16 0 = nI n) (h8 : n ≤ 8) (hb : b < n) (hf : PB (MI 17)) (hw : wfL La) (hL : LC La (MI 6 1) (MI 7)) (hl : L.length < n) (hW : RW n 18 19 20 21 22 L MI) : ∃ M, mrc (D + 6) 98 [.ref 18, .ref 16, .ref 6, .int (nI b)] MI ML none M ML ∧ M 17 = (srv La n (MI 17) L b).1 ∧ RW n 18 19 20 21 22 (srv La n (MI 17) L b).2 M ∧ FR 17 18 19 20 21 22 M MI := by
  suffices h : VX7_serve_0 (D + 5) (fun v M L' => v = none ∧ L' = ML ∧ M 17 = (srv La n (MI 17) L b).1 ∧ RW n 18 19 20 21 22 (srv La n (MI 17) L b).2 M ∧ FR 17 18 19 20 21 22 M MI) 18 19 20 21 22 16 17 (nI b) MI ML by
    obtain ⟨v, M, L', ⟨rfl, rfl, hr⟩, h⟩ := EX7_serve h
    exact ⟨M, h, hr⟩
  refine BX7_serve_0 rd18 bz16 (usei (s_friendOf bz16 hn h8 (by omega) (Nat.le_refl 8)) ?_)
  have hfo := frd_ok (MI 17) b 8 n
  rw [nI_eq (by rcases hfo with q | q <;> omega) (by omega)]
  unfold srv
  refine br (fun h1 => ?_) (fun h1 => ?_)
  · rw [if_pos h1]
    exact ⟨rfl, rfl, rfl, hW, FR.rf⟩
  · rw [if_neg h1]
    have hfo := hfo.resolve_left (fun q => h1 q.1)
    generalize hfr : (frd (MI 17) b 8 n).1 = fr at *
    obtain ⟨w1, w2, w3, w4⟩ := hW
    rw [w1, nI_add]
    refine cT (nI_lt (by omega) (by omega)) (usei (s_felt bz16 (by omega) (by omega)) (usei (s_hungerOf bz16 (by omega)) (usei (s_numberAt bz16 (by omega)) (usei (s_numberAt bz16 (by omega)) (usev s_setWords ?_)))))
    refine up (P := fun i => ∀ M : mI, (∀ q, q ≠ 8 → q ≠ 9 → M q = MI q) → (∀ j, 1 ≤ j → j < 6 → M 8 j = wds (MI 17) b fr 0 L.length j) → VX7_serve_70 (D + 5) _ 18 19 20 21 22 16 17 (nI b) (nI fr) (nI (bst La (MI 17) b fr L i).1) (bst La (MI 17) b fr L i).2 (nI i) M ML) n (Nat.zero_le _) ?_ ?_ _ (fun q q8 q9 => mup_n q8) ?_
    · intro M hM hM8
      have hk : M 16 0 = nI n := by rw [hM 16 (by omega) (by omega)]; exact hn
      have ha : M 17 = MI 17 := hM 17 (by omega) (by omega)
      have hr0 : M 18 = MI 18 := hM 18 (by omega) (by omega)
      have hr1 : M 19 = MI 19 := hM 19 (by omega) (by omega)
      have hr2 : M 20 = MI 20 := hM 20 (by omega) (by omega)
      have hr3 : M 21 = MI 21 := hM 21 (by omega) (by omega)
      have hr4 : M 22 = MI 22 := hM 22 (by omega) (by omega)
      have hbo := bst_ok La (MI 17) b fr L n
      refine BX7_serve_70 rd18 bz16 (cT (by rw [hk]; exact nI_le (Nat.le_refl _) (by omega)) ?_)
      rw [nI_eq (by rcases hbo with q | q <;> omega) (by omega)]
      refine br (fun h2 => ?_) (fun h2 => ?_)
      · rw [if_pos h2]
        exact ⟨rfl, rfl, ha, ⟨by rw [hr0]; exact w1, by rw [hr0]; exact w2, by rw [hr0]; exact w3, by rw [hr1, hr2, hr3, hr4]; exact w4⟩, fun q _ _ _ _ _ _ q8 q9 => hM q q8 q9⟩
      · rw [if_neg h2]
        have hbo := hbo.resolve_left (fun q => h2 q.1)
        generalize hww : (bst La (MI 17) b fr L n).1 = w at *
        generalize hoo : (bst La (MI 17) b fr L n).2 = o at *
        refine usei (s_felt bz16 (by omega) (by omega)) (usei (s_numberAt bz16 (by omega)) (usev (s_setFelt bz16 (by omega) (by omega)) (usev (s_hungerLess bz16 (by omega)) ?_)))
        simp (disch := omega) only [mup_n, mup_s, mput_n, mput_s, mup_mup]
        rw [hr0, w1, ha]
        refine ⟨L.length, rfl, by omega, L.length, rfl, by omega, L.length, rfl, by omega, L.length, rfl, by omega, ?_⟩
        simp (disch := omega) only [mup_n, mup_s, mput_n, mput_s, mup_mup]
        refine ⟨by trivial, by trivial, ?_, ⟨?_, ?_, ?_, ?_⟩, ?_⟩
        · simp (disch := omega) only [mup_n, mup_s, mput_n, mput_s, mup_mup]
        · simp (disch := omega) only [mup_n, mup_s, mput_n, mput_s, mup_mup]
          rw [nI_add, List.length_append]
          rfl
        · intro i hi
          simp (disch := omega) only [mup_n, mup_s, mput_n, mput_s, mup_mup]
          rw [b_set _ (by omega) (by omega), w2 i hi, fbL_app]
          congr 1
          rw [decide_eq_decide]
          exact ⟨fun q => q.symm, fun q => q.symm⟩
        · intro i hi
          simp (disch := omega) only [mup_n, mup_s, mput_n, mput_s, mup_mup]
          rw [b_set _ (by omega) (by omega), w3 i hi, wbL_app]
          congr 1
          rw [decide_eq_decide]
          exact ⟨fun q => q.symm, fun q => q.symm⟩
        · intro j hj
          rw [List.length_append] at hj
          have hj : j < L.length + 1 := hj
          by_cases hjl : j = L.length
          · subst hjl
            rw [show (L ++ [(b, w, fr, o)]).getD L.length d0R = (b, w, fr, o) from by rw [getD_snoc, if_neg (by omega), if_pos rfl]]
            simp (disch := omega) only [mup_n, mup_s, mput_n, mput_s, mup_mup]
            exact ⟨by trivial, by trivial, by trivial, by trivial⟩
          · rw [show (L ++ [(b, w, fr, o)]).getD j d0R = L.getD j d0R from by rw [getD_snoc, if_pos (by omega)]]
            simp (disch := omega) only [mup_n, mup_s, mput_n, mput_s, mup_mup]
            rw [hr1, hr2, hr3, hr4]
            exact w4 j (by omega)
        · intro q a1 a2 a3 a4 a5 a6 a7 a8
          simp only [mup_n a1, mup_n a2, mup_n a3, mup_n a4, mup_n a5, mup_n a6]
          exact hM q a7 a8
    · intro i _ hi ih M hM hM8
      have hk : M 16 0 = nI n := by rw [hM 16 (by omega) (by omega)]; exact hn
      have ha : M 17 = MI 17 := hM 17 (by omega) (by omega)
      have hr0 : M 18 = MI 18 := hM 18 (by omega) (by omega)
      have hfe := hf.fe (i := i) (b := b) (by omega) (by omega)
      refine BX7_serve_70 rd18 bz16 (cF (by rw [hk]; exact nI_ge hi (by omega)) (usei (s_felt bz16 (by omega) (by omega)) ?_))
      rw [ha, hr0, neg_le0 hfe.1 hfe.2, tst0 _ (by omega), w3 i hi, nI_add]
      have e : bst La (MI 17) b fr L (i + 1) = if MI 17 (20 + i * 8 + b) < nI 0 ∧ wbL L i = false then (if lwO (wds (MI 17) b fr i L.length) La ≤ (bst La (MI 17) b fr L i).2 then bst La (MI 17) b fr L i else (i, lwO (wds (MI 17) b fr i L.length) La)) else bst La (MI 17) b fr L i := rfl
      refine br (fun h1 => ?_) (fun h1 => br (fun h2 => ?_) (fun h2 => ?_))
      · rw [e.trans (if_neg (fun q => h1 q.1))] at ih
        exact ih M hM hM8
      · obtain ⟨M2, m1, m2, m3⟩ := s_weighedOut (D := D + 3) (ML := ML) (MI := M) (La := La) (x := -MI 17 (20 + i * 8 + b)) hw (by rw [hM 6 (by decide) (by decide), hM 7 (by decide) (by decide)]; exact hL)
        have eo : lwO (mput (M 8) 0 (-MI 17 (20 + i * 8 + b))) La = lwO (wds (MI 17) b fr i L.length) La := by
          refine lwO_cong (fun j hj => ?_) hw
          by_cases j0 : j = 0
          · subst j0
            rw [mput_s]; rfl
          · rw [mput_n j0, hM8 j (by omega) hj]
            unfold wds
            rw [if_neg j0, if_neg j0]
        rw [eo] at m1
        have e := e.trans (if_pos ⟨Classical.not_not.mp h1, h2⟩)
        refine usei m1 (br (fun h3 => ?_) (fun h3 => ?_))
        · rw [e.trans (if_pos h3)] at ih
          exact ih M2 (fun q q8 q9 => (m2 q q8 q9).trans (hM q q8 q9)) (fun j j1 j6 => by rw [m3 j (by omega)]; exact hM8 j j1 j6)
        · rw [e.trans (if_neg h3)] at ih
          exact ih M2 (fun q q8 q9 => (m2 q q8 q9).trans (hM q q8 q9)) (fun j j1 j6 => by rw [m3 j (by omega)]; exact hM8 j j1 j6)
      · rw [e.trans (if_neg (fun q => h2 q.2))] at ih
        exact ih M hM hM8
    · intro j j1 j6
      rw [mup_s]
      rcases (show j = 1 ∨ j = 2 ∨ j = 3 ∨ j = 4 ∨ j = 5 by omega) with rfl | rfl | rfl | rfl | rfl
      all_goals (simp (disch := omega) only [mput_s, mput_n]; first | rfl | exact w1)
theorem s_goByB {La : mLaw} (hn : MI 16 0 = nI n) (h8 : n ≤ 8) (hf : PB (MI 17)) (hw : wfL La) (hL : LC La (MI 6 1) (MI 7)) : ∃ M, mrc (D + 7) 96 [.ref 18, .ref 16, .ref 6] MI ML (some (.int (nI (dyL La n (MI 17)).length))) M ML ∧ M 17 = dyF La n (MI 17) ∧ RW n 18 19 20 21 22 (dyL La n (MI 17)) M ∧ FR 17 18 19 20 21 22 M MI := by
  suffices h : VX7_goBy_0 (D + 6) (fun v M L' => v = some (.int (nI (dyL La n (MI 17)).length)) ∧ L' = ML ∧ M 17 = dyF La n (MI 17) ∧ RW n 18 19 20 21 22 (dyL La n (MI 17)) M ∧ FR 17 18 19 20 21 22 M MI) 18 19 20 21 22 16 17 MI ML by
    obtain ⟨v, M, L', ⟨rfl, rfl, hr⟩, h⟩ := EX7_goBy h
    exact ⟨M, h, hr⟩
  refine BX7_goBy_0 rd18 bz16 ?_
  simp (disch := omega) only [mup_n, mup_s, mput_n, mput_s, mup_mup]
  refine up (P := fun t => ∀ (M : mI) (x : Int32), M 17 = (trn La n (MI 17) t).1 → RW n 18 19 20 21 22 (trn La n (MI 17) t).2.1 M → (∀ i, i < n → bt x i = (trn La n (MI 17) t).2.2 i) → FR 17 18 19 20 21 22 M MI → VX7_goBy_20 (D + 6) _ 18 19 20 21 22 16 17 x (nI t) M ML) n (Nat.zero_le _) ?_ ?_ _ _ ?_ ?_ (fun i _ => bt_0 i) ?_
  · intro M x ha hW hx hFR
    have hk : M 16 = MI 16 := hFR 16 (by omega) (by omega) (by omega) (by omega) (by omega) (by omega) (by omega) (by omega)
    refine BX7_goBy_20 rd18 bz16 (cT (by rw [hk, hn]; exact nI_le (Nat.le_refl _) (by omega)) ?_)
    obtain ⟨w1, w2, w3, w4⟩ := hW
    refine usev (s_endDay (n := n) bz16 (by rw [hk]; exact hn) h8 w2) ?_
    rw [ha]
    refine ⟨by simp (disch := omega) only [mup_n, mup_s, mput_n, mput_s, mup_mup]; rw [w1]; rfl, rfl, by simp (disch := omega) only [mup_n, mup_s, mput_n, mput_s, mup_mup]; rfl, ⟨by simp (disch := omega) only [mup_n, mup_s, mput_n, mput_s, mup_mup]; exact w1, by simp (disch := omega) only [mup_n, mup_s, mput_n, mput_s, mup_mup]; exact w2, by simp (disch := omega) only [mup_n, mup_s, mput_n, mput_s, mup_mup]; exact w3, by simp (disch := omega) only [mup_n, mup_s, mput_n, mput_s, mup_mup]; exact w4⟩, fun q a1 a2 a3 a4 a5 a6 a7 a8 => (mup_n a1).trans (hFR q a1 a2 a3 a4 a5 a6 a7 a8)⟩
  · intro t _ ht ih M x ha hW hx hFR
    have hk : M 16 = MI 16 := hFR 16 (by omega) (by omega) (by omega) (by omega) (by omega) (by omega) (by omega) (by omega)
    obtain ⟨p1, p2, p3, p4, p5, p6⟩ := trn_ok (La := La) h8 hf t (by omega)
    obtain ⟨b1, b2⟩ := trn_b (La := La) h8 hf ht
    refine BX7_goBy_20 rd18 bz16 (cF (by rw [hk, hn]; exact nI_ge ht (by omega)) (usei (s_hungriest (n := n) bz16 (by rw [hk]; exact hn) h8 hx) ?_))
    rw [ha]
    obtain ⟨M2, m1, m2, m3, m4⟩ := s_serveB (D := D) (ML := ML) (MI := M) (La := La) (L := (trn La n (MI 17) t).2.1) (b := (hgr (trn La n (MI 17) t).1 (trn La n (MI 17) t).2.2 n).1) (by rw [hk]; exact hn) h8 b1 (by rw [ha]; exact p1) hw (by rw [hFR 6 (by omega) (by omega) (by omega) (by omega) (by omega) (by omega) (by omega) (by omega), hFR 7 (by omega) (by omega) (by omega) (by omega) (by omega) (by omega) (by omega) (by omega)]; exact hL) (by omega) hW
    refine usev m1 ?_
    rw [nI_add]
    rw [ha] at m2 m3
    refine ih M2 _ m2 m3 (fun i hi => ?_) (m4.tr hFR)
    rw [b_set _ (by omega) (by omega), hx i hi]
    rfl
  · simp (disch := omega) only [mup_n, mup_s, mput_n, mput_s, mup_mup]
    rfl
  · refine ⟨by simp (disch := omega) only [mup_n, mup_s, mput_n, mput_s, mup_mup]; rfl, fun i _ => ?_, fun i _ => ?_, fun j hj => absurd hj (Nat.not_lt_zero _)⟩
    · simp (disch := omega) only [mup_n, mup_s, mput_n, mput_s, mup_mup]
      exact bt_0 i
    · simp (disch := omega) only [mup_n, mup_s, mput_n, mput_s, mup_mup]
      exact bt_0 i
  · intro q a1 a2 a3 a4 a5 a6 a7 a8
    exact mup_n a2
theorem s_weigherOf {L : List dR} {p : Nat} (hR : rd r r1 r2 r3 r4) (hl : L.length ≤ 8) (hL : ∀ q ∈ L, rOk n q) (h8 : n ≤ 8) (hp : p < 8) (hW : RW n r r1 r2 r3 r4 L MI) : mrc (D + 1) 99 [.ref r, .int (nI p)] MI ML (some (.int (nI (wgL L p)))) MI ML := by
  obtain ⟨w1, w2, w3, w4⟩ := hW
  refine mrc_of (EX7_weigherOf (BX7_weigherOf_0 hR ?_))
  suffices h : ∀ (L' : List dR) (i : Nat), i + L'.length = L.length → (∀ j, j < L'.length → L.getD (i + j) d0R = L'.getD j d0R) → (∀ q ∈ L', rOk n q) → VX7_weigherOf_2 D (eR (some (.int (nI (wgL L' p)))) MI ML) r r1 r2 r3 r4 (nI p) (nI i) MI ML from h L 0 (by omega) (fun j hj => by rw [Nat.zero_add]) hL
  intro L'
  induction L' with
  | nil =>
    intro i hi _ _
    have hi : i = L.length := hi
    exact BX7_weigherOf_2 hR (cT (by rw [w1, hi]; exact nI_le (Nat.le_refl _) (by omega)) eRr)
  | cons q L' ih =>
    intro i hi hj hq
    simp only [List.length_cons] at hi
    have e0 : L.getD i d0R = q := hj 0 (by simp)
    obtain ⟨e1, e2, _⟩ := w4 i (by omega)
    rw [e0] at e1 e2
    have ho := hq q List.mem_cons_self
    unfold rOk at ho
    refine BX7_weigherOf_2 hR (cF (by rw [w1]; exact nI_ge (by omega) (by omega)) (cF (nI_ge (by omega) (by omega)) ⟨i, rfl, by omega, ?_⟩))
    rw [e1, nI_eq (by omega) (by omega), nI_add]
    refine br (fun h => ⟨i, rfl, by omega, ?_⟩) (fun h => ?_)
    · refine iR ?_ rfl
      rw [e2]
      unfold wgL
      rw [if_pos h]
    · have := ih (i + 1) (by omega) (fun j hjl => by
        rw [show i + 1 + j = i + (j + 1) by omega, hj (j + 1) (by simp; omega)]
        rfl) (fun q hq' => hq q (List.mem_cons_of_mem _ hq'))
      unfold wgL
      rwa [if_neg h]
end DC
