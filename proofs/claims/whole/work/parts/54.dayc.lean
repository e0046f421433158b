/-! a day: the class -/
theorem getD_snoc {α : Type} {L : List α} {q d : α} {j : Nat} : (L ++ [q]).getD j d = if j < L.length then L.getD j d else if j = L.length then q else d := by
  by_cases h : j < L.length
  · rw [if_pos h]
    simp [List.getD_eq_getElem?_getD, List.getElem?_append_left h]
  · rw [if_neg h]
    by_cases h2 : j = L.length
    · rw [if_pos h2]
      subst h2
      simp [List.getD_eq_getElem?_getD]
    · rw [if_neg h2, List.getD_eq_default _ _ (by simp; omega)]
abbrev d0R : dR := (0, 0, 0, 0)
/-- what a round of n people keeps -/
def RW (n r r1 r2 r3 r4 : Nat) (L : List dR) (M : mI) : Prop := M r 0 = nI L.length ∧ (∀ i, i < n → bt (M r 5) i = fbL L i) ∧ (∀ i, i < n → bt (M r 6) i = wbL L i) ∧ ∀ j, j < L.length → M r1 j = nI (L.getD j d0R).1 ∧ M r2 j = nI (L.getD j d0R).2.1 ∧ M r3 j = nI (L.getD j d0R).2.2.1 ∧ M r4 j = (L.getD j d0R).2.2.2
/-- all but a round's and a bazaar's numbers is as it was -/
def FR (a r r1 r2 r3 r4 : Nat) (M MI : mI) : Prop := ∀ q, q ≠ a → q ≠ r → q ≠ r1 → q ≠ r2 → q ≠ r3 → q ≠ r4 → q ≠ 8 → q ≠ 9 → M q = MI q
theorem FR.tr {a r r1 r2 r3 r4 : Nat} {M N MI : mI} (h : FR a r r1 r2 r3 r4 M N) (h2 : FR a r r1 r2 r3 r4 N MI) : FR a r r1 r2 r3 r4 M MI := fun q a1 a2 a3 a4 a5 a6 a7 a8 => (h q a1 a2 a3 a4 a5 a6 a7 a8).trans (h2 q a1 a2 a3 a4 a5 a6 a7 a8)
theorem FR.rf {a r r1 r2 r3 r4 : Nat} {M : mI} : FR a r r1 r2 r3 r4 M M := fun _ _ _ _ _ _ _ _ _ => rfl
def rq (r r1 r2 r3 r4 k a : Nat) : Prop := k ≠ a ∧ k ≠ r ∧ k ≠ r1 ∧ k ≠ r2 ∧ k ≠ r3 ∧ k ≠ r4 ∧ a ≠ r ∧ a ≠ r1 ∧ a ≠ r2 ∧ a ≠ r3 ∧ a ≠ r4 ∧ r ≠ r1 ∧ r ≠ r2 ∧ r ≠ r3 ∧ r ≠ r4 ∧ r1 ≠ r2 ∧ r1 ≠ r3 ∧ r1 ≠ r4 ∧ r2 ≠ r3 ∧ r2 ≠ r4 ∧ r3 ≠ r4 ∧ (k ≠ 6 ∧ k ≠ 7 ∧ k ≠ 8 ∧ k ≠ 9) ∧ (a ≠ 6 ∧ a ≠ 7 ∧ a ≠ 8 ∧ a ≠ 9) ∧ 9 < r ∧ 9 < r1 ∧ 9 < r2 ∧ 9 < r3 ∧ 9 < r4
theorem rq_ok {r r1 r2 r3 r4 k a : Nat} (hR : rd r r1 r2 r3 r4) (hB : bz k a) : rq r r1 r2 r3 r4 k a := by
  rcases hR with ⟨rfl, rfl, rfl, rfl, rfl⟩ | ⟨rfl, rfl, rfl, rfl, rfl⟩ <;> rcases hB with ⟨rfl, rfl⟩ | ⟨rfl, rfl⟩ | ⟨rfl, rfl⟩ <;> (unfold rq; decide)
theorem neg_le0 {x : Int32} (h : -9 ≤ x.toInt) (h2 : x.toInt ≤ 9) : -x ≤ nI 0 ↔ ¬ x < nI 0 := by
  have e : (-x).toInt = -x.toInt := by
    rw [Int32.toInt_neg]
    simp only [Int.bmod]
    omega
  rw [fa_le, fa_lt, e, nI_toInt (by omega)]
  omega
theorem PB.fe {f : Nat → Int32} (h : PB f) {i b : Nat} (hi : i < 8) (hb : b < 8) : -9 ≤ (f (20 + i * 8 + b)).toInt ∧ (f (20 + i * 8 + b)).toInt ≤ 9 := by
  have := h.ok (p := 20 + i * 8 + b) (by omega)
  unfold okv lob hib at this
  rw [if_neg (by omega), if_neg (by omega), if_neg (by omega), if_neg (by omega), if_neg (by omega), if_neg (by omega), if_neg (by omega)] at this
  split at this
  · split at this <;> omega
  · split at this <;> omega
section DC
variable {D k a n r r1 r2 r3 r4 : Nat} {MI : mI} {ML : mJ} {x y : Int32}
theorem s_setWords {x1 x2 x3 x4 x5 : Int32} : mrc (D + 1) 47 [.ref 6, .int x1, .int x2, .int x3, .int x4, .int x5] MI ML none (mup MI 8 (mput (mput (mput (mput (mput (MI 8) 1 x1) 2 x2) 3 x3) 4 x4) 5 x5)) ML := by
  refine mrc_of (EX3_setWords (BX3_setWords_0 (vR ?_)))
  simp (disch := omega) only [mup_n, mup_s, mput_n, mput_s, mup_mup]
theorem s_hungriest {T : Nat → Bool} (hB : bz k a) (hn : MI k 0 = nI n) (h8 : n ≤ 8) (hT : ∀ i, i < n → bt x i = T i) : mrc (D + 2) 97 [.ref k, .int x] MI ML (some (.int (nI (hgr (MI a) T n).1))) MI ML := by
  refine mrc_of (EX7_hungriest (BX7_hungriest_0 hB ?_))
  refine up (P := fun i => VX7_hungriest_8 (D + 1) _ k a x (nI (hgr (MI a) T i).1) (hgr (MI a) T i).2 (nI i) MI ML) n (Nat.zero_le _) ?_ ?_
  · exact BX7_hungriest_8 hB (cT (by rw [hn]; exact nI_le (Nat.le_refl _) (by omega)) eRr)
  · intro i _ hi ih
    refine BX7_hungriest_8 hB (cF (by rw [hn]; exact nI_ge hi (by omega)) (usei (s_hungerOf hB (by omega)) ?_))
    rw [tst0 x (by omega), hT i hi, nI_add]
    unfold hgr at ih
    refine br (fun h => br (fun h2 => ?_) (fun h2 => ?_)) (fun h => ?_)
    · rwa [if_pos h, if_pos h2] at ih
    · rwa [if_pos h, if_neg h2] at ih
    · rwa [if_neg h] at ih
theorem s_serve {La : mLaw} {L : List dR} {b : Nat} (hR : rd r r1 r2 r3 r4) (hB : bz k a) (hn : MI k 0 = nI n) (h8 : n ≤ 8) (hb : b < n) (hf : PB (MI a)) (hw : wfL La) (hL : LC La (MI 6 1) (MI 7)) (hl : L.length < n) (hW : RW n r r1 r2 r3 r4 L MI) : ∃ M, mrc (D + 6) 98 [.ref r, .ref k, .ref 6, .int (nI b)] MI ML none M ML ∧ M a = (srv La n (MI a) L b).1 ∧ RW n r r1 r2 r3 r4 (srv La n (MI a) L b).2 M ∧ FR a r r1 r2 r3 r4 M MI := by
  have hq := rq_ok hR hB
  unfold rq at hq
  suffices h : VX7_serve_0 (D + 5) (fun v M L' => v = none ∧ L' = ML ∧ M a = (srv La n (MI a) L b).1 ∧ RW n r r1 r2 r3 r4 (srv La n (MI a) L b).2 M ∧ FR a r r1 r2 r3 r4 M MI) r r1 r2 r3 r4 k a (nI b) MI ML by
    obtain ⟨v, M, L', ⟨rfl, rfl, hr⟩, h⟩ := EX7_serve h
    exact ⟨M, h, hr⟩
  refine BX7_serve_0 hR hB (usei (s_friendOf hB hn h8 (by omega) (Nat.le_refl 8)) ?_)
  have hfo := frd_ok (MI a) b 8 n
  rw [nI_eq (by rcases hfo with q | q <;> omega) (by omega)]
  unfold srv
  refine br (fun h1 => ?_) (fun h1 => ?_)
  · rw [if_pos h1]
    exact ⟨rfl, rfl, rfl, hW, FR.rf⟩
  · rw [if_neg h1]
    have hfo := hfo.resolve_left (fun q => h1 q.1)
    generalize hfr : (frd (MI a) b 8 n).1 = fr at *
    obtain ⟨w1, w2, w3, w4⟩ := hW
    rw [w1, nI_add]
    refine cT (nI_lt (by omega) (by omega)) (usei (s_felt hB (by omega) (by omega)) (usei (s_hungerOf hB (by omega)) (usei (s_numberAt hB (by omega)) (usei (s_numberAt hB (by omega)) (usev s_setWords ?_)))))
    refine up (P := fun i => ∀ M : mI, (∀ q, q ≠ 8 → q ≠ 9 → M q = MI q) → (∀ j, 1 ≤ j → j < 6 → M 8 j = wds (MI a) b fr 0 L.length j) → VX7_serve_70 (D + 5) _ r r1 r2 r3 r4 k a (nI b) (nI fr) (nI (bst La (MI a) b fr L i).1) (bst La (MI a) b fr L i).2 (nI i) M ML) n (Nat.zero_le _) ?_ ?_ _ (fun q q8 q9 => mup_n q8) ?_
    · intro M hM hM8
      have hk : M k 0 = nI n := by rw [hM k (by omega) (by omega)]; exact hn
      have ha : M a = MI a := hM a (by omega) (by omega)
      have hr0 : M r = MI r := hM r (by omega) (by omega)
      have hr1 : M r1 = MI r1 := hM r1 (by omega) (by omega)
      have hr2 : M r2 = MI r2 := hM r2 (by omega) (by omega)
      have hr3 : M r3 = MI r3 := hM r3 (by omega) (by omega)
      have hr4 : M r4 = MI r4 := hM r4 (by omega) (by omega)
      have hbo := bst_ok La (MI a) b fr L n
      refine BX7_serve_70 hR hB (cT (by rw [hk]; exact nI_le (Nat.le_refl _) (by omega)) ?_)
      rw [nI_eq (by rcases hbo with q | q <;> omega) (by omega)]
      refine br (fun h2 => ?_) (fun h2 => ?_)
      · rw [if_pos h2]
        exact ⟨rfl, rfl, ha, ⟨by rw [hr0]; exact w1, by rw [hr0]; exact w2, by rw [hr0]; exact w3, by rw [hr1, hr2, hr3, hr4]; exact w4⟩, fun q _ _ _ _ _ _ q8 q9 => hM q q8 q9⟩
      · rw [if_neg h2]
        have hbo := hbo.resolve_left (fun q => h2 q.1)
        generalize hww : (bst La (MI a) b fr L n).1 = w at *
        generalize hoo : (bst La (MI a) b fr L n).2 = o at *
        refine usei (s_felt hB (by omega) (by omega)) (usei (s_numberAt hB (by omega)) (usev (s_setFelt hB (by omega) (by omega)) (usev (s_hungerLess hB (by omega)) ?_)))
        simp (disch := omega) only [mup_n, mup_s, mput_n, mput_s, mup_mup]
        rw [hr0, w1, ha]
        refine ⟨L.length, rfl, by omega, L.length, rfl, by omega, L.length, rfl, by omega, L.length, rfl, by omega, ?_⟩
        simp (disch := omega) only [mup_n, mup_s, mput_n, mput_s, mup_mup]
        refine ⟨rfl, rfl, ?_, ⟨?_, ?_, ?_, ?_⟩, ?_⟩
        · simp (disch := omega) only [mup_n, mup_s, mput_n, mput_s, mup_mup]
        · simp (disch := omega) only [mup_n, mup_s, mput_n, mput_s, mup_mup]
          rw [nI_add, List.length_append]
          rfl
        · intro i hi
          simp (disch := omega) only [mup_n, mup_s, mput_n, mput_s, mup_mup]
          rw [b_set _ (by omega) (by omega), hr0, w2 i hi, fbL_app]
          congr 1
          rw [decide_eq_decide]
          exact ⟨fun q => q.symm, fun q => q.symm⟩
        · intro i hi
          simp (disch := omega) only [mup_n, mup_s, mput_n, mput_s, mup_mup]
          rw [b_set _ (by omega) (by omega), hr0, w3 i hi, wbL_app]
          congr 1
          rw [decide_eq_decide]
          exact ⟨fun q => q.symm, fun q => q.symm⟩
        · intro j hj
          rw [List.length_append] at hj
          have hj : j < L.length + 1 := hj
          rw [getD_snoc]
          by_cases hjl : j = L.length
          · subst hjl
            rw [if_neg (by omega), if_pos rfl]
            simp (disch := omega) only [mup_n, mup_s, mput_n, mput_s, mup_mup]
            exact ⟨rfl, rfl, rfl, rfl⟩
          · rw [if_pos (by omega)]
            simp (disch := omega) only [mup_n, mup_s, mput_n, mput_s, mup_mup]
            rw [hr1, hr2, hr3, hr4]
            exact w4 j (by omega)
        · intro q a1 a2 a3 a4 a5 a6 a7 a8
          simp only [mup_n a1, mup_n a2, mup_n a3, mup_n a4, mup_n a5, mup_n a6]
          exact hM q a7 a8
    · intro i _ hi ih M hM hM8
      have hk : M k 0 = nI n := by rw [hM k (by omega) (by omega)]; exact hn
      have ha : M a = MI a := hM a (by omega) (by omega)
      have hr0 : M r = MI r := hM r (by omega) (by omega)
      have hfe := hf.fe (i := i) (b := b) (by omega) (by omega)
      refine BX7_serve_70 hR hB (cF (by rw [hk]; exact nI_ge hi (by omega)) (usei (s_felt hB (by omega) (by omega)) ?_))
      rw [ha, hr0, neg_le0 hfe.1 hfe.2, tst0 _ (by omega), w3 i hi, nI_add]
      have e : bst La (MI a) b fr L (i + 1) = if MI a (20 + i * 8 + b) < nI 0 ∧ wbL L i = false then (if lwO (wds (MI a) b fr i L.length) La ≤ (bst La (MI a) b fr L i).2 then bst La (MI a) b fr L i else (i, lwO (wds (MI a) b fr i L.length) La)) else bst La (MI a) b fr L i := rfl
      rw [e] at ih
      refine br (fun h1 => ?_) (fun h1 => br (fun h2 => ?_) (fun h2 => ?_))
      · rw [if_neg (fun q => h1 q.1)] at ih
        exact ih M hM hM8
      · obtain ⟨M2, m1, m2, m3⟩ := s_weighedOut (D := D + 3) (ML := ML) (MI := M) (La := La) (x := -MI a (20 + i * 8 + b)) hw (by rw [hM 6 (by decide) (by decide), hM 7 (by decide) (by decide)]; exact hL)
        have eo : lwO (mput (M 8) 0 (-MI a (20 + i * 8 + b))) La = lwO (wds (MI a) b fr i L.length) La := by
          refine lwO_cong (fun j hj => ?_) hw
          by_cases j0 : j = 0
          · subst j0
            rw [mput_s]; rfl
          · rw [mput_n j0, hM8 j (by omega) hj]
            unfold wds
            rw [if_neg j0, if_neg j0]
        rw [eo] at m1
        rw [if_pos ⟨Classical.not_not.mp h1, h2⟩] at ih
        refine usei m1 (br (fun h3 => ?_) (fun h3 => ?_))
        · rw [if_pos h3] at ih
          exact ih M2 (fun q q8 q9 => (m2 q q8 q9).trans (hM q q8 q9)) (fun j j1 j6 => by rw [m3 j (by omega)]; exact hM8 j j1 j6)
        · rw [if_neg h3] at ih
          exact ih M2 (fun q q8 q9 => (m2 q q8 q9).trans (hM q q8 q9)) (fun j j1 j6 => by rw [m3 j (by omega)]; exact hM8 j j1 j6)
      · rw [if_neg (fun q => h2 q.2)] at ih
        exact ih M hM hM8
    · intro j j1 j6
      rw [mup_s]
      rcases (show j = 1 ∨ j = 2 ∨ j = 3 ∨ j = 4 ∨ j = 5 by omega) with rfl | rfl | rfl | rfl | rfl
      all_goals simp (disch := omega) only [mput_s, mput_n]; rfl
theorem s_goBy {La : mLaw} (hR : rd r r1 r2 r3 r4) (hB : bz k a) (hn : MI k 0 = nI n) (h8 : n ≤ 8) (hf : PB (MI a)) (hw : wfL La) (hL : LC La (MI 6 1) (MI 7)) : ∃ M, mrc (D + 7) 96 [.ref r, .ref k, .ref 6] MI ML (some (.int (nI (dyL La n (MI a)).length))) M ML ∧ M a = dyF La n (MI a) ∧ RW n r r1 r2 r3 r4 (dyL La n (MI a)) M ∧ FR a r r1 r2 r3 r4 M MI := by
  have hq := rq_ok hR hB
  unfold rq at hq
  suffices h : VX7_goBy_0 (D + 6) (fun v M L' => v = some (.int (nI (dyL La n (MI a)).length)) ∧ L' = ML ∧ M a = dyF La n (MI a) ∧ RW n r r1 r2 r3 r4 (dyL La n (MI a)) M ∧ FR a r r1 r2 r3 r4 M MI) r r1 r2 r3 r4 k a MI ML by
    obtain ⟨v, M, L', ⟨rfl, rfl, hr⟩, h⟩ := EX7_goBy h
    exact ⟨M, h, hr⟩
  refine BX7_goBy_0 hR hB ?_
  simp (disch := omega) only [mup_n, mup_s, mput_n, mput_s, mup_mup]
  refine up (P := fun t => ∀ (M : mI) (x : Int32), M a = (trn La n (MI a) t).1 → RW n r r1 r2 r3 r4 (trn La n (MI a) t).2.1 M → (∀ i, i < n → bt x i = (trn La n (MI a) t).2.2 i) → FR a r r1 r2 r3 r4 M MI → VX7_goBy_20 (D + 6) _ r r1 r2 r3 r4 k a x (nI t) M ML) n (Nat.zero_le _) ?_ ?_ _ _ ?_ ?_ (fun i _ => bt_0 i) ?_
  · intro M x ha hW hx hFR
    have hk : M k = MI k := hFR k (by omega) (by omega) (by omega) (by omega) (by omega) (by omega) (by omega) (by omega)
    refine BX7_goBy_20 hR hB (cT (by rw [hk, hn]; exact nI_le (Nat.le_refl _) (by omega)) ?_)
    obtain ⟨w1, w2, w3, w4⟩ := hW
    refine usev (s_endDay (n := n) hB (by rw [hk]; exact hn) h8 w2) ?_
    rw [ha]
    refine ⟨by simp (disch := omega) only [mup_n, mup_s, mput_n, mput_s, mup_mup]; rw [w1]; rfl, rfl, by simp (disch := omega) only [mup_n, mup_s, mput_n, mput_s, mup_mup]; rfl, ⟨by simp (disch := omega) only [mup_n, mup_s, mput_n, mput_s, mup_mup]; exact w1, by simp (disch := omega) only [mup_n, mup_s, mput_n, mput_s, mup_mup]; exact w2, by simp (disch := omega) only [mup_n, mup_s, mput_n, mput_s, mup_mup]; exact w3, by simp (disch := omega) only [mup_n, mup_s, mput_n, mput_s, mup_mup]; exact w4⟩, fun q a1 a2 a3 a4 a5 a6 a7 a8 => (mup_n a1).trans (hFR q a1 a2 a3 a4 a5 a6 a7 a8)⟩
  · intro t _ ht ih M x ha hW hx hFR
    have hk : M k = MI k := hFR k (by omega) (by omega) (by omega) (by omega) (by omega) (by omega) (by omega) (by omega)
    obtain ⟨p1, p2, p3, p4, p5, p6⟩ := trn_ok (La := La) h8 hf t (by omega)
    obtain ⟨b1, b2⟩ := trn_b (La := La) h8 hf ht
    refine BX7_goBy_20 hR hB (cF (by rw [hk, hn]; exact nI_ge ht (by omega)) (usei (s_hungriest (n := n) hB (by rw [hk]; exact hn) h8 hx) ?_))
    rw [ha]
    obtain ⟨M2, m1, m2, m3, m4⟩ := s_serve (D := D) (ML := ML) (MI := M) (La := La) (L := (trn La n (MI a) t).2.1) (b := (hgr (trn La n (MI a) t).1 (trn La n (MI a) t).2.2 n).1) hR hB (by rw [hk]; exact hn) h8 b1 (by rw [ha]; exact p1) hw (by rw [hFR 6 (by omega) (by omega) (by omega) (by omega) (by omega) (by omega) (by omega) (by omega), hFR 7 (by omega) (by omega) (by omega) (by omega) (by omega) (by omega) (by omega) (by omega)]; exact hL) (by omega) hW
    refine usev m1 ?_
    rw [nI_add]
    rw [ha] at m2 m3
    refine ih M2 _ m2 m3 (fun i hi => ?_) (m4.tr hFR)
    rw [b_set _ (by omega) (by omega), hx i hi]
    rfl
  · simp (disch := omega) only [mup_n, mup_s, mput_n, mput_s, mup_mup]
    rfl
  · refine ⟨by simp (disch := omega) only [mup_n, mup_s, mput_n, mput_s, mup_mup]; rfl, fun i _ => ?_, fun i _ => ?_, fun j hj => absurd hj (Nat.not_lt_zero _)⟩
    · simp (disch := omega) only [mup_n, mup_s, mput_n, mput_s, mup_mup]
      exact bt_0 i
    · simp (disch := omega) only [mup_n, mup_s, mput_n, mput_s, mup_mup]
      exact bt_0 i
  · intro q a1 a2 a3 a4 a5 a6 a7 a8
    exact mup_n a2
theorem s_weigherOf {L : List dR} {p : Nat} (hR : rd r r1 r2 r3 r4) (hl : L.length ≤ 8) (hL : ∀ q ∈ L, rOk n q) (h8 : n ≤ 8) (hp : p < 8) (hW : RW n r r1 r2 r3 r4 L MI) : mrc (D + 1) 99 [.ref r, .int (nI p)] MI ML (some (.int (nI (wgL L p)))) MI ML := by
  obtain ⟨w1, w2, w3, w4⟩ := hW
  refine mrc_of (EX7_weigherOf (BX7_weigherOf_0 hR ?_))
  suffices h : ∀ (L' : List dR) (i : Nat), i + L'.length = L.length → (∀ j, j < L'.length → L.getD (i + j) d0R = L'.getD j d0R) → (∀ q ∈ L', rOk n q) → VX7_weigherOf_2 D (eR (some (.int (nI (wgL L' p)))) MI ML) r r1 r2 r3 r4 (nI p) (nI i) MI ML from h L 0 (by omega) (fun j hj => by rw [Nat.zero_add]) hL
  intro L'
  induction L' with
  | nil =>
    intro i hi _ _
    have hi : i = L.length := hi
    exact BX7_weigherOf_2 hR (cT (by rw [w1, hi]; exact nI_le (Nat.le_refl _) (by omega)) eRr)
  | cons q L' ih =>
    intro i hi hj hq
    simp only [List.length_cons] at hi
    have e0 : L.getD i d0R = q := hj 0 (by simp)
    obtain ⟨e1, e2, _⟩ := w4 i (by omega)
    rw [e0] at e1 e2
    have ho := hq q List.mem_cons_self
    unfold rOk at ho
    refine BX7_weigherOf_2 hR (cF (by rw [w1]; exact nI_ge (by omega) (by omega)) (cF (nI_ge (by omega) (by omega)) ⟨i, rfl, by omega, ?_⟩))
    rw [e1, nI_eq (by omega) (by omega), nI_add]
    refine br (fun h => ⟨i, rfl, by omega, ?_⟩) (fun h => ?_)
    · refine iR ?_ rfl
      rw [e2]
      unfold wgL
      rw [if_pos h]
    · have := ih (i + 1) (by omega) (fun j hjl => by
        rw [show i + 1 + j = i + (j + 1) by omega, hj (j + 1) (by simp; omega)]
        rfl) (fun q hq' => hq q (List.mem_cons_of_mem _ hq'))
      unfold wgL
      rwa [if_neg h]
end DC
