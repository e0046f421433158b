/-! the law's bazaar, told to the class -/
theorem mrnT_le {Tb : Nat → Nat → mO} {D D' y : Nat} {as : List Value} {S S' : mS} {v : Option Value} (h : mrnT Tb D y as S v S') (hd : D ≤ D') : mrnT Tb D' y as S v S' := by
  induction hd with
  | refl => exact h
  | step _ ih => exact mrnT_mono ih
/-- a call of the class, in the law's world -/
theorem k_upB {D y d : Nat} {E : List mT} {as : List Value} {MI M : mI} {ML N : mJ} {v : Option Value} (h : mrc 300 y as MI ML v M N) (hD : 300 ≤ D) : mrnT mTb D y as (W0 + d, Sh0 ++ E, MI, ML) v (W0 + d, Sh0 ++ E, M, N) := mrnT_le ((mrn_fr 300 y as _ v _ h).2 rfl d E) hD
theorem k_up {L : Nat} {xs : Nat → Int32} {D y d : Nat} {E : List mT} {as : List Value} {MI M : mI} {ML N : mJ} {v : Option Value} (h : mrc 300 y as MI ML v M N) (hD : 300 ≤ D) : mrnT (mTbS L xs) D y as (W0 + d, Sh0 ++ E, MI, ML) v (W0 + d, Sh0 ++ E, M, N) := mrn_S (k_upB h hD)
theorem ushr_b {s : Nat} (h1 : 1 ≤ s) (x : Int32) : x.toUInt32.toNat / 2 ^ s < 2147483648 := by
  have h := uz x
  have h2 : 2 ^ 1 ≤ 2 ^ s := Nat.pow_le_pow_right (by decide) h1
  have h3 : x.toUInt32.toNat / 2 ^ s ≤ x.toUInt32.toNat / 2 := Nat.div_le_div_left h2 (by decide)
  omega
theorem u_r {s d : Nat} (h1 : 1 ≤ s) (h2 : s < 32) (hd : 0 < d) (hd2 : d < 2147483648) (x : Int32) : ∃ m, m < d ∧ ((x.toUInt32 >>> ((nI s).toUInt32 &&& Int32.toUInt32 31)).toInt32) - ((x.toUInt32 >>> ((nI s).toUInt32 &&& Int32.toUInt32 31)).toInt32) / nI d * nI d = nI m := by
  rw [ush h2 x]
  exact ⟨_, Nat.mod_lt _ hd, pk_rem (ushr_b h1 x) hd hd2⟩
theorem u_and3 (x : Int32) : ∃ m, m < 4 ∧ ((x.toUInt32 >>> ((nI 5).toUInt32 &&& Int32.toUInt32 31)).toInt32) &&& nI 3 = nI m := by
  rw [ush (by omega) x]
  exact ⟨_, Nat.mod_lt _ (by decide), fa_mask _ 2⟩
section L92
variable {L d n : Nat} {xs : Nat → Int32} {g c : Nat → Int32} {La : mLaw} {E : List mT} {MI M : mI} {ML : mJ} {Q : Option Value → mS → Prop}
theorem l_cell {D k : Nat} {S : mS} (hL : L ≤ 260) (hk : k < 2000) : ∃ v, mrnT (mTbS L xs) (D + 1) 300 [.float 0, .int (nI k)] S (some (.int v)) S := by
  obtain ⟨w, Sh, MI, ML⟩ := S
  by_cases h : L ≤ k
  · exact ⟨_, mr_of (EL_cell (eQ_le (Nat.le_refl _) (Nat.le_refl _)) (BL_cell_0 (by omega) (cT (nI_le h (by omega)) eQr)))⟩
  · exact ⟨_, mr_of (EL_cell (eQ_le (Nat.le_refl _) (Nat.le_refl _)) (BL_cell_0 (by omega) (cF (nI_ge (by omega) (by omega)) ⟨k, rfl, by omega, eQr⟩)))⟩
theorem isO0 : isO (Sh0 ++ E) 0 10 := ⟨_, by rw [List.getElem?_append_left (by decide)]; exact sh_0⟩
theorem l_three {x y z : Nat} {l : List Nat} (hK : KI n g La c MI) (hT : TP l MI) (hl : l.length + 3 ≤ 160) (hx : x < 256) (hy : y < 256) (hz : z < 256) : ∃ M, mrnT (mTbS L xs) 302 284 [.ref 0, .int (nI x), .int (nI y), .int (nI z)] (W0 + d, Sh0 ++ E, MI, ML) (some (.int (nI 1))) (W0 + d, Sh0 ++ E, M, ML) ∧ KI n g La c M ∧ TP (l ++ [x] ++ [y] ++ [z]) M ∧ FK3 M MI := by
  obtain ⟨M1, a1, a2, a3, a4⟩ := k_feed (ML := ML) hK hT (by omega) hx
  have l1 : (l ++ [x]).length = l.length + 1 := List.length_append
  obtain ⟨M2, b1, b2, b3, b4⟩ := k_feed (ML := ML) a2 a3 (by omega) hy
  have l2 : (l ++ [x] ++ [y]).length = l.length + 2 := by rw [List.length_append, l1]; rfl
  obtain ⟨M3, c1, c2, c3, c4⟩ := k_feed (ML := ML) b2 b3 (by omega) hz
  have p : ∀ m : Nat, m < 200 → ¬ nI (m + 1) ≤ nI 0 := fun m hm => nI_ge (by omega) (by omega)
  refine ⟨M3, mrn_S (mrnT_mono (mr_of (D := 301) (EL_three (D := 300) (eQ_le (Nat.le_refl _) (Nat.le_refl _)) (BL_three_0 ⟨isO0, _, _, _, k_upB a1 (Nat.le_refl _), cF (p _ (by omega)) ⟨isO0, _, _, _, k_upB b1 (Nat.le_refl _), cF (p _ (by omega)) ⟨isO0, _, _, _, k_upB c1 (Nat.le_refl _), cF (p _ (by omega)) eQr⟩⟩⟩)))), c2, c3, fun q hq => (c4 q hq).trans ((b4 q hq).trans (a4 q hq))⟩
/-- the text told and taken over -/
theorem l_text {A B C : Nat} (hL : L ≤ 260) (hB49 : asz (Sh0 ++ E) 49 3) (hK : KI n g La c MI) (hT : TP [] MI) (hA : 1 ≤ A ∧ A ≤ 9) (hB : 1 ≤ B ∧ B ≤ 9) (hC : 1 ≤ C ∧ C ≤ 9) (b0 : MI 49 0 = nI A) (b1 : MI 49 1 = nI B) (b2 : MI 49 2 = nI C) (K : ∀ M, KI n g (laT A B C) c M → FK3 M MI → Q (some (.int (nI 1))) (W0 + d, Sh0 ++ E, M, ML)) : VL_bazaar_402 (mrnT (mTbS L xs) 302) Q L xs 0 49 (W0 + d) (Sh0 ++ E) MI ML := by
  have n1 : ¬ nI 1 = nI 0 := by decide
  obtain ⟨M0, p0, q0, r0, f0⟩ := l_three (L := L) (xs := xs) (d := d) (E := E) (ML := ML) (x := 104) (y := 97) (z := 116) hK hT (Nat.le_of_ble_eq_true rfl) (by decide) (by decide) (by decide)
  simp only [List.nil_append, List.cons_append] at r0
  have F0 : FK3 M0 MI := f0
  obtain ⟨M1, p1, q1, r1, f1⟩ := l_three (L := L) (xs := xs) (d := d) (E := E) (ML := ML) (x := 101) (y := 42) (z := (48 + A)) q0 r0 (Nat.le_of_ble_eq_true rfl) (by decide) (by decide) (by omega)
  simp only [List.nil_append, List.cons_append] at r1
  have F1 : FK3 M1 MI := f1.tr F0
  obtain ⟨M2, p2, q2, r2, f2⟩ := l_three (L := L) (xs := xs) (d := d) (E := E) (ML := ML) (x := 43) (y := 119) (z := 97) q1 r1 (Nat.le_of_ble_eq_true rfl) (by decide) (by decide) (by decide)
  simp only [List.nil_append, List.cons_append] at r2
  have F2 : FK3 M2 MI := f2.tr F1
  obtain ⟨M3, p3, q3, r3, f3⟩ := l_three (L := L) (xs := xs) (d := d) (E := E) (ML := ML) (x := 110) (y := 116) (z := 45) q2 r2 (Nat.le_of_ble_eq_true rfl) (by decide) (by decide) (by decide)
  simp only [List.nil_append, List.cons_append] at r3
  have F3 : FK3 M3 MI := f3.tr F2
  obtain ⟨M4, p4, q4, r4, f4⟩ := l_three (L := L) (xs := xs) (d := d) (E := E) (ML := ML) (x := 108) (y := 111) (z := 118) q3 r3 (Nat.le_of_ble_eq_true rfl) (by decide) (by decide) (by decide)
  simp only [List.nil_append, List.cons_append] at r4
  have F4 : FK3 M4 MI := f4.tr F3
  obtain ⟨M5, p5, q5, r5, f5⟩ := l_three (L := L) (xs := xs) (d := d) (E := E) (ML := ML) (x := 101) (y := 47) (z := (48 + B)) q4 r4 (Nat.le_of_ble_eq_true rfl) (by decide) (by decide) (by omega)
  simp only [List.nil_append, List.cons_append] at r5
  have F5 : FK3 M5 MI := f5.tr F4
  obtain ⟨M6, p6, q6, r6, f6⟩ := l_three (L := L) (xs := xs) (d := d) (E := E) (ML := ML) (x := 43) (y := 104) (z := 117) q5 r5 (Nat.le_of_ble_eq_true rfl) (by decide) (by decide) (by decide)
  simp only [List.nil_append, List.cons_append] at r6
  have F6 : FK3 M6 MI := f6.tr F5
  obtain ⟨M7, p7, q7, r7, f7⟩ := l_three (L := L) (xs := xs) (d := d) (E := E) (ML := ML) (x := 110) (y := 103) (z := 101) q6 r6 (Nat.le_of_ble_eq_true rfl) (by decide) (by decide) (by decide)
  simp only [List.nil_append, List.cons_append] at r7
  have F7 : FK3 M7 MI := f7.tr F6
  obtain ⟨M8, p8, q8, r8, f8⟩ := l_three (L := L) (xs := xs) (d := d) (E := E) (ML := ML) (x := 114) (y := 47) (z := (48 + C)) q7 r7 (Nat.le_of_ble_eq_true rfl) (by decide) (by decide) (by omega)
  simp only [List.nil_append, List.cons_append] at r8
  have F8 : FK3 M8 MI := f8.tr F7
  obtain ⟨M9, p9, q9, r9, f9⟩ := l_three (L := L) (xs := xs) (d := d) (E := E) (ML := ML) (x := 43) (y := 100) (z := 97) q8 r8 (Nat.le_of_ble_eq_true rfl) (by decide) (by decide) (by decide)
  simp only [List.nil_append, List.cons_append] at r9
  have F9 : FK3 M9 MI := f9.tr F8
  obtain ⟨M10, p10, q10, r10, f10⟩ := l_three (L := L) (xs := xs) (d := d) (E := E) (ML := ML) (x := 121) (y := 37) (z := 51) q9 r9 (Nat.le_of_ble_eq_true rfl) (by decide) (by decide) (by decide)
  simp only [List.nil_append, List.cons_append] at r10
  have F10 : FK3 M10 MI := f10.tr F9
  obtain ⟨M11, p11, q11, r11, f11⟩ := l_three (L := L) (xs := xs) (d := d) (E := E) (ML := ML) (x := 45) (y := 100) (z := 111) q10 r10 (Nat.le_of_ble_eq_true rfl) (by decide) (by decide) (by decide)
  simp only [List.nil_append, List.cons_append] at r11
  have F11 : FK3 M11 MI := f11.tr F10
  obtain ⟨M12, p12, q12, r12, f12⟩ := k_feed (ML := ML) (x := 110) q11 r11 (Nat.le_of_ble_eq_true rfl) (by decide)
  simp only [List.nil_append, List.cons_append] at r12
  obtain ⟨M13, p13, q13, r13, f13⟩ := k_feed (ML := ML) (x := 101) q12 r12 (Nat.le_of_ble_eq_true rfl) (by decide)
  simp only [List.nil_append, List.cons_append] at r13
  have F13 : FK3 M13 MI := f13.tr (f12.tr F11)
  obtain ⟨M14, p14, q14, f14⟩ := k_law (ML := ML) (l := txL A B C) (r := (true, 38, laT A B C)) q13 r13 rfl (txL_at hA hB hC) (by show (flC (laT A B C)).length ≤ 161; exact Nat.le_of_ble_eq_true rfl) (laT_wf hA hB hC)
  have e0 : nI 48 + M0 49 0 = nI (48 + A) := by rw [F0 49 (by decide), b0, nI_add]
  have e1 : nI 48 + M4 49 1 = nI (48 + B) := by rw [F4 49 (by decide), b1, nI_add]
  have e2 : nI 48 + M7 49 2 = nI (48 + C) := by rw [F7 49 (by decide), b2, nI_add]
  refine BL_bazaar_402 (by omega) ⟨_, _, _, p0, cF n1 ⟨hB49.cell 0 (by omega), ?_⟩⟩
  rw [e0]
  refine ⟨_, _, _, p1, cF n1 ⟨_, _, _, p2, cF n1 ⟨_, _, _, p3, cF n1 ⟨_, _, _, p4, cF n1 ⟨hB49.cell 1 (by omega), ?_⟩⟩⟩⟩⟩
  rw [e1]
  refine ⟨_, _, _, p5, cF n1 ⟨_, _, _, p6, cF n1 ⟨_, _, _, p7, cF n1 ⟨hB49.cell 2 (by omega), ?_⟩⟩⟩⟩
  rw [e2]
  refine ⟨_, _, _, p8, cF n1 ⟨_, _, _, p9, cF n1 ⟨_, _, _, p10, cF n1 ⟨_, _, _, p11, cF n1 ⟨isO0, _, _, _, k_up p12 (by decide), cF (nI_ge (by simp) (by simp)) ⟨isO0, _, _, _, k_up p13 (by decide), cF (nI_ge (by simp) (by simp)) ?_⟩⟩⟩⟩⟩⟩
  exact BL_bazaar_596 (by omega) (cF n1 ⟨isO0, _, _, _, k_up p14 (by decide), cT rfl (K M14 q14 (f14.tr F13))⟩)
end L92
