/-! book, changes, needles, tape: contracts -/
section S2
variable {D d n : Nat} {MI : mI} {ML : mJ} {x y z : Int32}
theorem s_bkAdd (hd : d < 6) : mrc (D + 1) 29 [.ref 33, .int (nI d), .int x] MI ML none (mup MI 34 (mput (MI 34) d (MI 34 d + x))) ML := by
  refine mrc_of (EX1_add (BX1_add_0 ?_))
  simp (disch := omega) only [nI_add, pk_mul, nI_leI, nI_ltI, nI_eq, ex_ix, nI_0lt, nI_0le, nat_rem, pk_div, pk_sub, bI_0, bI_1, mup_mup, mup_s, mup_n, mput_s, mput_n, and_true, true_and, not_true_eq_false, not_false_eq_true, ne_eq, Nat.zero_add]
  exact br (fun h => absurd h (Nat.not_lt_zero _)) (fun _ => br (fun h => by omega) (fun _ => ⟨hd, hd, eRr⟩))
theorem s_told (hd : d < 6) : mrc (D + 1) 30 [.ref 33, .int (nI d)] MI ML (some (.int (MI 34 d))) MI ML := by
  refine mrc_of (EX1_told (BX1_told_0 ?_))
  simp (disch := omega) only [nI_add, pk_mul, nI_leI, nI_ltI, nI_eq, ex_ix, nI_0lt, nI_0le, nat_rem, pk_div, pk_sub, bI_0, bI_1, mup_mup, mup_s, mup_n, mput_s, mput_n, and_true, true_and, not_true_eq_false, not_false_eq_true, ne_eq, Nat.zero_add]
  exact br (fun h => absurd h (Nat.not_lt_zero _)) (fun _ => br (fun h => by omega) (fun _ => ⟨hd, eRr⟩))
theorem s_bkWrite (hn : MI 33 2 = nI n) (h : n < 72) : mrc (D + 1) 32 [.ref 33, .int x] MI ML none (mup (mup MI 35 (mput (MI 35) n x)) 33 (mput (MI 33) 2 (nI (n + 1)))) ML := by
  refine mrc_of (EX1_write (BX1_write_0 ?_))
  simp (disch := omega) only [nI_add, pk_mul, nI_leI, nI_ltI, nI_eq, ex_ix, nI_0lt, nI_0le, nat_rem, pk_div, pk_sub, bI_0, bI_1, mup_mup, mup_s, mup_n, mput_s, mput_n, and_true, true_and, not_true_eq_false, not_false_eq_true, ne_eq, Nat.zero_add, hn]
  exact ⟨fun h => by omega, fun _ => ⟨h, eRr⟩⟩
theorem s_taleLength : mrc (D + 1) 33 [.ref 33] MI ML (some (.int (MI 33 2))) MI ML := mrc_of (EX1_taleLength (BX1_taleLength_0 eRr))
theorem s_taleByte (hn : MI 33 2 = nI n) (h : n ≤ 72) : mrc (D + 1) 34 [.ref 33, .int x] MI ML (some (.int (if hasB n x then MI 35 x.toNatClampNeg else -2))) MI ML := by
  refine mrc_of (EX1_taleByte (BX1_taleByte_0 ?_))
  rw [hn]
  rcases nIx x (n := n) (by omega) with q | q | ⟨j, hj, rfl⟩
  · exact ⟨fun _ => iR (by rw [if_neg]; grind [hasB]) rfl, fun h => absurd q h⟩
  · refine br (fun _ => iR ?_ rfl) (fun _ => br (fun _ => iR ?_ rfl) (fun h => absurd q h))
    · rw [if_neg]; grind [hasB]
    · rw [if_neg]; grind [hasB]
  · refine br (fun h => absurd h (nI_nlt (Nat.zero_le _) (by omega))) (fun _ => br (fun h => absurd h (nI_ge hj (by omega))) (fun _ => ⟨j, rfl, by omega, iR ?_ rfl⟩))
    rw [hasB_nI' (by omega) (by omega), decide_eq_true hj, if_pos rfl, nI_clamp (by omega)]
theorem s_forgetFirst : mrc (D + 1) 40 [.ref 39] MI ML none (mup (mup (mup (mup MI 40 (va_cpy (MI 40) (MI 40) 1 0 39)) 41 (va_cpy (MI 41) (MI 41) 1 0 39)) 42 (va_cpy (MI 42) (MI 42) 1 0 39)) 39 (mput (MI 39) 3 (nI 39))) ML := by
  refine mrc_of (EX2_forgetFirst (BX2_forgetFirst_0 ?_))
  refine ⟨1, 0, 39, rfl, rfl, rfl, by decide, by decide, 1, 0, 39, rfl, rfl, rfl, by decide, by decide, 1, 0, 39, rfl, rfl, rfl, by decide, by decide, ?_⟩
  exact vR (by simp (disch := omega) only [mup_n, mup_s])
theorem s_chAdd (hn : MI 39 3 = nI n) (h : n < 40) : mrc (D + 2) 39 [.ref 39, .int x, .int y, .int z] MI ML none (mup (mup (mup (mup MI 40 (mput (MI 40) n x)) 41 (mput (MI 41) n y)) 42 (mput (MI 42) n z)) 39 (mput (mput (MI 39) 3 (nI (n + 1))) 4 (nI (n + 1)))) ML := by
  refine mrc_of (EX2_add (BX2_add_0 ?_))
  rw [hn]
  refine ⟨fun _ => ?_, fun q => absurd (nI_lt h (by omega)) q⟩
  refine BX2_add_13 ?_
  simp (disch := omega) only [nI_add, pk_mul, nI_leI, nI_ltI, nI_eq, ex_ix, nI_0lt, nI_0le, nat_rem, pk_div, pk_sub, bI_0, bI_1, mup_mup, mup_s, mup_n, mput_s, mput_n, and_true, true_and, not_true_eq_false, not_false_eq_true, ne_eq, Nat.zero_add, hn]
  exact ⟨h, h, h, vR rfl⟩
theorem s_chAddFull (hn : MI 39 3 = nI 40) : mrc (D + 2) 39 [.ref 39, .int x, .int y, .int z] MI ML none (mup (mup (mup (mup MI 40 (mput (va_cpy (MI 40) (MI 40) 1 0 39) 39 x)) 41 (mput (va_cpy (MI 41) (MI 41) 1 0 39) 39 y)) 42 (mput (va_cpy (MI 42) (MI 42) 1 0 39) 39 z)) 39 (mput (mput (MI 39) 3 (nI 40)) 4 (nI 40))) ML := by
  refine mrc_of (EX2_add (BX2_add_0 ?_))
  rw [hn]
  refine ⟨fun q => absurd q (by decide), fun _ => usev s_forgetFirst ?_⟩
  refine BX2_add_13 ?_
  simp (disch := omega) only [nI_add, pk_mul, nI_leI, nI_ltI, nI_eq, ex_ix, nI_0lt, nI_0le, nat_rem, pk_div, pk_sub, bI_0, bI_1, mup_mup, mup_s, mup_n, mput_s, mput_n, and_true, true_and, not_true_eq_false, not_false_eq_true, ne_eq, Nat.zero_add, hn]
  refine ⟨by omega, by omega, by omega, vR ?_⟩
  have e : mput (mput (mput (MI 39) 3 (nI 39)) 3 (nI (39 + 1))) = mput (mput (MI 39) 3 (nI 40)) := by
    congr 1
    funext j
    unfold mput
    split <;> rfl
  rw [e]
  funext q p
  unfold mup
  grind
theorem s_undoable : mrc (D + 1) 41 [.ref 39] MI ML (some (.int (MI 39 3))) MI ML := mrc_of (EX2_undoable (BX2_undoable_0 eRr))
theorem s_bodies : mrc (D + 1) 74 [.ref 43] MI ML (some (.int (MI 43 1))) MI ML := mrc_of (EX5_bodies (BX5_bodies_0 eRr))
theorem s_ran : mrc (D + 1) 77 [.ref 43] MI ML (some (.int (MI 43 3))) MI ML := mrc_of (EX5_ran (BX5_ran_0 eRr))
theorem s_take (hn : MI 3 3 = nI n) (h : n < 160) : mrc (D + 1) 52 [.ref 3, .int x] MI ML (some (.int (nI (n + 1)))) (mup (mup MI 5 (mput (MI 5) n x)) 3 (mput (MI 3) 3 (nI (n + 1)))) ML := by
  refine mrc_of (EX4_take (BX4_take_0 ?_))
  simp (disch := omega) only [nI_add, pk_mul, nI_leI, nI_ltI, nI_eq, ex_ix, nI_0lt, nI_0le, nat_rem, pk_div, pk_sub, bI_0, bI_1, mup_mup, mup_s, mup_n, mput_s, mput_n, and_true, true_and, not_true_eq_false, not_false_eq_true, ne_eq, Nat.zero_add, hn]
  exact ⟨fun _ => ⟨h, eRr⟩, fun q => absurd h q⟩
theorem s_takeFull (hn : MI 3 3 = nI 160) : mrc (D + 1) 52 [.ref 3, .int x] MI ML (some (.int (-3))) MI ML := by
  refine mrc_of (EX4_take (BX4_take_0 ?_))
  rw [hn]
  exact ⟨fun q => absurd q (by decide), fun _ => eRr⟩
theorem s_tapeLength : mrc (D + 1) 53 [.ref 3] MI ML (some (.int (MI 3 3))) MI ML := mrc_of (EX4_length (BX4_length_0 eRr))
theorem s_clear : mrc (D + 1) 54 [.ref 3] MI ML none (mup MI 3 (mput (MI 3) 3 (nI 0))) ML := mrc_of (EX4_clear (BX4_clear_0 eRr))
end S2
