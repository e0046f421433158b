/-! book, changes, needles, tape: contracts -/
section S2
variable {D d n : Nat} {MI : mI} {ML : mJ} {x y z : Int32}
theorem s_bkAdd (hd : d < 6) : mrc (D + 1) 29 [.ref 33, .int (nI d), .int x] MI ML none (mup MI 34 (mput (MI 34) d (MI 34 d + x))) ML := by
  refine mrc_of (EX1_add (BX1_add_0 ?_))
  simp (disch := omega) only [nI_add, pk_mul, nI_leI, nI_ltI, nI_eq, ex_ix, nI_0lt, nI_0le, nat_rem, pk_div, pk_sub, bI_0, bI_1, mup_mup, mup_s, mup_n, mput_s, mput_n, and_true, true_and, not_true_eq_false, not_false_eq_true, ne_eq, Nat.zero_add]
  exact br (fun h => absurd h (Nat.not_lt_zero _)) (fun _ => br (fun h => by omega) (fun _ => ⟨hd, hd, eRr⟩))
theorem s_told (hd : d < 6) : mrc (D + 1) 30 [.ref 33, .int (nI d)] MI ML (some (.int (MI 34 d))) MI ML := by
  refine mrc_of (EX1_told (BX1_told_0 ?_))
  simp (disch := omega) only [nI_add, pk_mul, nI_leI, nI_ltI, nI_eq, ex_ix, nI_0lt, nI_0le, nat_rem, pk_div, pk_sub, bI_0, bI_1, mup_mup, mup_s, mup_n, mput_s, mput_n, and_true, true_and, not_true_eq_false, not_false_eq_true, ne_eq, Nat.zero_add]
  exact br (fun h => absurd h (Nat.not_lt_zero _)) (fun _ => br (fun h => by omega) (fun _ => ⟨hd, eRr⟩))
theorem s_bkWrite (hn : MI 33 2 = nI n) (h : n < 72) : mrc (D + 1) 32 [.ref 33, .int x] MI ML none (mup (mup MI 35 (mput (MI 35) n x)) 33 (mput (MI 33) 2 (nI (n + 1)))) ML := by
  refine mrc_of (EX1_write (BX1_write_0 ?_))
  simp (disch := omega) only [nI_add, pk_mul, nI_leI, nI_ltI, nI_eq, ex_ix, nI_0lt, nI_0le, nat_rem, pk_div, pk_sub, bI_0, bI_1, mup_mup, mup_s, mup_n, mput_s, mput_n, and_true, true_and, not_true_eq_false, not_false_eq_true, ne_eq, Nat.zero_add, hn]
  exact ⟨fun h => by omega, fun _ => ⟨h, eRr⟩⟩
theorem s_taleLength : mrc (D + 1) 33 [.ref 33] MI ML (some (.int (MI 33 2))) MI ML := mrc_of (EX1_taleLength (BX1_taleLength_0 eRr))
theorem s_taleByte (hn : MI 33 2 = nI n) (h : n ≤ 72) : mrc (D + 1) 34 [.ref 33, .int x] MI ML (some (.int (if hasB n x then MI 35 x.toNatClampNeg else -2))) MI ML := by
  refine mrc_of (EX1_taleByte (BX1_taleByte_0 ?_))
  rw [hn]
  rcases nIx x (n := n) (by omega) with q | q | ⟨j, hj, rfl⟩
  · exact ⟨fun _ => iR (by rw [if_neg]; grind [hasB]) rfl, fun h => absurd q h⟩
  · refine br (fun _ => iR ?_ rfl) (fun _ => br (fun _ => iR ?_ rfl) (fun h => absurd q h))
    · rw [if_neg]; grind [hasB]
    · rw [if_neg]; grind [hasB]
  · refine br (fun h => absurd h (nI_nlt (Nat.zero_le _) (by omega))) (fun _ => br (fun h => absurd h (nI_ge hj (by omega))) (fun _ => ⟨j, rfl, by omega, iR ?_ rfl⟩))
    rw [hasB_nI' (by omega) (by omega), decide_eq_true hj, if_pos rfl, nI_clamp (by omega)]
theorem s_hasImage (h : MI 33 5 = nI 0 ∨ MI 33 5 = nI 1) : mrc (D + 1) 36 [.ref 33] MI ML (some (.int (MI 33 5))) MI ML := mrc_of (EX1_hasImage (BX1_hasImage_0 ⟨h, eRr⟩))
theorem s_keepImage : mrc (D + 2) 35 [.ref 33, .ref 1] MI ML none (mup (mup (mup (mup MI 36 (mput (MI 36) 0 (MI 1 0))) 37 (va_cpy (MI 2) (MI 37) 0 0 84)) 38 (va_cpy (MI 34) (MI 38) 0 0 6)) 33 (mput (MI 33) 5 (nI 1))) ML := by
  refine mrc_of (EX1_keepImage (BX1_keepImage_0 bz1 ?_))
  refine usev (s_takeOver bz36 bz1 (by decide)) ⟨0, 0, 6, rfl, rfl, rfl, by decide, by decide, ?_⟩
  exact vR (by simp (disch := omega) only [mup_n, mup_s])
theorem s_bkLayBack {m : Nat} (hn : MI 36 0 = nI m) (h8 : m ≤ 8) : mrc (D + 3) 37 [.ref 33, .ref 1] MI ML none (mup (mup MI 2 (backF (MI 2) (MI 37) m)) 34 (va_cpy (MI 38) (MI 34) 0 0 6)) ML := by
  refine mrc_of (EX1_layBack (BX1_layBack_0 bz1 ?_))
  refine usev (s_layBack bz1 bz36 (by decide) hn h8) ⟨0, 0, 6, rfl, rfl, rfl, by decide, by decide, ?_⟩
  exact vR (by simp (disch := omega) only [mup_n, mup_s])
-- changes
theorem s_forgetFirst : mrc (D + 1) 40 [.ref 39] MI ML none (mup (mup (mup (mup MI 40 (va_cpy (MI 40) (MI 40) 1 0 39)) 41 (va_cpy (MI 41) (MI 41) 1 0 39)) 42 (va_cpy (MI 42) (MI 42) 1 0 39)) 39 (mput (MI 39) 3 (nI 39))) ML := by
  refine mrc_of (EX2_forgetFirst (BX2_forgetFirst_0 ?_))
  refine ⟨1, 0, 39, rfl, rfl, rfl, by decide, by decide, 1, 0, 39, rfl, rfl, rfl, by decide, by decide, 1, 0, 39, rfl, rfl, rfl, by decide, by decide, ?_⟩
  exact vR (by simp (disch := omega) only [mup_n, mup_s])
theorem s_chAdd (hn : MI 39 3 = nI n) (h : n < 40) : mrc (D + 2) 39 [.ref 39, .int x, .int y, .int z] MI ML none (mup (mup (mup (mup MI 40 (mput (MI 40) n x)) 41 (mput (MI 41) n y)) 42 (mput (MI 42) n z)) 39 (mput (mput (MI 39) 3 (nI (n + 1))) 4 (nI (n + 1)))) ML := by
  refine mrc_of (EX2_add (BX2_add_0 ?_))
  rw [hn]
  refine ⟨fun _ => ?_, fun q => absurd (nI_lt h (by omega)) q⟩
  refine BX2_add_13 ?_
  simp (disch := omega) only [nI_add, pk_mul, nI_leI, nI_ltI, nI_eq, ex_ix, nI_0lt, nI_0le, nat_rem, pk_div, pk_sub, bI_0, bI_1, mup_mup, mup_s, mup_n, mput_s, mput_n, and_true, true_and, not_true_eq_false, not_false_eq_true, ne_eq, Nat.zero_add, hn]
  exact ⟨h, h, h, vR rfl⟩
theorem s_chAddFull (hn : MI 39 3 = nI 40) : mrc (D + 2) 39 [.ref 39, .int x, .int y, .int z] MI ML none (mup (mup (mup (mup MI 40 (mput (va_cpy (MI 40) (MI 40) 1 0 39) 39 x)) 41 (mput (va_cpy (MI 41) (MI 41) 1 0 39) 39 y)) 42 (mput (va_cpy (MI 42) (MI 42) 1 0 39) 39 z)) 39 (mput (mput (MI 39) 3 (nI 40)) 4 (nI 40))) ML := by
  refine mrc_of (EX2_add (BX2_add_0 ?_))
  rw [hn]
  refine ⟨fun q => absurd q (by decide), fun _ => usev s_forgetFirst ?_⟩
  refine BX2_add_13 ?_
  simp (disch := omega) only [nI_add, pk_mul, nI_leI, nI_ltI, nI_eq, ex_ix, nI_0lt, nI_0le, nat_rem, pk_div, pk_sub, bI_0, bI_1, mup_mup, mup_s, mup_n, mput_s, mput_n, and_true, true_and, not_true_eq_false, not_false_eq_true, ne_eq, Nat.zero_add, hn]
  refine ⟨by omega, by omega, by omega, vR ?_⟩
  have e : mput (mput (mput (MI 39) 3 (nI 39)) 3 (nI (39 + 1))) = mput (mput (MI 39) 3 (nI 40)) := by
    congr 1
    funext j
    unfold mput
    split <;> rfl
  rw [e]
  funext q p
  unfold mup
  grind
theorem s_undoable : mrc (D + 1) 41 [.ref 39] MI ML (some (.int (MI 39 3))) MI ML := mrc_of (EX2_undoable (BX2_undoable_0 eRr))
theorem s_redoable : mrc (D + 1) 42 [.ref 39] MI ML (some (.int (MI 39 4 - MI 39 3))) MI ML := mrc_of (EX2_redoable (BX2_redoable_0 eRr))
theorem s_stepBack {p : Nat} (hn : MI 39 3 = nI (n + 1)) (h : n < 40) (hp : MI 40 n = nI p) (h84 : p < 84) : mrc (D + 2) 43 [.ref 39, .ref 1] MI ML none (mup (mup MI 39 (mput (MI 39) 3 (nI n))) 2 (mput (MI 2) p (MI 41 n))) ML := by
  refine mrc_of (EX2_stepBack (BX2_stepBack_0 bz1 ?_))
  simp (disch := omega) only [nI_add, pk_mul, nI_leI, nI_ltI, nI_eq, ex_ix, nI_0lt, nI_0le, nat_rem, pk_div, pk_sub, bI_0, bI_1, mup_mup, mup_s, mup_n, mput_s, mput_n, and_true, true_and, not_true_eq_false, not_false_eq_true, ne_eq, Nat.zero_add, hn]
  refine ⟨fun q => by omega, fun _ => ?_⟩
  rw [show n + 1 - 1 = n by omega]
  simp (disch := omega) only [nI_add, pk_mul, nI_leI, nI_ltI, nI_eq, ex_ix, nI_0lt, nI_0le, nat_rem, pk_div, pk_sub, bI_0, bI_1, mup_mup, mup_s, mup_n, mput_s, mput_n, and_true, true_and, not_true_eq_false, not_false_eq_true, ne_eq, Nat.zero_add, hn, hp]
  refine ⟨h, h, usev (s_setNumber bz1 h84) (vR ?_)⟩
  simp (disch := omega) only [mup_n, mup_s]
theorem s_stepOn {p m : Nat} (hn : MI 39 3 = nI n) (hm : MI 39 4 = nI m) (h : n < m) (h40 : m ≤ 40) (hp : MI 40 n = nI p) (h84 : p < 84) : mrc (D + 2) 44 [.ref 39, .ref 1] MI ML none (mup (mup MI 2 (mput (MI 2) p (MI 42 n))) 39 (mput (MI 39) 3 (nI (n + 1)))) ML := by
  refine mrc_of (EX2_stepOn (BX2_stepOn_0 bz1 ?_))
  simp (disch := omega) only [nI_add, pk_mul, nI_leI, nI_ltI, nI_eq, ex_ix, nI_0lt, nI_0le, nat_rem, pk_div, pk_sub, bI_0, bI_1, mup_mup, mup_s, mup_n, mput_s, mput_n, and_true, true_and, not_true_eq_false, not_false_eq_true, ne_eq, Nat.zero_add, hn, hm]
  refine ⟨fun q => by omega, fun _ => ⟨fun q => by omega, fun _ => ⟨by omega, by omega, ?_⟩⟩⟩
  rw [hp]
  refine usev (s_setNumber bz1 h84) (vR ?_)
  simp (disch := omega) only [nI_add, pk_mul, nI_leI, nI_ltI, nI_eq, ex_ix, nI_0lt, nI_0le, nat_rem, pk_div, pk_sub, bI_0, bI_1, mup_mup, mup_s, mup_n, mput_s, mput_n, and_true, true_and, not_true_eq_false, not_false_eq_true, ne_eq, Nat.zero_add, hn]
-- needles
theorem s_isKind : mrc (D + 1) 69 [.int x] MI ML (some (.int (bI (hasB 8 x)))) MI ML := by
  refine mrc_of (EX5_isKind (BX5_isKind_0 ?_))
  repeat' first | refine br (fun _ => ?_) (fun _ => ?_)
  all_goals (refine iR ?_ rfl; grind [hasB, bI])
theorem s_isAct : mrc (D + 1) 70 [.int x] MI ML (some (.int (bI (hasB 4 x)))) MI ML := by
  refine mrc_of (EX5_isAct (BX5_isAct_0 ?_))
  repeat' first | refine br (fun _ => ?_) (fun _ => ?_)
  all_goals (refine iR ?_ rfl; grind [hasB, bI])
theorem s_ndHas (hn : MI 43 1 = nI n) : mrc (D + 1) 73 [.ref 43, .int x] MI ML (some (.int (bI (hasB n x)))) MI ML := by
  refine mrc_of (EX5_has (BX5_has_0 ?_))
  rw [hn]
  repeat' first | refine br (fun _ => ?_) (fun _ => ?_)
  all_goals (refine iR ?_ rfl; grind [hasB, bI])
theorem s_bodies : mrc (D + 1) 74 [.ref 43] MI ML (some (.int (MI 43 1))) MI ML := mrc_of (EX5_bodies (BX5_bodies_0 eRr))
theorem s_ran : mrc (D + 1) 77 [.ref 43] MI ML (some (.int (MI 43 3))) MI ML := mrc_of (EX5_ran (BX5_ran_0 eRr))
theorem s_forgetTrace : mrc (D + 1) 76 [.ref 43] MI ML none (mup MI 43 (mput (MI 43) 3 (nI 0))) ML := mrc_of (EX5_forgetTrace (BX5_forgetTrace_0 eRr))
theorem s_kindOf (hn : MI 43 1 = nI n) (h50 : n ≤ 50) (hd : d < n) : mrc (D + 2) 75 [.ref 43, .int (nI d)] MI ML (some (.int (MI 44 d))) MI ML := by
  refine mrc_of (EX5_kindOf (BX5_kindOf_0 ?_))
  refine usei (s_ndHas hn) ?_
  rw [hasB_nI' (by omega) (by omega), decide_eq_true hd]
  exact ⟨fun h => absurd h nI_1ne, fun _ => ⟨d, rfl, by omega, eRr⟩⟩
theorem s_ndAdd (hn : MI 43 1 = nI n) (h : n < 50) : mrc (D + 1) 72 [.ref 43, .int x] MI ML (some (.int (nI n))) (mup (mup MI 44 (mput (MI 44) n x)) 43 (mput (MI 43) 1 (nI (n + 1)))) ML := by
  refine mrc_of (EX5_add (BX5_add_0 ?_))
  simp (disch := omega) only [nI_add, pk_mul, nI_leI, nI_ltI, nI_eq, ex_ix, nI_0lt, nI_0le, nat_rem, pk_div, pk_sub, bI_0, bI_1, mup_mup, mup_s, mup_n, mput_s, mput_n, and_true, true_and, not_true_eq_false, not_false_eq_true, ne_eq, Nat.zero_add, hn]
  rw [show n + 1 - 1 = n by omega]
  exact ⟨fun _ => ⟨h, eRr⟩, fun q => absurd h q⟩
theorem s_ndAddFull (hn : MI 43 1 = nI 50) : mrc (D + 1) 72 [.ref 43, .int x] MI ML (some (.int (-3))) MI ML := by
  refine mrc_of (EX5_add (BX5_add_0 ?_))
  rw [hn]
  exact ⟨fun q => absurd q (by decide), fun _ => eRr⟩
theorem s_traced (hn : MI 43 3 = nI n) (h : n < 100000) : mrc (D + 1) 78 [.ref 43, .int x] MI ML (some (.int (if hasB n x && hasB 24 x then MI 45 x.toNatClampNeg else -1))) MI ML := by
  refine mrc_of (EX5_traced (BX5_traced_0 ?_))
  rw [hn]
  refine br (fun q => iR ?_ rfl) (fun q => br (fun q2 => iR ?_ rfl) (fun q2 => br (fun q3 => iR ?_ rfl) (fun q3 => ?_)))
  · rw [if_neg]; grind [hasB]
  · rw [if_neg]; grind [hasB]
  · rw [if_neg]; grind [hasB]
  · rcases nIx x (n := 24) (by omega) with w | w | ⟨j, hj, rfl⟩
    · exact absurd w q
    · exact absurd w q3
    · refine ⟨j, rfl, hj, iR ?_ rfl⟩
      rw [if_pos (by grind [hasB]), nI_clamp (by omega)]
theorem s_note (hn : MI 43 3 = nI n) (h : n < 100000) : mrc (D + 1) 82 [.ref 43, .int x] MI ML none (mup (mup MI 45 (if n < 24 then mput (MI 45) n x else MI 45)) 43 (mput (MI 43) 3 (nI (n + 1)))) ML := by
  refine mrc_of (EX5_note (BX5_note_0 ?_))
  simp (disch := omega) only [nI_add, pk_mul, nI_leI, nI_ltI, nI_eq, ex_ix, nI_0lt, nI_0le, nat_rem, pk_div, pk_sub, bI_0, bI_1, mup_mup, mup_s, mup_n, mput_s, mput_n, and_true, true_and, not_true_eq_false, not_false_eq_true, ne_eq, Nat.zero_add, hn]
  refine ⟨fun q => vR ?_, fun q => ⟨by omega, vR ?_⟩⟩
  · rw [if_neg (by omega), mup_id]
  · rw [if_pos (by omega)]
theorem mtab2_lt : ∀ i, i < 8 → mtab2 i = -1 ∨ ∃ j, j < 8 ∧ mtab2 i = nI j := by
  intro i hi
  match i, hi with
  | 0, _ => exact Or.inl rfl
  | 1, _ => exact Or.inr ⟨0, by decide, rfl⟩
  | 2, _ => exact Or.inr ⟨0, by decide, rfl⟩
  | 3, _ => exact Or.inr ⟨2, by decide, rfl⟩
  | 4, _ => exact Or.inr ⟨1, by decide, rfl⟩
  | 5, _ => exact Or.inr ⟨3, by decide, rfl⟩
  | 6, _ => exact Or.inr ⟨0, by decide, rfl⟩
  | 7, _ => exact Or.inr ⟨4, by decide, rfl⟩
/-- whether a kind is under another: by going up as many steps -/
def undB (k : Int32) : Nat → Int32 → Bool
  | 0, _ => false
  | s + 1, x => if hasB 8 x then (if x = k then true else undB k s (mtab2 x.toNatClampNeg)) else false
theorem s_isUnder : mrc (D + 2) 71 [.int x, .int y] MI ML (some (.int (bI (undB y 8 x)))) MI ML := by
  refine mrc_of (EX5_isUnder (BX5_isUnder_0 ?_))
  suffices h : ∀ s i x b, i + s = 8 → undB y s x = b → VX5_isUnder_4 (D + 1) (eR (some (.int (bI b))) MI ML) y x (nI i) MI ML from h 8 0 x _ rfl rfl
  intro s
  induction s with
  | zero =>
    intro i x b hi hb
    refine BX5_isUnder_4 ⟨fun _ => iR ?_ rfl, fun h => absurd (nI_le (by omega) (by omega)) h⟩
    rw [← hb]
    rfl
  | succ s ih =>
    intro i x b hi hb
    refine BX5_isUnder_4 ⟨fun h => absurd h (nI_ge (by omega) (by omega)), fun _ => usei s_isKind ?_⟩
    rw [undB] at hb
    refine br (fun h => iR ?_ rfl) (fun h => br (fun h2 => iR ?_ rfl) (fun h2 => ?_))
    · rw [bI_0] at h
      rw [h] at hb
      rw [← hb]
      rfl
    · rw [bI_0, Bool.not_eq_false] at h
      rw [h, if_pos rfl, if_pos h2] at hb
      rw [← hb]
      rfl
    · rw [bI_0, Bool.not_eq_false] at h
      rw [h, if_pos rfl, if_neg h2] at hb
      obtain ⟨j, hj, rfl⟩ := hasB_ix (n := 8) (by omega) h
      rw [nI_clamp (by omega)] at hb
      rw [nI_add]
      exact ⟨j, rfl, hj, ih (i + 1) _ b (by omega) hb⟩
-- the tape
theorem s_take (hn : MI 3 3 = nI n) (h : n < 160) : mrc (D + 1) 52 [.ref 3, .int x] MI ML (some (.int (nI (n + 1)))) (mup (mup MI 5 (mput (MI 5) n x)) 3 (mput (MI 3) 3 (nI (n + 1)))) ML := by
  refine mrc_of (EX4_take (BX4_take_0 ?_))
  simp (disch := omega) only [nI_add, pk_mul, nI_leI, nI_ltI, nI_eq, ex_ix, nI_0lt, nI_0le, nat_rem, pk_div, pk_sub, bI_0, bI_1, mup_mup, mup_s, mup_n, mput_s, mput_n, and_true, true_and, not_true_eq_false, not_false_eq_true, ne_eq, Nat.zero_add, hn]
  exact ⟨fun _ => ⟨h, eRr⟩, fun q => absurd h q⟩
theorem s_takeFull (hn : MI 3 3 = nI 160) : mrc (D + 1) 52 [.ref 3, .int x] MI ML (some (.int (-3))) MI ML := by
  refine mrc_of (EX4_take (BX4_take_0 ?_))
  rw [hn]
  exact ⟨fun q => absurd q (by decide), fun _ => eRr⟩
theorem s_tapeLength : mrc (D + 1) 53 [.ref 3] MI ML (some (.int (MI 3 3))) MI ML := mrc_of (EX4_length (BX4_length_0 eRr))
theorem s_clear : mrc (D + 1) 54 [.ref 3] MI ML none (mup MI 3 (mput (MI 3) 3 (nI 0))) ML := mrc_of (EX4_clear (BX4_clear_0 eRr))
end S2
