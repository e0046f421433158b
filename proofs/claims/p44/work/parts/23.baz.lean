/-! bazaars: contracts -/
def hasB (n : Nat) (x : Int32) : Bool := !decide (x < nI 0) && !decide (nI n ≤ x)
def pairB (n : Nat) (x : Int32) : Bool := !decide (x < nI 0) && (hasB n (x / nI 10) && (hasB n (x - x / nI 10 * nI 10) && !decide (x / nI 10 = x - x / nI 10 * nI 10)))
def comeB (h w : Int32) : Bool := (!decide (h < nI 0) && !decide (nI 99 < h)) && (!decide (w < nI 0) && !decide (nI 9 < w))
def feelB (v : Int32) : Bool := !decide (v < -9) && !decide (nI 9 < v)
theorem nIx (x : Int32) {n : Nat} (hn : n < 2147483648) : x < nI 0 ∨ nI n ≤ x ∨ ∃ j, j < n ∧ x = nI j := pk_ix x hn
theorem hasB_ix {n : Nat} {x : Int32} (hn : n ≤ 8) (h : hasB n x = true) : ∃ i, i < n ∧ x = nI i := by
  simp only [hasB, Bool.and_eq_true, Bool.not_eq_true', decide_eq_false_iff_not] at h
  rcases pk_ix x (n := n) (by omega) with q | q | q
  · exact absurd q h.1
  · exact absurd q h.2
  · exact q
theorem hasB_nI' {n i : Nat} (hn : n < 2147483648) (hi : i < 2147483648) : hasB n (nI i) = decide (i < n) := by
  have h1 : ¬ nI i < nI 0 := nI_nlt (Nat.zero_le _) hi
  have h2 : nI n ≤ nI i ↔ n ≤ i := nI_leI (by omega) hi
  simp only [hasB, h1, h2, decide_false, Bool.not_false, Bool.true_and]
  by_cases h : i < n
  · rw [decide_eq_true h, decide_eq_false (by omega)]; rfl
  · rw [decide_eq_false h, decide_eq_true (by omega)]; rfl
theorem hasB_nI {n i : Nat} (hn : n ≤ 8) (hi : i < 2147483648) : hasB n (nI i) = decide (i < n) := by
  have h1 : ¬ nI i < nI 0 := nI_nlt (Nat.zero_le _) hi
  have h2 : nI n ≤ nI i ↔ n ≤ i := nI_leI (by omega) hi
  simp only [hasB, h1, h2, decide_false, Bool.not_false, Bool.true_and]
  by_cases h : i < n
  · rw [decide_eq_true h, decide_eq_false (by omega)]; rfl
  · rw [decide_eq_false h, decide_eq_true (by omega)]; rfl
theorem pairB_ix {n : Nat} {x : Int32} (hn : n ≤ 8) (h : pairB n x = true) : ∃ i j, i < n ∧ j < n ∧ i ≠ j ∧ x / nI 10 = nI i ∧ x - x / nI 10 * nI 10 = nI j := by
  simp only [pairB, Bool.and_eq_true, Bool.not_eq_true', decide_eq_false_iff_not] at h
  obtain ⟨i, hi, ei⟩ := hasB_ix hn h.2.1
  obtain ⟨j, hj, ej⟩ := hasB_ix hn h.2.2.1
  refine ⟨i, j, hi, hj, ?_, ei, ej⟩
  intro e
  apply h.2.2.2
  rw [ej, ei, e]
section B1
variable {D k a n : Nat} {MI : mI} {ML : mJ} {x y : Int32}
theorem s_mayCome : mrc (D + 1) 1 [.int x, .int y] MI ML (some (.int (bI (comeB x y)))) MI ML := by
  refine mrc_of (EX0_mayCome (BX0_mayCome_0 ?_))
  repeat' first | refine br (fun _ => ?_) (fun _ => ?_)
  all_goals (refine iR ?_ rfl; grind [comeB, bI])
theorem s_isFeeling : mrc (D + 1) 2 [.int x] MI ML (some (.int (bI (feelB x)))) MI ML := by
  refine mrc_of (EX0_isFeeling (BX0_isFeeling_0 ?_))
  repeat' first | refine br (fun _ => ?_) (fun _ => ?_)
  all_goals (refine iR ?_ rfl; grind [feelB, bI])
theorem s_mostOf {i : Nat} (hi : i < 6) : mrc (D + 1) 3 [.int (nI i)] MI ML (some (.int (mtab1 i))) MI ML := by
  refine mrc_of (EX0_mostOf (BX0_mostOf_0 ?_))
  simp (disch := omega) only [nI_add, pk_mul, nI_leI, nI_ltI, nI_eq, ex_ix, nI_0lt, nI_0le, nat_rem, pk_div, pk_sub, bI_0, bI_1, mup_mup, mup_s, mup_n, mput_s, mput_n, and_true, true_and, not_true_eq_false, not_false_eq_true, ne_eq, Nat.zero_add]
  repeat' first | refine br (fun _ => ?_) (fun _ => ?_)
  all_goals first
    | omega
    | exact ⟨by omega, eRr⟩
theorem s_placeOfFeeling {i j : Nat} : mrc (D + 1) 4 [.int (nI i), .int (nI j)] MI ML (some (.int (nI (20 + i * 8 + j)))) MI ML := by
  refine mrc_of (EX0_placeOfFeeling (BX0_placeOfFeeling_0 ?_))
  simp (disch := omega) only [nI_add, pk_mul, nI_leI, nI_ltI, nI_eq, ex_ix, nI_0lt, nI_0le, nat_rem, pk_div, pk_sub, bI_0, bI_1, mup_mup, mup_s, mup_n, mput_s, mput_n, and_true, true_and, not_true_eq_false, not_false_eq_true, ne_eq, Nat.zero_add]
  exact eRr
theorem s_has (hB : bz k a) (hn : MI k 0 = nI n) : mrc (D + 1) 6 [.ref k, .int x] MI ML (some (.int (bI (hasB n x)))) MI ML := by
  refine mrc_of (EX0_has (BX0_has_0 hB ?_))
  rw [hn]
  repeat' first | refine br (fun _ => ?_) (fun _ => ?_)
  all_goals (refine iR ?_ rfl; grind [hasB, bI])
theorem s_hasPair (hB : bz k a) (hn : MI k 0 = nI n) : mrc (D + 2) 7 [.ref k, .int x] MI ML (some (.int (bI (pairB n x)))) MI ML := by
  refine mrc_of (EX0_hasPair (BX0_hasPair_0 hB ?_))
  repeat' first
    | refine br (fun _ => ?_) (fun _ => ?_)
    | refine usei (s_has hB hn) ?_
  all_goals (refine iR ?_ rfl; grind [pairB, bI_0, bI])
theorem s_felt {i j : Nat} (hB : bz k a) (hi : i < 8) (hj : j < 8) : mrc (D + 1) 14 [.ref k, .int (nI i), .int (nI j)] MI ML (some (.int (MI a (20 + i * 8 + j)))) MI ML := by
  refine mrc_of (EX0_felt (BX0_felt_0 hB ?_))
  simp (disch := omega) only [nI_add, pk_mul, nI_leI, nI_ltI, nI_eq, ex_ix, nI_0lt, nI_0le, nat_rem, pk_div, pk_sub, bI_0, bI_1, mup_mup, mup_s, mup_n, mput_s, mput_n, and_true, true_and, not_true_eq_false, not_false_eq_true, ne_eq, Nat.zero_add]
  repeat' first | refine br (fun _ => ?_) (fun _ => ?_)
  all_goals first
    | omega
    | exact ⟨by omega, eRr⟩
theorem s_numberAt {i : Nat} (hB : bz k a) (hi : i < 84) : mrc (D + 1) 9 [.ref k, .int (nI i)] MI ML (some (.int (MI a i))) MI ML := by
  refine mrc_of (EX0_numberAt (BX0_numberAt_0 hB ?_))
  simp (disch := omega) only [nI_add, pk_mul, nI_leI, nI_ltI, nI_eq, ex_ix, nI_0lt, nI_0le, nat_rem, pk_div, pk_sub, bI_0, bI_1, mup_mup, mup_s, mup_n, mput_s, mput_n, and_true, true_and, not_true_eq_false, not_false_eq_true, ne_eq, Nat.zero_add]
  repeat' first | refine br (fun _ => ?_) (fun _ => ?_)
  all_goals first
    | omega
    | exact ⟨by omega, eRr⟩
theorem s_setNumber {i : Nat} (hB : bz k a) (hi : i < 84) : mrc (D + 1) 10 [.ref k, .int (nI i), .int y] MI ML none (mup MI a (mput (MI a) i y)) ML := by
  refine mrc_of (EX0_setNumber (BX0_setNumber_0 hB ?_))
  simp (disch := omega) only [nI_add, pk_mul, nI_leI, nI_ltI, nI_eq, ex_ix, nI_0lt, nI_0le, nat_rem, pk_div, pk_sub, bI_0, bI_1, mup_mup, mup_s, mup_n, mput_s, mput_n, and_true, true_and, not_true_eq_false, not_false_eq_true, ne_eq, Nat.zero_add]
  repeat' first | refine br (fun _ => ?_) (fun _ => ?_)
  all_goals first
    | omega
    | exact ⟨by omega, eRr⟩
theorem s_hungerOf {i : Nat} (hB : bz k a) (hi : i < 8) : mrc (D + 1) 11 [.ref k, .int (nI i)] MI ML (some (.int (MI a i))) MI ML := by
  refine mrc_of (EX0_hungerOf (BX0_hungerOf_0 hB ?_))
  simp (disch := omega) only [nI_add, pk_mul, nI_leI, nI_ltI, nI_eq, ex_ix, nI_0lt, nI_0le, nat_rem, pk_div, pk_sub, bI_0, bI_1, mup_mup, mup_s, mup_n, mput_s, mput_n, and_true, true_and, not_true_eq_false, not_false_eq_true, ne_eq, Nat.zero_add]
  repeat' first | refine br (fun _ => ?_) (fun _ => ?_)
  all_goals first
    | omega
    | exact ⟨by omega, eRr⟩
theorem s_hungerOfNone (hB : bz k a) (hx : x < nI 0) : mrc (D + 1) 11 [.ref k, .int x] MI ML (some (.int (nI 0))) MI ML := by
  refine mrc_of (EX0_hungerOf (BX0_hungerOf_0 hB ?_))
  exact ⟨fun _ => eRr, fun q => absurd hx q⟩
theorem s_hungerMore {i : Nat} (hB : bz k a) (hi : i < 8) : mrc (D + 2) 12 [.ref k, .int (nI i), .int y] MI ML none (mup MI a (mput (MI a) i (mn (MI a i + y) (nI 99)))) ML := by
  refine mrc_of (EX0_hungerMore (BX0_hungerMore_0 hB ?_))
  refine usei (s_hungerOf hB hi) ?_
  rw [nI_add, Nat.zero_add]
  refine usev (s_setNumber hB (by omega)) ?_
  exact eRr
theorem s_hungerLess {i : Nat} (hB : bz k a) (hi : i < 8) : mrc (D + 2) 13 [.ref k, .int (nI i), .int y] MI ML none (mup MI a (mput (MI a) i (mx (MI a i - y) (nI 0)))) ML := by
  refine mrc_of (EX0_hungerLess (BX0_hungerLess_0 hB ?_))
  refine usei (s_hungerOf hB hi) ?_
  rw [nI_add, Nat.zero_add]
  refine usev (s_setNumber hB (by omega)) ?_
  exact eRr
theorem s_setFelt {i j : Nat} (hB : bz k a) (hi : i < 8) (hj : j < 8) : mrc (D + 2) 15 [.ref k, .int (nI i), .int (nI j), .int y] MI ML none (mup MI a (mput (MI a) (20 + i * 8 + j) y)) ML := by
  refine mrc_of (EX0_setFelt (BX0_setFelt_0 hB ?_))
  refine usei s_placeOfFeeling ?_
  refine usev (s_setNumber hB (by omega)) ?_
  exact eRr
theorem s_admit (hB : bz k a) (hn : MI k 0 = nI n) (h8 : n < 8) : mrc (D + 1) 5 [.ref k, .int x, .int y] MI ML (some (.int (nI n))) (mup (mup MI a (mput (mput (MI a) n x) (8 + n) y)) k (mput (MI k) 0 (nI (n + 1)))) ML := by
  obtain ⟨h1, h2⟩ := bz_n hB
  refine mrc_of (EX0_admit (BX0_admit_0 hB ?_))
  simp (disch := omega) only [nI_add, pk_mul, nI_leI, nI_ltI, nI_eq, ex_ix, nI_0lt, nI_0le, nat_rem, pk_div, pk_sub, bI_0, bI_1, mup_mup, mup_s, mup_n, mput_s, mput_n, and_true, true_and, not_true_eq_false, not_false_eq_true, ne_eq, Nat.zero_add, hn]
  refine ⟨fun _ => ⟨by omega, by omega, ?_⟩, fun h => by omega⟩
  rw [show n + 1 - 1 = n by omega]
  exact eRr
theorem s_admitFull (hB : bz k a) (hn : MI k 0 = nI 8) : mrc (D + 1) 5 [.ref k, .int x, .int y] MI ML (some (.int (-3))) MI ML := by
  refine mrc_of (EX0_admit (BX0_admit_0 hB ?_))
  rw [hn]
  exact ⟨fun h => absurd h (by decide), fun _ => eRr⟩
theorem s_takeOver {k2 a2 : Nat} (hB : bz k a) (hB2 : bz k2 a2) (hne : k ≠ k2) : mrc (D + 1) 26 [.ref k, .ref k2] MI ML none (mup (mup MI k (mput (MI k) 0 (MI k2 0))) a (va_cpy (MI a2) (MI a) 0 0 84)) ML := by
  refine mrc_of (EX0_takeOver (BX0_takeOver_0 hB hB2 ?_))
  refine ⟨0, 0, 84, rfl, rfl, rfl, by decide, by decide, ?_⟩
  have h1 : a ≠ k ∧ a2 ≠ k := by
    rcases hB with ⟨rfl, rfl⟩ | ⟨rfl, rfl⟩ | ⟨rfl, rfl⟩ <;> rcases hB2 with ⟨rfl, rfl⟩ | ⟨rfl, rfl⟩ | ⟨rfl, rfl⟩ <;> first | decide | exact absurd rfl hne
  rw [mup_n h1.1, mup_n h1.2]
  exact eRr
end B1
/-- who loves b most, one put aside: the first i of all -/
def frd (f : Nat → Int32) (b u : Nat) : Nat → Nat × Int32
  | 0 => (8, nI 0)
  | i + 1 => if i = u ∨ f (20 + i * 8 + b) ≤ (frd f b u i).2 then frd f b u i else (i, f (20 + i * 8 + b))
def fdv (v : Int32) : Int32 := if v ≤ nI 0 then (if nI 0 ≤ v then nI 0 else v + nI 1) else v - nI 1
def fadF (f : Nat → Int32) (m : Nat) : Nat → Int32 := fun p => if 20 ≤ p ∧ p < m then fdv (f p) else f p
section B2
variable {D k a n : Nat} {MI : mI} {ML : mJ} {x y : Int32}
theorem s_friendOf {b u : Nat} (hB : bz k a) (hn : MI k 0 = nI n) (h8 : n ≤ 8) (hb : b < 8) (hu : u ≤ 8) : mrc (D + 2) 16 [.ref k, .int (nI b), .int (nI u)] MI ML (some (.int (nI (frd (MI a) b u n).1))) MI ML := by
  refine mrc_of (EX0_friendOf (BX0_friendOf_0 hB ?_))
  refine up (P := fun i => VX0_friendOf_9 (D + 1) _ k a (nI b) (nI u) (nI (frd (MI a) b u i).1) (frd (MI a) b u i).2 (nI i) MI ML) n (Nat.zero_le _) ?_ ?_
  · refine BX0_friendOf_9 hB ⟨fun _ => eRr, fun h => absurd (by rw [hn]; exact nI_le (Nat.le_refl _) (by omega)) h⟩
  · intro i _ hi ih
    refine BX0_friendOf_9 hB ?_
    rw [hn]
    refine ⟨fun h => absurd h (nI_ge hi (by omega)), fun _ => ?_⟩
    refine usei (s_felt hB (by omega) hb) ?_
    simp only [nI_add]
    rw [nI_eq (by omega) (by omega)]
    refine ⟨fun h => ?_, fun h => ⟨fun h2 => ?_, fun h2 => ?_⟩⟩
    · rwa [show frd (MI a) b u (i + 1) = frd (MI a) b u i from if_pos (Or.inl h)] at ih
    · rwa [show frd (MI a) b u (i + 1) = frd (MI a) b u i from if_pos (Or.inr h2)] at ih
    · rwa [show frd (MI a) b u (i + 1) = (i, _) from if_neg (fun q => q.elim h h2)] at ih
theorem s_hatersOf {b : Nat} (hB : bz k a) (hn : MI k 0 = nI n) (h8 : n ≤ 8) (hb : b < 8) : mrc (D + 2) 18 [.ref k, .int (nI b)] MI ML (some (.int (nI (cn (fun i => !decide (nI 0 ≤ MI a (20 + i * 8 + b))) n)))) MI ML := by
  refine mrc_of (EX0_hatersOf (BX0_hatersOf_0 hB ?_))
  refine up (P := fun i => VX0_hatersOf_4 (D + 1) _ k a (nI b) (nI (cn (fun i => !decide (nI 0 ≤ MI a (20 + i * 8 + b))) i)) (nI i) MI ML) n (Nat.zero_le _) ?_ ?_
  · refine BX0_hatersOf_4 hB ⟨fun _ => eRr, fun h => absurd (by rw [hn]; exact nI_le (Nat.le_refl _) (by omega)) h⟩
  · intro i _ hi ih
    refine BX0_hatersOf_4 hB ?_
    rw [hn]
    refine ⟨fun h => absurd h (nI_ge hi (by omega)), fun _ => ?_⟩
    refine usei (s_felt hB (by omega) hb) ?_
    simp only [nI_add]
    refine ⟨fun h => ?_, fun h => ?_⟩
    · simpa [cn, h] using ih
    · simpa [cn, h] using ih
theorem s_fade (hB : bz k a) : mrc (D + 1) 25 [.ref k] MI ML none (mup MI a (fadF (MI a) 84)) ML := by
  refine mrc_of (EX0_fade (BX0_fade_0 hB ?_))
  have e0 : MI = mup MI a (fadF (MI a) 20) := by
    funext q p
    unfold mup fadF
    split
    · next h => subst h; exact (if_neg (by omega)).symm
    · rfl
  rw [show VX0_fade_3 D _ k a (nI 20) MI ML = VX0_fade_3 D _ k a (nI 20) (mup MI a (fadF (MI a) 20)) ML from congrArg (fun M => VX0_fade_3 D _ k a (nI 20) M ML) e0]
  refine up (P := fun i => VX0_fade_3 D _ k a (nI i) (mup MI a (fadF (MI a) i)) ML) 84 (by decide) ?_ ?_
  · exact BX0_fade_3 hB ⟨fun _ => eRr, fun h => absurd (by decide) h⟩
  · intro i h20 hi ih
    refine BX0_fade_3 hB ?_
    have es : ∀ v, v = fdv (MI a i) → mup MI a (mput (fadF (MI a) i) i v) = mup MI a (fadF (MI a) (i + 1)) := by
      intro v hv
      congr 1
      funext p
      unfold mput fadF
      by_cases hp : p = i
      · subst hp; rw [if_pos rfl, if_pos (by omega), hv]
      · rw [if_neg hp]
        by_cases h2 : 20 ≤ p ∧ p < i
        · rw [if_pos h2, if_pos (by omega)]
        · rw [if_neg h2, if_neg (by omega)]
    have er : fadF (MI a) i i = MI a i := if_neg (by omega)
    simp (disch := omega) only [nI_add, pk_mul, nI_leI, nI_ltI, nI_eq, ex_ix, nI_0lt, nI_0le, nat_rem, pk_div, pk_sub, bI_0, bI_1, mup_mup, mup_s, mup_n, mput_s, mput_n, and_true, true_and, not_true_eq_false, not_false_eq_true, ne_eq, Nat.zero_add]
    refine ⟨fun h => by omega, fun _ => ⟨hi, ?_⟩⟩
    rw [er]
    refine ⟨fun h1 => ⟨fun h2 => ⟨hi, ?_⟩, fun h2 => ⟨hi, ?_⟩⟩, fun h1 => ⟨hi, ?_⟩⟩
    · rw [es _ (by unfold fdv; rw [if_pos h1, if_pos h2])]; exact ih
    · rw [es _ (by unfold fdv; rw [if_pos h1, if_neg h2])]; exact ih
    · rw [es _ (by unfold fdv; rw [if_neg h1])]; exact ih
end B2
