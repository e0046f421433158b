/-! shelves: contracts -/
def sortB (x : Int32) : Bool := !decide (x < nI 0) && !decide (nI 4 < x)
def plB (s i n : Int32) : Bool := !decide (i < nI 0) && (!decide (n < nI 0) && !decide (s - n < i))
def refBy (h : Int32) : Int32 := if h = nI 6 then -11 else if h = nI 0 then nI 0 else -12
def refPl (h s i : Int32) : Int32 := if h = nI 6 then -11 else if sortB h then (if plB s i (nI 1) then nI 0 else -13) else -12
def lowB (h : Int32) (v : Int64) : Int64 := if h = nI 0 then (v.toInt32).toInt8.toInt32.toInt64 else if h = nI 1 then (v.toInt32).toInt16.toInt32.toInt64 else if h = nI 2 then v.toInt32.toInt64 else if h = nI 3 then v else if h = nI 4 then (if lg_cmp v 0 = nI 0 then 0 else 1) else v
section S1
variable {D d e : Nat} {MI : mI} {ML : mJ} {x y z : Int32}
theorem s_isSort : mrc (D + 1) 101 [.int x] MI ML (some (.int (bI (sortB x)))) MI ML := by
  refine mrc_of (EX8_isSort (BX8_isSort_0 ?_))
  repeat' first | refine br (fun _ => ?_) (fun _ => ?_)
  all_goals (refine iR ?_ rfl; grind [sortB, bI])
theorem s_shas : mrc (D + 1) 102 [.ref 10, .int x] MI ML (some (.int (bI (hasB 6 x)))) MI ML := by
  refine mrc_of (EX8_has (BX8_has_0 ?_))
  repeat' first | refine br (fun _ => ?_) (fun _ => ?_)
  all_goals (refine iR ?_ rfl; grind [hasB, bI])
theorem hasB6 (hd : d < 6) : bI (hasB 6 (nI d)) = nI 1 := by rw [hasB_nI (by omega) (by omega), decide_eq_true hd]; rfl
theorem s_shasT (hd : d < 6) : mrc (D + 1) 102 [.ref 10, .int (nI d)] MI ML (some (.int (nI 1))) MI ML := hasB6 hd ▸ s_shas
theorem nI_1ne : ¬ nI 1 = nI 0 := by decide
theorem s_held (hd : d < 6) : mrc (D + 2) 103 [.ref 10, .int (nI d)] MI ML (some (.int (MI 11 d))) MI ML := by
  refine mrc_of (EX8_held (BX8_held_0 ?_))
  exact usei (s_shasT hd) ⟨fun h => absurd h nI_1ne, fun _ => ⟨d, rfl, hd, eRr⟩⟩
theorem s_isBare (hd : d < 6) : mrc (D + 3) 104 [.ref 10, .int (nI d)] MI ML (some (.int (bI (decide (MI 11 d = nI 6))))) MI ML := by
  refine mrc_of (EX8_isBare (BX8_isBare_0 ?_))
  refine usei (s_held hd) ?_
  repeat' first | refine br (fun _ => ?_) (fun _ => ?_)
  all_goals (refine iR ?_ rfl; grind [bI])
theorem s_holdsNeedle (hd : d < 6) : mrc (D + 3) 105 [.ref 10, .int (nI d)] MI ML (some (.int (bI (decide (MI 11 d = nI 5))))) MI ML := by
  refine mrc_of (EX8_holdsNeedle (BX8_holdsNeedle_0 ?_))
  refine usei (s_held hd) ?_
  repeat' first | refine br (fun _ => ?_) (fun _ => ?_)
  all_goals (refine iR ?_ rfl; grind [bI])
theorem s_holdsBytes (hd : d < 6) : mrc (D + 3) 106 [.ref 10, .int (nI d)] MI ML (some (.int (bI (decide (MI 11 d = nI 0))))) MI ML := by
  refine mrc_of (EX8_holdsBytes (BX8_holdsBytes_0 ?_))
  refine usei (s_held hd) ?_
  repeat' first | refine br (fun _ => ?_) (fun _ => ?_)
  all_goals (refine iR ?_ rfl; grind [bI])
theorem s_areAlikeRows (hd : d < 6) (he : e < 6) : mrc (D + 3) 107 [.ref 10, .int (nI d), .int (nI e)] MI ML (some (.int (bI (sortB (MI 11 d) && decide (MI 11 d = MI 11 e))))) MI ML := by
  refine mrc_of (EX8_areAlikeRows (BX8_areAlikeRows_0 ?_))
  refine usei (s_held hd) ?_
  refine usei s_isSort ?_
  refine br (fun h => iR ?_ rfl) (fun h => usei (s_held hd) (usei (s_held he) (br (fun h2 => iR ?_ rfl) (fun h2 => iR ?_ rfl))))
  all_goals grind [bI, bI_0]
theorem s_needleOn (hd : d < 6) (h5 : MI 11 d = nI 5) : mrc (D + 4) 108 [.ref 10, .int (nI d)] MI ML (some (.int (MI 13 d))) MI ML := by
  refine mrc_of (EX8_needleOn (BX8_needleOn_0 ?_))
  refine usei (s_holdsNeedle hd) ?_
  rw [decide_eq_true h5]
  exact ⟨fun h => absurd h nI_1ne, fun _ => ⟨d, rfl, hd, eRr⟩⟩
theorem s_sizeOf (hd : d < 6) : mrc (D + 2) 109 [.ref 10, .int (nI d)] MI ML (some (.int (MI 12 d))) MI ML := by
  refine mrc_of (EX8_sizeOf (BX8_sizeOf_0 ?_))
  exact usei (s_shasT hd) ⟨fun h => absurd h nI_1ne, fun _ => ⟨d, rfl, hd, eRr⟩⟩
theorem s_hasPlaces (hd : d < 6) : mrc (D + 3) 112 [.ref 10, .int (nI d), .int x, .int y] MI ML (some (.int (bI (plB (MI 12 d) x y)))) MI ML := by
  refine mrc_of (EX8_hasPlaces (BX8_hasPlaces_0 ?_))
  repeat' first
    | refine br (fun _ => ?_) (fun _ => ?_)
    | refine usei (s_sizeOf hd) ?_
  all_goals (refine iR ?_ rfl; grind [plB, bI])
theorem s_refusalOfBytes (hd : d < 6) : mrc (D + 4) 110 [.ref 10, .int (nI d)] MI ML (some (.int (refBy (MI 11 d)))) MI ML := by
  refine mrc_of (EX8_refusalOfBytes (BX8_refusalOfBytes_0 ?_))
  repeat' first
    | refine br (fun _ => ?_) (fun _ => ?_)
    | refine usei (s_isBare hd) ?_
    | refine usei (s_holdsBytes hd) ?_
  all_goals (refine iR ?_ rfl; grind [refBy, bI_0])
theorem s_refusalOfPlace (hd : d < 6) : mrc (D + 4) 111 [.ref 10, .int (nI d), .int x] MI ML (some (.int (refPl (MI 11 d) (MI 12 d) x))) MI ML := by
  refine mrc_of (EX8_refusalOfPlace (BX8_refusalOfPlace_0 ?_))
  repeat' first
    | refine br (fun _ => ?_) (fun _ => ?_)
    | refine usei (s_isBare hd) ?_
    | refine usei (s_held hd) ?_
    | refine usei s_isSort ?_
    | refine usei (s_hasPlaces hd) ?_
  all_goals (refine iR ?_ rfl; grind [refPl, bI_0])
theorem s_hold (hd : d < 6) : mrc (D + 2) 116 [.ref 10, .int (nI d), .int x] MI ML none (mup (mup MI 11 (mput (MI 11) d x)) 12 (mput (MI 12) d (nI 0))) ML := by
  refine mrc_of (EX8_hold (BX8_hold_0 ?_))
  exact usei (s_shasT hd) ⟨fun h => absurd h nI_1ne, fun _ => ⟨d, rfl, hd, d, rfl, hd, vR rfl⟩⟩
theorem s_holdNothing (hd : d < 6) : mrc (D + 3) 113 [.ref 10, .int (nI d)] MI ML none (mup (mup MI 11 (mput (MI 11) d (nI 6))) 12 (mput (MI 12) d (nI 0))) ML := by
  refine mrc_of (EX8_holdNothing (BX8_holdNothing_0 ?_))
  exact usev (s_hold hd) eRr
theorem s_holdNeedle (hd : d < 6) : mrc (D + 3) 114 [.ref 10, .int (nI d), .int x] MI ML none (mup (mup (mup MI 11 (mput (MI 11) d (nI 5))) 12 (mput (MI 12) d (nI 0))) 13 (mput (MI 13) d x)) ML := by
  refine mrc_of (EX8_holdNeedle (BX8_holdNeedle_0 ?_))
  exact usei (s_shasT hd) ⟨fun h => absurd h nI_1ne, fun _ => usev (s_hold hd) ⟨d, rfl, hd, vR rfl⟩⟩
theorem s_lowestBits {v : Int64} : mrc (D + 1) 119 [.int x, .long v] MI ML (some (.long (lowB x v))) MI ML := by
  refine mrc_of (EX8_lowestBits (BX8_lowestBits_0 ?_))
  repeat' first | refine br (fun _ => ?_) (fun _ => ?_)
  all_goals (refine lR ?_; grind [lowB])
/-- elements from a place on set to nothing -/
def zerF (g : Nat → Int64) (b m : Nat) : Nat → Int64 := fun p => if b ≤ p ∧ p < b + m then 0 else g p
theorem s_holdRow {n : Nat} (hd : d < 6) (hn : n ≤ 60) : mrc (D + 3) 115 [.ref 10, .int (nI d), .int x, .int (nI n)] MI ML none (mup (mup MI 11 (mput (MI 11) d x)) 12 (mput (MI 12) d (nI n))) (mup ML 14 (zerF (ML 14) (d * 60) n)) := by
  refine mrc_of (EX8_holdRow (BX8_holdRow_0 ?_))
  refine usei (s_shasT hd) ⟨fun h => absurd h nI_1ne, fun _ => ⟨fun h => absurd h (nI_nlt (Nat.zero_le _) (by omega)), fun _ => ⟨fun h => absurd h (nI_nlt hn (by omega)), fun _ => usev (s_hold hd) ⟨d, rfl, hd, ?_⟩⟩⟩⟩
  rw [mup_s, mup_mup, show mput (mput (MI 12) d (nI 0)) d (nI n) = mput (MI 12) d (nI n) from by funext j; unfold mput; split <;> rfl]
  have e0 : ML = mup ML 14 (zerF (ML 14) (d * 60) 0) := by
    funext q p
    unfold mup
    split
    · next h => subst h; exact (if_neg (by omega)).symm
    · rfl
  generalize mup (mup MI 11 (mput (MI 11) d x)) 12 (mput (MI 12) d (nI n)) = M
  suffices h : VX8_holdRow_34 (D + 2) (eR none M (mup ML 14 (zerF (ML 14) (d * 60) n))) (nI d) (nI n) (nI 0) M (mup ML 14 (zerF (ML 14) (d * 60) 0)) by rwa [← e0] at h
  refine up (P := fun i => VX8_holdRow_34 (D + 2) _ (nI d) (nI n) (nI i) M (mup ML 14 (zerF (ML 14) (d * 60) i))) n (Nat.zero_le _) ?_ ?_
  · exact BX8_holdRow_34 ⟨fun _ => eRr, fun h => absurd (nI_le (Nat.le_refl _) (by omega)) h⟩
  · intro i _ hi ih
    refine BX8_holdRow_34 ⟨fun h => absurd h (nI_ge hi (by omega)), fun _ => ⟨d * 60 + i, by rw [pk_mul, nI_add], by omega, ?_⟩⟩
    rw [mup_s, mup_mup, nI_add, show mput (zerF (ML 14) (d * 60) i) (d * 60 + i) 0 = zerF (ML 14) (d * 60) (i + 1) from by
      funext p
      unfold mput zerF
      by_cases hp : p = d * 60 + i
      · subst hp; rw [if_pos rfl, if_pos (by omega)]
      · rw [if_neg hp]
        by_cases q : d * 60 ≤ p ∧ p < d * 60 + i
        · rw [if_pos q, if_pos (by omega)]
        · rw [if_neg q, if_neg (by omega)]]
    exact ih
theorem plB_ix {s : Nat} (hs : s ≤ 60) (h : plB (nI s) x (nI 1) = true) : ∃ i, i < s ∧ x = nI i := by
  simp only [plB, Bool.and_eq_true, Bool.not_eq_true', decide_eq_false_iff_not] at h
  rcases pk_ix x (n := s) (by omega) with q | q | q
  · exact absurd q h.1
  · exfalso
    apply h.2.2
    rw [fa_lt]
    rw [fa_le, nI_toInt (by omega)] at q
    rw [pk_sub_toInt (by omega) (by omega)]
    omega
  · exact q
theorem plB_nI {s i : Nat} (hs : s ≤ 60) (hi : i < 2147483648) : plB (nI s) (nI i) (nI 1) = decide (i < s) := by
  by_cases h : i < s
  · rw [decide_eq_true h]
    simp only [plB, Bool.and_eq_true, Bool.not_eq_true', decide_eq_false_iff_not]
    refine ⟨nI_nlt (Nat.zero_le _) hi, by decide, ?_⟩
    rw [pk_sub (by omega)]
    exact nI_nlt (by omega) (by omega)
  · rw [decide_eq_false h]
    cases hb : plB (nI s) (nI i) (nI 1)
    · rfl
    · obtain ⟨j, h1, h2⟩ := plB_ix hs hb
      rw [nI_eq hi (by omega)] at h2
      omega
theorem s_at {i s : Nat} (hd : d < 6) (hs : MI 12 d = nI s) (h60 : s ≤ 60) (hi : i < s) : mrc (D + 4) 117 [.ref 10, .int (nI d), .int (nI i)] MI ML (some (.long (ML 14 (d * 60 + i)))) MI ML := by
  refine mrc_of (EX8_at (BX8_at_0 ?_))
  refine usei (s_hasPlaces hd) ?_
  rw [hs, plB_nI h60 (by omega), decide_eq_true hi]
  exact ⟨fun h => absurd h nI_1ne, fun _ => ⟨d * 60 + i, by rw [pk_mul, nI_add], by omega, eRr⟩⟩
theorem s_setAt {i s : Nat} {v : Int64} (hd : d < 6) (hs : MI 12 d = nI s) (h60 : s ≤ 60) (hi : i < s) : mrc (D + 4) 118 [.ref 10, .int (nI d), .int (nI i), .long v] MI ML none MI (mup ML 14 (mput (ML 14) (d * 60 + i) (lowB (MI 11 d) v))) := by
  refine mrc_of (EX8_setAt (BX8_setAt_0 ?_))
  refine usei (s_hasPlaces hd) ?_
  rw [hs, plB_nI h60 (by omega), decide_eq_true hi]
  exact ⟨fun h => absurd h nI_1ne, fun _ => usei (s_held hd) (usel s_lowestBits ⟨d * 60 + i, by rw [pk_mul, nI_add], by omega, eRr⟩)⟩
theorem s_copy {i j n s t : Nat} (hd : d < 6) (he : e < 6) (hs : MI 12 d = nI s) (ht : MI 12 e = nI t) (h60 : s ≤ 60) (h61 : t ≤ 60) (hi : i + n ≤ s) (hj : j + n ≤ t) : mrc (D + 4) 120 [.ref 10, .int (nI d), .int (nI i), .int (nI e), .int (nI j), .int (nI n)] MI ML none MI (mup ML 14 (va_cpy (ML 14) (ML 14) (d * 60 + i) (e * 60 + j) n)) := by
  have hp : ∀ s i n, i + n ≤ s → s ≤ 60 → plB (nI s) (nI i) (nI n) = true := by
    intro s i n h h6
    simp only [plB, Bool.and_eq_true, Bool.not_eq_true', decide_eq_false_iff_not]
    refine ⟨nI_nlt (Nat.zero_le _) (by omega), nI_nlt (Nat.zero_le _) (by omega), ?_⟩
    rw [pk_sub (by omega)]
    exact nI_nlt (by omega) (by omega)
  refine mrc_of (EX8_copy (BX8_copy_0 ?_))
  refine usei (s_hasPlaces hd) ?_
  rw [hs, hp _ _ _ hi h60]
  refine ⟨fun h => absurd h nI_1ne, fun _ => ?_⟩
  refine usei (s_hasPlaces he) ?_
  rw [ht, hp _ _ _ hj h61]
  exact ⟨fun h => absurd h nI_1ne, fun _ => ⟨d * 60 + i, e * 60 + j, n, by rw [pk_mul, nI_add], by rw [pk_mul, nI_add], rfl, by omega, by omega, eRr⟩⟩
end S1
