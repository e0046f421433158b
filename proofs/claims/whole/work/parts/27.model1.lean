/-! the model: small contracts -/
def wiB (lo hi x : Int32) : Bool := !decide (x < lo) && !decide (hi < x)
theorem wiB_0 {n : Nat} {x : Int32} (hn : n < 1000) : wiB (nI 0) (nI n - nI 1) x = hasB n x := by
  unfold wiB hasB
  have e1 : (nI n - nI 1).toInt = (n : Int) - 1 := pk_sub_toInt (by omega) (by decide)
  have e2 : (nI n).toInt = (n : Int) := nI_toInt (by omega)
  congr 2
  rw [decide_eq_decide, fa_lt, fa_le, e1, e2]
  omega
section M1
variable {D d n p : Nat} {MI : mI} {ML : mJ} {x y z lo hi : Int32} {a b c : Int64}
theorem t_withinL : mrc (D + 1) 178 [.long a, .long b, .long c] MI ML (some (.int (bI (!decide (a < b) && !decide (c < a))))) MI ML := by
  refine mrc_of (EX11_within (BX11_within_0 ?_))
  have h1 : ∀ u v, lg_cmp u v < nI 0 ↔ u < v := lg_cmp_lt
  have h2 : ∀ u v, nI 0 < lg_cmp u v ↔ v < u := lg_cmp_gt
  rw [h1, h2]
  repeat' first | refine br (fun _ => ?_) (fun _ => ?_)
  all_goals (refine iR ?_ rfl; grind [bI])
theorem t_within (ha : a = lo.toInt64) (hb : b = hi.toInt64) : mrc (D + 1) 178 [.long x.toInt64, .long a, .long b] MI ML (some (.int (bI (wiB lo hi x)))) MI ML := by
  subst ha hb
  have := t_withinL (D := D) (a := x.toInt64) (b := lo.toInt64) (c := hi.toInt64) (MI := MI) (ML := ML)
  rwa [show (!decide (x.toInt64 < lo.toInt64) && !decide (hi.toInt64 < x.toInt64)) = wiB lo hi x from by unfold wiB; rw [decide_eq_decide.mpr (fa_wide_lt x lo), decide_eq_decide.mpr (fa_wide_lt hi x)]] at this
theorem t_isOne (hn : MI 46 6 = nI n) (h8 : n ≤ 8) : mrc (D + 2) 183 [.ref 46, .long x.toInt64] MI ML (some (.int (bI (hasB n x)))) MI ML := by
  refine mrc_of (EX11_isOne (BX11_isOne_0 ?_))
  refine usei (t_within (lo := nI 0) rfl rfl) ⟨bI_01 _, iR ?_ rfl⟩
  rw [hn, wiB_0 (by omega)]
theorem t_felt : mrc (D + 1) 184 [.int (nI d), .int (nI n)] MI ML (some (.int (nI (20 + d * 8 + n)))) MI ML := by
  refine mrc_of (EX11_felt (BX11_felt_0 ?_))
  rw [pk_mul, nI_add, nI_add, Nat.mul_comm 8 d]
  exact eRr
theorem t_isPair (hn : MI 46 6 = nI n) (h8 : n ≤ 8) : mrc (D + 3) 185 [.ref 46, .int x] MI ML (some (.int (bI (pairB n x)))) MI ML := by
  refine mrc_of (EX11_isPair (BX11_isPair_0 ?_))
  repeat' first
    | refine br (fun _ => ?_) (fun _ => ?_)
    | refine usei (t_isOne hn h8) ?_
  all_goals (refine iR ?_ rfl; grind [pairB, bI_0, bI])
theorem t_adds (hn : MI 46 6 = nI n) (h8 : n < 8) : mrc (D + 1) 186 [.ref 46, .int x, .int y] MI ML none (mup (mup MI 47 (mput (mput (MI 47) n x) (8 + n) y)) 46 (mput (MI 46) 6 (nI (n + 1)))) ML := by
  refine mrc_of (EX11_adds (BX11_adds_0 ?_))
  simp (disch := omega) only [nI_add, pk_mul, nI_leI, nI_ltI, nI_eq, ex_ix, nI_0lt, nI_0le, nat_rem, pk_div, pk_sub, bI_0, bI_1, mup_mup, mup_s, mup_n, mput_s, mput_n, and_true, true_and, not_true_eq_false, not_false_eq_true, ne_eq, Nat.zero_add, hn]
  exact ⟨by omega, by omega, eRr⟩
/-- where a number lies; 84: nowhere -/
def plc (n : Nat) (x w : Int32) : Int32 := if wiB (nI 0) (nI 1) w then (if hasB n x then (if w = nI 0 then nI 0 + x else nI 8 + x) else -1) else if wiB (nI 2) (nI 5) w ∧ x = nI 0 then nI 16 + w - nI 2 else -1
theorem wi01 {w : Int32} (h : wiB (nI 0) (nI 1) w = true) : w = nI 0 ∨ w = nI 1 := by
  simp only [wiB, Bool.and_eq_true, Bool.not_eq_true', decide_eq_false_iff_not] at h
  rcases nIx w (n := 2) (by omega) with q | q | ⟨j, hj, rfl⟩
  · exact absurd q h.1
  · exact absurd (show nI 1 < w by rw [fa_lt]; rw [fa_le, nI_toInt (by omega)] at q; rw [nI_toInt (by omega)]; omega) h.2
  · match j, hj with
    | 0, _ => exact Or.inl rfl
    | 1, _ => exact Or.inr rfl
theorem t_placeOf (hn : MI 46 6 = nI n) (h8 : n ≤ 8) : mrc (D + 3) 189 [.ref 46, .int x, .int y] MI ML (some (.int (plc n x y))) MI ML := by
  refine mrc_of (EX11_placeOf (BX11_placeOf_0 ?_))
  refine usei (t_within (lo := nI 0) (hi := nI 1) rfl rfl) (br (fun h1 => ?_) (fun h1 => ?_))
  · rw [bI_0] at h1
    refine usei (t_within (lo := nI 2) (hi := nI 5) rfl rfl) (br (fun h2 => iR ?_ rfl) (fun h2 => br (fun h3 => iR ?_ rfl) (fun h3 => iR ?_ rfl)))
    all_goals grind [plc, bI_0]
  · rw [bI_0, Bool.not_eq_false] at h1
    refine usei (t_isOne hn h8) (br (fun h2 => iR ?_ rfl) (fun h2 => iR ?_ rfl))
    · grind [plc, bI_0]
    · rcases wi01 h1 with rfl | rfl
      · unfold plc; rw [if_pos h1, if_pos (by grind [bI_0]), if_pos rfl]; rfl
      · unfold plc; rw [if_pos h1, if_pos (by grind [bI_0]), if_neg (by decide)]; rfl
theorem s_placeOf {k a : Nat} (hB : bz k a) (hn : MI k 0 = nI n) : mrc (D + 2) 8 [.ref k, .int x, .int y] MI ML (some (.int (plc n x y))) MI ML := by
  refine mrc_of (EX0_placeOf (BX0_placeOf_0 hB ?_))
  have h01 : wiB (nI 0) (nI 1) y = true ↔ (y = nI 0 ∨ y = nI 1) := ⟨wi01, fun h => by rcases h with rfl | rfl <;> decide⟩
  have k : (y = nI 0 ∨ y = nI 1) → VX0_placeOf_9 (D + 1) (eR (some (.int (plc n x y))) MI ML) k a x y MI ML := fun hy => by
    refine BX0_placeOf_9 hB (usei (s_has hB hn) (br (fun h2 => iR ?_ rfl) (fun h2 => br (fun h3 => iR ?_ rfl) (fun h3 => iR ?_ rfl))))
    all_goals (unfold plc; rw [if_pos (h01.mpr hy)])
    · grind [bI_0]
    · grind [bI_0]
    · grind [bI_0]
  refine br (fun h => k (Or.inl h)) (fun h => br (fun h2 => k (Or.inr h2)) (fun h2 => ?_))
  have hne : ¬ wiB (nI 0) (nI 1) y = true := fun q => (h01.mp q).elim h h2
  refine br (fun h3 => iR ?_ rfl) (fun h3 => br (fun h4 => iR ?_ rfl) (fun h4 => br (fun h5 => iR ?_ rfl) (fun h5 => iR ?_ rfl)))
  all_goals (unfold plc; rw [if_neg hne]; grind [wiB])
/-- a place that is there -/
theorem plc_ix {n : Nat} {x w : Int32} (h8 : n ≤ 8) (h : ¬ plc n x w < nI 0) : ∃ p i, p < 20 ∧ i < 6 ∧ plc n x w = nI p ∧ w = nI i ∧ ((i = 0 ∧ p < 8) ∨ (i = 1 ∧ 8 ≤ p ∧ p < 16) ∨ (2 ≤ i ∧ p = 14 + i)) := by
  unfold plc at h ⊢
  by_cases h1 : wiB (nI 0) (nI 1) w = true
  · rw [if_pos h1] at h ⊢
    by_cases h2 : hasB n x = true
    · rw [if_pos h2] at h ⊢
      obtain ⟨j, hj, rfl⟩ := hasB_ix h8 h2
      rcases wi01 h1 with rfl | rfl
      · rw [if_pos rfl, nI_add]
        exact ⟨0 + j, 0, by omega, by omega, rfl, rfl, Or.inl ⟨rfl, by omega⟩⟩
      · rw [if_neg (by decide), nI_add]
        exact ⟨8 + j, 1, by omega, by omega, rfl, rfl, Or.inr (Or.inl ⟨rfl, by omega, by omega⟩)⟩
    · rw [if_neg h2] at h
      exact absurd (by decide) h
  · rw [if_neg h1] at h ⊢
    by_cases h2 : wiB (nI 2) (nI 5) w = true ∧ x = nI 0
    · rw [if_pos h2]
      have h3 := h2.1
      simp only [wiB, Bool.and_eq_true, Bool.not_eq_true', decide_eq_false_iff_not] at h3
      rcases nIx w (n := 6) (by omega) with q | q | ⟨j, hj, rfl⟩
      · exact absurd (show w < nI 2 by rw [fa_lt] at q ⊢; rw [nI_toInt (by omega)] at q ⊢; omega) h3.1
      · exact absurd (show nI 5 < w by rw [fa_lt]; rw [fa_le, nI_toInt (by omega)] at q; rw [nI_toInt (by omega)]; omega) h3.2
      · have hj2 : 2 ≤ j := by
          rcases Nat.lt_or_ge j 2 with q | q
          · exact absurd (nI_lt q (by omega)) h3.1
          · exact q
        rw [nI_add, pk_sub (by omega)]
        exact ⟨16 + j - 2, j, by omega, by omega, rfl, rfl, Or.inr (Or.inr ⟨hj2, by omega⟩)⟩
    · rw [if_neg h2] at h
      exact absurd (by decide) h
theorem t_mostOf {i : Nat} (hi : i < 6) : mrc (D + 1) 190 [.int (nI i)] MI ML (some (.int (mtab1 i))) MI ML := by
  refine mrc_of (EX11_mostOf (BX11_mostOf_0 ?_))
  simp (disch := omega) only [nI_eq]
  match i, hi with
  | 0, _ => exact ⟨fun _ => eRr, fun h => absurd rfl h⟩
  | 1, _ => exact ⟨fun h => absurd h (by decide), fun _ => ⟨fun _ => eRr, fun h => absurd rfl h⟩⟩
  | 2, _ => exact ⟨fun h => absurd h (by decide), fun _ => ⟨fun h => absurd h (by decide), fun _ => ⟨fun _ => eRr, fun h => absurd rfl h⟩⟩⟩
  | 3, _ => exact ⟨fun h => absurd h (by decide), fun _ => ⟨fun h => absurd h (by decide), fun _ => ⟨fun h => absurd h (by decide), fun _ => ⟨fun _ => eRr, fun h => absurd rfl h⟩⟩⟩⟩
  | 4, _ => exact ⟨fun h => absurd h (by decide), fun _ => ⟨fun h => absurd h (by decide), fun _ => ⟨fun h => absurd h (by decide), fun _ => ⟨fun h => absurd h (by decide), fun _ => ⟨fun _ => eRr, fun h => absurd rfl h⟩⟩⟩⟩⟩
  | 5, _ => exact ⟨fun h => absurd h (by decide), fun _ => ⟨fun h => absurd h (by decide), fun _ => ⟨fun h => absurd h (by decide), fun _ => ⟨fun h => absurd h (by decide), fun _ => ⟨fun h => absurd h (by decide), fun _ => ⟨fun _ => eRr, fun h => absurd rfl h⟩⟩⟩⟩⟩⟩
theorem t_becSame (hp : p < 84) (h : MI 47 p = y) : mrc (D + 1) 180 [.ref 46, .int (nI p), .int y] MI ML (some (.int (MI 47 p))) MI ML := by
  refine mrc_of (EX11_becomes (BX11_becomes_0 ?_))
  exact ⟨p, rfl, hp, ⟨fun _ => eRr, fun q => absurd h q⟩⟩
theorem t_becNew (hp : p < 84) (h : ¬ MI 47 p = y) (hd : MI 46 5 = nI d) (h40 : d < 40) : mrc (D + 1) 180 [.ref 46, .int (nI p), .int y] MI ML (some (.int (MI 47 p))) (mup (mup (mup (mup (mup MI 48 (mput (MI 48) d (nI p))) 49 (mput (MI 49) d (MI 47 p))) 50 (mput (MI 50) d y)) 46 (mput (mput (MI 46) 5 (nI (d + 1))) 4 (nI (d + 1)))) 47 (mput (MI 47) p y)) ML := by
  refine mrc_of (EX11_becomes (BX11_becomes_0 ?_))
  refine ⟨p, rfl, hp, ⟨fun q => absurd q h, fun _ => ⟨fun q => ?_, fun _ => ?_⟩⟩⟩
  · rw [hd, nI_eq (by omega) (by omega)] at q
    omega
  · refine BX11_becomes_97 ?_
    simp (disch := omega) only [nI_add, pk_mul, nI_leI, nI_ltI, nI_eq, ex_ix, nI_0lt, nI_0le, nat_rem, pk_div, pk_sub, bI_0, bI_1, mup_mup, mup_s, mup_n, mput_s, mput_n, and_true, true_and, not_true_eq_false, not_false_eq_true, ne_eq, Nat.zero_add, hd]
    exact ⟨h40, h40, h40, hp, iR rfl rfl⟩
theorem cpy_step (f : Nat → Int32) (j : Nat) : mput (va_cpy f f 1 0 j) j (va_cpy f f 1 0 j (j + 1)) = va_cpy f f 1 0 (j + 1) := by
  funext k
  unfold mput va_cpy
  by_cases h : k = j
  · subst h; rw [if_pos rfl, if_neg (by omega), if_pos (by omega)]; congr 1; omega
  · rw [if_neg h]
    by_cases q : k < j
    · rw [if_pos (by omega), if_pos (by omega)]
    · rw [if_neg (by omega), if_neg (by omega)]
theorem cpy_0 (f : Nat → Int32) : va_cpy f f 1 0 0 = f := by
  funext k
  unfold va_cpy
  rw [if_neg (by omega)]
theorem t_becFull (hp : p < 84) (h : ¬ MI 47 p = y) (hd : MI 46 5 = nI 40) : mrc (D + 1) 180 [.ref 46, .int (nI p), .int y] MI ML (some (.int (MI 47 p))) (mup (mup (mup (mup (mup MI 48 (mput (va_cpy (MI 48) (MI 48) 1 0 39) 39 (nI p))) 49 (mput (va_cpy (MI 49) (MI 49) 1 0 39) 39 (MI 47 p))) 50 (mput (va_cpy (MI 50) (MI 50) 1 0 39) 39 y)) 46 (mput (mput (MI 46) 5 (nI 40)) 4 (nI 40))) 47 (mput (MI 47) p y)) ML := by
  refine mrc_of (EX11_becomes (BX11_becomes_0 ?_))
  refine ⟨p, rfl, hp, ⟨fun q => absurd q h, fun _ => ⟨fun _ => ?_, fun q => absurd hd q⟩⟩⟩
  suffices k : ∀ Q, VX11_becomes_97 D Q (nI p) y (MI 47 p) (mup (mup (mup (mup MI 48 (va_cpy (MI 48) (MI 48) 1 0 39)) 49 (va_cpy (MI 49) (MI 49) 1 0 39)) 50 (va_cpy (MI 50) (MI 50) 1 0 39)) 46 (mput (MI 46) 5 (nI 39))) ML → VX11_becomes_26 D Q (nI p) y (MI 47 p) (nI 1) MI ML by
    refine k _ (BX11_becomes_97 ?_)
    simp (disch := omega) only [nI_add, pk_mul, nI_leI, nI_ltI, nI_eq, ex_ix, nI_0lt, nI_0le, nat_rem, pk_div, pk_sub, bI_0, bI_1, mup_mup, mup_s, mup_n, mput_s, mput_n, and_true, true_and, not_true_eq_false, not_false_eq_true, ne_eq, Nat.zero_add, hd]
    refine ⟨by omega, by omega, by omega, hp, iR rfl ?_⟩
    rw [show mput (mput (mput (MI 46) 5 (nI 39)) 5 (nI (39 + 1))) = mput (mput (MI 46) 5 (nI 40)) from by
      congr 1; funext j; unfold mput; split <;> rfl]
    funext q j
    unfold mup
    grind
  intro Q hk
  have e0 : ∀ M : mI, M = mup (mup (mup M 48 (va_cpy (M 48) (M 48) 1 0 0)) 49 (va_cpy (M 49) (M 49) 1 0 0)) 50 (va_cpy (M 50) (M 50) 1 0 0) := by
    intro M
    simp only [cpy_0]
    funext q
    unfold mup
    grind
  suffices g : VX11_becomes_26 D Q (nI p) y (MI 47 p) (nI 1) (mup (mup (mup MI 48 (va_cpy (MI 48) (MI 48) 1 0 0)) 49 (va_cpy (MI 49) (MI 49) 1 0 0)) 50 (va_cpy (MI 50) (MI 50) 1 0 0)) ML by rwa [← e0] at g
  refine up (i0 := 0) (P := fun j => VX11_becomes_26 D Q (nI p) y (MI 47 p) (nI (j + 1)) (mup (mup (mup MI 48 (va_cpy (MI 48) (MI 48) 1 0 j)) 49 (va_cpy (MI 49) (MI 49) 1 0 j)) 50 (va_cpy (MI 50) (MI 50) 1 0 j)) ML) 39 (by decide) ?_ ?_
  · refine BX11_becomes_26 ⟨fun _ => ?_, fun q => absurd (by decide) q⟩
    simp (disch := omega) only [nI_add, pk_mul, nI_leI, nI_ltI, nI_eq, ex_ix, nI_0lt, nI_0le, nat_rem, pk_div, pk_sub, bI_0, bI_1, mup_mup, mup_s, mup_n, mput_s, mput_n, and_true, true_and, not_true_eq_false, not_false_eq_true, ne_eq, Nat.zero_add, hd]
    exact hk
  · intro j _ hj ih
    refine BX11_becomes_26 ?_
    simp (disch := omega) only [nI_add, pk_mul, nI_leI, nI_ltI, nI_eq, ex_ix, nI_0lt, nI_0le, nat_rem, pk_div, pk_sub, bI_0, bI_1, mup_mup, mup_s, mup_n, mput_s, mput_n, and_true, true_and, not_true_eq_false, not_false_eq_true, ne_eq, Nat.zero_add]
    refine ⟨fun q => by omega, fun _ => ?_⟩
    rw [show j + 1 - 1 = j by omega]
    refine ⟨by omega, by omega, by omega, by omega, by omega, by omega, ?_⟩
    rw [cpy_step, cpy_step, cpy_step]
    rw [show ∀ (a b c a' b' c' : Nat → Int32), mup (mup (mup (mup (mup (mup MI 48 a) 49 b) 50 c) 48 a') 49 b') 50 c' = mup (mup (mup MI 48 a') 49 b') 50 c' from by
      intro a b c a' b' c'
      funext q
      unfold mup
      grind]
    exact ih
theorem t_manyFor {b n : Nat} {g : Int32} (hn : MI 46 6 = nI n) (h8 : n ≤ 8) (hb : b < 8) : mrc (D + 2) 222 [.ref 46, .int (nI b), .int g] MI ML (some (.int (nI (cn (fun i => !decide (g * MI 47 (20 + i * 8 + b) ≤ nI 0)) n)))) MI ML := by
  refine mrc_of (EX11_manyFor (BX11_manyFor_0 ?_))
  refine up (P := fun i => VX11_manyFor_5 (D + 1) _ (nI b) g (nI (cn (fun i => !decide (g * MI 47 (20 + i * 8 + b) ≤ nI 0)) i)) (nI i) MI ML) n (Nat.zero_le _) ?_ ?_
  · refine BX11_manyFor_5 ⟨fun _ => eRr, fun h => absurd (by rw [hn]; exact nI_le (Nat.le_refl _) (by omega)) h⟩
  · intro i _ hi ih
    refine BX11_manyFor_5 ?_
    rw [hn]
    refine ⟨fun h => absurd h (nI_ge hi (by omega)), fun _ => ?_⟩
    refine usei t_felt ⟨_, rfl, by omega, ?_⟩
    simp only [nI_add]
    refine ⟨fun h => ?_, fun h => ?_⟩
    · simpa [cn, h] using ih
    · simpa [cn, h] using ih
end M1
