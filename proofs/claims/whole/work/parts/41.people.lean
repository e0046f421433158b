/-! people: the class and the model answer alike -/
def Sim (yx ym : Nat) (as : List Value) : Prop := ∀ (MI : mI) (ML : mJ), Inv MI ML → ∃ (v : Int32) (M1 : mI) (L1 : mJ) (M2 : mI) (L2 : mJ), mrc 300 yx (.ref 0 :: as) MI ML (some (.int v)) M1 L1 ∧ mrc 300 ym (.ref 46 :: as) M1 L1 (some (.int v)) M2 L2 ∧ Inv M2 L2
def SimL (yx ym : Nat) (as : List Value) : Prop := ∀ (MI : mI) (ML : mJ), Inv MI ML → ∃ (v : Int64) (M1 : mI) (L1 : mJ) (M2 : mI) (L2 : mJ), mrc 300 yx (.ref 0 :: as) MI ML (some (.long v)) M1 L1 ∧ mrc 300 ym (.ref 46 :: as) M1 L1 (some (.long v)) M2 L2 ∧ Inv M2 L2
theorem bT {b : Bool} {A B : Prop} (h : b = true) (k : B) : (bI b = nI 0 → A) ∧ (¬ bI b = nI 0 → B) := ⟨fun q => absurd (bI_0.mp q) (by rw [h]; decide), fun _ => k⟩
theorem bF {b : Bool} {A B : Prop} (h : b = false) (k : A) : (bI b = nI 0 → A) ∧ (¬ bI b = nI 0 → B) := ⟨fun _ => k, fun q => absurd (bI_0.mpr h) q⟩
theorem cT {c A B : Prop} (h : c) (k : A) : (c → A) ∧ (¬ c → B) := ⟨fun _ => k, fun q => absurd h q⟩
theorem cF {c A B : Prop} (h : ¬ c) (k : B) : (c → A) ∧ (¬ c → B) := ⟨fun q => absurd q h, fun _ => k⟩
theorem bnf {b : Bool} (h : ¬ b = true) : b = false := by simpa using h
theorem mm1 (s c : Int32) : (if s < c then c else s) = (if c < s then s else c) := by
  rcases fa_three s c with h | h | h
  · rw [if_pos h, if_neg (fa_of_lt h).2.2.1]
  · subst h; rw [if_neg (fun q => (fa_of_lt q).2.2.2.1 rfl)]
  · rw [if_neg (fa_of_lt h).2.2.1, if_pos h]
theorem mm2 (s c : Int32) : (if c < s then c else s) = (if s < c then s else c) := by
  rcases fa_three s c with h | h | h
  · rw [if_neg (fa_of_lt h).2.2.1, if_pos h]
  · subst h; rw [if_neg (fun q => (fa_of_lt q).2.2.2.1 rfl)]
  · rw [if_pos h, if_neg (fa_of_lt h).2.2.1]
theorem ti_add {x y : Int32} (h1 : -1073741824 ≤ x.toInt) (h2 : x.toInt ≤ 1073741823) (h3 : -1073741824 ≤ y.toInt) (h4 : y.toInt ≤ 1073741823) : (x + y).toInt = x.toInt + y.toInt := by
  rw [Int32.toInt_add]
  simp only [Int.bmod]
  omega
theorem ti_sub {x y : Int32} (h1 : -1073741824 ≤ x.toInt) (h2 : x.toInt ≤ 1073741823) (h3 : -1073741824 ≤ y.toInt) (h4 : y.toInt ≤ 1073741823) : (x - y).toInt = x.toInt - y.toInt := by
  rw [Int32.toInt_sub]
  simp only [Int.bmod]
  omega
theorem m9 : (-9 : Int32).toInt = -9 := by decide
theorem wi_ti {lo hi : Int32} {x : Int32} (h : wiB lo hi x = true) : lo.toInt ≤ x.toInt ∧ x.toInt ≤ hi.toInt := by
  simp only [wiB, Bool.and_eq_true, Bool.not_eq_true', decide_eq_false_iff_not, fa_lt] at h
  omega
theorem okv_ft {i j : Nat} (hi : i < 8) (hj : j < 8) (hne : i ≠ j) {v : Int32} : okv (20 + i * 8 + j) v ↔ -9 ≤ v.toInt ∧ v.toInt ≤ 9 := by
  have e1 : (20 + i * 8 + j - 20) / 8 = i := by omega
  have e2 : (20 + i * 8 + j - 20) % 8 = j := by omega
  unfold okv lob hib
  rw [if_neg (by omega), if_neg (by omega), if_neg (by omega), if_neg (by omega), if_neg (by omega), if_neg (by omega), if_neg (by omega), if_neg (by omega), e1, e2, if_neg hne]
theorem okv_hu {i : Nat} (hi : i < 8) {v : Int32} : okv i v ↔ 0 ≤ v.toInt ∧ v.toInt ≤ 99 := by
  unfold okv lob hib
  rw [if_pos (by omega), if_pos (by omega)]
theorem okv_wa {i : Nat} (hi : i < 8) {v : Int32} : okv (8 + i) v ↔ 0 ≤ v.toInt ∧ v.toInt ≤ 9 := by
  unfold okv lob hib
  rw [if_pos (by omega), if_neg (by omega), if_pos (by omega)]
section PP
variable {MI : mI} {ML : mJ}
theorem p_person (x y : Int32) : Sim 135 187 [.int x, .int y] := by
  intro MI ML hI
  obtain ⟨n, h8, hn, hm, hM, hP, z1, z2, z3, z4⟩ := hI.1
  have hc : comeB x y = (wiB (nI 0) (nI 99) x && wiB (nI 0) (nI 9) y) := rfl
  by_cases h1 : wiB (nI 0) (nI 99) x = true
  · by_cases h2 : wiB (nI 0) (nI 9) y = true
    · have hc2 : comeB x y = true := by rw [hc, h1, h2]; rfl
      by_cases hf : n = 8
      · subst hf
        exact ⟨_, _, _, _, _, mrc_of (EX10_person (BX10_person_0 (usei s_mayCome (bT hc2 (usei (s_admitFull bz1 hn) eRr))))), mrc_of (EX11_person (BX11_person_0 (usei (t_within (lo := nI 0) (hi := nI 99) rfl rfl) (bT h1 (usei (t_within (lo := nI 0) (hi := nI 9) rfl rfl) (bT h2 (cT hm eRr))))))), hI⟩
      · have hn7 : n < 8 := by omega
        refine ⟨_, _, _, _, _, mrc_of (EX10_person (BX10_person_0 (usei s_mayCome (bT hc2 (usei (s_admit bz1 hn hn7) eRr))))), mrc_of (EX11_person (BX11_person_0 (usei (t_within (lo := nI 0) (hi := nI 99) rfl rfl) (bT h1 (usei (t_within (lo := nI 0) (hi := nI 9) rfl rfl) (bT h2 (cF ?_ (usev (t_adds (n := n) ?_ hn7) (iR ?_ rfl))))))))), ?_⟩
        · simp (disch := omega) only [mup_n, mup_s, mput_n, mput_s, mup_mup]
          rw [hm, nI_eq (by omega) (by omega)]
          exact hf
        · simp (disch := omega) only [mup_n, mup_s, mput_n, mput_s, mup_mup]
          exact hm
        · simp (disch := omega) only [mup_n, mup_s, mput_n, mput_s, mup_mup]
          rw [pk_sub (by omega), show n + 1 - 1 = n by omega]
        · have b1 := wi_ti h1
          have b2 := wi_ti h2
          rw [nI_toInt (by omega), nI_toInt (by omega)] at b1 b2
          refine ⟨⟨n + 1, by omega, by simp (disch := omega) only [mup_n, mup_s, mput_n, mput_s, mup_mup], by simp (disch := omega) only [mup_n, mup_s, mput_n, mput_s, mup_mup], ?_, ?_, ?_, ?_, ?_, ?_⟩, (Ic_c (by first | rfl | simp (disch := omega) only [mup_n, mup_s, mput_n]) (by first | rfl | simp (disch := omega) only [mup_n, mup_s, mput_n]) (by first | rfl | simp (disch := omega) only [mup_n, mup_s, mput_n]) (by first | rfl | simp (disch := omega) only [mup_n, mup_s, mput_n]) (by first | rfl | simp (disch := omega) only [mup_n, mup_s, mput_n]) (by first | rfl | simp (disch := omega) only [mup_n, mup_s, mput_n]) (by first | rfl | simp (disch := omega) only [mup_n, mup_s, mput_n]) (by first | rfl | simp (disch := omega) only [mup_n, mup_s, mput_n]) (by first | rfl | simp (disch := omega) only [mup_n, mup_s, mput_n]) (by first | rfl | simp (disch := omega) only [mup_n, mup_s, mput_n]) hI.2.1), (It_c (by first | rfl | simp (disch := omega) only [mup_n, mup_s, mput_n]) (by first | rfl | simp (disch := omega) only [mup_n, mup_s, mput_n]) (by first | rfl | simp (disch := omega) only [mup_n, mup_s, mput_n]) (by first | rfl | simp (disch := omega) only [mup_n, mup_s, mput_n]) hI.2.2.1), (Il_c (by first | rfl | simp (disch := omega) only [mup_n, mup_s, mput_n]) (by first | rfl | simp (disch := omega) only [mup_n, mup_s, mput_n]) (by first | rfl | simp (disch := omega) only [mup_n, mup_s, mput_n]) (by first | rfl | simp (disch := omega) only [mup_n, mup_s, mput_n]) (by first | rfl | simp (disch := omega) only [mup_n, mup_s, mput_n]) (by first | rfl | simp (disch := omega) only [mup_n, mup_s, mput_n]) hI.2.2.2.1), (Is_c (by first | rfl | simp (disch := omega) only [mup_n, mup_s, mput_n]) (by first | rfl | simp (disch := omega) only [mup_n, mup_s, mput_n]) (by first | rfl | simp (disch := omega) only [mup_n, mup_s, mput_n]) (by first | rfl | simp (disch := omega) only [mup_n, mup_s, mput_n]) (by first | rfl | simp (disch := omega) only [mup_n, mup_s, mput_n]) (by first | rfl | simp (disch := omega) only [mup_n, mup_s, mput_n]) (by first | rfl | simp (disch := omega) only [mup_n, mup_s, mput_n]) (by first | rfl | simp (disch := omega) only [mup_n, mup_s, mput_n]) (by first | rfl | simp (disch := omega) only [mup_n, mup_s, mput_n]) (by first | rfl | simp (disch := omega) only [mup_n, mup_s, mput_n]) (by first | rfl | simp (disch := omega) only [mup_n, mup_s, mput_n]) hI.2.2.2.2.1), (Ir_c (by first | rfl | simp (disch := omega) only [mup_n, mup_s, mput_n]) (by first | rfl | simp (disch := omega) only [mup_n, mup_s, mput_n]) (by first | rfl | simp (disch := omega) only [mup_n, mup_s, mput_n]) (by first | rfl | simp (disch := omega) only [mup_n, mup_s, mput_n]) (by first | rfl | simp (disch := omega) only [mup_n, mup_s, mput_n]) hI.2.2.2.2.2.1), (Ib_c (by first | rfl | simp (disch := omega) only [mup_n, mup_s, mput_n]) (by first | rfl | simp (disch := omega) only [mup_n, mup_s, mput_n]) (by first | rfl | simp (disch := omega) only [mup_n, mup_s, mput_n]) (by first | rfl | simp (disch := omega) only [mup_n, mup_s, mput_n]) (by first | rfl | simp (disch := omega) only [mup_n, mup_s, mput_n]) (by first | rfl | simp (disch := omega) only [mup_n, mup_s, mput_n]) hI.2.2.2.2.2.2.1), (Ii_c (by first | rfl | simp (disch := omega) only [mup_n, mup_s, mput_n]) (by first | rfl | simp (disch := omega) only [mup_n, mup_s, mput_n]) (by first | rfl | simp (disch := omega) only [mup_n, mup_s, mput_n]) (by first | rfl | simp (disch := omega) only [mup_n, mup_s, mput_n]) (by first | rfl | simp (disch := omega) only [mup_n, mup_s, mput_n]) (by first | rfl | simp (disch := omega) only [mup_n, mup_s, mput_n]) (by first | rfl | simp (disch := omega) only [mup_n, mup_s, mput_n]) hI.2.2.2.2.2.2.2.1), (Iw_c (by first | rfl | simp (disch := omega) only [mup_n, mup_s, mput_n]) hI.2.2.2.2.2.2.2.2)⟩
          · simp (disch := omega) only [mup_n, mup_s, mput_n, mput_s, mup_mup]
            rw [hM]
          · simp (disch := omega) only [mup_n, mup_s, mput_n, mput_s, mup_mup]
            exact (hP.put (by omega) ((okv_hu hn7).mpr b1)).put (by omega) ((okv_wa hn7).mpr b2)
          · simp (disch := omega) only [mup_n, mup_s, mput_n, mput_s, mup_mup]
            exact z1
          · simp (disch := omega) only [mup_n, mup_s, mput_n, mput_s, mup_mup]
            exact z2
          · simp (disch := omega) only [mup_n, mup_s, mput_n, mput_s, mup_mup]
            exact z3
          · simp (disch := omega) only [mup_n, mup_s, mput_n, mput_s, mup_mup]
            exact z4
    · have hc2 : comeB x y = false := by rw [hc, bnf h2, Bool.and_false]
      exact ⟨_, _, _, _, _, mrc_of (EX10_person (BX10_person_0 (usei s_mayCome (bF hc2 eRr)))), mrc_of (EX11_person (BX11_person_0 (usei (t_within (lo := nI 0) (hi := nI 99) rfl rfl) (bT h1 (usei (t_within (lo := nI 0) (hi := nI 9) rfl rfl) (bF (bnf h2) eRr)))))), hI⟩
  · have hc2 : comeB x y = false := by rw [hc, bnf h1, Bool.false_and]
    exact ⟨_, _, _, _, _, mrc_of (EX10_person (BX10_person_0 (usei s_mayCome (bF hc2 eRr)))), mrc_of (EX11_person (BX11_person_0 (usei (t_within (lo := nI 0) (hi := nI 99) rfl rfl) (bF (bnf h1) eRr)))), hI⟩
theorem Ip_put {n p : Nat} {v : Int32} {MI' : mI} (h : Ipn n MI) (hp : p < 84) (hv : okv p v) (h2 : MI' 2 = mput (MI 2) p v) (h47 : MI' 47 = mput (MI 47) p v) (h1 : MI' 1 0 = MI 1 0) (h6 : MI' 46 6 = MI 46 6) (h17 : MI' 17 = MI 17) (h37 : MI' 37 = MI 37) (h61 : MI' 61 = MI 61) (h72 : MI' 72 = MI 72) : Ip MI' := by
  obtain ⟨h8, hn, hm, hM, hP, z1, z2, z3, z4⟩ := h
  exact ⟨n, h8, h1.trans hn, h6.trans hm, by rw [h2, h47, hM], by rw [h2]; exact hP.put hp hv, by rw [h17]; exact z1, by rw [h37]; exact z2, by rw [h61]; exact z3, by rw [h72]; exact z4⟩
theorem pair_change {p : Nat} {v : Int32} (hI : Inv MI ML) (hp : p < 84) (hv : okv p v) : ∃ M1 M2, mrc 290 143 [.ref 0, .int (nI p), .int v] MI ML (some (.int (MI 2 p))) M1 ML ∧ mrc 290 180 [.ref 46, .int (nI p), .int v] M1 ML (some (.int (MI 2 p))) M2 ML ∧ Inv M2 ML ∧ M1 46 = MI 46 := by
  obtain ⟨n, hIn⟩ := hI.1
  obtain ⟨h8, hn, hm, hM, hP, z1, z2, z3, z4⟩ := hIn
  obtain ⟨d, m, c1, c2, c3, c4, c5, c6, c7⟩ := hI.2.1
  have hok := hP.1 p hp
  by_cases hs : MI 2 p = v
  · refine ⟨MI, MI, mrc_of (EX10_changeTo (BX10_changeTo_0 (usei (s_numberAt bz1 hp) (cT hs eRr)))), ?_, hI, rfl⟩
    have := t_becSame (D := 289) (MI := MI) (ML := ML) (y := v) hp (by rw [hM]; exact hs)
    rwa [hM] at this
  · by_cases hf : d = 40
    · subst hf
      refine ⟨_, ?_, mrc_of (EX10_changeTo (BX10_changeTo_0 (usei (s_numberAt bz1 hp) (cF hs (usev (s_chAddFull c3) (usev (s_setNumber bz1 hp) eRr)))))), ?_, ?_, ?_⟩
      rotate_left
      · have h := t_becFull (D := 289) (MI := (mup (mup (mup (mup (mup MI 40 (mput (va_cpy (MI 40) (MI 40) 1 0 39) 39 (nI p))) 41 (mput (va_cpy (MI 41) (MI 41) 1 0 39) 39 (MI 2 p))) 42 (mput (va_cpy (MI 42) (MI 42) 1 0 39) 39 v)) 39 (mput (mput (MI 39) 3 (nI 40)) 4 (nI 40))) 2 (mput (MI 2) p v))) (ML := ML) (y := v) hp (by simp (disch := omega) only [mup_n, mup_s, mput_n, mput_s, mup_mup]; rw [hM]; exact hs) (by simp (disch := omega) only [mup_n, mup_s, mput_n, mput_s, mup_mup]; exact c4)
        simp (disch := omega) only [mup_n, mup_s, mput_n, mput_s] at h ⊢
        rw [hM] at h
        exact h
      · refine ⟨Ip_put ⟨h8, hn, hm, hM, hP, z1, z2, z3, z4⟩ hp hv (by simp (disch := omega) only [mup_n, mup_s, mput_n, mput_s, mup_mup]) (by simp (disch := omega) only [mup_n, mup_s, mput_n, mput_s, mup_mup]; rw [hM]) (by simp (disch := omega) only [mup_n, mup_s, mput_n, mput_s, mup_mup]) (by simp (disch := omega) only [mup_n, mup_s, mput_n, mput_s, mup_mup]) (by simp (disch := omega) only [mup_n, mup_s, mput_n, mput_s, mup_mup]) (by simp (disch := omega) only [mup_n, mup_s, mput_n, mput_s, mup_mup]) (by simp (disch := omega) only [mup_n, mup_s, mput_n, mput_s, mup_mup]) (by simp (disch := omega) only [mup_n, mup_s, mput_n, mput_s, mup_mup]), ⟨40, 40, by omega, by omega, by simp (disch := omega) only [mup_n, mup_s, mput_n, mput_s, mup_mup], by simp (disch := omega) only [mup_n, mup_s, mput_n, mput_s, mup_mup], by simp (disch := omega) only [mup_n, mup_s, mput_n, mput_s, mup_mup], by simp (disch := omega) only [mup_n, mup_s, mput_n, mput_s, mup_mup], ?_⟩, (It_c (by first | rfl | simp (disch := omega) only [mup_n, mup_s, mput_n]) (by first | rfl | simp (disch := omega) only [mup_n, mup_s, mput_n]) (by first | rfl | simp (disch := omega) only [mup_n, mup_s, mput_n]) (by first | rfl | simp (disch := omega) only [mup_n, mup_s, mput_n]) hI.2.2.1), (Il_c (by first | rfl | simp (disch := omega) only [mup_n, mup_s, mput_n]) (by first | rfl | simp (disch := omega) only [mup_n, mup_s, mput_n]) (by first | rfl | simp (disch := omega) only [mup_n, mup_s, mput_n]) (by first | rfl | simp (disch := omega) only [mup_n, mup_s, mput_n]) (by first | rfl | simp (disch := omega) only [mup_n, mup_s, mput_n]) (by first | rfl | simp (disch := omega) only [mup_n, mup_s, mput_n]) hI.2.2.2.1), (Is_c (by first | rfl | simp (disch := omega) only [mup_n, mup_s, mput_n]) (by first | rfl | simp (disch := omega) only [mup_n, mup_s, mput_n]) (by first | rfl | simp (disch := omega) only [mup_n, mup_s, mput_n]) (by first | rfl | simp (disch := omega) only [mup_n, mup_s, mput_n]) (by first | rfl | simp (disch := omega) only [mup_n, mup_s, mput_n]) (by first | rfl | simp (disch := omega) only [mup_n, mup_s, mput_n]) (by first | rfl | simp (disch := omega) only [mup_n, mup_s, mput_n]) (by first | rfl | simp (disch := omega) only [mup_n, mup_s, mput_n]) (by first | rfl | simp (disch := omega) only [mup_n, mup_s, mput_n]) (by first | rfl | simp (disch := omega) only [mup_n, mup_s, mput_n]) (by first | rfl | simp (disch := omega) only [mup_n, mup_s, mput_n]) hI.2.2.2.2.1), (Ir_c (by first | rfl | simp (disch := omega) only [mup_n, mup_s, mput_n]) (by first | rfl | simp (disch := omega) only [mup_n, mup_s, mput_n]) (by first | rfl | simp (disch := omega) only [mup_n, mup_s, mput_n]) (by first | rfl | simp (disch := omega) only [mup_n, mup_s, mput_n]) (by first | rfl | simp (disch := omega) only [mup_n, mup_s, mput_n]) hI.2.2.2.2.2.1), (Ib_c (by first | rfl | simp (disch := omega) only [mup_n, mup_s, mput_n]) (by first | rfl | simp (disch := omega) only [mup_n, mup_s, mput_n]) (by first | rfl | simp (disch := omega) only [mup_n, mup_s, mput_n]) (by first | rfl | simp (disch := omega) only [mup_n, mup_s, mput_n]) (by first | rfl | simp (disch := omega) only [mup_n, mup_s, mput_n]) (by first | rfl | simp (disch := omega) only [mup_n, mup_s, mput_n]) hI.2.2.2.2.2.2.1), (Ii_c (by first | rfl | simp (disch := omega) only [mup_n, mup_s, mput_n]) (by first | rfl | simp (disch := omega) only [mup_n, mup_s, mput_n]) (by first | rfl | simp (disch := omega) only [mup_n, mup_s, mput_n]) (by first | rfl | simp (disch := omega) only [mup_n, mup_s, mput_n]) (by first | rfl | simp (disch := omega) only [mup_n, mup_s, mput_n]) (by first | rfl | simp (disch := omega) only [mup_n, mup_s, mput_n]) (by first | rfl | simp (disch := omega) only [mup_n, mup_s, mput_n]) hI.2.2.2.2.2.2.2.1), (Iw_c (by first | rfl | simp (disch := omega) only [mup_n, mup_s, mput_n]) hI.2.2.2.2.2.2.2.2)⟩
        intro j hj
        simp (disch := omega) only [mup_n, mup_s, mput_n, mput_s, mup_mup]
        by_cases hj9 : j = 39
        · subst hj9
          simp (disch := omega) only [mup_n, mup_s, mput_n, mput_s, mup_mup]
          exact ⟨⟨p, hp, rfl, rfl, hok, hv⟩, trivial, trivial⟩
        · have e : ∀ f : Nat → Int32, va_cpy f f 1 0 39 j = f (j + 1) := fun f => by
            unfold va_cpy
            rw [if_pos (by omega)]
            congr 1
            omega
          simp (disch := omega) only [mup_n, mup_s, mput_n, mput_s, mup_mup]
          rw [e, e, e, e, e, e]
          exact c7 (j + 1) (by omega)
      · simp (disch := omega) only [mup_n, mup_s, mput_n, mput_s, mup_mup]
    · have hd : d < 40 := by omega
      refine ⟨_, ?_, mrc_of (EX10_changeTo (BX10_changeTo_0 (usei (s_numberAt bz1 hp) (cF hs (usev (s_chAdd c3 hd) (usev (s_setNumber bz1 hp) eRr)))))), ?_, ?_, ?_⟩
      rotate_left
      · have h := t_becNew (D := 289) (MI := (mup (mup (mup (mup (mup MI 40 (mput (MI 40) d (nI p))) 41 (mput (MI 41) d (MI 2 p))) 42 (mput (MI 42) d v)) 39 (mput (mput (MI 39) 3 (nI (d + 1))) 4 (nI (d + 1)))) 2 (mput (MI 2) p v))) (ML := ML) (y := v) hp (by simp (disch := omega) only [mup_n, mup_s, mput_n, mput_s, mup_mup]; rw [hM]; exact hs) (by simp (disch := omega) only [mup_n, mup_s, mput_n, mput_s, mup_mup]; exact c4) hd
        simp (disch := omega) only [mup_n, mup_s, mput_n, mput_s] at h ⊢
        rw [hM] at h
        exact h
      · refine ⟨Ip_put ⟨h8, hn, hm, hM, hP, z1, z2, z3, z4⟩ hp hv (by simp (disch := omega) only [mup_n, mup_s, mput_n, mput_s, mup_mup]) (by simp (disch := omega) only [mup_n, mup_s, mput_n, mput_s, mup_mup]; rw [hM]) (by simp (disch := omega) only [mup_n, mup_s, mput_n, mput_s, mup_mup]) (by simp (disch := omega) only [mup_n, mup_s, mput_n, mput_s, mup_mup]) (by simp (disch := omega) only [mup_n, mup_s, mput_n, mput_s, mup_mup]) (by simp (disch := omega) only [mup_n, mup_s, mput_n, mput_s, mup_mup]) (by simp (disch := omega) only [mup_n, mup_s, mput_n, mput_s, mup_mup]) (by simp (disch := omega) only [mup_n, mup_s, mput_n, mput_s, mup_mup]), ⟨d + 1, d + 1, by omega, by omega, by simp (disch := omega) only [mup_n, mup_s, mput_n, mput_s, mup_mup], by simp (disch := omega) only [mup_n, mup_s, mput_n, mput_s, mup_mup], by simp (disch := omega) only [mup_n, mup_s, mput_n, mput_s, mup_mup], by simp (disch := omega) only [mup_n, mup_s, mput_n, mput_s, mup_mup], ?_⟩, (It_c (by first | rfl | simp (disch := omega) only [mup_n, mup_s, mput_n]) (by first | rfl | simp (disch := omega) only [mup_n, mup_s, mput_n]) (by first | rfl | simp (disch := omega) only [mup_n, mup_s, mput_n]) (by first | rfl | simp (disch := omega) only [mup_n, mup_s, mput_n]) hI.2.2.1), (Il_c (by first | rfl | simp (disch := omega) only [mup_n, mup_s, mput_n]) (by first | rfl | simp (disch := omega) only [mup_n, mup_s, mput_n]) (by first | rfl | simp (disch := omega) only [mup_n, mup_s, mput_n]) (by first | rfl | simp (disch := omega) only [mup_n, mup_s, mput_n]) (by first | rfl | simp (disch := omega) only [mup_n, mup_s, mput_n]) (by first | rfl | simp (disch := omega) only [mup_n, mup_s, mput_n]) hI.2.2.2.1), (Is_c (by first | rfl | simp (disch := omega) only [mup_n, mup_s, mput_n]) (by first | rfl | simp (disch := omega) only [mup_n, mup_s, mput_n]) (by first | rfl | simp (disch := omega) only [mup_n, mup_s, mput_n]) (by first | rfl | simp (disch := omega) only [mup_n, mup_s, mput_n]) (by first | rfl | simp (disch := omega) only [mup_n, mup_s, mput_n]) (by first | rfl | simp (disch := omega) only [mup_n, mup_s, mput_n]) (by first | rfl | simp (disch := omega) only [mup_n, mup_s, mput_n]) (by first | rfl | simp (disch := omega) only [mup_n, mup_s, mput_n]) (by first | rfl | simp (disch := omega) only [mup_n, mup_s, mput_n]) (by first | rfl | simp (disch := omega) only [mup_n, mup_s, mput_n]) (by first | rfl | simp (disch := omega) only [mup_n, mup_s, mput_n]) hI.2.2.2.2.1), (Ir_c (by first | rfl | simp (disch := omega) only [mup_n, mup_s, mput_n]) (by first | rfl | simp (disch := omega) only [mup_n, mup_s, mput_n]) (by first | rfl | simp (disch := omega) only [mup_n, mup_s, mput_n]) (by first | rfl | simp (disch := omega) only [mup_n, mup_s, mput_n]) (by first | rfl | simp (disch := omega) only [mup_n, mup_s, mput_n]) hI.2.2.2.2.2.1), (Ib_c (by first | rfl | simp (disch := omega) only [mup_n, mup_s, mput_n]) (by first | rfl | simp (disch := omega) only [mup_n, mup_s, mput_n]) (by first | rfl | simp (disch := omega) only [mup_n, mup_s, mput_n]) (by first | rfl | simp (disch := omega) only [mup_n, mup_s, mput_n]) (by first | rfl | simp (disch := omega) only [mup_n, mup_s, mput_n]) (by first | rfl | simp (disch := omega) only [mup_n, mup_s, mput_n]) hI.2.2.2.2.2.2.1), (Ii_c (by first | rfl | simp (disch := omega) only [mup_n, mup_s, mput_n]) (by first | rfl | simp (disch := omega) only [mup_n, mup_s, mput_n]) (by first | rfl | simp (disch := omega) only [mup_n, mup_s, mput_n]) (by first | rfl | simp (disch := omega) only [mup_n, mup_s, mput_n]) (by first | rfl | simp (disch := omega) only [mup_n, mup_s, mput_n]) (by first | rfl | simp (disch := omega) only [mup_n, mup_s, mput_n]) (by first | rfl | simp (disch := omega) only [mup_n, mup_s, mput_n]) hI.2.2.2.2.2.2.2.1), (Iw_c (by first | rfl | simp (disch := omega) only [mup_n, mup_s, mput_n]) hI.2.2.2.2.2.2.2.2)⟩
        intro j hj
        simp (disch := omega) only [mup_n, mup_s, mput_n, mput_s, mup_mup]
        by_cases hj9 : j = d
        · subst hj9
          simp (disch := omega) only [mup_n, mup_s, mput_n, mput_s, mup_mup]
          exact ⟨⟨p, hp, rfl, rfl, hok, hv⟩, trivial, trivial⟩
        · simp (disch := omega) only [mup_n, mup_s, mput_n, mput_s, mup_mup]
          exact c7 j (by omega)
      · simp (disch := omega) only [mup_n, mup_s, mput_n, mput_s, mup_mup]
end PP
