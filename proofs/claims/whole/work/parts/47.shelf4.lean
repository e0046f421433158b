/-! shift, taken, people of a shelf, image, back: pairs -/
def abvN (c : Nat) : Nat := if c = 3 then 2 else if c = 4 then 1 else if c = 5 then 3 else if c = 7 then 4 else 0
def finN (k : Nat) : Nat → Nat → Nat
  | 0, c => c
  | s + 1, c => if c = k ∨ c = 0 then c else finN k s (abvN c)
theorem fin_und : ∀ c, c < 8 → ∀ k, k < 8 → decide (finN k 8 c = k) = undB (nI k) 8 (nI c) := by decide +kernel
theorem fin_lt : ∀ c, c < 8 → ∀ k, k < 8 → finN k 8 c < 8 := by decide +kernel
theorem abv_lt : ∀ c, c < 8 → 0 < c → abvN c < c := by decide +kernel
theorem fin_st : ∀ c, c < 8 → ∀ k, k < 8 → ¬ c = k → 0 < c → finN k 8 (abvN c) = finN k 8 c := by decide +kernel
theorem fin_end : ∀ c, c < 8 → ∀ k, k < 8 → (c = k ∨ c = 0) → finN k 8 c = c := by decide +kernel
section P7
variable {D d n nb : Nat} {MI : mI} {ML : mJ} {x y z : Int32}
theorem t_above {c : Nat} (hc : c < 8) : mrc (D + 1) 252 [.int (nI c)] MI ML (some (.int (nI (abvN c)))) MI ML := by
  refine mrc_of (EX11_above (BX11_above_0 ?_))
  simp (disch := omega) only [nI_eq]
  unfold abvN
  refine br (fun h => iR ?_ rfl) (fun h => br (fun h2 => iR ?_ rfl) (fun h2 => br (fun h3 => iR ?_ rfl) (fun h3 => br (fun h4 => iR ?_ rfl) (fun h4 => iR ?_ rfl))))
  · rw [if_pos h]
  · rw [if_neg h, if_pos h2]
  · rw [if_neg h, if_neg h2, if_pos h3]
  · rw [if_neg h, if_neg h2, if_neg h3, if_pos h4]
  · rw [if_neg h, if_neg h2, if_neg h3, if_neg h4]
theorem t_taken58 {k : Nat} {x : Int32} {Q : Option Value → mI → mJ → Prop} (hk : k < 8) : ∀ (m c : Nat), c ≤ m → c < 8 → VX11_taken_75 (D + 1) Q x (nI k) (nI (finN k 8 c)) MI ML → VX11_taken_58 (D + 1) Q x (nI k) (nI c) MI ML := by
  intro m
  induction m with
  | zero =>
    intro c hc h8 hv
    have : c = 0 := by omega
    subst this
    rw [fin_end 0 (by decide) k hk (Or.inr rfl)] at hv
    exact BX11_taken_58 (br (fun _ => hv) (fun _ => cT (by decide) hv))
  | succ m ih =>
    intro c hc h8 hv
    refine BX11_taken_58 ?_
    rw [nI_eq (by omega) (by omega)]
    refine br (fun e => ?_) (fun e => ?_)
    · rwa [fin_end c h8 k hk (Or.inl e)] at hv
    · rcases Nat.eq_zero_or_pos c with e0 | e0
      · subst e0
        rw [fin_end 0 (by decide) k hk (Or.inr rfl)] at hv
        exact cT (by decide) hv
      · have := abv_lt c h8 e0
        refine cF (nI_ge e0 (by omega)) (usei (t_above h8) (ih (abvN c) (by omega) (by omega) ?_))
        rwa [fin_st c h8 k hk e e0]
theorem p_taken (x y : Int32) : Sim 176 268 [.int x, .int y] := by
  intro MI ML hI
  obtain ⟨nb, hnb, s5⟩ := hI.2.2.2.2.1
  obtain ⟨s1, s2, s3, s4⟩ := hnb
  have hw : wiB (nI 0) (nI 7) y = hasB 8 y := wiB_has (by decide)
  by_cases h : hasB 6 x = true
  · obtain ⟨d, hd, rfl⟩ := hasB_ix (n := 6) (by omega) h
    by_cases hy : hasB 8 y = true
    · obtain ⟨k, hk, rfl⟩ := hasB_ix (n := 8) (by omega) hy
      rcases s5 d hd with ⟨h1, h2, h3, h4⟩ | ⟨b, hb, h1, h2, h3, h4, h5⟩ | ⟨s, z, hs, hz, h1, h2, h3, h4, h5⟩
      · exact ⟨_, _, _, _, _, mrc_of (EX10_taken (BX10_taken_0 (usei s_shas (bT h (usei s_isKind (bT hy (usei (s_isBare hd) (cF (by rw [h1]; decide) eRr)))))))), mrc_of (EX11_taken (BX11_taken_0 (usei t_isShelf (bT h (usei (t_within (lo := nI 0) (hi := nI 7) rfl rfl) (bT (hw.trans hy) ⟨d, rfl, hd, cF (by rw [h2]; decide) eRr⟩)))))), hI⟩
      · obtain ⟨c, hc, k1, k2⟩ := s4 b hb
        have e1 : decide (MI 11 d = nI 6) = false := by rw [h1]; decide
        have e2 : decide (MI 11 d = nI 5) = true := by rw [h1]; decide
        have e3 : mrc 299 108 [.ref 10, .int (nI d)] MI ML (some (.int (nI b))) MI ML := by rw [← h2]; exact s_needleOn hd h1
        have e4 : mrc 299 75 [.ref 43, .int (nI b)] MI ML (some (.int (nI c))) MI ML := by rw [← k1]; exact s_kindOf s2 s1 hb
        have e5 : mrc 299 250 [.ref 46, .int (MI 76 d)] MI ML (some (.int (nI c))) MI ML := by rw [h3, ← k2]; exact t_kindOf (by omega)
        have hu := fin_und c hc k hk
        by_cases hf : finN k 8 c = k
        · rw [decide_eq_true hf] at hu
          exact ⟨_, _, _, _, _, mrc_of (EX10_taken (BX10_taken_0 (usei s_shas (bT h (usei s_isKind (bT hy (usei (s_isBare hd) (bF e1 (usei (s_holdsNeedle hd) (bT e2 (usei e3 (usei e4 (usei s_isUnder (bT hu.symm eRr)))))))))))))), mrc_of (EX11_taken (BX11_taken_0 (usei t_isShelf (bT h (usei (t_within (lo := nI 0) (hi := nI 7) rfl rfl) (bT (hw.trans hy) ⟨d, rfl, hd, cT (by rw [h3]; exact nI_le (Nat.zero_le _) (by omega)) ⟨d, rfl, hd, cT (by rw [h3]; exact nI_lt (by omega) (by omega)) ⟨d, rfl, hd, usei e5 (t_taken58 hk 8 c (by omega) hc (BX11_taken_75 (cT (by rw [hf]) ⟨d, rfl, hd, usei e5 eRr⟩)))⟩⟩⟩)))))), hI⟩
        · rw [decide_eq_false hf] at hu
          exact ⟨_, _, _, _, _, mrc_of (EX10_taken (BX10_taken_0 (usei s_shas (bT h (usei s_isKind (bT hy (usei (s_isBare hd) (bF e1 (usei (s_holdsNeedle hd) (bT e2 (usei e3 (usei e4 (usei s_isUnder (bF hu.symm eRr)))))))))))))), mrc_of (EX11_taken (BX11_taken_0 (usei t_isShelf (bT h (usei (t_within (lo := nI 0) (hi := nI 7) rfl rfl) (bT (hw.trans hy) ⟨d, rfl, hd, cT (by rw [h3]; exact nI_le (Nat.zero_le _) (by omega)) ⟨d, rfl, hd, cT (by rw [h3]; exact nI_lt (by omega) (by omega)) ⟨d, rfl, hd, usei e5 (t_taken58 hk 8 c (by omega) hc (BX11_taken_75 (cF (by have := fin_lt c hc k hk; rw [nI_eq (by omega) (by omega)]; exact hf) eRr)))⟩⟩⟩)))))), hI⟩
      · have e1 : decide (MI 11 d = nI 6) = false := by rw [h1]; exact decide_eq_false (by rw [nI_eq (by omega) (by omega)]; omega)
        have e2 : decide (MI 11 d = nI 5) = false := by rw [h1]; exact decide_eq_false (by rw [nI_eq (by omega) (by omega)]; omega)
        exact ⟨_, _, _, _, _, mrc_of (EX10_taken (BX10_taken_0 (usei s_shas (bT h (usei s_isKind (bT hy (usei (s_isBare hd) (bF e1 (usei (s_holdsNeedle hd) (bF e2 eRr)))))))))), mrc_of (EX11_taken (BX11_taken_0 (usei t_isShelf (bT h (usei (t_within (lo := nI 0) (hi := nI 7) rfl rfl) (bT (hw.trans hy) ⟨d, rfl, hd, cT (by rw [h2]; exact nI_le (Nat.zero_le _) (by omega)) ⟨d, rfl, hd, cF (by rw [h2]; exact nI_nlt (by omega) (by omega)) eRr⟩⟩)))))), hI⟩
    · exact ⟨_, _, _, _, _, mrc_of (EX10_taken (BX10_taken_0 (usei s_shas (bT h (usei s_isKind (bF (bnf hy) eRr)))))), mrc_of (EX11_taken (BX11_taken_0 (usei t_isShelf (bT h (usei (t_within (lo := nI 0) (hi := nI 7) rfl rfl) (bF (hw.trans (bnf hy)) eRr)))))), hI⟩
  · exact ⟨_, _, _, _, _, mrc_of (EX10_taken (BX10_taken_0 (usei s_shas (bF (bnf h) eRr)))), mrc_of (EX11_taken (BX11_taken_0 (usei t_isShelf (bF (bnf h) eRr)))), hI⟩
-- shift
theorem t_shift {i j n e : Nat} {Q : Option Value → mI → mJ → Prop} (hd : d < 6) (he : e < 6) (hi : i + n ≤ 60) (hj : j + n ≤ 60) (hQ : Q (some (.int (nI n))) MI (mup (mup ML 79 (fun q => if q < n then ML 78 (d * 60 + i + q) else ML 79 q)) 78 (va_cpy (ML 78) (ML 78) (d * 60 + i) (e * 60 + j) n))) : VX11_shift_113 D Q (nI d) (nI i) (nI e) (nI j) (nI n) (nI 0) MI ML := by
  suffices g : VX11_shift_113 D Q (nI d) (nI i) (nI e) (nI j) (nI n) (nI 0) MI (mup ML 79 (fun q => if q < 0 then ML 78 (d * 60 + i + q) else ML 79 q)) by
    rwa [show mup ML 79 (fun q => if q < 0 then ML 78 (d * 60 + i + q) else ML 79 q) = ML from by
      rw [show (fun q => if q < 0 then ML 78 (d * 60 + i + q) else ML 79 q) = ML 79 from funext fun q => if_neg (by omega), mup_id]] at g
  refine up (P := fun c => VX11_shift_113 D Q (nI d) (nI i) (nI e) (nI j) (nI n) (nI c) MI (mup ML 79 (fun q => if q < c then ML 78 (d * 60 + i + q) else ML 79 q))) n (Nat.zero_le _) ?_ ?_
  · refine BX11_shift_113 (cT (nI_le (Nat.le_refl _) (by omega)) ?_)
    suffices g : VX11_shift_150 D Q (nI e) (nI j) (nI n) (nI 0) MI (mup (mup ML 79 (fun q => if q < n then ML 78 (d * 60 + i + q) else ML 79 q)) 78 (va_cpy (ML 78) (ML 78) (d * 60 + i) (e * 60 + j) 0)) by
      rwa [show va_cpy (ML 78) (ML 78) (d * 60 + i) (e * 60 + j) 0 = (mup ML 79 (fun q => if q < n then ML 78 (d * 60 + i + q) else ML 79 q)) 78 from by rw [mup_n (by decide)]; funext q; exact if_neg (by omega), mup_id] at g
    refine up (P := fun c => VX11_shift_150 D Q (nI e) (nI j) (nI n) (nI c) MI (mup (mup ML 79 (fun q => if q < n then ML 78 (d * 60 + i + q) else ML 79 q)) 78 (va_cpy (ML 78) (ML 78) (d * 60 + i) (e * 60 + j) c))) n (Nat.zero_le _) ?_ ?_
    · exact BX11_shift_150 (cT (nI_le (Nat.le_refl _) (by omega)) hQ)
    · intro c _ hc ih
      refine BX11_shift_150 (cF (nI_ge hc (by omega)) ⟨c, rfl, by omega, e * 60 + j + c, by rw [pk_mul, nI_add, nI_add, Nat.mul_comm 60 e], by omega, ?_⟩)
      rw [mup_s, mup_mup, mup_n (by decide), mup_s, if_pos hc, nI_add, show mput (va_cpy (ML 78) (ML 78) (d * 60 + i) (e * 60 + j) c) (e * 60 + j + c) (ML 78 (d * 60 + i + c)) = va_cpy (ML 78) (ML 78) (d * 60 + i) (e * 60 + j) (c + 1) from by
        funext q
        unfold mput va_cpy
        by_cases w : q = e * 60 + j + c
        · subst w; rw [if_pos rfl, if_pos (by omega)]; congr 1; omega
        · rw [if_neg w]
          by_cases w2 : e * 60 + j ≤ q ∧ q < e * 60 + j + c
          · rw [if_pos w2, if_pos (by omega)]
          · rw [if_neg w2, if_neg (by omega)]]
      exact ih
  · intro c _ hc ih
    refine BX11_shift_113 (cF (nI_ge hc (by omega)) ⟨d * 60 + i + c, by rw [pk_mul, nI_add, nI_add, Nat.mul_comm 60 d], by omega, c, rfl, by omega, ?_⟩)
    rw [mup_s, mup_mup, mup_n (by decide), nI_add, show mput (fun q => if q < c then ML 78 (d * 60 + i + q) else ML 79 q) c (ML 78 (d * 60 + i + c)) = (fun q => if q < c + 1 then ML 78 (d * 60 + i + q) else ML 79 q) from by
      funext q
      unfold mput
      by_cases w : q = c
      · subst w; rw [if_pos rfl, if_pos (by omega)]
      · rw [if_neg w]
        dsimp only
        by_cases w2 : q < c
        · rw [if_pos w2, if_pos (by omega)]
        · rw [if_neg w2, if_neg (by omega)]]
    exact ih
theorem plB_ix2 {s : Nat} (hs : s ≤ 60) (h : plB (nI s) x y = true) : ∃ i n, i + n ≤ s ∧ x = nI i ∧ y = nI n := by
  simp only [plB, Bool.and_eq_true, Bool.not_eq_true', decide_eq_false_iff_not] at h
  obtain ⟨h1, h2, h3⟩ := h
  rw [fa_lt, nI0_ti] at h1 h2
  have hs' : (nI s).toInt = (s : Int) := nI_toInt (by omega)
  have hyb : y.toInt ≤ 2147483647 := by have := Int32.toInt_lt y; omega
  have hxb : x.toInt ≤ 2147483647 := by have := Int32.toInt_lt x; omega
  have es : (nI s - y).toInt = s - y.toInt := by
    rw [Int32.toInt_sub, hs']
    simp only [Int.bmod]
    omega
  rw [fa_lt, es] at h3
  refine ⟨x.toInt.toNat, y.toInt.toNat, by omega, ?_, ?_⟩
  · rw [fa_eq, nI_toInt (by omega)]; omega
  · rw [fa_eq, nI_toInt (by omega)]; omega
theorem p_shift (x i y j m : Int32) : Sim 175 267 [.int x, .int i, .int y, .int j, .int m] := by
  intro MI ML hI
  obtain ⟨nb, hnb, s5⟩ := hI.2.2.2.2.1
  obtain ⟨s1, s2, s3, s4⟩ := hnb
  by_cases h : hasB 6 x = true
  · by_cases h' : hasB 6 y = true
    · obtain ⟨d, hd, rfl⟩ := hasB_ix (n := 6) (by omega) h
      obtain ⟨e, he, rfl⟩ := hasB_ix (n := 6) (by omega) h'
      have kx : ∀ {Q}, _ → VX10_shift_0 299 Q (nI d) i (nI e) j m MI ML := fun q => BX10_shift_0 (usei s_shas (bT h (usei s_shas (bT h' (usei (s_isBare hd) q)))))
      have km : ∀ {Q} {M : mI} {L : mJ}, _ → VX11_shift_0 299 Q (nI d) i (nI e) j m M L := fun q => BX11_shift_0 (usei t_isShelf (bT h (usei t_isShelf (bT h' ⟨d, rfl, hd, q⟩))))
      rcases s5 d hd with ⟨h1, h2, h3, h4⟩ | ⟨b, hb, h1, h2, h3, h4, h5⟩ | ⟨s, z, hs, hz, h1, h2, h3, h4, h5⟩
      · exact ⟨_, _, _, _, _, mrc_of (EX10_shift (kx (cF (by rw [h1]; decide) eRr))), mrc_of (EX11_shift (km (cT (by rw [h2]; decide) eRr))), hI⟩
      · have e1 : decide (MI 11 d = nI 6) = false := by rw [h1]; decide
        have hal : (sortB (MI 11 d) && decide (MI 11 d = MI 11 e)) = false := by rw [h1]; rfl
        rcases s5 e he with ⟨k1, k2, k3, k4⟩ | ⟨b', hb', k1, k2, k3, k4, k5⟩ | ⟨s', z', hs', hz', k1, k2, k3, k4, k5⟩
        · exact ⟨_, _, _, _, _, mrc_of (EX10_shift (kx (bF e1 (usei (s_isBare he) (cF (by rw [k1]; decide) eRr))))), mrc_of (EX11_shift (km (cF (by rw [h3]; exact nI_nlt (Nat.zero_le _) (by omega)) ⟨e, rfl, he, cF (by rw [k2]; decide) eRr⟩))), hI⟩
        · have e2 : decide (MI 11 e = nI 6) = false := by rw [k1]; decide
          exact ⟨_, _, _, _, _, mrc_of (EX10_shift (kx (bF e1 (usei (s_isBare he) (bF e2 (usei (s_areAlikeRows hd he) (bF hal eRr))))))), mrc_of (EX11_shift (km (cF (by rw [h3]; exact nI_nlt (Nat.zero_le _) (by omega)) ⟨e, rfl, he, cT (by rw [k3]; exact nI_le (Nat.zero_le _) (by omega)) ⟨d, rfl, hd, cT (by rw [h3]; exact nI_lt (by omega) (by omega)) eRr⟩⟩))), hI⟩
        · have e2 : decide (MI 11 e = nI 6) = false := by rw [k1]; exact decide_eq_false (by rw [nI_eq (by omega) (by omega)]; omega)
          exact ⟨_, _, _, _, _, mrc_of (EX10_shift (kx (bF e1 (usei (s_isBare he) (bF e2 (usei (s_areAlikeRows hd he) (bF hal eRr))))))), mrc_of (EX11_shift (km (cF (by rw [h3]; exact nI_nlt (Nat.zero_le _) (by omega)) ⟨e, rfl, he, cT (by rw [k2]; exact nI_le (Nat.zero_le _) (by omega)) ⟨d, rfl, hd, cT (by rw [h3]; exact nI_lt (by omega) (by omega)) eRr⟩⟩))), hI⟩
      · have e1 : decide (MI 11 d = nI 6) = false := by rw [h1]; exact decide_eq_false (by rw [nI_eq (by omega) (by omega)]; omega)
        have g1 : ¬ MI 76 d < nI 0 := by rw [h2]; exact nI_nlt (Nat.zero_le _) (by omega)
        have g2 : ¬ MI 76 d < nI 50 := by rw [h2]; exact nI_nlt (by omega) (by omega)
        rcases s5 e he with ⟨k1, k2, k3, k4⟩ | ⟨b', hb', k1, k2, k3, k4, k5⟩ | ⟨s', z', hs', hz', k1, k2, k3, k4, k5⟩
        · exact ⟨_, _, _, _, _, mrc_of (EX10_shift (kx (bF e1 (usei (s_isBare he) (cF (by rw [k1]; decide) eRr))))), mrc_of (EX11_shift (km (cF g1 ⟨e, rfl, he, cF (by rw [k2]; decide) eRr⟩))), hI⟩
        · have e2 : decide (MI 11 e = nI 6) = false := by rw [k1]; decide
          have hal : (sortB (MI 11 d) && decide (MI 11 d = MI 11 e)) = false := by rw [h1, k1, decide_eq_false (by rw [nI_eq (by omega) (by omega)]; omega), Bool.and_false]
          exact ⟨_, _, _, _, _, mrc_of (EX10_shift (kx (bF e1 (usei (s_isBare he) (bF e2 (usei (s_areAlikeRows hd he) (bF hal eRr))))))), mrc_of (EX11_shift (km (cF g1 ⟨e, rfl, he, cT (by rw [k3]; exact nI_le (Nat.zero_le _) (by omega)) ⟨d, rfl, hd, cF g2 ⟨d, rfl, hd, e, rfl, he, cF (by rw [h2, k3, nI_eq (by omega) (by omega)]; omega) eRr⟩⟩⟩))), hI⟩
        · have e2 : decide (MI 11 e = nI 6) = false := by rw [k1]; exact decide_eq_false (by rw [nI_eq (by omega) (by omega)]; omega)
          have g3 : nI 0 ≤ MI 76 e := by rw [k2]; exact nI_le (Nat.zero_le _) (by omega)
          by_cases hss : s = s'
          · subst hss
            have hal : (sortB (MI 11 d) && decide (MI 11 d = MI 11 e)) = true := by rw [h1, k1, sort_of hs]; simp
            have g4 : MI 76 d = MI 76 e := by rw [h2, k2]
            have kx2 : ∀ {Q}, _ → VX10_shift_0 299 Q (nI d) i (nI e) j m MI ML := fun q => kx (bF e1 (usei (s_isBare he) (bF e2 (usei (s_areAlikeRows hd he) (bT hal (usei (s_hasPlaces hd) q))))))
            by_cases p1 : plB (nI z) i m = true
            · by_cases p2 : plB (nI z') j m = true
              · obtain ⟨i', n, q1, rfl, rfl⟩ := plB_ix2 hz p1
                obtain ⟨j', n', q2, rfl, q3⟩ := plB_ix2 hz' p2
                have : n = n' := by rw [nI_eq (by omega) (by omega)] at q3; exact q3
                subst this
                refine ⟨(nI n), MI, mup ML 14 (va_cpy (ML 14) (ML 14) (d * 60 + i') (e * 60 + j') n), MI, mup (mup (mup ML 14 (va_cpy (ML 14) (ML 14) (d * 60 + i') (e * 60 + j') n)) 79 (fun q => if q < n then ML 78 (d * 60 + i' + q) else ML 79 q)) 78 (va_cpy (ML 78) (ML 78) (d * 60 + i') (e * 60 + j') n), mrc_of (EX10_shift (kx2 (bT (by rw [h3]; exact p1) (usei (s_hasPlaces he) (bT (by rw [k3]; exact p2) (usev (s_copy hd he h3 k3 hz hz' q1 q2) eRr)))))), mrc_of (EX11_shift (km (cF g1 ⟨e, rfl, he, cT g3 ⟨d, rfl, hd, cF g2 ⟨d, rfl, hd, e, rfl, he, cT g4 (cF (nI_nlt (Nat.zero_le _) (by omega)) (cF (nI_nlt (Nat.zero_le _) (by omega)) (cF (nI_nlt (Nat.zero_le _) (by omega)) ⟨d, rfl, hd, cF (by rw [h4, pk_sub (by omega)]; exact nI_nlt (by omega) (by omega)) ⟨e, rfl, he, cT (by rw [k4, pk_sub (by omega)]; exact nI_le (by omega) (by omega)) ?_⟩⟩)))⟩⟩⟩))), ?_⟩
                · refine t_shift hd he (by omega) (by omega) ⟨rfl, rfl, ?_⟩
                  simp (disch := omega) only [mup_n, mup_s, mput_n, mput_s, mup_mup]
                · refine ⟨hI.1, hI.2.1, hI.2.2.1, hI.2.2.2.1, ⟨nb, ⟨s1, s2, s3, s4⟩, ?_⟩, hI.2.2.2.2.2.1, hI.2.2.2.2.2.2.1, hI.2.2.2.2.2.2.2.1, (Iw_c (by first | rfl | simp (disch := omega) only [mup_n, mup_s, mput_n]) hI.2.2.2.2.2.2.2.2)⟩
                  intro c hc
                  by_cases q : c = e
                  · subst q
                    refine Or.inr (Or.inr ⟨s, z', hs, hz', k1, k2, k3, k4, fun l hl => ?_⟩)
                    simp (disch := omega) only [mup_n, mup_s, mput_n, mput_s, mup_mup]
                    by_cases w : c * 60 + j' ≤ c * 60 + l ∧ c * 60 + l < c * 60 + j' + n
                    · rw [pk_cpy_in w.1 w.2, pk_cpy_in w.1 w.2, show d * 60 + i' + (c * 60 + l - (c * 60 + j')) = d * 60 + (i' + (l - j')) by omega]
                      exact h5 (i' + (l - j')) (by omega)
                    · rw [pk_cpy_out (by omega), pk_cpy_out (by omega)]
                      exact k5 l hl
                  · refine Isd_o (e := 0) (s5 c hc) rfl rfl rfl rfl rfl (fun l hl => ?_)
                    simp (disch := omega) only [mup_n, mup_s, mput_n, mput_s, mup_mup]
                    rw [pk_cpy_out (by omega), pk_cpy_out (by omega)]
                    exact ⟨rfl, rfl⟩
              · refine ⟨(-13), MI, ML, MI, ML, mrc_of (EX10_shift (kx2 (bT (by rw [h3]; exact p1) (usei (s_hasPlaces he) (bF (by rw [k3]; exact bnf p2) eRr))))), mrc_of (EX11_shift (km (cF g1 ⟨e, rfl, he, cT g3 ⟨d, rfl, hd, cF g2 ⟨d, rfl, hd, e, rfl, he, cT g4 (br (fun _ => eRr) (fun a1 => br (fun _ => eRr) (fun a2 => br (fun _ => eRr) (fun a3 => ⟨d, rfl, hd, br (fun _ => eRr) (fun a4 => ⟨e, rfl, he, br (fun a5 => absurd ?_ p2) (fun _ => eRr)⟩)⟩))))⟩⟩⟩))), hI⟩
                rw [k4] at a5
                simp only [plB, Bool.and_eq_true, Bool.not_eq_true', decide_eq_false_iff_not]
                exact ⟨a3, a1, by rw [fa_lt]; rw [fa_le] at a5; omega⟩
            · refine ⟨(-13), MI, ML, MI, ML, mrc_of (EX10_shift (kx2 (bF (by rw [h3]; exact bnf p1) eRr))), mrc_of (EX11_shift (km (cF g1 ⟨e, rfl, he, cT g3 ⟨d, rfl, hd, cF g2 ⟨d, rfl, hd, e, rfl, he, cT g4 (br (fun _ => eRr) (fun a1 => br (fun _ => eRr) (fun a2 => br (fun _ => eRr) (fun a3 => ⟨d, rfl, hd, br (fun _ => eRr) (fun a4 => absurd ?_ p1)⟩))))⟩⟩⟩))), hI⟩
              rw [h4] at a4
              simp only [plB, Bool.and_eq_true, Bool.not_eq_true', decide_eq_false_iff_not]
              exact ⟨a2, a1, a4⟩
          · have hal : (sortB (MI 11 d) && decide (MI 11 d = MI 11 e)) = false := by rw [h1, k1, decide_eq_false (by rw [nI_eq (by omega) (by omega)]; omega), Bool.and_false]
            exact ⟨_, _, _, _, _, mrc_of (EX10_shift (kx (bF e1 (usei (s_isBare he) (bF e2 (usei (s_areAlikeRows hd he) (bF hal eRr))))))), mrc_of (EX11_shift (km (cF g1 ⟨e, rfl, he, cT g3 ⟨d, rfl, hd, cF g2 ⟨d, rfl, hd, e, rfl, he, cF (by rw [h2, k2, nI_eq (by omega) (by omega)]; omega) eRr⟩⟩⟩))), hI⟩
    · exact ⟨_, _, _, _, _, mrc_of (EX10_shift (BX10_shift_0 (usei s_shas (bT h (usei s_shas (bF (bnf h') eRr)))))), mrc_of (EX11_shift (BX11_shift_0 (usei t_isShelf (bT h (usei t_isShelf (bF (bnf h') eRr)))))), hI⟩
  · exact ⟨_, _, _, _, _, mrc_of (EX10_shift (BX10_shift_0 (usei s_shas (bF (bnf h) eRr)))), mrc_of (EX11_shift (BX11_shift_0 (usei t_isShelf (bF (bnf h) eRr)))), hI⟩
end P7
