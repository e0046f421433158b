/-! the days in thought, by the law's own days -/
abbrev lP (La : mLaw) (n : Nat) (g : Nat → Int32) (p : Nat) : Nat → Bool := fun k => decide (wgL (dyK La n g k) p = 8)
/-- a day d of them: the copies behind it, how many were fed, who still is, for how long -/
def TH (e n k : Nat) (La : mLaw) (g : Nat → Int32) (v14 v15 : Int32) (M : mI) : Prop := AR n (dyN La n g k) (M e) (M (e + 1)) (M (e + 2)) ∧ v15 = nI (fdN La n g k) ∧ (∀ p, p < n → bt v14 p = decide (fa_first (lP La n g p) k = k)) ∧ ∀ p, p < n → M (e + 3) p = nI (fa_first (lP La n g p) k)
theorem TH_c {e n k : Nat} {La : mLaw} {g : Nat → Int32} {v14 v15 : Int32} {M MI : mI} (h : TH e n k La g v14 v15 MI) (he : 51 < e) (hF : FK M MI) : TH e n k La g v14 v15 M := by
  obtain ⟨h1, h2, h3, h4⟩ := h
  have f := hF.k3
  exact ⟨by rw [f e (by omega), f (e + 1) (by omega), f (e + 2) (by omega)]; exact h1, h2, h3, by rw [f (e + 3) (by omega)]; exact h4⟩
theorem bt_clr {x : Int32} {i j : Nat} (hi : i < 32) (hj : j < 32) : bt (x &&& ((nI 1 <<< (nI j &&& 31)) ^^^ (-1))) i = (bt x i && !decide (i = j)) := by
  rw [b_and, b_xor, b_m1 i hi, bt_one hi hj]
  cases decide (i = j) <;> simp
theorem fa_first_s (p : Nat → Bool) (k : Nat) : fa_first p (k + 1) = if fa_first p k < k then fa_first p k else if p k then k else k + 1 := rfl
section L95
variable {L d n e t : Nat} {xs : Nat → Int32} {g c : Nat → Int32} {La : mLaw} {E : List mT} {MI M : mI} {ML : mJ} {Q : Option Value → mS → Prop} {v9 v14 v15 v16 : Int32}
/-- behind the days looked at: hungers, feelings -/
theorem t_look {k : Nat} (hS : SHB E) (hL : L ≤ 260) (he : 51 < e) (hH : asz (Sh0 ++ E) (e + 1) 16) (hF : asz (Sh0 ++ E) (e + 2) 64) (hk : k ≤ 40) (hI : TI n g La c MI) (hT : TH e n k La g v14 v15 MI) (K : ∀ M, TI n g La c M → TH e n k La g v14 v15 M → VL_law_242 (mrnT (mTbS L xs) 310) Q L xs 0 46 47 48 49 50 51 (nI t) (nI k) e (e + 1) (e + 2) (e + 3) v14 v15 v16 (W0 + d) (Sh0 ++ E) M ML) : VL_law_151 (mrnT (mTbS L xs) 310) Q L xs 0 46 47 48 49 50 51 (nI t) (nI k) e (e + 1) (e + 2) (e + 3) v14 v15 v16 (nI 0) (W0 + d) (Sh0 ++ E) MI ML := by
  have hX := hS.1
  have h8 := hI.1.1
  refine up (i0 := 0) (P := fun a => ∀ M, TI n g La c M → TH e n k La g v14 v15 M → VL_law_151 (mrnT (mTbS L xs) 310) Q L xs 0 46 47 48 49 50 51 (nI t) (nI k) e (e + 1) (e + 2) (e + 3) v14 v15 v16 (nI a) (W0 + d) (Sh0 ++ E) M ML) n (Nat.zero_le _) ?_ ?_ MI hI hT
  · intro M k1 k2
    exact BL_law_151 (by omega) ⟨hX.cell 0 (by omega), cT (by rw [k1.2.1.1]; exact nI_le (Nat.le_refl _) (by omega)) (K M k1 k2)⟩
  · intro a _ ha ih M k1 k2
    obtain ⟨M1, a1, a2, a3⟩ := k_later (ML := ML) (d := k) k1.1 hk ha
    have j1 := TI_A k1 a2 a3
    have j2 := TH_c k2 he a3
    refine BL_law_151 (by omega) ⟨hX.cell 0 (by omega), cF (by rw [k1.2.1.1]; exact nI_ge ha (by omega)) ⟨isO0, _, M1, ML, k_up a1 (by decide), 2 * a, hH.ok (by rw [pk_mul]) (by omega), cT (AR_h j2.1 (by omega)).symm ?_⟩⟩
    refine up (i0 := 0) (P := fun b => ∀ M, TI n g La c M → TH e n k La g v14 v15 M → VL_law_182 (mrnT (mTbS L xs) 310) Q L xs 0 46 47 48 49 50 51 (nI t) (nI k) e (e + 1) (e + 2) (e + 3) v14 v15 v16 (nI a) (nI b) (W0 + d) (Sh0 ++ E) M ML) n (Nat.zero_le _) ?_ ?_ M1 j1 j2
    · intro M k1 k2
      refine BL_law_182 (by omega) ⟨hX.cell 0 (by omega), cT (by rw [k1.2.1.1]; exact nI_le (Nat.le_refl _) (by omega)) ?_⟩
      rw [nI_add]
      exact ih M k1 k2
    · intro b _ hb ihb M k1 k2
      refine BL_law_182 (by omega) ⟨hX.cell 0 (by omega), cF (by rw [k1.2.1.1]; exact nI_ge hb (by omega)) ?_⟩
      rw [nI_add]
      by_cases q : a = b
      · exact cT (by rw [q]) (ihb M k1 k2)
      · obtain ⟨M2, b1, b2, b3⟩ := k_felt (ML := ML) (d := k) k1.1 hk ha hb q
        have j2 := TH_c k2 he b3
        refine cF (by rw [nI_eq (by omega) (by omega)]; exact q) ⟨isO0, dyN La n g k (20 + a * 8 + b) + nI 100, M2, ML, ?_, 8 * a + b, hF.ok (by rw [pk_mul, nI_add]) (by omega), cT ?_ (ihb M2 (TI_A k1 b2 b3) j2)⟩
        · rw [pk_mul, nI_add]
          exact k_up b1 (by decide)
        · rw [AR_e j2.1 (by omega) (by omega)]
/-- one day in thought by the law -/
theorem t_step {k : Nat} (hS : SHB E) (hL : L ≤ 260) (he : 51 < e) (hX2 : asz (Sh0 ++ E) e 5) (hH : asz (Sh0 ++ E) (e + 1) 16) (hF : asz (Sh0 ++ E) (e + 2) 64) (hl : asz (Sh0 ++ E) (e + 3) 8) (hI : TI n g La c MI) (hT : TH e n k La g v14 v15 MI) (hk : k < 40) (K : ∀ (M : mI) (u14 u15 : Int32), TI n g La c M → TH e n (k + 1) La g u14 u15 M → VL_law_120 (mrnT (mTbS L xs) 310) Q L xs 0 46 47 48 49 50 51 (nI t) v9 e (e + 1) (e + 2) (e + 3) u14 u15 (nI (k + 1)) (W0 + d) (Sh0 ++ E) M ML) : VL_law_242 (mrnT (mTbS L xs) 310) Q L xs 0 46 47 48 49 50 51 (nI t) v9 e (e + 1) (e + 2) (e + 3) v14 v15 (nI k) (W0 + d) (Sh0 ++ E) MI ML := by
  obtain ⟨hX, -, -, hB, -, hW⟩ := hS
  have h8 := hI.1.1
  have hg := dyN_PB (La := La) h8 hI.1.2.2.2.1 k
  obtain ⟨t1, rfl, t3, t4⟩ := hT
  obtain ⟨M1, a1, a2, a3, a4⟩ := l_day (D := 307) (w := W0 + d) (ML := ML) (Or.inr he) hX2 hH hF hB hW hI.2.2.1 h8 hg t1
  have j1 : TI n g La c M1 := TI_c hI (fun q hq => a4 q (by omega) (by omega) (by omega) (by omega))
  refine BL_law_242 (by omega) ⟨_, M1, ML, mrn_S a1, ?_⟩
  rw [nI_add]
  refine up (i0 := 0) (P := fun p => ∀ (M : mI) (u : Int32), (∀ q, q ≠ e + 3 → M q = M1 q) → (∀ q, q < n → bt u q = if q < p then decide (fa_first (lP La n g q) (k + 1) = k + 1) else decide (fa_first (lP La n g q) k = k)) → (∀ q, q < n → M (e + 3) q = nI (if q < p then fa_first (lP La n g q) (k + 1) else fa_first (lP La n g q) k)) → VL_law_263 (mrnT (mTbS L xs) 310) Q L xs 0 46 47 48 49 50 51 (nI t) v9 e (e + 1) (e + 2) (e + 3) u (nI (fdN La n g k + (dyL La n (dyN La n g k)).length)) (nI k) (nI p) (W0 + d) (Sh0 ++ E) M ML) n (Nat.zero_le _) ?_ ?_ M1 v14 (fun _ _ => rfl) (fun q hq => by rw [if_neg (by omega)]; exact t3 q hq) (fun q hq => by rw [if_neg (by omega), a4 (e + 3) (by omega) (by omega) (by omega) (by omega)]; exact t4 q hq)
  · intro M u f1 f2 f3
    have j2 : TI n g La c M := TI_c j1 (fun q hq => f1 q (by omega))
    refine BL_law_263 (by omega) ⟨hX.cell 0 (by omega), cT (by rw [j2.2.1.1]; exact nI_le (Nat.le_refl _) (by omega)) ?_⟩
    rw [nI_add]
    refine K M u _ j2 ⟨?_, rfl, fun q hq => ?_, fun q hq => ?_⟩
    · rw [f1 e (by omega), f1 (e + 1) (by omega), f1 (e + 2) (by omega)]
      exact a2
    · rw [f2 q hq, if_pos hq]
    · rw [f3 q hq, if_pos hq]
  · intro p _ hp ih M u f1 f2 f3
    have j2 : TI n g La c M := TI_c j1 (fun q hq => f1 q (by omega))
    have hle := wgL_le h8 (dyL_ok (La := La) h8 hg).1 p
    have hs := fa_first_s (lP La n g p) k
    have hfl := fa_first_le (lP La n g p) k
    have hpk : lP La n g p k = decide (wgL (dyL La n (dyN La n g k)) p = 8) := rfl
    refine BL_law_263 (by omega) ⟨hX.cell 0 (by omega), cF (by rw [j2.2.1.1]; exact nI_ge hp (by omega)) ⟨p, hW.cell p (by omega), ?_⟩⟩
    rw [f1 51 (by omega), a3 p (by omega)]
    have fin : ∀ u' : Int32, (∀ q, q < n → bt u' q = if q < p + 1 then decide (fa_first (lP La n g q) (k + 1) = k + 1) else decide (fa_first (lP La n g q) k = k)) → VL_law_292 (mrnT (mTbS L xs) 310) Q L xs 0 46 47 48 49 50 51 (nI t) v9 e (e + 1) (e + 2) (e + 3) u' (nI (fdN La n g k + (dyL La n (dyN La n g k)).length)) (nI k) (nI p) (W0 + d) (Sh0 ++ E) M ML := fun u' hu => by
      refine BL_law_292 (by omega) ⟨p, hl.cell p (by omega), p, hl.cell p (by omega), ?_⟩
      rw [nI_add]
      refine ih _ u' (fun q hq => by rw [mup_n hq]; exact f1 q hq) hu (fun q hq => ?_)
      rw [mup_s]
      by_cases z : q = p
      · subst z
        rw [mput_s, f3 q hq, if_neg (Nat.lt_irrefl _), if_pos (Nat.lt_succ_self _), tst u' (by omega), hu q hq, if_pos (Nat.lt_succ_self _), nI_add]
        congr 1
        rw [hs]
        by_cases y1 : fa_first (lP La n g q) k < k
        · rw [if_pos y1]
          rw [if_neg (by rw [decide_eq_true_eq]; omega)]
          omega
        · rw [if_neg y1]
          by_cases y2 : lP La n g q k = true
          · rw [if_pos y2, if_neg (by rw [decide_eq_true_eq]; omega)]
            omega
          · rw [if_neg y2, if_pos (by rw [decide_eq_true_eq])]
            omega
      · rw [mput_n z, f3 q hq]
        congr 1
        by_cases y : q < p
        · rw [if_pos y, if_pos (by omega)]
        · rw [if_neg y, if_neg (by omega)]
    by_cases y : wgL (dyL La n (dyN La n g k)) p = 8
    · refine cT (by rw [y]) (fin _ (fun q hq => ?_))
      rw [bt_clr (by omega) (by omega), f2 q hq]
      by_cases z : q = p
      · subst z
        rw [if_pos (Nat.lt_succ_self _), decide_eq_true rfl, Bool.not_true, Bool.and_false, hs, hpk, decide_eq_true y]
        by_cases y1 : fa_first (lP La n g q) k < k
        · rw [if_pos y1, decide_eq_false (by omega)]
        · rw [if_neg y1, if_pos rfl, decide_eq_false (by omega)]
      · rw [decide_eq_false z, Bool.not_false, Bool.and_true]
        by_cases y : q < p
        · rw [if_pos y, if_pos (by omega)]
        · rw [if_neg y, if_neg (by omega)]
    · refine cF (by rw [nI_eq (by omega) (by omega)]; exact y) (fin _ (fun q hq => ?_))
      rw [f2 q hq]
      by_cases z : q = p
      · subst z
        rw [if_neg (Nat.lt_irrefl _), if_pos (Nat.lt_succ_self _), hs, hpk, decide_eq_false y]
        by_cases y1 : fa_first (lP La n g q) k < k
        · rw [if_pos y1, decide_eq_false (by omega), decide_eq_false (by omega)]
        · rw [if_neg y1, if_neg (by decide), decide_eq_true (by omega), decide_eq_true rfl]
      · by_cases y : q < p
        · rw [if_pos y, if_pos (by omega)]
        · rw [if_neg y, if_neg (by omega)]
/-- forty days in thought, and how long each one is fed -/
theorem t_all {m : Nat} (hS : SHB E) (hL : L ≤ 260) (he : 51 < e) (hX2 : asz (Sh0 ++ E) e 5) (hH : asz (Sh0 ++ E) (e + 1) 16) (hF : asz (Sh0 ++ E) (e + 2) 64) (hl : asz (Sh0 ++ E) (e + 3) 8) (hI : TI n g La c MI) (hA : AR n g (MI e) (MI (e + 1)) (MI (e + 2))) (hz : ∀ p, p < 8 → MI (e + 3) p = nI 0) (hm : m ≤ 40) (K : ∀ M : mI, TI n g La c M → VL_law_399 (mrnT (mTbS L xs) 310) Q L xs 0 46 47 48 49 50 51 (nI t) (W0 + d) (Sh0 ++ E) M ML) : VL_law_120 (mrnT (mTbS L xs) 310) Q L xs 0 46 47 48 49 50 51 (nI t) (nI m) e (e + 1) (e + 2) (e + 3) (nI 255) (nI 0) (nI 0) (W0 + d) (Sh0 ++ E) MI ML := by
  have hX := hS.1
  have h8 := hI.1.1
  refine up (i0 := 0) (P := fun k => ∀ (M : mI) (u14 u15 : Int32), TI n g La c M → TH e n k La g u14 u15 M → VL_law_120 (mrnT (mTbS L xs) 310) Q L xs 0 46 47 48 49 50 51 (nI t) (nI m) e (e + 1) (e + 2) (e + 3) u14 u15 (nI k) (W0 + d) (Sh0 ++ E) M ML) 40 (by decide) ?_ ?_ MI (nI 255) (nI 0) hI ⟨hA, rfl, fun p hp => ?_, fun p hp => hz p (by omega)⟩
  · intro M u14 u15 k1 k2
    obtain ⟨t1, rfl, t3, t4⟩ := k2
    obtain ⟨M1, a1, a2, a3⟩ := k_laterA (ML := ML) (d := 40) k1.1 (Nat.le_refl _)
    have j1 := TI_A k1 a2 a3
    have hl4 : ∀ p, p < n → M1 (e + 3) p = nI (lst La n g p) := fun p hp => by
      rw [a3.k3 (e + 3) (by omega)]
      exact t4 p hp
    refine BL_law_120 (by omega) (cT (by decide) (BL_law_319 (by omega) ⟨isO0, _, M1, ML, k_up a1 (by decide), cT rfl ⟨isO0, -1, M1, ML, k_up (k_laterR1 (by decide)) (by decide), cT rfl ⟨hX.cell 0 (by omega), isO0, -1, M1, ML, ?_, cT rfl ⟨isO0, -1, M1, ML, k_up (k_laterR1 (by decide)) (by decide), cT rfl (BL_law_366 (by omega) ?_)⟩⟩⟩⟩))
    · rw [j1.2.1.1]
      exact k_up (k_laterR2 (d := 0) a2 (by omega) (Nat.le_refl _) (by omega)) (by decide)
    · refine up (i0 := 0) (P := fun p => ∀ M : mI, TI n g La c M → (∀ p, p < n → M (e + 3) p = nI (lst La n g p)) → VL_law_369 (mrnT (mTbS L xs) 310) Q L xs 0 46 47 48 49 50 51 (nI t) (e + 3) (nI p) (W0 + d) (Sh0 ++ E) M ML) n (Nat.zero_le _) ?_ ?_ M1 j1 hl4
      · intro M k1 k2
        exact BL_law_369 (by omega) ⟨hX.cell 0 (by omega), cT (by rw [k1.2.1.1]; exact nI_le (Nat.le_refl _) (by omega)) (K M k1)⟩
      · intro p _ hp ih M k1 k2
        obtain ⟨M2, b1, b2, b3⟩ := k_lasts (ML := ML) k1.1 hp
        have f3 := b3.k3 (e + 3) (by omega)
        refine BL_law_369 (by omega) ⟨hX.cell 0 (by omega), cF (by rw [k1.2.1.1]; exact nI_ge hp (by omega)) ⟨isO0, _, M2, ML, k_up b1 (by decide), p, hl.cell p (by omega), cT (by rw [f3]; exact (k2 p hp).symm) ?_⟩⟩
        rw [nI_add]
        exact ih M2 (TI_A k1 b2 b3) (fun p hp => by rw [f3]; exact k2 p hp)
  · intro k _ hk ih M u14 u15 k1 k2
    have go : ∀ M, TI n g La c M → TH e n k La g u14 u15 M → VL_law_242 (mrnT (mTbS L xs) 310) Q L xs 0 46 47 48 49 50 51 (nI t) (nI m) e (e + 1) (e + 2) (e + 3) u14 u15 (nI k) (W0 + d) (Sh0 ++ E) M ML := fun M j1 j2 => t_step hS hL he hX2 hH hF hl j1 j2 hk ih
    refine BL_law_120 (by omega) (cF (nI_ge hk (by omega)) ?_)
    by_cases q : k = m
    · subst q
      obtain ⟨M1, a1, a2, a3⟩ := k_laterA (ML := ML) (d := k) k1.1 hm
      exact cT rfl ⟨isO0, _, M1, ML, k_up a1 (by decide), cT k2.2.1.symm (t_look hS hL he hH hF hm (TI_A k1 a2 a3) (TH_c k2 he a3) go)⟩
    · exact cF (by rw [nI_eq (by omega) (by omega)]; exact q) (go M k1 k2)
  · have : ∀ x : Fin 8, bt (nI 255) x.val = true := by decide
    rw [this ⟨p, by omega⟩]
    rfl
end L95
