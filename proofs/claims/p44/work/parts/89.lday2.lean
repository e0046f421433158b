/-! the law's own day, from turn to turn -/
theorem bst_v (La : mLaw) (f : Nat → Int32) (b fr : Nat) (L : List dR) : ∀ i, i ≤ 8 → ((bst La f b fr L i).1 = 8 ∧ (bst La f b fr L i).2 = -1) ∨ ((bst La f b fr L i).1 < i ∧ (bst La f b fr L i).2 = lwO (wds f b fr (bst La f b fr L i).1 L.length) La)
  | 0, _ => Or.inl ⟨rfl, rfl⟩
  | i + 1, hi => by
    have ih := bst_v La f b fr L i (by omega)
    have ih2 : ((bst La f b fr L i).1 = 8 ∧ (bst La f b fr L i).2 = -1) ∨ ((bst La f b fr L i).1 < i + 1 ∧ (bst La f b fr L i).2 = lwO (wds f b fr (bst La f b fr L i).1 L.length) La) := ih.imp id (fun h => ⟨by omega, h.2⟩)
    unfold bst
    by_cases h1 : f (20 + i * 8 + b) < nI 0 ∧ wbL L i = false
    · rw [if_pos h1]
      by_cases h2 : lwO (wds f b fr i L.length) La ≤ (bst La f b fr L i).2
      · rw [if_pos h2]; exact ih2
      · rw [if_neg h2]; exact Or.inr ⟨Nat.lt_succ_self _, rfl⟩
    · rw [if_neg h1]; exact ih2
theorem lwO_b (w : Nat → Int32) (La : mLaw) : 0 ≤ (lwO w La).toInt ∧ (lwO w La).toInt ≤ 50 := clp_b _
/-- the turns: what stands when k have had theirs -/
def DI (e n k : Nat) (La : mLaw) (g : Nat → Int32) (v5 v6 v7 : Int32) (MI M : mI) : Prop := AR n (trn La n g k).1 (M e) (M (e + 1)) (M (e + 2)) ∧ v5 = nI (trn La n g k).2.1.length ∧ (∀ i, i < 8 → bt v6 i = wbL (trn La n g k).2.1 i) ∧ (∀ i, i < 8 → bt v7 i = (trn La n g k).2.2 i) ∧ (∀ p, p < 8 → M 51 p = nI (wgL (trn La n g k).2.1 p)) ∧ ∀ q, q ≠ e → q ≠ e + 1 → q ≠ e + 2 → q ≠ 51 → M q = MI q
theorem trn_s (La : mLaw) (n : Nat) (g : Nat → Int32) (k b : Nat) (hb : (hgr (trn La n g k).1 (trn La n g k).2.2 n).1 = b) : trn La n g (k + 1) = ((srv La n (trn La n g k).1 (trn La n g k).2.1 b).1, (srv La n (trn La n g k).1 (trn La n g k).2.1 b).2, fun i => (trn La n g k).2.2 i || decide (i = b)) := by
  subst hb
  rfl
section L89
variable {D n w e k : Nat} {g : Nat → Int32} {La : mLaw} {Sh : List mT} {MI M : mI} {ML : mJ} {v5 v6 v7 : Int32} {Q : Option Value → mS → Prop}
theorem AR_e {X H F : Nat → Int32} (hA : AR n g X H F) {i b : Nat} (hi : i < 8) (hb : b < 8) : F (8 * i + b) = g (20 + i * 8 + b) := by
  rw [hA.2.2.2.2.2.2 _ (by omega)]
  congr 1
  omega
theorem AR_h {X H F : Nat → Int32} (hA : AR n g X H F) {b : Nat} (hb : b < 8) : H (2 * b) = g b := (hA.2.2.2.2.2.1 b hb).1
theorem AR_hf {X H F : Nat → Int32} (hA : AR n g X H F) {b i : Nat} (hb : b < 8) (hi : i < 8) {u v : Int32} : AR n (mput (mput g (20 + i * 8 + b) u) b v) X (mput H (2 * b) v) (mput F (8 * i + b) u) := by
  obtain ⟨x0, x1, x2, x3, x4, hh, hf⟩ := hA
  refine ⟨x0, ?_, ?_, ?_, ?_, fun p hp => ⟨?_, ?_⟩, fun q hq => ?_⟩
  · rw [mput_n (by omega), mput_n (by omega)]; exact x1
  · rw [mput_n (by omega), mput_n (by omega)]; exact x2
  · rw [mput_n (by omega), mput_n (by omega)]; exact x3
  · rw [mput_n (by omega), mput_n (by omega)]; exact x4
  · by_cases c : p = b
    · subst c; rw [mput_s, mput_s]
    · rw [mput_n (by omega), mput_n c, mput_n (by omega)]; exact (hh p hp).1
  · rw [mput_n (by omega), mput_n (by omega), mput_n (by omega)]; exact (hh p hp).2
  · by_cases c : q = 8 * i + b
    · subst c; rw [mput_s, mput_n (by omega), show 20 + (8 * i + b) = 20 + i * 8 + b by omega, mput_s]
    · rw [mput_n c, mput_n (by omega), mput_n (by omega)]; exact hf q hq
theorem l_turn (hx : e = 46 ∨ 51 < e) (hX : asz Sh e 5) (hH : asz Sh (e + 1) 16) (hF : asz Sh (e + 2) 64) (hB : asz Sh 49 3) (hW : asz Sh 51 8) (hL : LB La (MI 49)) (h8 : n ≤ 8) (hg : PB g) (hk : k < n) (hD : DI e n k La g v5 v6 v7 MI M) (K : ∀ (M' : mI) (u5 u6 u7 : Int32), DI e n (k + 1) La g u5 u6 u7 MI M' → VL_day_35 (mrnT mTb (D + 2)) Q e (e + 1) (e + 2) 49 51 u5 u6 u7 (nI (k + 1)) w Sh M' ML) : VL_day_35 (mrnT mTb (D + 2)) Q e (e + 1) (e + 2) 49 51 v5 v6 v7 (nI k) w Sh M ML := by
  obtain ⟨hb1, hb2⟩ := trn_b (La := La) h8 hg hk
  obtain ⟨t1, t2, t3, t4, t5, t6⟩ := trn_ok (La := La) h8 hg k (by omega)
  unfold DI at K
  generalize hbb : (hgr (trn La n g k).1 (trn La n g k).2.2 n).1 = b at hb1 hb2
  rw [trn_s La n g k b hbb] at K
  unfold DI at hD
  generalize htr : trn La n g k = R at *
  obtain ⟨f, L, T⟩ := R
  dsimp only at *
  obtain ⟨hA, rfl, hw6, hT7, hwho, hfr⟩ := hD
  have x0 : M e 0 = nI n := hA.1
  have hL' : LB La (M 49) := by rw [hfr 49 (by omega) (by omega) (by omega) (by decide)]; exact hL
  have hu7 : ∀ i, i < 8 → bt (v7 ||| (nI 1 <<< (nI b &&& 31))) i = (T i || decide (i = b)) := fun i hi => by rw [b_set _ (by omega) (by omega), hT7 i hi]
  refine BL_day_35 ⟨hX.cell 0 (by omega), cF (by rw [x0]; exact nI_ge hk (by omega)) ?_⟩
  refine up (i0 := 0) (P := fun i => VL_day_49 (mrnT mTb (D + 2)) Q e (e + 1) (e + 2) 49 51 (nI L.length) v6 v7 (nI k) (fI (hgr f T i).1) (nI i) w Sh M ML) n (Nat.zero_le _) ?_ ?_
  rotate_left
  · intro i _ hi ih
    refine BL_day_49 ⟨hX.cell 0 (by omega), cF (by rw [x0]; exact nI_ge hi (by omega)) ?_⟩
    have hs : hgr f T (i + 1) = if T i = false then (if f i ≤ (hgr f T i).2 then hgr f T i else (i, f i)) else hgr f T i := rfl
    have hok := hgr_ok (T := T) (fun i hi => ((okv_hu hi).mp (t1.ok (p := i) (by omega))).1) i (by omega)
    have fi := (okv_hu (i := i) (by omega)).mp (t1.ok (p := i) (by omega))
    rw [hs] at ih
    rw [nI_add]
    generalize hgr f T i = R at ih hok ⊢
    obtain ⟨c, v⟩ := R
    dsimp only at ih hok ⊢
    by_cases hTi : T i = false
    · rw [if_pos hTi] at ih
      refine cT ((tst0 v7 (by omega)).mpr ((hT7 i (by omega)).trans hTi)) ?_
      rcases hok with ⟨q1, q2, q3⟩ | ⟨q1, q2, q3⟩
      · subst q1
        subst q2
        rw [if_neg (by rw [fa_le, show (-1 : Int32).toInt = -1 by decide]; omega), show fI (i, f i).1 = nI i from fI_yes (by omega)] at ih
        exact cT (by decide) ih
      · have c8 : ¬ c = 8 := by omega
        rw [fI_yes c8]
        refine cF (nI_nlt (Nat.zero_le _) (by omega)) ⟨2 * i, hH.ok (by rw [pk_mul]) (by omega), 2 * c, hH.ok (by rw [pk_mul]) (by omega), ?_⟩
        rw [AR_h hA (by omega), AR_h hA (by omega), ← q3]
        by_cases c2 : f i ≤ v
        · rw [if_pos c2, show fI (c, v).1 = nI c from fI_yes c8] at ih
          exact cT c2 ih
        · rw [if_neg c2, show fI (i, f i).1 = nI i from fI_yes (by omega)] at ih
          exact cF c2 ih
    · rw [if_neg hTi] at ih
      exact cF (fun q => hTi ((hT7 i (by omega)).symm.trans ((tst0 v7 (by omega)).mp q))) ih
  · rw [hbb, fI_yes (by omega)]
    refine BL_day_49 ⟨hX.cell 0 (by omega), cT (by rw [x0]; exact nI_le (Nat.le_refl _) (by omega)) ⟨_, _, _, l_friend (D := D + 1) hX hF hA h8 (by omega), ?_⟩⟩
    have skip : srv La n f L b = (f, L) → VL_day_35 (mrnT mTb (D + 2)) Q e (e + 1) (e + 2) 49 51 (nI L.length) v6 (v7 ||| (nI 1 <<< (nI b &&& 31))) (nI k + nI 1) w Sh M ML := fun hsv => by
      rw [nI_add]
      refine K M _ _ _ ?_
      rw [hsv]
      exact ⟨hA, rfl, hw6, hu7, hwho, hfr⟩
    by_cases h1 : (frd f b 8 n).1 = 8
    · refine cF (by rw [h1]; decide) (skip ?_)
      unfold srv
      rw [if_pos h1]
    rw [fI_yes h1]
    refine cT (nI_le (Nat.zero_le _) (by have := (frd_ok f b 8 n).resolve_left (fun q => h1 q.1); omega)) ?_
    have ho : ∀ i, i < 8 → mrnT mTb (D + 2) 281 [.ref e, .ref (e + 1), .ref (e + 2), .ref 49, .int (nI i), .int (nI b), .int (nI L.length)] (w, Sh, M, ML) (some (.int (lwO (wds f b (frd f b 8 n).1 i L.length) La))) (w, Sh, M, ML) := fun i hi => l_out hX hH hF hB hA hL' h8 hi (by omega) h1
    refine up (i0 := 0) (P := fun i => VL_day_125 (mrnT mTb (D + 2)) Q e (e + 1) (e + 2) 49 51 (nI L.length) v6 (v7 ||| (nI 1 <<< (nI b &&& 31))) (nI k) (nI b) (fI (bst La f b (frd f b 8 n).1 L i).1) (nI i) w Sh M ML) n (Nat.zero_le _) ?_ ?_
    rotate_left
    · intro i _ hi ih
      refine BL_day_125 ⟨hX.cell 0 (by omega), cF (by rw [x0]; exact nI_ge hi (by omega)) ⟨8 * i + b, hF.ok (by rw [pk_mul, nI_add]) (by omega), ?_⟩⟩
      rw [AR_e hA (by omega) (by omega), nI_add]
      have hs : bst La f b (frd f b 8 n).1 L (i + 1) = if f (20 + i * 8 + b) < nI 0 ∧ wbL L i = false then (if lwO (wds f b (frd f b 8 n).1 i L.length) La ≤ (bst La f b (frd f b 8 n).1 L i).2 then bst La f b (frd f b 8 n).1 L i else (i, lwO (wds f b (frd f b 8 n).1 i L.length) La)) else bst La f b (frd f b 8 n).1 L i := rfl
      have hbv := bst_v La f b (frd f b 8 n).1 L i (by omega)
      have hob := lwO_b (wds f b (frd f b 8 n).1 i L.length) La
      rw [hs] at ih
      generalize bst La f b (frd f b 8 n).1 L i = R at ih hbv ⊢
      obtain ⟨c, v⟩ := R
      dsimp only at ih hbv ⊢
      by_cases c1 : nI 0 ≤ f (20 + i * 8 + b)
      · rw [if_neg (fun q => (fa_of_lt q.1).2.1 c1)] at ih
        exact cT c1 ih
      refine cF c1 ?_
      by_cases c2 : wbL L i = false
      · rw [if_pos ⟨fa_of_nle c1, c2⟩] at ih
        refine cT ((tst0 v6 (by omega)).mpr ((hw6 i (by omega)).trans c2)) ?_
        rcases hbv with ⟨q1, q2⟩ | ⟨q1, q2⟩
        · subst q1
          subst q2
          rw [if_neg (by rw [fa_le, show (-1 : Int32).toInt = -1 by decide]; omega), show fI (i, lwO (wds f b (frd f b 8 n).1 i L.length) La).1 = nI i from fI_yes (by omega)] at ih
          exact cT (by decide) ih
        · have c8 : ¬ c = 8 := by omega
          rw [fI_yes c8]
          refine cF (nI_nlt (Nat.zero_le _) (by omega)) ⟨_, _, _, ho i (by omega), _, _, _, ho c (by omega), ?_⟩
          rw [← q2]
          by_cases c3 : lwO (wds f b (frd f b 8 n).1 i L.length) La ≤ v
          · rw [if_pos c3, show fI (c, v).1 = nI c from fI_yes c8] at ih
            exact cT c3 ih
          · rw [if_neg c3, show fI (i, lwO (wds f b (frd f b 8 n).1 i L.length) La).1 = nI i from fI_yes (by omega)] at ih
            exact cF c3 ih
      · rw [if_neg (fun q => c2 q.2)] at ih
        exact cF (fun q => c2 ((hw6 i (by omega)).symm.trans ((tst0 v6 (by omega)).mp q))) ih
    · refine BL_day_125 ⟨hX.cell 0 (by omega), cT (by rw [x0]; exact nI_le (Nat.le_refl _) (by omega)) ?_⟩
      have hbk := bst_ok La f b (frd f b 8 n).1 L n
      have hbv := bst_v La f b (frd f b 8 n).1 L n h8
      by_cases h2 : (bst La f b (frd f b 8 n).1 L n).1 = 8
      · refine BL_day_200 (cF (by rw [h2]; decide) (skip ?_))
        unfold srv
        rw [if_neg h1, if_pos h2]
      have hsv : srv La n f L b = (mput (mput f (20 + (bst La f b (frd f b 8 n).1 L n).1 * 8 + b) (mn (f (20 + (bst La f b (frd f b 8 n).1 L n).1 * 8 + b) + f 16) (nI 9))) b (mx (f b - (bst La f b (frd f b 8 n).1 L n).2) (nI 0)), L ++ [(b, (bst La f b (frd f b 8 n).1 L n).1, (frd f b 8 n).1, (bst La f b (frd f b 8 n).1 L n).2)]) := by
        unfold srv
        rw [if_neg h1, if_neg h2]
      rw [hsv] at K
      replace hbk := hbk.resolve_left (fun q => h2 q.1)
      replace hbv := hbv.resolve_left (fun q => h2 q.1)
      generalize bst La f b (frd f b 8 n).1 L n = R at K hbk hbv h2 ⊢
      obtain ⟨c, v⟩ := R
      dsimp only at K hbk hbv h2 ⊢
      obtain ⟨c1, c2, c3, c4, c5⟩ := hbk
      have fb := (okv_hu (i := b) (by omega)).mp (t1.ok (p := b) (by omega))
      have hne : c ≠ b := by
        rintro rfl
        rw [t1.dg (by omega)] at c3
        exact absurd c3 (by decide)
      have ff := (okv_ft (by omega) (by omega) hne).mp (t1.ok (p := 20 + c * 8 + b) (by omega))
      have f16 := okv_16.mp (t1.ok (p := 16) (by omega))
      have hv := hbv.2
      have hmx := mx_sub (x := f b) (o := v) fb.1 fb.2 c4 c5
      have hmn : mn (f (20 + c * 8 + b) + f 16) (nI 9) = f (20 + c * 8 + b) + f 16 := by
        rw [fa_eq, mn_ti, ti_add (by omega) (by omega) (by omega) (by omega), nI_toInt (by omega)]
        rw [fa_lt, nI_toInt (by omega)] at c3
        omega
      rw [fI_yes h2]
      have h252 : VL_day_252 (mrnT mTb (D + 2)) Q e (e + 1) (e + 2) 49 51 (nI L.length) v6 (v7 ||| (nI 1 <<< (nI b &&& 31))) (nI k) (nI b) (nI c) (e + 1) (nI 2 * nI b) (mx (f b - v) (nI 0)) w Sh M ML := by
        refine BL_day_252 ⟨2 * b, hH.ok (by rw [pk_mul]) (by omega), 8 * c + b, hF.ok (by rw [pk_mul, nI_add]) (by omega), hX.cell 1 (by omega), 8 * c + b, hF.ok (by rw [pk_mul, nI_add]) (by omega), b, hW.cell b (by omega), ?_⟩
        rw [nI_add, nI_add]
        refine K _ _ _ _ ⟨?_, ?_, ?_, hu7, ?_, ?_⟩
        · simp (disch := omega) only [mup_n, mup_s]
          rw [AR_e hA (by omega) (by omega), hA.2.1, hmn]
          exact AR_hf (b := b) (i := c) hA (by omega) (by omega)
        · rw [List.length_append]
          rfl
        · intro i hi
          rw [b_set _ (by omega) (by omega), hw6 i hi, wbL_app, decide_eq_decide.mpr (eq_comm : i = c ↔ c = i)]
        · intro p hp
          rw [mup_s, wgL_app (t5 b hb2)]
          by_cases q : b = p
          · subst q
            rw [if_pos rfl, mput_s]
          · rw [if_neg q, mput_n (fun z => q z.symm)]
            simp (disch := omega) only [mup_n]
            exact hwho p hp
        · intro q a1 a2 a3 a4
          rw [mup_n a4, mup_n a3, mup_n a2]
          exact hfr q a1 a2 a3 a4
      refine BL_day_200 (cT (nI_le (Nat.zero_le _) (by omega)) ⟨_, _, _, ho c (by omega), 2 * b, hH.ok (by rw [pk_mul]) (by omega), ?_⟩)
      rw [AR_h hA (by omega), ← hv]
      by_cases q : f b ≤ v
      · rw [hmx, if_pos q] at h252
        exact cT q h252
      · rw [hmx, if_neg q] at h252
        refine cF q ⟨2 * b, hH.ok (by rw [pk_mul]) (by omega), ?_⟩
        rw [AR_h hA (by omega)]
        exact h252
end L89
