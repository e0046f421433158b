/-! the law's bazaar, whole -/
theorem TP_c {l : List Nat} {M MI : mI} (h : TP l MI) (h3 : M 3 = MI 3) (h5 : M 5 = MI 5) : TP l M := by
  obtain ⟨k1, k2, k3⟩ := h
  exact ⟨k1, by rw [h3]; exact k2, by rw [h5]; exact k3⟩
section L93
variable {L d n m : Nat} {xs : Nat → Int32} {g c : Nat → Int32} {La : mLaw} {E : List mT} {MI M : mI} {ML : mJ} {Q : Option Value → mS → Prop}
theorem z_rem {a d : Nat} (ha : a < 2147483648) (h0 : 0 < d) (hd : d < 2147483648) : nI a - nI a / nI d * nI d = nI (a % d) := pk_rem ha h0 hd
/-- the cells of x -/
theorem b_x (hX : asz (Sh0 ++ E) 46 5) (hL : L ≤ 260) {v : Int32} (x0 : M 46 0 = nI m) (K : ∀ (M' : mI) (s f r y : Nat), s < 4 → f < 10 → r < 21 → y < 100 → M' 46 0 = nI m → M' 46 1 = nI s → M' 46 2 = nI f → M' 46 3 = nI r → M' 46 4 = nI y → (∀ q, q ≠ 46 → M' q = M q) → VL_bazaar_81 (mrnT (mTbS L xs) 302) Q L xs 0 46 47 48 49 (W0 + d) (Sh0 ++ E) M' ML) : VL_bazaar_25 (mrnT (mTbS L xs) 302) Q L xs 0 46 47 48 49 v (W0 + d) (Sh0 ++ E) M ML := by
  obtain ⟨s, hs, es⟩ := u_and3 v
  obtain ⟨f, hf, ef⟩ := u_r (s := 7) (d := 10) (by omega) (by omega) (by omega) (by omega) v
  obtain ⟨r, hr, er⟩ := u_r (s := 11) (d := 21) (by omega) (by omega) (by omega) (by omega) v
  obtain ⟨y, hy, ey⟩ := u_r (s := 17) (d := 100) (by omega) (by omega) (by omega) (by omega) v
  refine BL_bazaar_25 (by omega) ⟨hX.cell 1 (by omega), BL_bazaar_34 (by omega) ⟨hX.cell 2 (by omega), BL_bazaar_45 (by omega) ⟨hX.cell 3 (by omega), ?_⟩⟩⟩
  rw [es, ef, er]
  have fin : ∀ y, y < 100 → VL_bazaar_80 (mrnT (mTbS L xs) 302) Q L xs 0 46 47 48 49 46 (nI 4) (nI y) (W0 + d) (Sh0 ++ E) (mup (mup (mup M 46 (mput (M 46) 1 (nI s))) 46 (mput ((mup M 46 (mput (M 46) 1 (nI s))) 46) 2 (nI f))) 46 (mput ((mup (mup M 46 (mput (M 46) 1 (nI s))) 46 (mput ((mup M 46 (mput (M 46) 1 (nI s))) 46) 2 (nI f))) 46) 3 (nI r))) ML := fun y hy => by
    refine BL_bazaar_80 (by omega) ⟨4, hX.cell 4 (by omega), K _ s f r y hs hf hr hy ?_ ?_ ?_ ?_ ?_ (fun q hq => ?_)⟩
    · simp (disch := omega) only [mup_n, mup_s, mput_n, mput_s, mup_mup]
      exact x0
    · simp (disch := omega) only [mup_n, mup_s, mput_n, mput_s, mup_mup]
    · simp (disch := omega) only [mup_n, mup_s, mput_n, mput_s, mup_mup]
    · simp (disch := omega) only [mup_n, mup_s, mput_n, mput_s, mup_mup]
    · simp (disch := omega) only [mup_n, mup_s, mput_n, mput_s, mup_mup]
    · rw [mup_n hq, mup_n hq, mup_n hq, mup_n hq]
  refine BL_bazaar_56 (by omega) (br (fun _ => fin 0 (by omega)) (fun _ => ?_))
  rw [ey]
  exact fin y hy
theorem b_mend (hX : asz (Sh0 ++ E) 46 5) (hL : L ≤ 260) (hm : m ≤ 8) {s f r y : Nat} (hs : s < 4) (hf : f < 10) (hr : r < 21) (hy : y < 100) (x0 : M 46 0 = nI m) (x1 : M 46 1 = nI s) (x2 : M 46 2 = nI f) (x3 : M 46 3 = nI r) (x4 : M 46 4 = nI y) (hH : ∀ q, M 47 q = nI 0) (hF : ∀ q, M 48 q = nI 0) (hK : KI 0 g La c M) (hT : TP [] M) (g16 : g 16 = nI 1) (g17 : g 17 = nI 0) (g18 : g 18 = nI 6) (g19 : g 19 = nI 0) (gz : ∀ q, q < 16 ∨ 19 < q → g q = nI 0) (K : ∀ (M' : mI) (g' : Nat → Int32), KI 0 g' La c M' → TP [] M' → AR m g' (M' 46) (M' 47) (M' 48) → (∀ q, q < 16 ∨ 19 < q → g' q = nI 0) → (∀ q, 48 < q → M' q = M q) → VL_bazaar_137 (mrnT (mTbS L xs) 302) Q L xs 0 46 47 48 49 (nI 0) (W0 + d) (Sh0 ++ E) M' ML) : VL_bazaar_81 (mrnT (mTbS L xs) 302) Q L xs 0 46 47 48 49 (W0 + d) (Sh0 ++ E) M ML := by
  obtain ⟨M1, a1, a2, a3⟩ := k_mend (ML := ML) (i := 2) (v := nI s) hK (by omega) (by omega) (by show 0 ≤ (nI s).toInt ∧ (nI s).toInt ≤ 3; rw [nI_toInt (by omega)]; omega)
  obtain ⟨M2, b1, b2, b3⟩ := k_mend (ML := ML) (i := 3) (v := nI f) a2 (by omega) (by omega) (by show 0 ≤ (nI f).toInt ∧ (nI f).toInt ≤ 9; rw [nI_toInt (by omega)]; omega)
  obtain ⟨M3, c1, c2, c3⟩ := k_mend (ML := ML) (i := 4) (v := nI r) b2 (by omega) (by omega) (by show 0 ≤ (nI r).toInt ∧ (nI r).toInt ≤ 20; rw [nI_toInt (by omega)]; omega)
  obtain ⟨M4, d1, d2, d3⟩ := k_mend (ML := ML) (i := 5) (v := nI y) c2 (by omega) (by omega) (by show 0 ≤ (nI y).toInt ∧ (nI y).toInt ≤ 99; rw [nI_toInt (by omega)]; omega)
  have f1 : ∀ q, 45 < q → M1 q = M q := a3.k3
  have f2 : ∀ q, 45 < q → M2 q = M q := fun q hq => (b3.k3 q hq).trans (f1 q hq)
  have f3 : ∀ q, 45 < q → M3 q = M q := fun q hq => (c3.k3 q hq).trans (f2 q hq)
  have f4 : ∀ q, 45 < q → M4 q = M q := fun q hq => (d3.k3 q hq).trans (f3 q hq)
  refine BL_bazaar_81 (by omega) ⟨hX.cell 1 (by omega), isO0, g 16, M1, ML, ?_, cT g16 ⟨hX.cell 2 (by omega), isO0, nI 0, M2, ML, ?_, cT rfl ⟨hX.cell 3 (by omega), isO0, nI 6, M3, ML, ?_, cT rfl ⟨hX.cell 4 (by omega), isO0, nI 0, M4, ML, ?_, cT rfl (K M4 _ d2 (((hT.k a3).k b3).k c3 |>.k d3) ?_ ?_ (fun q hq => f4 q (by omega)))⟩⟩⟩⟩
  · rw [x1]
    exact k_up a1 (by decide)
  · rw [f1 46 (by decide), x2]
    have e : mput g (14 + 2) (nI s) (14 + 3) = nI 0 := g17
    rw [e] at b1
    exact k_up b1 (by decide)
  · rw [f2 46 (by decide), x3]
    have e : mput (mput g (14 + 2) (nI s)) (14 + 3) (nI f) (14 + 4) = nI 6 := g18
    rw [e] at c1
    exact k_up c1 (by decide)
  · rw [f3 46 (by decide), x4]
    have e : mput (mput (mput g (14 + 2) (nI s)) (14 + 3) (nI f)) (14 + 4) (nI r) (14 + 5) = nI 0 := g19
    rw [e] at d1
    exact k_up d1 (by decide)
  · rw [f4 46 (by decide), f4 47 (by decide), f4 48 (by decide)]
    refine ⟨x0, x1, x2, x3, x4, fun p hp => ⟨?_, ?_⟩, fun q hq => ?_⟩
    · rw [hH, mput_n (by omega), mput_n (by omega), mput_n (by omega), mput_n (by omega)]
      exact (gz _ (by omega)).symm
    · rw [hH, mput_n (by omega), mput_n (by omega), mput_n (by omega), mput_n (by omega)]
      exact (gz _ (by omega)).symm
    · rw [hF, mput_n (by omega), mput_n (by omega), mput_n (by omega), mput_n (by omega)]
      exact (gz _ (by omega)).symm
  · intro q hq
    rw [mput_n (by omega), mput_n (by omega), mput_n (by omega), mput_n (by omega)]
    exact gz q hq
theorem AR_pe {X H F : Nat → Int32} (hA : AR n g X H F) {p : Nat} (hp : p < 8) {u v : Int32} : AR n (mput (mput g p u) (8 + p) v) X (mput (mput H (2 * p) u) (2 * p + 1) v) F := by
  obtain ⟨x0, x1, x2, x3, x4, hh, hf⟩ := hA
  refine ⟨x0, ?_, ?_, ?_, ?_, fun q hq => ⟨?_, ?_⟩, fun q hq => ?_⟩
  · rw [mput_n (by omega), mput_n (by omega)]; exact x1
  · rw [mput_n (by omega), mput_n (by omega)]; exact x2
  · rw [mput_n (by omega), mput_n (by omega)]; exact x3
  · rw [mput_n (by omega), mput_n (by omega)]; exact x4
  · rw [mput_n (by omega), mput_n (j := q) (by omega)]
    by_cases e : q = p
    · subst e; rw [mput_s, mput_s]
    · rw [mput_n (by omega), mput_n e]; exact (hh q hq).1
  · by_cases e : q = p
    · subst e; rw [mput_s, mput_s]
    · rw [mput_n (by omega), mput_n (by omega), mput_n (by omega), mput_n (by omega)]; exact (hh q hq).2
  · rw [mput_n (by omega), mput_n (by omega)]; exact hf q hq
theorem b_people (hX : asz (Sh0 ++ E) 46 5) (hH : asz (Sh0 ++ E) 47 16) (hL : L ≤ 260) (hm : m ≤ 8) (hK : KI 0 g La c MI) (hT : TP [] MI) (hA : AR m g (MI 46) (MI 47) (MI 48)) (gz : ∀ q, 19 < q → g q = nI 0) (K : ∀ (M' : mI) (g' : Nat → Int32), KI m g' La c M' → TP [] M' → AR m g' (M' 46) (M' 47) (M' 48) → (∀ q, 19 < q → g' q = nI 0) → (∀ q, 48 < q → M' q = MI q) → VL_bazaar_218 (mrnT (mTbS L xs) 302) Q L xs 0 46 48 49 (nI 0) (W0 + d) (Sh0 ++ E) M' ML) : VL_bazaar_137 (mrnT (mTbS L xs) 302) Q L xs 0 46 47 48 49 (nI 0) (W0 + d) (Sh0 ++ E) MI ML := by
  refine up (i0 := 0) (P := fun p => ∀ (M : mI) (g : Nat → Int32), KI p g La c M → TP [] M → AR m g (M 46) (M 47) (M 48) → (∀ q, 19 < q → g q = nI 0) → (∀ q, 48 < q → M q = MI q) → VL_bazaar_137 (mrnT (mTbS L xs) 302) Q L xs 0 46 47 48 49 (nI p) (W0 + d) (Sh0 ++ E) M ML) m (Nat.zero_le _) ?_ ?_ MI g hK hT hA gz (fun _ _ => rfl)
  · intro M g k1 k2 k3 k4 k5
    exact BL_bazaar_137 (by omega) ⟨hX.cell 0 (by omega), cT (by rw [k3.1]; exact nI_le (Nat.le_refl _) (by omega)) (K M g k1 k2 k3 k4 k5)⟩
  · intro p _ hp ih M g k1 k2 k3 k4 k5
    obtain ⟨v, hv⟩ := l_cell (L := L) (xs := xs) (D := 301) (k := 1 + p) (S := (W0 + d, Sh0 ++ E, M, ML)) hL (by omega)
    obtain ⟨h, hh, eh⟩ := u_r (s := 1) (d := 100) (by omega) (by omega) (by omega) (by omega) v
    obtain ⟨w, hw, ew⟩ := u_r (s := 8) (d := 10) (by omega) (by omega) (by omega) (by omega) v
    refine BL_bazaar_137 (by omega) ⟨hX.cell 0 (by omega), cF (by rw [k3.1]; exact nI_ge hp (by omega)) ⟨v, M, ML, by rw [nI_add]; exact hv, 2 * p, hH.ok (by rw [pk_mul]) (by omega), BL_bazaar_168 (by omega) ⟨2 * p + 1, hH.ok (by rw [pk_mul, nI_add]) (by omega), ?_⟩⟩⟩
    rw [eh, ew]
    have hK2 : KI p g La c (mup (mup M 47 (mput (M 47) (2 * p) (nI h))) 47 (mput ((mup M 47 (mput (M 47) (2 * p) (nI h))) 47) (2 * p + 1) (nI w))) := KI_c k1 (by simp (disch := omega) only [mup_n, mup_s, mput_n, mput_s, mup_mup]) (by simp (disch := omega) only [mup_n, mup_s, mput_n, mput_s, mup_mup]) (by simp (disch := omega) only [mup_n, mup_s, mput_n, mput_s, mup_mup]; exact k1.2.2.2.2.1) (by simp (disch := omega) only [mup_n, mup_s, mput_n, mput_s, mup_mup]) (by simp (disch := omega) only [mup_n, mup_s, mput_n, mput_s, mup_mup]) (by simp (disch := omega) only [mup_n, mup_s, mput_n, mput_s, mup_mup]) (by simp (disch := omega) only [mup_n, mup_s, mput_n, mput_s, mup_mup])
    obtain ⟨M1, a1, a2, a3⟩ := k_person (ML := ML) (h := h) (w := w) hK2 (by omega) hh hw
    have f1 := a3.k3
    refine BL_bazaar_184 (by omega) ⟨2 * p, hH.ok (by rw [pk_mul]) (by omega), 2 * p + 1, hH.ok (by rw [pk_mul, nI_add]) (by omega), isO0, nI p, M1, ML, ?_, cT rfl ?_⟩
    · simp (disch := omega) only [mup_s, mput_s, mput_n]
      exact k_up a1 (by decide)
    · rw [nI_add]
      refine ih M1 _ a2 (TP_c k2 (by rw [a3 3 (by decide), mup_n (by decide), mup_n (by decide)]) (by rw [a3 5 (by decide), mup_n (by decide), mup_n (by decide)])) ?_ (fun q hq => ?_) (fun q hq => ?_)
      · rw [f1 46 (by decide), f1 47 (by decide), f1 48 (by decide)]
        simp (disch := omega) only [mup_s, mup_n]
        exact AR_pe k3 (by omega)
      · rw [mput_n (by omega), mput_n (by omega)]
        exact k4 q hq
      · rw [f1 q (by omega), mup_n (by omega), mup_n (by omega)]
        exact k5 q hq
/-- one feeling told -/
theorem okv_u {i j m : Nat} (hi : i < 8) (hj : j < 8) (hne : i ≠ j) (hm : m < 19) : okv (20 + i * 8 + j) (nI m - nI 9) := by
  rw [okv_ft hi hj hne, ti_sub (by rw [nI_toInt (by omega)]; omega) (by rw [nI_toInt (by omega)]; omega) (by rw [nI_toInt (by omega)]; omega) (by rw [nI_toInt (by omega)]; omega), nI_toInt (by omega), nI_toInt (by omega)]
  omega
theorem b_feel {a b : Nat} {v : Int32} (hF : asz (Sh0 ++ E) 48 64) (hL : L ≤ 260) (hm : m ≤ 8) (ha : a < m) (hb : b < m) (hne : a ≠ b) (hv : okv (20 + a * 8 + b) v) (hK : KI m g La c M) (hT : TP [] M) (hA : AR m g (M 46) (M 47) (M 48)) (gz : ∀ q, 8 * a + b ≤ q → g (20 + q) = nI 0) (K : ∀ (M' : mI) (g' : Nat → Int32), KI m g' La c M' → TP [] M' → AR m g' (M' 46) (M' 47) (M' 48) → (∀ q, 8 * a + (b + 1) ≤ q → g' (20 + q) = nI 0) → (∀ q, 48 < q → M' q = M q) → VL_bazaar_229 (mrnT (mTbS L xs) 302) Q L xs 0 46 48 49 (nI a) (nI (b + 1)) (W0 + d) (Sh0 ++ E) M' ML) : VL_bazaar_303 (mrnT (mTbS L xs) 302) Q L xs 0 46 48 49 (nI a) (nI b) 48 ((nI 8) * (nI a) + (nI b)) v (W0 + d) (Sh0 ++ E) M ML := by
  have hK2 : KI m g La c (mup M 48 (mput (M 48) (8 * a + b) v)) := KI_c hK (by simp (disch := omega) only [mup_n, mup_s, mput_n, mput_s, mup_mup]) (by simp (disch := omega) only [mup_n, mup_s, mput_n, mput_s, mup_mup]) (by simp (disch := omega) only [mup_n, mup_s, mput_n, mput_s, mup_mup]; exact hK.2.2.2.2.1) (by simp (disch := omega) only [mup_n, mup_s, mput_n, mput_s, mup_mup]) (by simp (disch := omega) only [mup_n, mup_s, mput_n, mput_s, mup_mup]) (by simp (disch := omega) only [mup_n, mup_s, mput_n, mput_s, mup_mup]) (by simp (disch := omega) only [mup_n, mup_s, mput_n, mput_s, mup_mup])
  obtain ⟨M1, a1, a2, a3⟩ := k_feel (ML := ML) hK2 ha hb hne hv
  have f1 := a3.k3
  have e0 : g (20 + a * 8 + b) = nI 0 := by
    rw [show 20 + a * 8 + b = 20 + (8 * a + b) by omega]
    exact gz _ (Nat.le_refl _)
  rw [e0] at a1
  refine BL_bazaar_303 (by omega) ⟨8 * a + b, hF.ok (by rw [pk_mul, nI_add]) (by omega), 8 * a + b, hF.ok (by rw [pk_mul, nI_add]) (by omega), isO0, nI 0 + nI 100, M1, ML, ?_, cT rfl ?_⟩
  · rw [mup_s, mput_s, pk_mul, nI_add]
    exact k_up a1 (by decide)
  · rw [nI_add]
    refine K M1 _ a2 (TP_c hT (by rw [a3 3 (by decide), mup_n (by decide)]) (by rw [a3 5 (by decide), mup_n (by decide)])) ?_ (fun q hq => ?_) (fun q hq => ?_)
    · rw [f1 46 (by decide), f1 47 (by decide), f1 48 (by decide), mup_n (by decide), mup_n (by decide), mup_s, show 20 + a * 8 + b = 20 + (8 * a + b) by omega]
      exact AR_fe hA (by omega)
    · rw [mput_n (by omega)]
      exact gz q (by omega)
    · rw [f1 q (by omega), mup_n (by omega)]
theorem b_feels (hX : asz (Sh0 ++ E) 46 5) (hF : asz (Sh0 ++ E) 48 64) (hL : L ≤ 260) (hm : m ≤ 8) (hK : KI m g La c MI) (hT : TP [] MI) (hA : AR m g (MI 46) (MI 47) (MI 48)) (gz : ∀ q, 19 < q → g q = nI 0) (K : ∀ (M' : mI) (g' : Nat → Int32), KI m g' La c M' → TP [] M' → AR m g' (M' 46) (M' 47) (M' 48) → (∀ q, 48 < q → M' q = MI q) → VL_bazaar_218 (mrnT (mTbS L xs) 302) Q L xs 0 46 48 49 (nI m) (W0 + d) (Sh0 ++ E) M' ML) : VL_bazaar_218 (mrnT (mTbS L xs) 302) Q L xs 0 46 48 49 (nI 0) (W0 + d) (Sh0 ++ E) MI ML := by
  refine up (i0 := 0) (P := fun a => ∀ (M : mI) (g : Nat → Int32), KI m g La c M → TP [] M → AR m g (M 46) (M 47) (M 48) → (∀ q, 8 * a ≤ q → g (20 + q) = nI 0) → (∀ q, 48 < q → M q = MI q) → VL_bazaar_218 (mrnT (mTbS L xs) 302) Q L xs 0 46 48 49 (nI a) (W0 + d) (Sh0 ++ E) M ML) m (Nat.zero_le _) ?_ ?_ MI g hK hT hA (fun q _ => gz _ (by omega)) (fun _ _ => rfl)
  · intro M g k1 k2 k3 k4 k5
    exact K M g k1 k2 k3 k5
  · intro a _ ha ih M g k1 k2 k3 k4 k5
    refine BL_bazaar_218 (by omega) ⟨hX.cell 0 (by omega), cF (by rw [k3.1]; exact nI_ge ha (by omega)) ?_⟩
    refine up (i0 := 0) (P := fun b => ∀ (M : mI) (g : Nat → Int32), KI m g La c M → TP [] M → AR m g (M 46) (M 47) (M 48) → (∀ q, 8 * a + b ≤ q → g (20 + q) = nI 0) → (∀ q, 48 < q → M q = MI q) → VL_bazaar_229 (mrnT (mTbS L xs) 302) Q L xs 0 46 48 49 (nI a) (nI b) (W0 + d) (Sh0 ++ E) M ML) m (Nat.zero_le _) ?_ ?_ M g k1 k2 k3 k4 k5
    · intro M g k1 k2 k3 k4 k5
      refine BL_bazaar_229 (by omega) ⟨hX.cell 0 (by omega), cT (by rw [k3.1]; exact nI_le (Nat.le_refl _) (by omega)) ?_⟩
      rw [nI_add]
      exact ih M g k1 k2 k3 (fun q hq => k4 q (by omega)) k5
    · intro b _ hb ihb M g k1 k2 k3 k4 k5
      refine BL_bazaar_229 (by omega) ⟨hX.cell 0 (by omega), cF (by rw [k3.1]; exact nI_ge hb (by omega)) ?_⟩
      by_cases e : a = b
      · refine cT (by rw [e]) ?_
        rw [nI_add]
        exact ihb M g k1 k2 k3 (fun q hq => k4 q (by omega)) k5
      · obtain ⟨v, hv⟩ := l_cell (L := L) (xs := xs) (D := 301) (k := 9 + (8 * a + b) % 48) (S := (W0 + d, Sh0 ++ E, M, ML)) hL (by omega)
        refine cF (by rw [nI_eq (by omega) (by omega)]; exact e) ⟨v, M, ML, ?_, ?_⟩
        · rw [pk_mul, nI_add, z_rem (by omega) (by omega) (by omega), nI_add]
          exact hv
        · have go : ∀ u, okv (20 + a * 8 + b) u → VL_bazaar_303 (mrnT (mTbS L xs) 302) Q L xs 0 46 48 49 (nI a) (nI b) 48 ((nI 8) * (nI a) + (nI b)) u (W0 + d) (Sh0 ++ E) M ML := fun u hu => b_feel hF hL hm ha hb e hu k1 k2 k3 k4 (fun M' g' j1 j2 j3 j4 j5 => ihb M' g' j1 j2 j3 j4 (fun q hq => (j5 q hq).trans (k5 q hq)))
          rw [nI_add]
          refine br (fun _ => go _ (okv_0 _ (by omega))) (fun _ => ?_)
          obtain ⟨w, hw, ew⟩ := u_r (s := 3) (d := 19) (by omega) (by omega) (by omega) (by omega) ((v.toUInt32 >>> ((nI (1 + a)).toUInt32 &&& Int32.toUInt32 31)).toInt32)
          rw [ew]
          exact go _ (okv_u (by omega) (by omega) e hw)
/-- the law's digits -/
theorem b_law (hX : asz (Sh0 ++ E) 46 5) (hB : asz (Sh0 ++ E) 49 3) (hL : L ≤ 260) (hm : m ≤ 8) (hK : KI m g [] c MI) (hT : TP [] MI) (hA : AR m g (MI 46) (MI 47) (MI 48)) (K : ∀ (M' : mI) (La : mLaw), KI m g La c M' → AR m g (M' 46) (M' 47) (M' 48) → LB La (M' 49) → (∀ q, 49 < q → M' q = MI q) → Q (some (.int (nI 1))) (W0 + d, Sh0 ++ E, M', ML)) : VL_bazaar_218 (mrnT (mTbS L xs) 302) Q L xs 0 46 48 49 (nI m) (W0 + d) (Sh0 ++ E) MI ML := by
  obtain ⟨v, hv⟩ := l_cell (L := L) (xs := xs) (D := 301) (k := 57) (S := (W0 + d, Sh0 ++ E, MI, ML)) hL (by omega)
  refine BL_bazaar_218 (by omega) ⟨hX.cell 0 (by omega), cT (by rw [hA.1]; exact nI_le (Nat.le_refl _) (by omega)) ⟨v, MI, ML, hv, hB.cell 0 (by omega), ?_⟩⟩
  have hKm : ∀ X : Nat → Int32, KI m g [] c (mup MI 49 X) := fun X => KI_c hK (by simp (disch := omega) only [mup_n, mup_s, mput_n, mput_s, mup_mup]) (by simp (disch := omega) only [mup_n, mup_s, mput_n, mput_s, mup_mup]) (by simp (disch := omega) only [mup_n, mup_s, mput_n, mput_s, mup_mup]; exact hK.2.2.2.2.1) (by simp (disch := omega) only [mup_n, mup_s, mput_n, mput_s, mup_mup]) (by simp (disch := omega) only [mup_n, mup_s, mput_n, mput_s, mup_mup]) (by simp (disch := omega) only [mup_n, mup_s, mput_n, mput_s, mup_mup]) (by simp (disch := omega) only [mup_n, mup_s, mput_n, mput_s, mup_mup])
  have hTm : ∀ X : Nat → Int32, TP [] (mup MI 49 X) := fun X => TP_c hT (by simp (disch := omega) only [mup_n, mup_s, mput_n, mput_s, mup_mup]) (by simp (disch := omega) only [mup_n, mup_s, mput_n, mput_s, mup_mup])
  have hAm : ∀ (M' : mI), (∀ q, q ≠ 49 → 45 < q → M' q = MI q) → AR m g (M' 46) (M' 47) (M' 48) := fun M' h => by rw [h 46 (by decide) (by decide), h 47 (by decide) (by decide), h 48 (by decide) (by decide)]; exact hA
  refine br (fun _ => K _ [] (hKm _) (hAm _ (fun q a _ => mup_n a)) (Or.inl ⟨by rw [mup_s, mput_s], rfl⟩) (fun q hq => mup_n (by omega))) (fun _ => ?_)
  -- three digits
  have dg : ∀ k, k < 3 → ∃ A, 1 ≤ A ∧ A ≤ 9 ∧ nI 1 + (((v.toUInt32 >>> ((nI 1 + nI 4 * nI k).toUInt32 &&& Int32.toUInt32 31)).toInt32) - ((v.toUInt32 >>> ((nI 1 + nI 4 * nI k).toUInt32 &&& Int32.toUInt32 31)).toInt32) / nI 9 * nI 9) = nI A := fun k hk => by
    rw [pk_mul, nI_add]
    obtain ⟨A, hA, e⟩ := u_r (s := 1 + 4 * k) (d := 9) (by omega) (by omega) (by omega) (by omega) v
    exact ⟨1 + A, by omega, by omega, by rw [e, nI_add]⟩
  obtain ⟨A, a1, a2, ea⟩ := dg 0 (by omega)
  obtain ⟨B, b1, b2, eb⟩ := dg 1 (by omega)
  obtain ⟨C, c1, c2, ec⟩ := dg 2 (by omega)
  refine BL_bazaar_371 (by omega) (cF (by decide) ⟨0, hB.cell 0 (by omega), ?_⟩)
  rw [ea, nI_add]
  refine BL_bazaar_371 (by omega) (cF (by decide) ⟨1, hB.cell 1 (by omega), ?_⟩)
  rw [eb, nI_add]
  refine BL_bazaar_371 (by omega) (cF (by decide) ⟨2, hB.cell 2 (by omega), ?_⟩)
  rw [ec, nI_add]
  refine BL_bazaar_371 (by omega) (cT (by decide) ?_)
  generalize hM1 : mup (mup (mup (mup MI 49 (mput (MI 49) 0 (-1))) 49 (mput ((mup MI 49 (mput (MI 49) 0 (-1))) 49) 0 (nI A))) 49 (mput ((mup (mup MI 49 (mput (MI 49) 0 (-1))) 49 (mput ((mup MI 49 (mput (MI 49) 0 (-1))) 49) 0 (nI A))) 49) 1 (nI B))) 49 (mput ((mup (mup (mup MI 49 (mput (MI 49) 0 (-1))) 49 (mput ((mup MI 49 (mput (MI 49) 0 (-1))) 49) 0 (nI A))) 49 (mput ((mup (mup MI 49 (mput (MI 49) 0 (-1))) 49 (mput ((mup MI 49 (mput (MI 49) 0 (-1))) 49) 0 (nI A))) 49) 1 (nI B))) 49) 2 (nI C)) = M1
  have hf : ∀ q, q ≠ 49 → M1 q = MI q := fun q a => by rw [← hM1, mup_n a, mup_n a, mup_n a, mup_n a]
  have h0 : M1 49 0 = nI A := by rw [← hM1]; simp (disch := omega) only [mup_n, mup_s, mput_n, mput_s, mup_mup]
  have h1 : M1 49 1 = nI B := by rw [← hM1]; simp (disch := omega) only [mup_n, mup_s, mput_n, mput_s, mup_mup]
  have h2 : M1 49 2 = nI C := by rw [← hM1]; simp (disch := omega) only [mup_n, mup_s, mput_n, mput_s, mup_mup]
  refine l_text hL hB (KI_c hK (by rw [hf 1 (by decide)]) (hf 2 (by decide)) (by rw [hf 17 (by decide)]; exact hK.2.2.2.2.1) (by rw [hf 6 (by decide)]) (hf 7 (by decide)) (by rw [hf 39 (by decide)]) (hf 34 (by decide))) (TP_c hT (hf 3 (by decide)) (hf 5 (by decide))) ⟨a1, a2⟩ ⟨b1, b2⟩ ⟨c1, c2⟩ h0 h1 h2 (fun M' k1 k2 => K M' _ k1 (hAm M' (fun q a b => (k2 q b).trans (hf q a))) (Or.inr ⟨A, B, C, a1, a2, b1, b2, c1, c2, ?_, ?_, ?_, rfl⟩) (fun q hq => (k2 q (by omega)).trans (hf q (by omega))))
  · rw [k2 49 (by decide)]; exact h0
  · rw [k2 49 (by decide)]; exact h1
  · rw [k2 49 (by decide)]; exact h2
/-- the bazaar told -/
theorem l_baz (hX : asz (Sh0 ++ E) 46 5) (hH : asz (Sh0 ++ E) 47 16) (hF : asz (Sh0 ++ E) 48 64) (hB : asz (Sh0 ++ E) 49 3) (hL : L ≤ 260) (zH : ∀ q, MI 47 q = nI 0) (zF : ∀ q, MI 48 q = nI 0) (hK : KI 0 g [] c MI) (hT : TP [] MI) (g16 : g 16 = nI 1) (g17 : g 17 = nI 0) (g18 : g 18 = nI 6) (g19 : g 19 = nI 0) (gz : ∀ q, q < 16 ∨ 19 < q → g q = nI 0) : ∃ M n g La, mrnT (mTbS L xs) 303 301 [.ref 0, .float 0, .ref 46, .ref 47, .ref 48, .ref 49, .int (nI 0), .int (nI 8)] (W0 + d, Sh0 ++ E, MI, ML) (some (.int (nI 1))) (W0 + d, Sh0 ++ E, M, ML) ∧ KI n g La c M ∧ AR n g (M 46) (M 47) (M 48) ∧ LB La (M 49) ∧ ∀ q, 49 < q → M q = MI q := by
  suffices h : VL_bazaar_0 (mrnT (mTbS L xs) 302) (fun v S => v = some (.int (nI 1)) ∧ ∃ M n g La, S = (W0 + d, Sh0 ++ E, M, ML) ∧ KI n g La c M ∧ AR n g (M 46) (M 47) (M 48) ∧ LB La (M 49) ∧ ∀ q, 49 < q → M q = MI q) L xs 0 46 47 48 49 (nI 0) (nI 8) (W0 + d) (Sh0 ++ E) MI ML by
    obtain ⟨v, S', ⟨rfl, M, n, g, La, rfl, k⟩, h⟩ := EL_bazaar (by rintro _ _ ⟨-, M, n, g, La, rfl, -⟩; exact ⟨Nat.le_refl _, Nat.le_refl _⟩) h
    exact ⟨M, n, g, La, h, k⟩
  obtain ⟨v, hv⟩ := l_cell (L := L) (xs := xs) (D := 301) (k := 0) (S := (W0 + d, Sh0 ++ E, MI, ML)) hL (by omega)
  obtain ⟨m, hm, em⟩ := u_r (s := 1) (d := 9) (by omega) (by omega) (by omega) (by omega) v
  have e9 : (nI 8 - nI 0) + nI 1 = nI 9 := by decide
  refine BL_bazaar_0 (by omega) ⟨v, MI, ML, hv, by decide, hX.cell 0 (by omega), ?_⟩
  rw [e9, em, nI_add, Nat.zero_add]
  refine b_x hX hL (m := m) (by simp (disch := omega) only [mup_n, mup_s, mput_n, mput_s, mup_mup]) (fun M1 s f r y hs hf hr hy x0 x1 x2 x3 x4 fr => ?_)
  have fr' : ∀ q, q ≠ 46 → M1 q = MI q := fun q hq => by rw [fr q hq, mup_n hq]
  refine b_mend hX hL (by omega) hs hf hr hy x0 x1 x2 x3 x4 (fun q => by rw [fr' 47 (by decide)]; exact zH q) (fun q => by rw [fr' 48 (by decide)]; exact zF q) (KI_c hK (by rw [fr' 1 (by decide)]) (fr' 2 (by decide)) (by rw [fr' 17 (by decide)]; exact hK.2.2.2.2.1) (by rw [fr' 6 (by decide)]) (fr' 7 (by decide)) (by rw [fr' 39 (by decide)]) (fr' 34 (by decide))) (TP_c hT (fr' 3 (by decide)) (fr' 5 (by decide))) g16 g17 g18 g19 gz (fun M2 g2 k1 k2 k3 k4 k5 => ?_)
  refine b_people hX hH hL (by omega) k1 k2 k3 (fun q hq => k4 q (by omega)) (fun M3 g3 l1 l2 l3 l4 l5 => ?_)
  refine b_feels hX hF hL (by omega) l1 l2 l3 l4 (fun M4 g4 j1 j2 j3 j4 => ?_)
  refine b_law hX hB hL (by omega) j1 j2 j3 (fun M5 La i1 i2 i3 i4 => ⟨rfl, M5, m, g4, La, rfl, i1, i2, i3, fun q hq => ?_⟩)
  rw [i4 q hq, j4 q (by omega), l5 q (by omega), k5 q (by omega), fr' q (by omega)]
end L93
