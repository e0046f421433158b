/-! drawn: pair -/
theorem ush {s : Nat} (hs : s < 32) (x : Int32) : ((x.toUInt32 >>> ((nI s).toUInt32 &&& Int32.toUInt32 31)).toInt32) = nI (x.toUInt32.toNat / 2 ^ s) := by
  apply b_ext
  intro i hi
  rw [b_ushr s hs x i]
  have e : bt x (s + i) = (x.toUInt32.toNat).testBit (s + i) := rfl
  have e2 : bt (nI (x.toUInt32.toNat / 2 ^ s)) i = (BitVec.ofNat 32 (x.toUInt32.toNat / 2 ^ s)).getLsbD i := rfl
  rw [e, e2, BitVec.getLsbD_ofNat, decide_eq_true hi, Bool.true_and, ← Nat.shiftRight_eq_div_pow, Nat.testBit_shiftRight]
def wH (n : Nat) (z : Int32) : Nat := (z.toUInt32.toNat / 2 ^ 8) % n
def bH (n : Nat) (z : Int32) : Nat := (wH n z + 1 + (z.toUInt32.toNat / 2 ^ 4) % (n - 1)) % n
theorem wb_ok {n : Nat} (z : Int32) (h : 2 ≤ n) : wH n z < n ∧ bH n z < n ∧ wH n z ≠ bH n z := by
  have h1 : wH n z < n := Nat.mod_lt _ (by omega)
  have h2 : bH n z < n := Nat.mod_lt _ (by omega)
  have h3 : (z.toUInt32.toNat / 2 ^ 4) % (n - 1) < n - 1 := Nat.mod_lt _ (by omega)
  refine ⟨h1, h2, ?_⟩
  unfold bH
  generalize (z.toUInt32.toNat / 2 ^ 4) % (n - 1) = r at *
  generalize wH n z = w at *
  rcases Nat.lt_or_ge (w + 1 + r) n with q | q
  · rw [Nat.mod_eq_of_lt q]; omega
  · rw [Nat.mod_eq_sub_mod q, Nat.mod_eq_of_lt (by omega)]; omega
def haF (n wr : Nat) (z : Int32) (f : Nat → Int32) : Nat → Int32 := if (z.toUInt32.toNat / 2 ^ 16) % 12 < wr ∧ 2 ≤ n then mput f (20 + wH n z * 8 + bH n z) (-5) else f
theorem haF_PB {n wr : Nat} {z : Int32} {f : Nat → Int32} (h8 : n ≤ 8) (hf : PB f) : PB (haF n wr z f) := by
  unfold haF
  split
  · next h =>
    have hw := wb_ok z h.2
    exact hf.put (by omega) ((okv_ft (by omega) (by omega) hw.2.2).mpr (by decide))
  · exact hf
def nxz (z : Int32) : Int32 := z * 1103515245 + nI 12345
def drD (La : mLaw) (n wr : Nat) (z : Int32) (f : Nat → Int32) (c : Int32) : Nat → Int32 × (Nat → Int32) × Int32
  | 0 => (z, f, c)
  | k + 1 => (nxz (drD La n wr z f c k).1, dyF La n (haF n wr (nxz (drD La n wr z f c k).1) (drD La n wr z f c k).2.1), (drD La n wr z f c k).2.2 + nI (dyL La n (haF n wr (nxz (drD La n wr z f c k).1) (drD La n wr z f c k).2.1)).length)
def huO (oo : Option Nat) (f : Nat → Int32) : Int32 := match oo with
  | none => nI 0
  | some o => f o
def drB (La : mLaw) (n wr m : Nat) (f : Nat → Int32) (oo : Option Nat) (z : Int32) : Nat → Int32 × Int32 × Int32
  | 0 => (z, nI 0, nI 0)
  | i + 1 => ((drD La n wr (drB La n wr m f oo z i).1 f (drB La n wr m f oo z i).2.2 m).1, (drB La n wr m f oo z i).2.1 + huO oo (drD La n wr (drB La n wr m f oo z i).1 f (drB La n wr m f oo z i).2.2 m).2.1, (drD La n wr (drB La n wr m f oo z i).1 f (drB La n wr m f oo z i).2.2 m).2.2)
def onO (n : Nat) (one : Int32) (oo : Option Nat) : Prop := (one = -1 ∧ oo = none) ∨ ∃ o, o < n ∧ one = nI o ∧ oo = some o
section T63
variable {n : Nat} {La : mLaw} {f : Nat → Int32} {MI : mI} {ML : mJ}
theorem uz (z : Int32) : z.toUInt32.toNat < 4294967296 := z.toUInt32.toNat_lt
theorem c_hate {D : Nat} {z : Int32} (hW : WC n La f MI) : ∃ M, mrc (D + 3) 133 [.ref 15, .int z] MI ML none M ML ∧ WC n La (if 2 ≤ n then mput f (20 + wH n z * 8 + bH n z) (-5) else f) M ∧ FA M MI := by
  have h8 := hW.1
  have h16 := hW.2.1
  have hz := uz z
  by_cases h2 : 2 ≤ n
  · have hw := wb_ok z h2
    rw [if_pos h2]
    refine ⟨_, mrc_of (EX9_drawHate (BX9_drawHate_0 ?_)), hW.put (by omega) ((okv_ft (by omega) (by omega) hw.2.2).mpr (by decide)), FA.u⟩
    rw [h16]
    refine cF (nI_nlt h2 (by omega)) ⟨by rw [nI_eq (by omega) (by omega)]; omega, by rw [pk_sub (by omega), nI_eq (by omega) (by omega)]; omega, by rw [nI_eq (by omega) (by omega)]; omega, ?_⟩
    rw [ush (s := 8) (by decide), ush (s := 4) (by decide), pk_rem (by omega) (by omega) (by omega), pk_sub (by omega), pk_rem (a := z.toUInt32.toNat / 2 ^ 4) (by omega) (by omega) (by omega), nI_add, nI_add, pk_rem (by have := Nat.mod_lt (z.toUInt32.toNat / 2 ^ 4) (show 0 < n - 1 by omega); have := hw.1; unfold wH at this; omega) (by omega) (by omega)]
    exact usev (s_setFelt (i := wH n z) (j := bH n z) bz16 (by omega) (by omega)) eRr
  · rw [if_neg h2]
    exact ⟨MI, mrc_of (EX9_drawHate (BX9_drawHate_0 (cT (by rw [h16]; exact nI_lt (by omega) (by omega)) eRr))), hW, FA.rf⟩
theorem c_draw {N m wr : Nat} {one z : Int32} {oo : Option Nat} (ht : ∀ (D : Nat) (M : mI), FA M MI → Z84 (M 17) → ∃ M', mrc (D + 3) 122 [.ref 15] M ML none M' ML ∧ WC n La (MI 2) M' ∧ FA M' M ∧ ∀ q, q ≠ 16 → q ≠ 17 → M' q = M q) (hz : Z84 (MI 17)) (h8 : n ≤ 8) (hN : N ≤ 20) (hm : m ≤ 20) (hwr : wr ≤ 12) (ho : onO n one oo) : ∃ M, mrc 299 132 [.ref 15, .int z, .int (nI N), .int (nI m), .int (nI wr), .int one] MI ML (some (.int (if one = -1 then (drB La n wr m (MI 2) oo z N).2.2 else (drB La n wr m (MI 2) oo z N).2.1))) M ML ∧ FA M MI ∧ Z84 (M 17) := by
  suffices h : VX9_drawBazaars_0 298 (fun v M L' => v = some (.int (if one = -1 then (drB La n wr m (MI 2) oo z N).2.2 else (drB La n wr m (MI 2) oo z N).2.1)) ∧ L' = ML ∧ FA M MI ∧ Z84 (M 17)) z (nI N) (nI m) (nI wr) one MI ML by
    obtain ⟨v, M, L', ⟨rfl, rfl, hr⟩, h⟩ := EX9_drawBazaars h
    exact ⟨M, h, hr⟩
  refine BX9_drawBazaars_0 ?_
  refine up (P := fun i => ∀ M : mI, FA M MI → Z84 (M 17) → VX9_drawBazaars_12 298 _ (nI N) (nI m) (nI wr) one (drB La n wr m (MI 2) oo z i).1 (drB La n wr m (MI 2) oo z i).2.1 (drB La n wr m (MI 2) oo z i).2.2 (nI i) M ML) N (Nat.zero_le _) ?_ ?_ MI FA.rf hz
  · intro M hF hz'
    refine BX9_drawBazaars_12 (cT (nI_le (Nat.le_refl _) (by omega)) (br (fun q => ⟨?_, rfl, hF, hz'⟩) (fun q => ⟨?_, rfl, hF, hz'⟩)))
    · rw [if_pos q]
    · rw [if_neg q]
  · intro i _ hi ih M hF hz'
    obtain ⟨M1, b1, b2, b3, b4⟩ := ht 295 M hF hz'
    refine BX9_drawBazaars_12 (cF (nI_ge hi (by omega)) (usev b1 ?_))
    generalize hs : drB La n wr m (MI 2) oo z i = s at *
    refine up (P := fun k => ∀ M : mI, WC n La (drD La n wr s.1 (MI 2) s.2.2 k).2.1 M → FA M MI → VX9_drawBazaars_25 298 _ (nI N) (nI m) (nI wr) one (drD La n wr s.1 (MI 2) s.2.2 k).1 s.2.1 (drD La n wr s.1 (MI 2) s.2.2 k).2.2 (nI i) (nI k) M ML) m (Nat.zero_le _) ?_ ?_ M1 b2 (b3.tr hF)
    · intro M2 hW hF2
      refine BX9_drawBazaars_25 (cT (nI_le (Nat.le_refl _) (by omega)) ?_)
      have ih2 := ih M2 hF2 hW.z
      have e : drB La n wr m (MI 2) oo z (i + 1) = ((drD La n wr s.1 (MI 2) s.2.2 m).1, s.2.1 + huO oo (drD La n wr s.1 (MI 2) s.2.2 m).2.1, (drD La n wr s.1 (MI 2) s.2.2 m).2.2) := by rw [← hs]; rfl
      rw [e] at ih2
      rcases ho with ⟨rfl, rfl⟩ | ⟨o, ho, rfl, rfl⟩
      · refine usei (s_hungerOfNone bz16 (by decide)) ?_
        rw [nI_add]
        exact ih2
      · refine usei (s_hungerOf bz16 (by omega)) ?_
        rw [nI_add, hW.2.2.1]
        exact ih2
    · intro k _ hk ih2 M2 hW hF2
      generalize hd : drD La n wr s.1 (MI 2) s.2.2 k = d at *
      have e : drD La n wr s.1 (MI 2) s.2.2 (k + 1) = (nxz d.1, dyF La n (haF n wr (nxz d.1) d.2.1), d.2.2 + nI (dyL La n (haF n wr (nxz d.1) d.2.1)).length) := by rw [← hd]; rfl
      rw [e] at ih2
      have key : ∀ M3 : mI, WC n La (haF n wr (nxz d.1) d.2.1) M3 → FA M3 MI → VX9_drawBazaars_61 298 (fun v M L' => v = some (.int (if one = -1 then (drB La n wr m (MI 2) oo z N).2.2 else (drB La n wr m (MI 2) oo z N).2.1)) ∧ L' = ML ∧ FA M MI ∧ Z84 (M 17)) (nI N) (nI m) (nI wr) one (nxz d.1) s.2.1 d.2.2 (nI i) (nI k) M3 ML := by
        intro M3 hW3 hF3
        obtain ⟨M4, g1, g2, g3⟩ := c_goOn (D := 290) (ML := ML) hW3 (d := 1) (by omega)
        refine BX9_drawBazaars_61 (usei g1 ?_)
        rw [nI_add]
        have ih3 := ih2 M4 g2 (g3.a.tr hF3)
        have e1 : fdN La n (haF n wr (nxz d.1) d.2.1) 1 = (dyL La n (haF n wr (nxz d.1) d.2.1)).length := Nat.zero_add _
        rw [e1]
        exact ih3
      refine BX9_drawBazaars_25 (cF (nI_ge hk (by omega)) (fun z4 hz4 => ?_))
      subst hz4
      have hu := uz (nxz d.1)
      show (nI wr ≤ ((((nxz d.1)).toUInt32 >>> (((nI 16)).toUInt32 &&& Int32.toUInt32 31)).toInt32) - ((((nxz d.1)).toUInt32 >>> (((nI 16)).toUInt32 &&& Int32.toUInt32 31)).toInt32) / (nI 12) * (nI 12) → _) ∧ (¬ nI wr ≤ ((((nxz d.1)).toUInt32 >>> (((nI 16)).toUInt32 &&& Int32.toUInt32 31)).toInt32) - ((((nxz d.1)).toUInt32 >>> (((nI 16)).toUInt32 &&& Int32.toUInt32 31)).toInt32) / (nI 12) * (nI 12) → _)
      rw [ush (s := 16) (by decide), pk_rem (by omega) (by omega) (by omega), nI_leI (by omega) (by omega)]
      refine br (fun q => ?_) (fun q => ?_)
      · have eh : haF n wr (nxz d.1) d.2.1 = d.2.1 := if_neg (fun w => by omega)
        exact key M2 (by rw [eh]; exact hW) hF2
      · obtain ⟨M3, g1, g2, g3⟩ := c_hate (D := 295) (z := nxz d.1) (ML := ML) hW
        refine usev g1 (key M3 ?_ (g3.tr hF2))
        unfold haF
        by_cases h2 : 2 ≤ n
        · rw [if_pos h2] at g2
          rw [if_pos ⟨by omega, h2⟩]
          exact g2
        · rw [if_neg h2] at g2
          rw [if_neg (fun w => h2 w.2)]
          exact g2
theorem m_draw {N m wr : Nat} {one z : Int32} {oo : Option Nat} {N0 : mI} (ht : ∀ (D : Nat) (M : mI), FB M N0 → Z84 (M 61) → ∃ M', mrc (D + 1) 211 [.ref 46] M ML none M' ML ∧ WM n La f M' ∧ FB M' M) (hz : Z84 (N0 61)) (h8 : n ≤ 8) (hN : N ≤ 20) (hm : m ≤ 20) (hwr : wr ≤ 12) (ho : onO n one oo) : VX11_drawn_93 299 (fun v M L' => v = some (.int (if one = -1 then (drB La n wr m f oo z N).2.2 else (drB La n wr m f oo z N).2.1)) ∧ L' = ML ∧ FB M N0 ∧ Z84 (M 61)) one (nI N) (nI m) (nI wr) z (nI 0) (nI 0) (nI 0) N0 ML := by
  refine up (P := fun i => ∀ M : mI, FB M N0 → Z84 (M 61) → VX11_drawn_93 299 _ one (nI N) (nI m) (nI wr) (drB La n wr m f oo z i).1 (drB La n wr m f oo z i).2.1 (drB La n wr m f oo z i).2.2 (nI i) M ML) N (Nat.zero_le _) ?_ ?_ N0 FB.rf hz
  · intro M hF hz'
    refine BX11_drawn_93 (cT (nI_le (Nat.le_refl _) (by omega)) (br (fun q => ⟨?_, rfl, hF, hz'⟩) (fun q => ⟨?_, rfl, hF, hz'⟩)))
    · rw [if_pos q]
    · rw [if_neg q]
  · intro i _ hi ih M hF hz'
    obtain ⟨M1, b1, b2, b3⟩ := ht 298 M hF hz'
    refine BX11_drawn_93 (cF (nI_ge hi (by omega)) (usev b1 ?_))
    generalize hs : drB La n wr m f oo z i = s at *
    refine up (P := fun k => ∀ M : mI, WM n La (drD La n wr s.1 f s.2.2 k).2.1 M → FB M N0 → VX11_drawn_107 299 _ one (nI N) (nI m) (nI wr) (drD La n wr s.1 f s.2.2 k).1 s.2.1 (drD La n wr s.1 f s.2.2 k).2.2 (nI i) (nI k) M ML) m (Nat.zero_le _) ?_ ?_ M1 b2 (b3.tr hF)
    · intro M2 hW hF2
      refine BX11_drawn_107 (cT (nI_le (Nat.le_refl _) (by omega)) ?_)
      have ih2 := ih M2 hF2 hW.z
      have e : drB La n wr m f oo z (i + 1) = ((drD La n wr s.1 f s.2.2 m).1, s.2.1 + huO oo (drD La n wr s.1 f s.2.2 m).2.1, (drD La n wr s.1 f s.2.2 m).2.2) := by rw [← hs]; rfl
      rw [e] at ih2
      rw [nI_add]
      rcases ho with ⟨rfl, rfl⟩ | ⟨o, ho, rfl, rfl⟩
      · exact cT rfl ih2
      · refine cF (nI_m1 (by omega)) ⟨o, rfl, by omega, ?_⟩
        rw [hW.2.2.1]
        exact ih2
    · intro k _ hk ih2 M2 hW hF2
      generalize hd : drD La n wr s.1 f s.2.2 k = d at *
      have e : drD La n wr s.1 f s.2.2 (k + 1) = (nxz d.1, dyF La n (haF n wr (nxz d.1) d.2.1), d.2.2 + nI (dyL La n (haF n wr (nxz d.1) d.2.1)).length) := by rw [← hd]; rfl
      rw [e] at ih2
      have key : ∀ M3 : mI, WM n La (haF n wr (nxz d.1) d.2.1) M3 → FB M3 N0 → VX11_drawn_196 299 (fun v M L' => v = some (.int (if one = -1 then (drB La n wr m f oo z N).2.2 else (drB La n wr m f oo z N).2.1)) ∧ L' = ML ∧ FB M N0 ∧ Z84 (M 61)) one (nI N) (nI m) (nI wr) (nxz d.1) s.2.1 d.2.2 (nI i) (nI k) M3 ML := by
        intro M3 hW3 hF3
        obtain ⟨M4, g1, g2, g3, g4, g5, g6⟩ := m_day (D := 292) (ML := ML) hW3
        refine BX11_drawn_196 (usev g1 ?_)
        rw [nI_add, g3]
        exact ih2 M4 g2 (g6.tr hF3)
      refine BX11_drawn_107 (cF (nI_ge hk (by omega)) (fun z4 hz4 => ?_))
      subst hz4
      have hu := uz (nxz d.1)
      have hq : d.1 * 1103515245 + nI 12345 = nxz d.1 := rfl
      rw [hW.2.1, hq]
      refine br (fun q => ?_) (fun q => ?_)
      · rw [nI_leI (by omega) (by omega)] at q
        have eh : haF n wr (nxz d.1) d.2.1 = d.2.1 := if_neg (fun w => by omega)
        exact key M2 (by rw [eh]; exact hW) hF2
      · rw [nI_leI (by omega) (by omega)] at q
        rw [ush (s := 16) (by decide), ush (s := 8) (by decide), ush (s := 4) (by decide), pk_rem (a := (nxz d.1).toUInt32.toNat / 2 ^ 16) (by omega) (by omega) (by omega), nI_leI (by omega) (by omega)]
        refine br (fun q2 => ?_) (fun q2 => ⟨by rw [nI_eq (by omega) (by omega)]; omega, by rw [pk_sub (by omega), nI_eq (by omega) (by omega)]; omega, by rw [nI_eq (by omega) (by omega)]; omega, ?_⟩)
        · have eh : haF n wr (nxz d.1) d.2.1 = d.2.1 := if_neg (fun w => by omega)
          exact key M2 (by rw [eh]; exact hW) hF2
        · have hw := wb_ok (nxz d.1) (show 2 ≤ n by omega)
          rw [pk_rem (a := (nxz d.1).toUInt32.toNat / 2 ^ 8) (by omega) (by omega) (by omega), pk_sub (by omega), pk_rem (a := (nxz d.1).toUInt32.toNat / 2 ^ 4) (by omega) (by omega) (by omega), nI_add, nI_add, pk_rem (by have := Nat.mod_lt ((nxz d.1).toUInt32.toNat / 2 ^ 4) (show 0 < n - 1 by omega); have := hw.1; unfold wH at this; omega) (by omega) (by omega)]
          refine usei (t_felt (d := wH n (nxz d.1)) (n := bH n (nxz d.1))) ⟨20 + wH n (nxz d.1) * 8 + bH n (nxz d.1), rfl, by omega, key _ ?_ (FB.u.tr hF2)⟩
          have eh : haF n wr (nxz d.1) d.2.1 = mput d.2.1 (20 + wH n (nxz d.1) * 8 + bH n (nxz d.1)) (-5) := if_pos ⟨by omega, by omega⟩
          rw [eh]
          exact hW.put (by omega) ((okv_ft (by omega) (by omega) hw.2.2).mpr (by decide))
theorem p_drawn (x y w : Int32) : Sim 157 238 [.int x, .int y, .int w] := by
  intro MI ML hI
  obtain ⟨n, hIn⟩ := hI.1
  obtain ⟨La, hw, hC, hL⟩ := hI.2.2.2.1
  have h8 := hIn.1
  have hn := hIn.2.1
  have hm := hIn.2.2.1
  have hz := hIn.2.2.2.2.2.1
  by_cases h0 : y < nI 0
  · exact ⟨_, _, _, _, _, mrc_of (EX10_drawn (BX10_drawn_0 (cT h0 eRr))), mrc_of (EX11_drawn (BX11_drawn_0 (cT h0 eRr))), hI⟩
  obtain ⟨k, hk, rfl⟩ : ∃ k, k < 2147483648 ∧ y = nI k := by
    have := y.toInt_lt
    rw [fa_lt, nI_toInt (by omega)] at h0
    exact ⟨y.toInt.toNat, by omega, by rw [fa_eq, nI_toInt (by omega)]; omega⟩
  have e1 : nI k / nI 10000 = nI (k / 10000) := pk_div (by omega) (by omega) (by omega)
  have e2 : nI k / nI 100 = nI (k / 100) := pk_div (by omega) (by omega) (by omega)
  have e3 : nI (k / 100) - nI (k / 100) / nI 100 * nI 100 = nI (k / 100 % 100) := pk_rem (by omega) (by omega) (by omega)
  have e4 : nI k - nI (k / 100) * nI 100 = nI (k % 100) := by
    rw [pk_mul, pk_sub (by omega)]
    congr 1
    omega
  have wn : wiB (nI 0) (nI 12) (nI (k % 100)) = decide (k % 100 ≤ 12) := by
    simp only [wiB, nI_0lt (show k % 100 < 2147483648 by omega), nI_ltI (show 12 < 2 ^ 31 by omega) (show k % 100 < 2 ^ 31 by omega)]
    by_cases q : k % 100 ≤ 12
    · simp [q]
    · simp [q]
      omega
  by_cases h1 : (decide (w = -1) || hasB n w) = true
  · obtain ⟨oo, hoo⟩ : ∃ oo, onO n w oo := by
      by_cases q : w = -1
      · exact ⟨none, Or.inl ⟨q, rfl⟩⟩
      · obtain ⟨o, ho, e⟩ := hasB_ix h8 (by simpa [q] using h1)
        exact ⟨some o, Or.inr ⟨o, ho, e, rfl⟩⟩
    by_cases h2 : wiB (nI 1) (nI 20) (nI (k / 10000)) = true
    · by_cases h3 : wiB (nI 1) (nI 20) (nI (k / 100 % 100)) = true
      · have b2 := wi_ti h2
        have b3 := wi_ti h3
        rw [nI_toInt (by omega), nI_toInt (by omega), nI_toInt (by omega)] at b2 b3
        by_cases h4 : k % 100 ≤ 12
        · refine pair_T (v := (if w = -1 then (drB La n (k % 100) (k / 100 % 100) (MI 2) oo x (k / 10000)).2.2 else (drB La n (k % 100) (k / 100 % 100) (MI 2) oo x (k / 10000)).2.1)) hI hIn hw hC hL (fun ht => ?_) (fun N n1 n2 n3 ht hz2 => ?_)
          · obtain ⟨M, g1, g2, g3⟩ := c_draw (N := k / 10000) (m := k / 100 % 100) (wr := k % 100) (z := x) ht hz h8 (by omega) (by omega) h4 hoo
            refine ⟨M, mrc_of (EX10_drawn (BX10_drawn_0 (cF h0 (usei (s_isOneOrAll hn) (bT h1 ?_))))), g2, g3⟩
            rw [e1, e2, e3, e4]
            exact rngT h2 (rngT h3 (cT (nI_le h4 (by omega)) (usei g1 eRr)))
          · have hd := m_draw (N := k / 10000) (m := k / 100 % 100) (wr := k % 100) (z := x) ht hz2 h8 (by omega) (by omega) h4 hoo
            suffices hs : VX11_drawn_0 299 (fun v M L' => v = some (.int (if w = -1 then (drB La n (k % 100) (k / 100 % 100) (MI 2) oo x (k / 10000)).2.2 else (drB La n (k % 100) (k / 100 % 100) (MI 2) oo x (k / 10000)).2.1)) ∧ L' = ML ∧ FB M N ∧ Z84 (M 61)) x (nI k) w N ML by
              obtain ⟨v, M, L', ⟨rfl, rfl, hr'⟩, hh⟩ := EX11_drawn hs
              exact ⟨M, hh, hr'⟩
            refine BX11_drawn_0 (cF h0 ?_)
            rw [e1, e2, e3, e4]
            refine usei (t_within (lo := nI 1) (hi := nI 20) rfl rfl) (bT h2 (usei (t_within (lo := nI 1) (hi := nI 20) rfl rfl) (bT h3 (usei (t_within (lo := nI 0) (hi := nI 12) rfl rfl) (bT (by rw [wn, decide_eq_true h4]) (br (fun q => hd) (fun q => usei (t_isOne n1 h8) (bT (by simpa [q] using h1) hd))))))))
        · refine ⟨(-1), MI, ML, MI, ML, mrc_of (EX10_drawn (BX10_drawn_0 (cF h0 (usei (s_isOneOrAll hn) (bT h1 ?_))))), mrc_of (EX11_drawn (BX11_drawn_0 (cF h0 ?_))), hI⟩
          · rw [e1, e2, e3, e4]
            exact rngT h2 (rngT h3 (cF (by rw [nI_leI (by omega) (by omega)]; exact h4) eRr))
          · rw [e1, e2, e3, e4]
            exact usei (t_within (lo := nI 1) (hi := nI 20) rfl rfl) (bT h2 (usei (t_within (lo := nI 1) (hi := nI 20) rfl rfl) (bT h3 (usei (t_within (lo := nI 0) (hi := nI 12) rfl rfl) (bF (by rw [wn, decide_eq_false h4]) eRr)))))
      · refine ⟨(-1), MI, ML, MI, ML, mrc_of (EX10_drawn (BX10_drawn_0 (cF h0 (usei (s_isOneOrAll hn) (bT h1 ?_))))), mrc_of (EX11_drawn (BX11_drawn_0 (cF h0 ?_))), hI⟩
        · rw [e1, e2, e3, e4]
          exact rngT h2 (rngF h3 eRr)
        · rw [e1, e2, e3, e4]
          exact usei (t_within (lo := nI 1) (hi := nI 20) rfl rfl) (bT h2 (usei (t_within (lo := nI 1) (hi := nI 20) rfl rfl) (bF (bnf h3) eRr)))
    · refine ⟨(-1), MI, ML, MI, ML, mrc_of (EX10_drawn (BX10_drawn_0 (cF h0 (usei (s_isOneOrAll hn) (bT h1 ?_))))), mrc_of (EX11_drawn (BX11_drawn_0 (cF h0 ?_))), hI⟩
      · rw [e1, e2, e3, e4]
        exact rngF h2 eRr
      · rw [e1, e2, e3, e4]
        exact usei (t_within (lo := nI 1) (hi := nI 20) rfl rfl) (bF (bnf h2) eRr)
  · have q1 : ¬ w = -1 := fun q => h1 (by rw [decide_eq_true q]; rfl)
    have q2 : hasB n w = false := by
      rw [decide_eq_false q1, Bool.false_or] at h1
      exact bnf h1
    refine ⟨(-1), MI, ML, MI, ML, mrc_of (EX10_drawn (BX10_drawn_0 (cF h0 (usei (s_isOneOrAll hn) (bF (bnf h1) eRr))))), mrc_of (EX11_drawn (BX11_drawn_0 (cF h0 ?_))), hI⟩
    rw [e1, e2, e3, e4]
    refine usei (t_within (lo := nI 1) (hi := nI 20) rfl rfl) (br (fun _ => eRr) (fun _ => usei (t_within (lo := nI 1) (hi := nI 20) rfl rfl) (br (fun _ => eRr) (fun _ => usei (t_within (lo := nI 0) (hi := nI 12) rfl rfl) (br (fun _ => eRr) (fun _ => cF q1 (usei (t_isOne hm h8) (bF q2 eRr))))))))
end T63
