/-! people from a shelf: pair -/
section P9
variable {D d n m z i : Nat} {MI : mI} {ML : mJ} {x y : Int32}
/-- does one more come, c having come -/
def pcm (g : Nat → Int64) (n m z i c : Nat) : Bool := decide (c < m) && (decide (i + 2 * c + 1 < z) && (comeB (g (i + 2 * c)).toInt32 (g (i + 2 * c + 1)).toInt32 && decide (n + c < 8)))
def adF (f : Nat → Int32) (g : Nat → Int64) (n i : Nat) : Nat → Nat → Int32 := fd (fun c f => mput (mput f (n + c) (g (i + 2 * c)).toInt32) (8 + (n + c)) (g (i + 2 * c + 1)).toInt32) f
theorem pcm_no {g : Nat → Int64} {c : Nat} (h : m ≤ c) : pcm g n m z i c = false := by
  unfold pcm
  rw [decide_eq_false (by omega), Bool.false_and]
theorem s_people57 {cs : Nat} (hd : d < 6) (hz : z ≤ 60) (h12 : MI 12 d = nI z) (hn : MI 1 0 = nI n) (hn8 : n ≤ 8) (hm8 : m ≤ 8) (hiz : i < z) (hc : ∀ c, c < cs → pcm (fun p => ML 14 (d * 60 + p)) n m z i c = true) (hstop : pcm (fun p => ML 14 (d * 60 + p)) n m z i cs = false) {Q : Option Value → mI → mJ → Prop} (hQ : Q (some (.int (nI cs))) (mup (mup MI 2 (adF (MI 2) (fun p => ML 14 (d * 60 + p)) n i cs)) 1 (mput (MI 1) 0 (nI (n + cs)))) ML) : VX10_people_57 (D + 4) Q (nI d) (nI m) (nI 0) (nI i) MI ML := by
  have hcs : cs ≤ 8 := by
    rcases Nat.lt_or_ge 8 cs with q | q
    · have := hc 8 q
      simp only [pcm, Bool.and_eq_true, decide_eq_true_eq] at this
      omega
    · exact q
  have hbd : ∀ c, c < cs → c < m ∧ i + 2 * c + 1 < z ∧ comeB (ML 14 (d * 60 + (i + 2 * c))).toInt32 (ML 14 (d * 60 + (i + 2 * c + 1))).toInt32 = true ∧ n + c < 8 := by
    intro c h
    have := hc c h
    simpa only [pcm, Bool.and_eq_true, decide_eq_true_eq] using this
  have hle : n + cs ≤ 8 := by
    rcases Nat.eq_zero_or_pos cs with q | q
    · omega
    · have := (hbd (cs - 1) (by omega)).2.2.2
      omega
  suffices h : VX10_people_57 (D + 4) Q (nI d) (nI m) (nI 0) (nI (i + 2 * 0)) (mup (mup MI 2 (adF (MI 2) (fun p => ML 14 (d * 60 + p)) n i 0)) 1 (mput (MI 1) 0 (nI (n + 0)))) ML by
    have e : (mup (mup MI 2 (adF (MI 2) (fun p => ML 14 (d * 60 + p)) n i 0)) 1 (mput (MI 1) 0 (nI (n + 0)))) = MI := by
      show mup (mup MI 2 (MI 2)) 1 (mput (MI 1) 0 (nI n)) = MI
      rw [mup_id, ← hn, mput_id, mup_id]
    rw [e] at h
    exact h
  refine up (P := fun c => VX10_people_57 (D + 4) Q (nI d) (nI m) (nI c) (nI (i + 2 * c)) (mup (mup MI 2 (adF (MI 2) (fun p => ML 14 (d * 60 + p)) n i c)) 1 (mput (MI 1) 0 (nI (n + c)))) ML) cs (Nat.zero_le _) ?_ ?_
  · refine BX10_people_57 (br (fun _ => hQ) (fun a1 => cF (nI_nlt (Nat.zero_le _) (by omega)) (usei (s_sizeOf hd) ?_)))
    simp (disch := omega) only [mup_n, mup_s, mput_n, mput_s, mup_mup]
    rw [h12, pk_sub (by omega)]
    refine br (fun _ => hQ) (fun a2 => ?_)
    rw [nI_leI (by omega) (by omega)] at a1 a2
    refine usel (s_at hd (by simp (disch := omega) only [mup_n, mup_s, mput_n, mput_s, mup_mup]; exact h12) hz (by omega)) (usel (v := ML 14 (d * 60 + (i + 2 * cs + 1))) (M := _) (L := ML) (by rw [nI_add]; exact s_at hd (by simp (disch := omega) only [mup_n, mup_s, mput_n, mput_s, mup_mup]; exact h12) hz (by omega)) (usei s_mayCome (br (fun _ => hQ) (fun a3 => ?_))))
    rw [bI_0, Bool.not_eq_false] at a3
    have e8 : n + cs = 8 := by
      rcases Nat.lt_or_ge (n + cs) 8 with q | q
      · exfalso
        have : pcm (fun p => ML 14 (d * 60 + p)) n m z i cs = true := by
          simp only [pcm, Bool.and_eq_true, decide_eq_true_eq]
          exact ⟨by omega, by omega, a3, q⟩
        rw [this] at hstop
        cases hstop
      · omega
    exact usei (s_admitFull bz1 (by simp (disch := omega) only [mup_n, mup_s, mput_n, mput_s, mup_mup]; rw [e8])) (cT rfl hQ)
  · intro c _ hcc ih
    obtain ⟨c1, c2, c3, c4⟩ := hbd c hcc
    refine BX10_people_57 (cF (nI_ge c1 (by omega)) (cF (nI_nlt (Nat.zero_le _) (by omega)) (usei (s_sizeOf hd) ?_)))
    simp (disch := omega) only [mup_n, mup_s, mput_n, mput_s, mup_mup]
    rw [h12, pk_sub (by omega)]
    refine cF (nI_ge (by omega) (by omega)) ?_
    refine usel (s_at hd (by simp (disch := omega) only [mup_n, mup_s, mput_n, mput_s, mup_mup]; exact h12) hz (by omega)) (usel (v := ML 14 (d * 60 + (i + 2 * c + 1))) (M := _) (L := ML) (by rw [nI_add]; exact s_at hd (by simp (disch := omega) only [mup_n, mup_s, mput_n, mput_s, mup_mup]; exact h12) hz (by omega)) (usei s_mayCome (bT c3 ?_)))
    refine usei (s_admit bz1 (n := n + c) (by simp (disch := omega) only [mup_n, mup_s, mput_n, mput_s, mup_mup]) c4) (cF ?_ ?_)
    · intro q
      have e1 : (-3 : Int32).toInt = -3 := by decide
      rw [fa_eq, nI_toInt (by omega), e1] at q
      omega
    · have e : (mup (mup (mup (mup MI 2 (adF (MI 2) (fun p => ML 14 (d * 60 + p)) n i c)) 1 (mput (MI 1) 0 (nI (n + c)))) 2 (mput (mput ((mup (mup MI 2 (adF (MI 2) (fun p => ML 14 (d * 60 + p)) n i c)) 1 (mput (MI 1) 0 (nI (n + c)))) 2) (n + c) (ML 14 (d * 60 + (i + 2 * c))).toInt32) (8 + (n + c)) (ML 14 (d * 60 + (i + 2 * c + 1))).toInt32)) 1 (mput ((mup (mup MI 2 (adF (MI 2) (fun p => ML 14 (d * 60 + p)) n i c)) 1 (mput (MI 1) 0 (nI (n + c)))) 1) 0 (nI (n + c + 1)))) = (mup (mup MI 2 (adF (MI 2) (fun p => ML 14 (d * 60 + p)) n i (c + 1))) 1 (mput (MI 1) 0 (nI (n + (c + 1))))) := by
        funext q p
        simp (disch := omega) only [mup_s, mup_n]
        unfold mup
        by_cases q1 : q = 1
        · subst q1
          rw [if_pos rfl, if_pos rfl]
          unfold mput
          split <;> rfl
        · rw [if_neg q1, if_neg q1]
          by_cases q2 : q = 2
          · subst q2
            rw [if_pos rfl, if_pos rfl]
            rfl
          · rw [if_neg q2, if_neg q2, if_neg q1, if_neg q2]
      rw [e, nI_add, nI_add]
      exact ih
theorem wiL {L : Int64} {a : Nat} (ha : a < 1000) {A : Int64} (hA : A.toInt = a) (h1 : -128 ≤ L.toInt) (h2 : L.toInt ≤ 127) : (!decide (L < 0) && !decide (A < L)) = wiB (nI 0) (nI a) L.toInt32 := by
  have e : L.toInt32.toInt = L.toInt := by
    rw [Int64.toInt_toInt32]
    simp only [Int.bmod]
    omega
  have z0 : (0 : Int64).toInt = 0 := by decide
  unfold wiB
  congr 2
  · rw [decide_eq_decide, fa_lt64, fa_lt, e, z0, nI0_ti]
  · rw [decide_eq_decide, fa_lt64, fa_lt, e, hA, nI_toInt (by omega)]
theorem t_people69 {cs : Nat} (hd : d < 6) (hz : z ≤ 60) (h77 : MI 77 d = nI z) (hn : MI 46 6 = nI n) (hn8 : n ≤ 8) (hm8 : m ≤ 8) (hiz : i < z) (hby : ∀ p, p < z → -128 ≤ (ML 78 (d * 60 + p)).toInt ∧ (ML 78 (d * 60 + p)).toInt ≤ 127) (hc : ∀ c, c < cs → pcm (fun p => ML 78 (d * 60 + p)) n m z i c = true) (hstop : pcm (fun p => ML 78 (d * 60 + p)) n m z i cs = false) {Q : Option Value → mI → mJ → Prop} (hQ : Q (some (.int (nI cs))) (mup (mup MI 47 (adF (MI 47) (fun p => ML 78 (d * 60 + p)) n i cs)) 46 (mput (MI 46) 6 (nI (n + cs)))) ML) : VX11_people_69 (D + 4) Q (nI d) (nI i) (nI m) (nI 0) (nI 1) MI ML := by
  have hcs : cs ≤ 8 := by
    rcases Nat.lt_or_ge 8 cs with q | q
    · have := hc 8 q
      simp only [pcm, Bool.and_eq_true, decide_eq_true_eq] at this
      omega
    · exact q
  have hbd : ∀ c, c < cs → c < m ∧ i + 2 * c + 1 < z ∧ comeB (ML 78 (d * 60 + (i + 2 * c))).toInt32 (ML 78 (d * 60 + (i + 2 * c + 1))).toInt32 = true ∧ n + c < 8 := by
    intro c h
    have := hc c h
    simpa only [pcm, Bool.and_eq_true, decide_eq_true_eq] using this
  have hle : n + cs ≤ 8 := by
    rcases Nat.eq_zero_or_pos cs with q | q
    · omega
    · have := (hbd (cs - 1) (by omega)).2.2.2
      omega
  have t99 : (99 : Int64).toInt = (99 : Nat) := by decide
  have t9 : (9 : Int64).toInt = (9 : Nat) := by decide
  have hix : ∀ c, nI 60 * nI d + nI i + nI 2 * nI c = nI (d * 60 + (i + 2 * c)) := fun c => by rw [pk_mul, pk_mul, nI_add, nI_add]; congr 1; omega
  have hgap : ∀ c, c ≤ 8 → ((nI z - nI 2 - nI 2 * nI c < nI i) ↔ ¬ (i + 2 * c + 1 < z)) := fun c hc8 => by
    have e1 : (nI z).toInt = z := nI_toInt (by omega)
    have e2 : (nI 2).toInt = 2 := by decide
    have e3 : (nI (2 * c)).toInt = ((2 * c : Nat) : Int) := nI_toInt (by omega)
    have e4 : (nI i).toInt = i := nI_toInt (by omega)
    have e5 : (nI z - nI 2).toInt = (nI z).toInt - (nI 2).toInt := ti_sub (by omega) (by omega) (by omega) (by omega)
    have e6 : (nI z - nI 2 - nI (2 * c)).toInt = (nI z - nI 2).toInt - (nI (2 * c)).toInt := ti_sub (by omega) (by omega) (by omega) (by omega)
    rw [pk_mul, fa_lt, e6, e5, e1, e2, e3, e4]
    omega
  have st172 : ∀ (c : Nat) (v6 : Int32) (M : mI) (L : mJ), Q (some (.int (nI c))) M L → VX11_people_172 (D + 4) Q (nI d) (nI i) (nI m) (nI c) v6 (nI 0) M L := fun c v6 M L h => BX11_people_172 (cT rfl (BX11_people_69 (cT rfl h)))
  have st111 : ∀ (c : Nat) (M : mI) (L : mJ), Q (some (.int (nI c))) M L → VX11_people_111 (D + 4) Q (nI d) (nI i) (nI m) (nI c) (nI 0) M L := fun c M L h => BX11_people_111 (cT rfl (st172 c _ M L h))
  have hcome : ∀ p, p + 1 < z → comeB (ML 78 (d * 60 + p)).toInt32 (ML 78 (d * 60 + (p + 1))).toInt32 = ((!decide (ML 78 (d * 60 + p) < 0) && !decide (99 < ML 78 (d * 60 + p))) && (!decide (ML 78 (d * 60 + (p + 1)) < 0) && !decide (9 < ML 78 (d * 60 + (p + 1))))) := fun p hp => by
    rw [wiL (a := 99) (by decide) t99 (hby p (by omega)).1 (hby p (by omega)).2, wiL (a := 9) (by decide) t9 (hby (p + 1) (by omega)).1 (hby (p + 1) (by omega)).2]
    rfl
  suffices h : VX11_people_69 (D + 4) Q (nI d) (nI i) (nI m) (nI 0) (nI 1) (mup (mup MI 47 (adF (MI 47) (fun p => ML 78 (d * 60 + p)) n i 0)) 46 (mput (MI 46) 6 (nI (n + 0)))) ML by
    have e : (mup (mup MI 47 (adF (MI 47) (fun p => ML 78 (d * 60 + p)) n i 0)) 46 (mput (MI 46) 6 (nI (n + 0)))) = MI := by
      show mup (mup MI 47 (MI 47)) 46 (mput (MI 46) 6 (nI n)) = MI
      rw [mup_id, ← hn, mput_id, mup_id]
    rw [e] at h
    exact h
  refine up (P := fun c => VX11_people_69 (D + 4) Q (nI d) (nI i) (nI m) (nI c) (nI 1) (mup (mup MI 47 (adF (MI 47) (fun p => ML 78 (d * 60 + p)) n i c)) 46 (mput (MI 46) 6 (nI (n + c)))) ML) cs (Nat.zero_le _) ?_ ?_
  · refine BX11_people_69 (cF nI_1ne (br (fun _ => hQ) (fun a1 => ⟨d, rfl, hd, ?_⟩)))
    simp (disch := omega) only [mup_n, mup_s, mput_n, mput_s, mup_mup]
    rw [h77]
    refine br (fun _ => st111 _ _ _ hQ) (fun a2 => br (fun _ => st111 _ _ _ hQ) (fun a3 => ?_))
    rw [hgap cs hcs] at a2
    have a2 : i + 2 * cs + 1 < z := by omega
    refine BX11_people_111 (cF nI_1ne ⟨d * 60 + (i + 2 * cs), hix cs, by omega, usei t_withinL (br (fun _ => st172 _ _ _ _ hQ) (fun a4 => ⟨d * 60 + (i + 2 * cs + 1), by rw [hix, nI_add]; congr 1, by omega, usei t_withinL (br (fun _ => st172 _ _ _ _ hQ) (fun a5 => ?_))⟩))⟩)
    exfalso
    rw [bI_0, Bool.not_eq_false] at a4 a5
    have hcm := hcome (i + 2 * cs) (by omega)
    rw [a4, a5] at hcm
    rw [nI_leI (by omega) (by omega)] at a1 a3
    have : pcm (fun p => ML 78 (d * 60 + p)) n m z i cs = true := by
      simp only [pcm, Bool.and_eq_true, decide_eq_true_eq]
      exact ⟨by omega, by omega, hcm, by omega⟩
    rw [this] at hstop
    cases hstop
  · intro c _ hcc ih
    obtain ⟨c1, c2, c3, c4⟩ := hbd c hcc
    have hcm := hcome (i + 2 * c) (by omega)
    rw [c3] at hcm
    have hcm2 := hcm.symm
    rw [Bool.and_eq_true] at hcm2
    refine BX11_people_69 (cF nI_1ne (cF (nI_ge c1 (by omega)) ⟨d, rfl, hd, ?_⟩))
    simp (disch := omega) only [mup_n, mup_s, mput_n, mput_s, mup_mup]
    rw [h77]
    refine cF (by rw [hgap c (by omega)]; omega) (cF (nI_ge (by omega) (by omega)) ?_)
    refine BX11_people_111 (cF nI_1ne ⟨d * 60 + (i + 2 * c), hix c, by omega, usei t_withinL (bT hcm2.1 ⟨d * 60 + (i + 2 * c + 1), by rw [hix, nI_add]; congr 1, by omega, usei t_withinL (bT hcm2.2 ?_)⟩)⟩)
    refine BX11_people_172 (cF nI_1ne ⟨d * 60 + (i + 2 * c), hix c, by omega, d * 60 + (i + 2 * c + 1), by rw [hix, nI_add]; congr 1, by omega, usev (t_adds (n := n + c) (by simp (disch := omega) only [mup_n, mup_s, mput_n, mput_s, mup_mup]) c4) ?_⟩)
    have e : (mup (mup (mup (mup MI 47 (adF (MI 47) (fun p => ML 78 (d * 60 + p)) n i c)) 46 (mput (MI 46) 6 (nI (n + c)))) 47 (mput (mput ((mup (mup MI 47 (adF (MI 47) (fun p => ML 78 (d * 60 + p)) n i c)) 46 (mput (MI 46) 6 (nI (n + c)))) 47) (n + c) (ML 78 (d * 60 + (i + 2 * c))).toInt32) (8 + (n + c)) (ML 78 (d * 60 + (i + 2 * c + 1))).toInt32)) 46 (mput ((mup (mup MI 47 (adF (MI 47) (fun p => ML 78 (d * 60 + p)) n i c)) 46 (mput (MI 46) 6 (nI (n + c)))) 46) 6 (nI (n + c + 1)))) = (mup (mup MI 47 (adF (MI 47) (fun p => ML 78 (d * 60 + p)) n i (c + 1))) 46 (mput (MI 46) 6 (nI (n + (c + 1))))) := by
      funext q p
      simp (disch := omega) only [mup_s, mup_n]
      unfold mup
      by_cases q1 : q = 46
      · subst q1
        rw [if_pos rfl, if_pos rfl]
        unfold mput
        split <;> rfl
      · rw [if_neg q1, if_neg q1]
        by_cases q2 : q = 47
        · subst q2
          rw [if_pos rfl, if_pos rfl]
          rfl
        · rw [if_neg q2, if_neg q2, if_neg q1, if_neg q2]
    rw [e, nI_add]
    exact ih
theorem adF_PB {f : Nat → Int32} {g : Nat → Int64} (hf : PB f) : ∀ {cs : Nat}, (∀ c, c < cs → pcm g n m z i c = true) → PB (adF f g n i cs)
  | 0, _ => hf
  | cs + 1, h => by
    have ih := adF_PB hf (cs := cs) (fun c hc => h c (by omega))
    have h1 := h cs (by omega)
    simp only [pcm, Bool.and_eq_true, decide_eq_true_eq] at h1
    obtain ⟨_, _, h3, h4⟩ := h1
    have h3' : wiB (nI 0) (nI 99) (g (i + 2 * cs)).toInt32 = true ∧ wiB (nI 0) (nI 9) (g (i + 2 * cs + 1)).toInt32 = true := by
      rw [show comeB (g (i + 2 * cs)).toInt32 (g (i + 2 * cs + 1)).toInt32 = (wiB (nI 0) (nI 99) (g (i + 2 * cs)).toInt32 && wiB (nI 0) (nI 9) (g (i + 2 * cs + 1)).toInt32) from rfl, Bool.and_eq_true] at h3
      exact h3
    have b1 := wi_ti h3'.1
    have b2 := wi_ti h3'.2
    rw [nI_toInt (by omega), nI_toInt (by omega)] at b1 b2
    exact (ih.put (p := n + cs) (by omega) ((okv_hu (by omega)).mpr b1)).put (p := 8 + (n + cs)) (by omega) ((okv_wa (by omega)).mpr b2)
end P9
