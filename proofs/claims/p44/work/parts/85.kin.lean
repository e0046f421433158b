/-! the class between two calls of the law: n people, their numbers f, the law in force La, what was led c -/
def KI (n : Nat) (f : Nat → Int32) (La : mLaw) (c : Nat → Int32) (M : mI) : Prop := n ≤ 8 ∧ M 1 0 = nI n ∧ M 2 = f ∧ PB f ∧ Z84 (M 17) ∧ wfL La ∧ LC La (M 6 1) (M 7) ∧ (∃ d, d ≤ 40 ∧ M 39 3 = nI d) ∧ ∀ j, j < 6 → M 34 j = c j
/-- what every call but feed and law leaves; the law's own arrays lie from 46 on -/
def FK (M MI : mI) : Prop := ∀ q, q = 3 ∨ q = 5 ∨ 45 < q → M q = MI q
def FK3 (M MI : mI) : Prop := ∀ q, 45 < q → M q = MI q
theorem FK.rf {M : mI} : FK M M := fun _ _ => rfl
theorem FK.tr {M N MI : mI} (h : FK M N) (h2 : FK N MI) : FK M MI := fun q a => (h q a).trans (h2 q a)
theorem FK.k3 {M MI : mI} (h : FK M MI) : FK3 M MI := fun q a => h q (Or.inr (Or.inr a))
theorem FK3.rf {M : mI} : FK3 M M := fun _ _ => rfl
theorem FK3.tr {M N MI : mI} (h : FK3 M N) (h2 : FK3 N MI) : FK3 M MI := fun q a => (h q a).trans (h2 q a)
/-- the bytes told -/
def TP (l : List Nat) (M : mI) : Prop := l.length ≤ 160 ∧ M 3 3 = nI l.length ∧ ∀ j, j < l.length → M 5 j = nI (l.getD j 0) ∧ l.getD j 0 < 256
theorem TP.k {l : List Nat} {M MI : mI} (h : TP l MI) (hF : FK M MI) : TP l M := by
  obtain ⟨h1, h2, h3⟩ := h
  exact ⟨h1, by rw [hF 3 (Or.inl rfl)]; exact h2, by rw [hF 5 (Or.inr (Or.inl rfl))]; exact h3⟩
theorem KI_c {n : Nat} {f : Nat → Int32} {La : mLaw} {c : Nat → Int32} {M MI : mI} (h : KI n f La c MI) (h1 : M 1 0 = MI 1 0) (h2 : M 2 = MI 2) (h17 : Z84 (M 17)) (h6 : M 6 1 = MI 6 1) (h7 : M 7 = MI 7) (h39 : M 39 3 = MI 39 3) (h34 : M 34 = MI 34) : KI n f La c M := by
  obtain ⟨k8, k1, k2, k3, k4, k5, k6, k7, k9⟩ := h
  exact ⟨k8, h1.trans k1, h2.trans k2, k3, h17, k5, by rw [h6, h7]; exact k6, by rw [h39]; exact k7, by rw [h34]; exact k9⟩
theorem KI_f {n : Nat} {f f' : Nat → Int32} {La : mLaw} {c c' : Nat → Int32} {M MI : mI} (h : KI n f La c MI) (h1 : M 1 0 = MI 1 0) (h2 : M 2 = f') (hf : PB f') (h17 : M 17 = MI 17) (h6 : M 6 1 = MI 6 1) (h7 : M 7 = MI 7) (h39 : M 39 3 = MI 39 3) (h34 : ∀ j, j < 6 → M 34 j = c' j) : KI n f' La c' M := by
  obtain ⟨k8, k1, k2, k3, k4, k5, k6, k7, k9⟩ := h
  exact ⟨k8, h1.trans k1, h2, hf, by rw [h17]; exact k4, k5, by rw [h6, h7]; exact k6, by rw [h39]; exact k7, h34⟩
theorem nx10 {i j : Nat} (hi : i < 8) (hj : j < 8) : nI (10 * i + j) / nI 10 = nI i ∧ nI (10 * i + j) - nI (10 * i + j) / nI 10 * nI 10 = nI j := by
  have e : nI (10 * i + j) / nI 10 = nI i := by
    rw [pk_div (by omega) (by omega) (by omega)]
    congr 1
    omega
  refine ⟨e, ?_⟩
  rw [e, pk_mul, pk_sub (by omega)]
  congr 1
  omega
theorem pr_ok {n i j : Nat} (h8 : n ≤ 8) (hi : i < n) (hj : j < n) (hne : i ≠ j) : pairB n (nI (10 * i + j)) = true := by
  obtain ⟨e1, e2⟩ := nx10 (i := i) (j := j) (by omega) (by omega)
  unfold pairB
  rw [e2, e1, hasB_nI h8 (by omega), hasB_nI h8 (by omega), decide_eq_true hi, decide_eq_true hj, decide_eq_false (nI_nlt (Nat.zero_le _) (by omega)), decide_eq_false (by rw [nI_eq (by omega) (by omega)]; exact hne)]
  rfl
theorem pr_no {n i j : Nat} (h8 : n ≤ 8) (hi : i < 8) (hj : j < 9) (h : n ≤ i ∨ n ≤ j ∨ i = j) : pairB n (nI (10 * i + j)) = false := by
  by_cases hj8 : j = 8
  · subst hj8
    have e : nI (10 * i + 8) / nI 10 = nI i := by
      rw [pk_div (by omega) (by omega) (by omega)]
      congr 1
      omega
    have e2 : nI (10 * i + 8) - nI (10 * i + 8) / nI 10 * nI 10 = nI 8 := by
      rw [e, pk_mul, pk_sub (by omega)]
      congr 1
      omega
    unfold pairB
    rw [e2, hasB_nI (i := 8) h8 (by omega), decide_eq_false (by omega : ¬ 8 < n)]
    simp
  · obtain ⟨e1, e2⟩ := nx10 (i := i) (j := j) (by omega) (by omega)
    unfold pairB
    rw [e2, e1, hasB_nI h8 (by omega), hasB_nI h8 (by omega)]
    by_cases a : i < n
    · by_cases b : j < n
      · have : i = j := by omega
        subst this
        simp
      · simp [b]
    · simp [a]
section K85
variable {n : Nat} {f c : Nat → Int32} {La : mLaw} {MI : mI} {ML : mJ} {l : List Nat}
theorem k_chg {p : Nat} {v : Int32} (hK : KI n f La c MI) (hp : p < 84) (hv : okv p v) : ∃ M, mrc 290 143 [.ref 0, .int (nI p), .int v] MI ML (some (.int (f p))) M ML ∧ KI n (mput f p v) La c M ∧ FK M MI := by
  have hK0 := hK
  obtain ⟨h8, hn, hf, hP, hz, hw, hC, ⟨d, hd, h39⟩, hc⟩ := hK
  subst hf
  by_cases hs : MI 2 p = v
  · refine ⟨MI, mrc_of (EX10_changeTo (BX10_changeTo_0 (usei (s_numberAt bz1 hp) (cT hs eRr)))), ?_, FK.rf⟩
    subst hs
    rw [mput_id]
    exact hK0
  · by_cases e : d = 40
    · subst e
      refine ⟨_, mrc_of (EX10_changeTo (BX10_changeTo_0 (usei (s_numberAt bz1 hp) (cF hs (usev (s_chAddFull h39) (usev (s_setNumber bz1 hp) eRr)))))), ⟨h8, by simp (disch := omega) only [mup_n, mup_s, mput_n, mput_s, mup_mup]; exact hn, by simp (disch := omega) only [mup_n, mup_s, mput_n, mput_s, mup_mup], hP.put hp hv, by simp (disch := omega) only [mup_n, mup_s, mput_n, mput_s, mup_mup]; exact hz, hw, by simp (disch := omega) only [mup_n, mup_s, mput_n, mput_s, mup_mup]; exact hC, ⟨40, by omega, by simp (disch := omega) only [mup_n, mup_s, mput_n, mput_s, mup_mup]⟩, by simp (disch := omega) only [mup_n, mup_s, mput_n, mput_s, mup_mup]; exact hc⟩, (fun q hq => by simp (disch := omega) only [mup_n])⟩
    · refine ⟨_, mrc_of (EX10_changeTo (BX10_changeTo_0 (usei (s_numberAt bz1 hp) (cF hs (usev (s_chAdd h39 (by omega)) (usev (s_setNumber bz1 hp) eRr)))))), ⟨h8, by simp (disch := omega) only [mup_n, mup_s, mput_n, mput_s, mup_mup]; exact hn, by simp (disch := omega) only [mup_n, mup_s, mput_n, mput_s, mup_mup], hP.put hp hv, by simp (disch := omega) only [mup_n, mup_s, mput_n, mput_s, mup_mup]; exact hz, hw, by simp (disch := omega) only [mup_n, mup_s, mput_n, mput_s, mup_mup]; exact hC, ⟨d + 1, by omega, by simp (disch := omega) only [mup_n, mup_s, mput_n, mput_s, mup_mup]⟩, by simp (disch := omega) only [mup_n, mup_s, mput_n, mput_s, mup_mup]; exact hc⟩, (fun q hq => by simp (disch := omega) only [mup_n])⟩
theorem k_mend {i : Nat} {v : Int32} (hK : KI n f La c MI) (hi : 2 ≤ i) (hi6 : i < 6) (hv : okv (14 + i) v) : ∃ M, mrc 300 137 [.ref 0, .int (nI 0), .int (nI i), .int v] MI ML (some (.int (f (14 + i)))) M ML ∧ KI n (mput f (14 + i) v) La c M ∧ FK M MI := by
  obtain ⟨M, k1, k2, k3⟩ := k_chg (ML := ML) hK (by omega : 14 + i < 84) hv
  have hn := hK.2.1
  have hpl : plc n (nI 0) (nI i) = nI (14 + i) := by
    unfold plc
    match i, hi, hi6 with
    | 2, _, _ => rfl
    | 3, _, _ => rfl
    | 4, _, _ => rfl
    | 5, _, _ => rfl
  have hlo : ¬ v < nI 0 := by
    have := hv.1
    rw [fa_lt, nI_toInt (by omega)]
    unfold lob at this
    rw [if_pos (by omega)] at this
    omega
  have hhi : v ≤ mtab1 i := by
    have := hv.2
    rw [fa_le]
    match i, hi, hi6, this with
    | 2, _, _, h => exact h
    | 3, _, _, h => exact h
    | 4, _, _, h => exact h
    | 5, _, _, h => exact h
  refine ⟨M, mrc_of (EX10_mend (BX10_mend_0 (usei (s_placeOf bz1 hn) (cF ?_ (cF hlo (usei (s_mostOf hi6) (cT hhi (usei (mrc_le (hpl ▸ k1) (by omega)) eRr)))))))), k2, k3⟩
  rw [hpl]
  exact nI_nlt (Nat.zero_le _) (by omega)
theorem k_person {h w : Nat} (hK : KI n f La c MI) (hn7 : n < 8) (hh : h < 100) (hw : w < 10) : ∃ M, mrc 300 135 [.ref 0, .int (nI h), .int (nI w)] MI ML (some (.int (nI n))) M ML ∧ KI (n + 1) (mput (mput f n (nI h)) (8 + n) (nI w)) La c M ∧ FK M MI := by
  obtain ⟨h8, hn, hf, hP, hz, hwf, hC, h39, hc⟩ := hK
  subst hf
  have hcm : comeB (nI h) (nI w) = true := by
    unfold comeB
    rw [decide_eq_false (nI_nlt (Nat.zero_le _) (by omega)), decide_eq_false (nI_nlt (Nat.zero_le _) (by omega)), decide_eq_false (nI_nlt (by omega : h ≤ 99) (by omega)), decide_eq_false (nI_nlt (by omega : w ≤ 9) (by omega))]
    rfl
  refine ⟨_, mrc_of (EX10_person (BX10_person_0 (usei s_mayCome (bT hcm (usei (s_admit bz1 hn hn7) eRr))))), ⟨by omega, by simp (disch := omega) only [mup_n, mup_s, mput_n, mput_s, mup_mup], by simp (disch := omega) only [mup_n, mup_s, mput_n, mput_s, mup_mup], ?_, by simp (disch := omega) only [mup_n, mup_s, mput_n, mput_s, mup_mup]; exact hz, hwf, by simp (disch := omega) only [mup_n, mup_s, mput_n, mput_s, mup_mup]; exact hC, by simp (disch := omega) only [mup_n, mup_s, mput_n, mput_s, mup_mup]; exact h39, by simp (disch := omega) only [mup_n, mup_s, mput_n, mput_s, mup_mup]; exact hc⟩, (fun q hq => by simp (disch := omega) only [mup_n])⟩
  exact (hP.put (by omega) ((okv_hu hn7).mpr (by rw [nI_toInt (by omega)]; omega))).put (by omega) ((okv_wa hn7).mpr (by rw [nI_toInt (by omega)]; omega))
theorem fe_B {i j : Nat} (hi : i < 8) (hj : j < 8) (hne : i ≠ j) {v : Int32} (h : okv (20 + i * 8 + j) v) : feelB v = true := by
  obtain ⟨h1, h2⟩ := (okv_ft hi hj hne).mp h
  have m9' : (-9 : Int32).toInt = -9 := by decide
  unfold feelB
  rw [decide_eq_false (by rw [fa_lt, m9']; omega), decide_eq_false (by rw [fa_lt, nI_toInt (by omega)]; omega)]
  rfl
theorem k_feel {i j : Nat} {v : Int32} (hK : KI n f La c MI) (hi : i < n) (hj : j < n) (hne : i ≠ j) (hv : okv (20 + i * 8 + j) v) : ∃ M, mrc 300 139 [.ref 0, .int (nI (10 * i + j)), .int v] MI ML (some (.int (f (20 + i * 8 + j) + nI 100))) M ML ∧ KI n (mput f (20 + i * 8 + j) v) La c M ∧ FK M MI := by
  have h8 := hK.1
  obtain ⟨M, k1, k2, k3⟩ := k_chg (ML := ML) hK (by omega : 20 + i * 8 + j < 84) hv
  obtain ⟨e1, e2⟩ := nx10 (i := i) (j := j) (by omega) (by omega)
  refine ⟨M, mrc_of (EX10_feel (BX10_feel_0 (usei (s_hasPair bz1 hK.2.1) (bT (pr_ok h8 hi hj hne) (usei s_isFeeling (bT (fe_B (by omega) (by omega) hne hv) ?_)))))), k2, k3⟩
  rw [e2, e1]
  exact usei s_placeOfFeeling (usei (mrc_le k1 (by omega)) eRr)
theorem k_feeling {i j : Nat} (hK : KI n f La c MI) (hi : i < n) (hj : j < n) (hne : i ≠ j) : mrc 300 140 [.ref 0, .int (nI (10 * i + j))] MI ML (some (.int (f (20 + i * 8 + j) + nI 100))) MI ML := by
  have h8 := hK.1
  have hf := hK.2.2.1
  subst hf
  obtain ⟨e1, e2⟩ := nx10 (i := i) (j := j) (by omega) (by omega)
  refine mrc_of (EX10_feeling (BX10_feeling_0 (usei (s_hasPair bz1 hK.2.1) (bT (pr_ok h8 hi hj hne) ?_))))
  rw [e2, e1]
  exact usei (s_felt bz1 (by omega) (by omega)) eRr
theorem k_feelingR {x : Int32} (hK : KI n f La c MI) (h : pairB n x = false) : mrc 300 140 [.ref 0, .int x] MI ML (some (.int (-1))) MI ML := mrc_of (EX10_feeling (BX10_feeling_0 (usei (s_hasPair bz1 hK.2.1) (bF h eRr))))
theorem k_of {i w : Nat} (hK : KI n f La c MI) (hi : i < n) (hw : w < 2) : mrc 300 138 [.ref 0, .int (nI i), .int (nI w)] MI ML (some (.int (f (8 * w + i)))) MI ML := by
  have h8 := hK.1
  have hf := hK.2.2.1
  subst hf
  have hpl : plc n (nI i) (nI w) = nI (8 * w + i) := by
    unfold plc
    match w, hw with
    | 0, _ => rw [if_pos (by decide), hasB_nI h8 (by omega), decide_eq_true hi, if_pos rfl, if_pos rfl, nI_add]
    | 1, _ => rw [if_pos (by decide), hasB_nI h8 (by omega), decide_eq_true hi, if_pos rfl, if_neg (by decide), nI_add]
  refine mrc_of (EX10_of (BX10_of_0 (usei (s_placeOf bz1 hK.2.1) ?_)))
  rw [hpl]
  exact cT (nI_le (Nat.zero_le _) (by omega)) (usei (s_numberAt bz1 (by omega)) eRr)
theorem k_ofDay (hK : KI n f La c MI) : mrc 300 138 [.ref 0, .int (nI 0), .int (nI 5)] MI ML (some (.int (f 19))) MI ML := by
  have hf := hK.2.2.1
  subst hf
  have hpl : plc n (nI 0) (nI 5) = nI 19 := rfl
  refine mrc_of (EX10_of (BX10_of_0 (usei (s_placeOf bz1 hK.2.1) ?_)))
  rw [hpl]
  exact cT (nI_le (Nat.zero_le _) (by omega)) (usei (s_numberAt bz1 (by omega)) eRr)
theorem cnt_ok {d : Nat} {x : Int32} {g : Nat → Int32} (h : ∀ j, j < 6 → g j = c j) (hd : d < 6) : ∀ j, j < 6 → mput g d (g d + x) j = mput c d (c d + x) j := by
  intro j hj
  unfold mput
  split
  · rw [h d hd]
  · exact h j hj
theorem k_wrong {i j v : Nat} (hK : KI n f La c MI) (hi : i < n) (hj : j < n) (hne : i ≠ j) (h1 : 1 ≤ v) (h9 : v ≤ 9) : ∃ M, mrc 300 159 [.ref 0, .int (nI (10 * i + j)), .int (nI v)] MI ML (some (.int ((if f (20 + j * 8 + i) - nI v < -9 then -9 else f (20 + j * 8 + i) - nI v) + nI 100))) M ML ∧ KI n (mput f (20 + j * 8 + i) (if f (20 + j * 8 + i) - nI v < -9 then -9 else f (20 + j * 8 + i) - nI v)) La (mput c 3 (c 3 + nI 1)) M ∧ FK M MI := by
  have hK0 := hK
  obtain ⟨h8, hn, hf, hP, hz, hwf, hC, h39, hc⟩ := hK
  subst hf
  obtain ⟨e1, e2⟩ := nx10 (i := i) (j := j) (by omega) (by omega)
  refine ⟨(mup (mup MI 2 (mput (MI 2) (20 + j * 8 + i) (if MI 2 (20 + j * 8 + i) - nI v < -9 then -9 else MI 2 (20 + j * 8 + i) - nI v))) 34 (mput (MI 34) 3 (MI 34 3 + nI 1))), mrc_of (EX10_wrong (BX10_wrong_0 (usei (s_hasPair bz1 hn) (bT (pr_ok h8 hi hj hne) (cF (nI_nlt h1 (by omega)) (cT (nI_le h9 (by omega)) ?_)))))), KI_f hK0 (by simp (disch := omega) only [mup_n, mup_s, mput_n, mput_s, mup_mup]) (by simp (disch := omega) only [mup_n, mup_s, mput_n, mput_s, mup_mup]) ?_ (by simp (disch := omega) only [mup_n, mup_s, mput_n, mput_s, mup_mup]) (by simp (disch := omega) only [mup_n, mup_s, mput_n, mput_s, mup_mup]) (by simp (disch := omega) only [mup_n, mup_s, mput_n, mput_s, mup_mup]) (by simp (disch := omega) only [mup_n, mup_s, mput_n, mput_s, mup_mup]) (by simp (disch := omega) only [mup_n, mup_s, mput_n, mput_s, mup_mup]; exact cnt_ok hc (by omega)), (fun q hq => by simp (disch := omega) only [mup_n])⟩
  · rw [e2, e1]
    exact usei (s_felt bz1 (by omega) (by omega)) (usev (s_setFelt bz1 (by omega) (by omega)) (usev (s_bkAdd (by decide)) (iR rfl (by simp (disch := omega) only [mup_n, mup_s, mput_n, mput_s, mup_mup]))))
  · refine hP.put (by omega) ?_
    have b3 := (okv_ft (by omega) (by omega) (by omega)).mp (hP.1 (20 + j * 8 + i) (by omega))
    rw [okv_ft (by omega) (by omega) (by omega)]
    have ev : (nI v).toInt = v := nI_toInt (by omega)
    have es := ti_sub (x := MI 2 (20 + j * 8 + i)) (y := nI v) (by omega) (by omega) (by omega) (by omega)
    split
    · rw [m9]; omega
    · next hh => rw [fa_lt, m9] at hh; omega
theorem k_wrongR {x v : Int32} (hK : KI n f La c MI) (h : pairB n x = false ∨ v < nI 1) : mrc 300 159 [.ref 0, .int x, .int v] MI ML (some (.int (-1))) MI ML := by
  cases hp : pairB n x with
  | false => exact mrc_of (EX10_wrong (BX10_wrong_0 (usei (s_hasPair bz1 hK.2.1) (bF hp eRr))))
  | true => exact mrc_of (EX10_wrong (BX10_wrong_0 (usei (s_hasPair bz1 hK.2.1) (bT hp (cT (h.resolve_left (by rw [hp]; decide)) eRr)))))
theorem k_gift {i j v : Nat} (hK : KI n f La c MI) (hi : i < n) (hj : j < n) (hne : i ≠ j) (h1 : 1 ≤ v) (h9 : v ≤ 99) : ∃ M, mrc 300 161 [.ref 0, .int (nI (10 * i + j)), .int (nI v)] MI ML (some (.int (mn (f i + nI v) (nI 99)))) M ML ∧ KI n (mput (mput f i (mn (f i + nI v) (nI 99))) j (mx (f j - nI v) (nI 0))) La (mput c 5 (c 5 + nI 1)) M ∧ FK M MI := by
  have hK0 := hK
  obtain ⟨h8, hn, hf, hP, hz, hwf, hC, h39, hc⟩ := hK
  subst hf
  obtain ⟨e1, e2⟩ := nx10 (i := i) (j := j) (by omega) (by omega)
  refine ⟨(mup (mup MI 2 (mput (mput (MI 2) i (mn (MI 2 i + nI v) (nI 99))) j (mx (MI 2 j - nI v) (nI 0)))) 34 (mput (MI 34) 5 (MI 34 5 + nI 1))), mrc_of (EX10_gift (BX10_gift_0 (usei (s_hasPair bz1 hn) (bT (pr_ok h8 hi hj hne) (cF (nI_nlt h1 (by omega)) (cT (nI_le h9 (by omega)) ?_)))))), KI_f hK0 (by simp (disch := omega) only [mup_n, mup_s, mput_n, mput_s, mup_mup]) (by simp (disch := omega) only [mup_n, mup_s, mput_n, mput_s, mup_mup]) ?_ (by simp (disch := omega) only [mup_n, mup_s, mput_n, mput_s, mup_mup]) (by simp (disch := omega) only [mup_n, mup_s, mput_n, mput_s, mup_mup]) (by simp (disch := omega) only [mup_n, mup_s, mput_n, mput_s, mup_mup]) (by simp (disch := omega) only [mup_n, mup_s, mput_n, mput_s, mup_mup]) (by simp (disch := omega) only [mup_n, mup_s, mput_n, mput_s, mup_mup]; exact cnt_ok hc (by omega)), (fun q hq => by simp (disch := omega) only [mup_n])⟩
  · rw [e2, e1]
    refine usev (s_hungerMore bz1 (by omega)) (usev (s_hungerLess bz1 (by omega)) (usev (s_bkAdd (by decide)) (usei (s_hungerOf bz1 (by omega)) (iR ?_ ?_))))
    · simp (disch := omega) only [mup_n, mup_s, mput_n, mput_s, mup_mup]
    · simp (disch := omega) only [mup_n, mup_s, mput_n, mput_s, mup_mup]
  · have b1 := (okv_hu (by omega : i < 8)).mp (hP.1 i (by omega))
    have b2 := (okv_hu (by omega : j < 8)).mp (hP.1 j (by omega))
    have ev : (nI v).toInt = v := nI_toInt (by omega)
    refine (hP.put (by omega) ((okv_hu (by omega)).mpr ?_)).put (by omega) ((okv_hu (by omega)).mpr ?_)
    · have e99 : (nI 99).toInt = 99 := by decide
      rw [mn_ti, ti_add (by omega) (by omega) (by omega) (by omega), e99]
      omega
    · rw [mx_ti, ti_sub (by omega) (by omega) (by omega) (by omega), nI0_ti]
      omega
theorem k_giftR {x v : Int32} (hK : KI n f La c MI) (h : pairB n x = false ∨ (¬ v < nI 1 ∧ ¬ v ≤ nI 99)) : mrc 300 161 [.ref 0, .int x, .int v] MI ML (some (.int (-1))) MI ML := by
  cases hp : pairB n x with
  | false => exact mrc_of (EX10_gift (BX10_gift_0 (usei (s_hasPair bz1 hK.2.1) (bF hp eRr))))
  | true =>
    have := h.resolve_left (by rw [hp]; decide)
    exact mrc_of (EX10_gift (BX10_gift_0 (usei (s_hasPair bz1 hK.2.1) (bT hp (cF this.1 (cF this.2 eRr))))))
theorem k_leaseR {x v : Int32} (hK : KI n f La c MI) (h : pairB n x = false) : mrc 300 160 [.ref 0, .int x, .int v] MI ML (some (.int (-1))) MI ML := mrc_of (EX10_lease (BX10_lease_0 (usei (s_hasPair bz1 hK.2.1) (bF h eRr))))
theorem k_leaseN {i j k : Nat} (hK : KI n f La c MI) (hi : i < n) (hj : j < n) (hne : i ≠ j) (hk : k < n) (h : k = i ∨ k = j) : mrc 300 160 [.ref 0, .int (nI (10 * i + j)), .int (nI k)] MI ML (some (.int (-1))) MI ML := by
  have h8 := hK.1
  obtain ⟨e1, e2⟩ := nx10 (i := i) (j := j) (by omega) (by omega)
  refine mrc_of (EX10_lease (BX10_lease_0 (usei (s_hasPair bz1 hK.2.1) (bT (pr_ok h8 hi hj hne) (usei (s_has bz1 hK.2.1) (bT (by rw [hasB_nI h8 (by omega), decide_eq_true hk]) ?_))))))
  rw [e2, e1]
  by_cases q : k = i
  · exact cT (by rw [q]) eRr
  · exact cF (by rw [nI_eq (by omega) (by omega)]; exact q) (cT (by rw [h.resolve_left q]) eRr)
theorem k_leaseZ {i j k : Nat} (hK : KI n f La c MI) (hi : i < n) (hj : j < n) (hne : i ≠ j) (hk : k < n) (h1 : k ≠ i) (h2 : k ≠ j) (h : ¬ f (20 + j * 8 + k) < nI 0) : mrc 300 160 [.ref 0, .int (nI (10 * i + j)), .int (nI k)] MI ML (some (.int (-5))) MI ML := by
  have h8 := hK.1
  have hf := hK.2.2.1
  subst hf
  obtain ⟨e1, e2⟩ := nx10 (i := i) (j := j) (by omega) (by omega)
  refine mrc_of (EX10_lease (BX10_lease_0 (usei (s_hasPair bz1 hK.2.1) (bT (pr_ok h8 hi hj hne) (usei (s_has bz1 hK.2.1) (bT (by rw [hasB_nI h8 (by omega), decide_eq_true hk]) ?_))))))
  rw [e2, e1]
  exact cF (by rw [nI_eq (by omega) (by omega)]; exact h1) (cF (by rw [nI_eq (by omega) (by omega)]; exact h2) (usei (s_felt bz1 (by omega) (by omega)) (cF h eRr)))
theorem k_leaseY {i j k : Nat} (hK : KI n f La c MI) (hi : i < n) (hj : j < n) (hne : i ≠ j) (hk : k < n) (h1 : k ≠ i) (h2 : k ≠ j) (h : f (20 + j * 8 + k) < nI 0) : ∃ M, mrc 300 160 [.ref 0, .int (nI (10 * i + j)), .int (nI k)] MI ML (some (.int (f (20 + j * 8 + k) + nI 100))) M ML ∧ KI n (mput (mput f (20 + i * 8 + k) (f (20 + j * 8 + k))) (20 + j * 8 + k) (nI 0)) La (mput c 4 (c 4 + nI 1)) M ∧ FK M MI := by
  have hK0 := hK
  obtain ⟨h8, hn, hf, hP, hz, hwf, hC, h39, hc⟩ := hK
  subst hf
  obtain ⟨e1, e2⟩ := nx10 (i := i) (j := j) (by omega) (by omega)
  refine ⟨(mup (mup MI 2 (mput (mput (MI 2) (20 + i * 8 + k) (MI 2 (20 + j * 8 + k))) (20 + j * 8 + k) (nI 0))) 34 (mput (MI 34) 4 (MI 34 4 + nI 1))), mrc_of (EX10_lease (BX10_lease_0 (usei (s_hasPair bz1 hn) (bT (pr_ok h8 hi hj hne) (usei (s_has bz1 hn) (bT (by rw [hasB_nI h8 (by omega), decide_eq_true hk]) ?_)))))), KI_f hK0 (by simp (disch := omega) only [mup_n, mup_s, mput_n, mput_s, mup_mup]) (by simp (disch := omega) only [mup_n, mup_s, mput_n, mput_s, mup_mup]) ?_ (by simp (disch := omega) only [mup_n, mup_s, mput_n, mput_s, mup_mup]) (by simp (disch := omega) only [mup_n, mup_s, mput_n, mput_s, mup_mup]) (by simp (disch := omega) only [mup_n, mup_s, mput_n, mput_s, mup_mup]) (by simp (disch := omega) only [mup_n, mup_s, mput_n, mput_s, mup_mup]) (by simp (disch := omega) only [mup_n, mup_s, mput_n, mput_s, mup_mup]; exact cnt_ok hc (by omega)), (fun q hq => by simp (disch := omega) only [mup_n])⟩
  · rw [e2, e1]
    exact cF (by rw [nI_eq (by omega) (by omega)]; exact h1) (cF (by rw [nI_eq (by omega) (by omega)]; exact h2) (usei (s_felt bz1 (by omega) (by omega)) (cT h (usev (s_setFelt bz1 (by omega) (by omega)) (usev (s_setFelt bz1 (by omega) (by omega)) (usev (s_bkAdd (by decide)) (iR rfl (by simp (disch := omega) only [mup_n, mup_s, mput_n, mput_s, mup_mup]))))))))
  · have b3 := (okv_ft (by omega) (by omega) (by omega)).mp (hP.1 (20 + j * 8 + k) (by omega))
    exact (hP.put (by omega) ((okv_ft (by omega) (by omega) (by omega)).mpr b3)).put (by omega) (okv_0 _ (by omega))
theorem k_day (hK : KI n f La c MI) : ∃ M, mrc 300 158 [.ref 0] MI ML (some (.int (nI (dyL La n f).length))) M ML ∧ KI n (dyF La n f) La (ctF c (dyL La n f).length n) M ∧ FK M MI ∧ M 33 2 = nI (tlB (dyL La n f)).length := by
  have hK0 := hK
  obtain ⟨h8, hn, hf, hP, hz, hw, hC, h39, hc⟩ := hK
  subst hf
  obtain ⟨M1, c1, c2, c3, c4⟩ := s_goByA (D := 292) (ML := ML) (MI := MI) (La := La) (n := n) hn h8 hP hw hC
  have hlen : (dyL La n (MI 2)).length ≤ 8 := Nat.le_trans (dyL_ok (La := La) h8 hP).2 h8
  generalize dyL La n (MI 2) = L at *
  have f1 : ∀ q, q ≠ 2 → (q < 28 ∨ 32 < q) → q ≠ 8 → q ≠ 9 → M1 q = MI q := fun q a b c d => c4 q a (by omega) (by omega) (by omega) (by omega) (by omega) c d
  have ct := s_tell (D := 296) (ML := ML) (n := n) hlen c3
  refine ⟨wcS (tlB L) 0 (mup (mup M1 34 (ctF (M1 34) L.length n)) 33 (mput (M1 33) 2 (nI 0))), ?_, ?_, ?_, ?_⟩
  · refine mrc_of (EX10_day (BX10_day_0 (usei c1 ?_)))
    rw [f1 1 (by decide) (by decide) (by decide) (by decide), hn]
    exact usev ct eRr
  · have fN : ∀ q, q ≠ 2 → (q < 28 ∨ 35 < q) → q ≠ 8 → q ≠ 9 → wcS (tlB L) 0 (mup (mup M1 34 (ctF (M1 34) L.length n)) 33 (mput (M1 33) 2 (nI 0))) q = MI q := fun q a b c d => by
      rw [wcS_o (by omega) (by omega), mup_n (by omega), mup_n (by omega), f1 q a (by omega) c d]
    refine KI_f hK0 (by rw [fN 1 (by decide) (by decide) (by decide) (by decide)]) ?_ (dyF_PB h8 hP) (fN 17 (by decide) (by decide) (by decide) (by decide)) (by rw [fN 6 (by decide) (by decide) (by decide) (by decide)]) (fN 7 (by decide) (by decide) (by decide) (by decide)) (by rw [fN 39 (by decide) (by decide) (by decide) (by decide)]) ?_
    · rw [wcS_o (by decide) (by decide), mup_n (by decide), mup_n (by decide), c2]
    · intro j hj
      rw [wcS_o (by decide) (by decide)]
      simp (disch := omega) only [mup_n, mup_s, mput_n, mput_s, mup_mup]
      rw [f1 34 (by decide) (by decide) (by decide) (by decide)]
      unfold ctF mput
      rw [hc 0 (by omega), hc 1 (by omega), hc 2 (by omega), hc j hj]
  · intro q hq
    rw [wcS_o (by omega) (by omega), mup_n (by omega), mup_n (by omega), f1 q (by omega) (by omega) (by omega) (by omega)]
  · rw [wcS_c, Nat.zero_add]
theorem k_tale : mrc 300 162 [.ref 0, .int (-1)] MI ML (some (.int (MI 33 2))) MI ML := mrc_of (EX10_tale (BX10_tale_0 (cT (by decide) (cT rfl (usei s_taleLength eRr)))))
theorem k_led {j : Nat} (hK : KI n f La c MI) (hj : j < 6) : mrc 300 163 [.ref 0, .int (nI j)] MI ML (some (.int (c j))) MI ML := by
  have hc := hK.2.2.2.2.2.2.2.2 j hj
  rw [← hc]
  exact mrc_of (EX10_led (BX10_led_0 (cF (nI_nlt (Nat.zero_le _) (by omega)) (cT (nI_lt hj (by omega)) (usei (s_told hj) eRr)))))
theorem k_ledR : mrc 300 163 [.ref 0, .int (nI 6)] MI ML (some (.int (-1))) MI ML := mrc_of (EX10_led (BX10_led_0 (cF (by decide) (cF (by decide) eRr))))
theorem k_count (hK : KI n f La c MI) : mrc 300 177 [.ref 0, .int (nI 5)] MI ML (some (.int (nI (sm (fun b => cn (fun i => !decide (nI 0 ≤ f (20 + i * 8 + b))) n) n)))) MI ML := by
  obtain ⟨h8, hn, hf, _⟩ := hK
  subst hf
  exact mrc_of (EX10_count (BX10_count_0 (cF (by decide) (cF (by decide) (cF (by decide) (cF (by decide) (cF (by decide) (cT rfl (usei (s_feelingsBelowNone bz1 hn h8) eRr)))))))))
/-- days in thought begin -/
theorem k_begin {D : Nat} {M : mI} (hK : KI n f La c MI) (hF : FA M MI) (hz : Z84 (M 17)) : ∃ M', mrc (D + 3) 122 [.ref 15] M ML none M' ML ∧ WC n La f M' ∧ FA M' M := by
  obtain ⟨h8, hn, hf, hP, hz0, hw, hC, h39, hc⟩ := hK
  subst hf
  have e2 : M 2 = MI 2 := hF 2 (by decide) (by decide) (by decide)
  have hb := s_takeOver (D := D + 1) (MI := M) (ML := ML) bz16 bz1 (by decide)
  rw [cpy84 (by rw [e2]; exact hP.2) hz, e2] at hb
  refine ⟨_, mrc_of (EX9_begin (BX9_begin_0 (usev hb eRr))), ⟨h8, ?_, mup_s, hP, hw, ?_⟩, fun q a b c => ?_⟩
  · simp (disch := omega) only [mup_n, mup_s, mput_n, mput_s, mup_mup]
    rw [hF 1 (by decide) (by decide) (by decide)]
    exact hn
  · simp (disch := omega) only [mup_n, mup_s, mput_n, mput_s, mup_mup]
    rw [hF 6 (by decide) (by decide) (by decide), hF 7 (by decide) (by decide) (by decide)]
    exact hC
  · rw [mup_n (by omega), mup_n (by omega)]
theorem KI_A {M : mI} (hK : KI n f La c MI) (hF : FA M MI) (hz : Z84 (M 17)) : KI n f La c M ∧ FK M MI := ⟨KI_c hK (by rw [hF 1 (by decide) (by decide) (by decide)]) (hF 2 (by decide) (by decide) (by decide)) hz (by rw [hF 6 (by decide) (by decide) (by decide)]) (hF 7 (by decide) (by decide) (by decide)) (by rw [hF 39 (by decide) (by decide) (by decide)]) (hF 34 (by decide) (by decide) (by decide)), fun q hq => hF q (by omega) (by omega) (by omega)⟩
theorem wi_d {d m : Nat} (hd : d ≤ m) (hm : m < 1000) : wiB (nI 0) (nI m) (nI d) = true := by
  unfold wiB
  rw [decide_eq_false (nI_nlt (Nat.zero_le _) (by omega)), decide_eq_false (nI_nlt hd (by omega))]
  rfl
theorem k_laterA {d : Nat} (hK : KI n f La c MI) (hd : d ≤ 40) : ∃ M, mrc 300 147 [.ref 0, .int (nI d), .int (-1)] MI ML (some (.int (nI (fdN La n f d)))) M ML ∧ KI n f La c M ∧ FK M MI := by
  obtain ⟨M, b1, b2, b3⟩ := k_begin (D := 296) (ML := ML) hK FA.rf hK.2.2.2.2.1
  obtain ⟨M2, g1, g2, g3⟩ := c_goOn (D := 291) (ML := ML) b2 (d := d) (by omega)
  exact ⟨M2, mrc_of (EX10_later (BX10_later_0 (rngT (wi_d hd (by omega)) (usei (s_isOneOrAll hK.2.1) (bT rfl (usev b1 (usei g1 (cT rfl eRr)))))))), KI_A hK (g3.a.tr b3) g2.z⟩
theorem k_later {d one : Nat} (hK : KI n f La c MI) (hd : d ≤ 40) (ho : one < n) : ∃ M, mrc 300 147 [.ref 0, .int (nI d), .int (nI one)] MI ML (some (.int (dyN La n f d one))) M ML ∧ KI n f La c M ∧ FK M MI := by
  have h8 := hK.1
  obtain ⟨M, b1, b2, b3⟩ := k_begin (D := 296) (ML := ML) hK FA.rf hK.2.2.2.2.1
  obtain ⟨M2, g1, g2, g3⟩ := c_goOn (D := 291) (ML := ML) b2 (d := d) (by omega)
  exact ⟨M2, mrc_of (EX10_later (BX10_later_0 (rngT (wi_d hd (by omega)) (usei (s_isOneOrAll hK.2.1) (bT (by rw [hasB_nI h8 (by omega), decide_eq_true ho, Bool.or_true]) (usev b1 (usei g1 (cF (nI_m1 (by omega)) (usei (s_hungerOf bz16 (by omega)) (iR (by rw [g2.2.2.1]) rfl)))))))))), KI_A hK (g3.a.tr b3) g2.z⟩
theorem k_laterR1 {x y : Int32} (h : ¬ wiB (nI 0) (nI 40) x = true) : mrc 300 147 [.ref 0, .int x, .int y] MI ML (some (.int (-1))) MI ML := mrc_of (EX10_later (BX10_later_0 (rngF h eRr)))
theorem k_laterR2 {d one : Nat} (hK : KI n f La c MI) (hd : d ≤ 40) (h1 : n ≤ one) (h2 : one < 9) : mrc 300 147 [.ref 0, .int (nI d), .int (nI one)] MI ML (some (.int (-1))) MI ML := by
  have h8 := hK.1
  have hm : ¬ nI one = -1 := by
    have : ∀ x : Fin 9, ¬ nI x.val = -1 := by decide
    exact this ⟨one, h2⟩
  exact mrc_of (EX10_later (BX10_later_0 (rngT (wi_d hd (by omega)) (usei (s_isOneOrAll hK.2.1) (bF (by rw [hasB_nI h8 (by omega), decide_eq_false (by omega : ¬ one < n), decide_eq_false hm]; rfl) eRr)))))
theorem k_felt {d i j : Nat} (hK : KI n f La c MI) (hd : d ≤ 40) (hi : i < n) (hj : j < n) (hne : i ≠ j) : ∃ M, mrc 300 148 [.ref 0, .int (nI d), .int (nI (10 * i + j))] MI ML (some (.int (dyN La n f d (20 + i * 8 + j) + nI 100))) M ML ∧ KI n f La c M ∧ FK M MI := by
  have h8 := hK.1
  obtain ⟨e1, e2⟩ := nx10 (i := i) (j := j) (by omega) (by omega)
  obtain ⟨M, b1, b2, b3⟩ := k_begin (D := 296) (ML := ML) hK FA.rf hK.2.2.2.2.1
  obtain ⟨M2, g1, g2, g3⟩ := c_goOn (D := 291) (ML := ML) b2 (d := d) (by omega)
  refine ⟨M2, mrc_of (EX10_feltLater (BX10_feltLater_0 (rngT (wi_d hd (by omega)) (usei (s_hasPair bz1 hK.2.1) (bT (pr_ok h8 hi hj hne) (usev b1 (usei g1 ?_))))))), KI_A hK (g3.a.tr b3) g2.z⟩
  rw [e2, e1]
  exact usei (s_felt bz16 (by omega) (by omega)) (iR (by rw [g2.2.2.1]) rfl)
theorem k_lasts {one : Nat} (hK : KI n f La c MI) (ho : one < n) : ∃ M, mrc 300 149 [.ref 0, .int (nI one)] MI ML (some (.int (nI (lst La n f one)))) M ML ∧ KI n f La c M ∧ FK M MI := by
  have h8 := hK.1
  obtain ⟨M, b1, b2, b3⟩ := k_begin (D := 296) (ML := ML) hK FA.rf hK.2.2.2.2.1
  obtain ⟨M2, f', g1, g2, g3⟩ := c_daysFed (D := 291) (ML := ML) b2 ho
  exact ⟨M2, mrc_of (EX10_lasts (BX10_lasts_0 (usei (s_has bz1 hK.2.1) (bT (by rw [hasB_nI h8 (by omega), decide_eq_true ho]) (usev b1 (usei g1 eRr)))))), KI_A hK (g3.a.tr b3) g2.z⟩
theorem k_lastsR {one : Nat} (hK : KI n f La c MI) (h1 : n ≤ one) (h2 : one < 9) : mrc 300 149 [.ref 0, .int (nI one)] MI ML (some (.int (-1))) MI ML := mrc_of (EX10_lasts (BX10_lasts_0 (usei (s_has bz1 hK.2.1) (bF (by rw [hasB_nI hK.1 (by omega), decide_eq_false (by omega : ¬ one < n)]) eRr))))
theorem getD_app2 {α : Type} {l : List α} {x d : α} {j : Nat} : (l ++ [x]).getD j d = if j < l.length then l.getD j d else if j = l.length then x else d := getD_snoc
theorem k_feed {x : Nat} (hK : KI n f La c MI) (hT : TP l MI) (hl : l.length < 160) (hx : x < 256) : ∃ M, mrc 300 141 [.ref 0, .int (nI x)] MI ML (some (.int (nI (l.length + 1)))) M ML ∧ KI n f La c M ∧ TP (l ++ [x]) M ∧ FK3 M MI := by
  obtain ⟨t1, t2, t3⟩ := hT
  refine ⟨_, mrc_of (EX10_feed (BX10_feed_0 (cF (nI_nlt (Nat.zero_le _) (by omega)) (cT (nI_le (by omega) (by omega)) (usei (s_take t2 hl) eRr))))), KI_c hK (by simp (disch := omega) only [mup_n, mup_s, mput_n, mput_s, mup_mup]) (by simp (disch := omega) only [mup_n, mup_s, mput_n, mput_s, mup_mup]) (by simp (disch := omega) only [mup_n, mup_s, mput_n, mput_s, mup_mup]; exact hK.2.2.2.2.1) (by simp (disch := omega) only [mup_n, mup_s, mput_n, mput_s, mup_mup]) (by simp (disch := omega) only [mup_n, mup_s, mput_n, mput_s, mup_mup]) (by simp (disch := omega) only [mup_n, mup_s, mput_n, mput_s, mup_mup]) (by simp (disch := omega) only [mup_n, mup_s, mput_n, mput_s, mup_mup]), ⟨?_, ?_, ?_⟩, fun q hq => by simp (disch := omega) only [mup_n]⟩
  · rw [List.length_append]
    simp
    omega
  · simp (disch := omega) only [mup_n, mup_s, mput_n, mput_s, mup_mup]
    rw [List.length_append]
    rfl
  · intro j hj
    rw [List.length_append] at hj
    simp at hj
    rw [getD_app2]
    simp (disch := omega) only [mup_n, mup_s, mput_n, mput_s, mup_mup]
    by_cases e : j = l.length
    · subst e
      rw [mput_s, if_neg (by omega), if_pos rfl]
      exact ⟨rfl, hx⟩
    · rw [mput_n e, if_pos (by omega)]
      exact t3 j (by omega)
theorem k_law {r : xR} (hK : KI n f La c MI) (hT : TP l MI) (hc : r.1 = true) (hr : tx (fun j => l.getD j 0) l.length 161 0 = some r) (hl : (flC r.2.2).length ≤ 161) (hwf : wfL r.2.2) : ∃ M, mrc 300 142 [.ref 0] MI ML (some (.int (nI 1))) M ML ∧ KI n f r.2.2 c M ∧ FK3 M MI := by
  obtain ⟨M, m1, m2, m3, m4, -⟩ := s_law (D := 237) (ML := ML) hc hT hr hl
  rw [if_pos hc] at m1
  obtain ⟨k8, k1, k2, k3, k4, k5, k6, k7, k9⟩ := hK
  refine ⟨M, m1, ⟨k8, ?_, ?_, k3, ?_, hwf, m4 hc, ?_, ?_⟩, fun q hq => m2 q (by omega) (by omega) (by omega) (by omega)⟩
  · rw [m2 1 (by decide) (by decide) (by decide) (by decide)]; exact k1
  · rw [m2 2 (by decide) (by decide) (by decide) (by decide)]; exact k2
  · rw [m2 17 (by decide) (by decide) (by decide) (by decide)]; exact k4
  · rw [m2 39 (by decide) (by decide) (by decide) (by decide)]; exact k7
  · rw [m2 34 (by decide) (by decide) (by decide) (by decide)]; exact k9
end K85
