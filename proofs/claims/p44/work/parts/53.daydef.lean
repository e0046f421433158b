/-! a day, as numbers: who was served by whom (buyer, weigher, friend by, how much), in turn -/
theorem PB.fe {f : Nat → Int32} (h : PB f) {i b : Nat} (hi : i < 8) (hb : b < 8) : -9 ≤ (f (20 + i * 8 + b)).toInt ∧ (f (20 + i * 8 + b)).toInt ≤ 9 := by
  have := h.ok (p := 20 + i * 8 + b) (by omega)
  unfold okv lob hib at this
  repeat' split at this
  all_goals omega
theorem PB.dg {f : Nat → Int32} (h : PB f) {b : Nat} (hb : b < 8) : f (20 + b * 8 + b) = nI 0 := by
  have := h.ok (p := 20 + b * 8 + b) (by omega)
  rw [fa_eq, nI_toInt (by omega)]
  unfold okv lob hib at this
  repeat' split at this
  all_goals omega
abbrev dR : Type := Nat × Nat × Nat × Int32
def wbL (L : List dR) (w : Nat) : Bool := L.any (fun q => decide (q.2.1 = w))
def fbL (L : List dR) (b : Nat) : Bool := L.any (fun q => decide (q.1 = b))
def wgL : List dR → Nat → Nat
  | [], _ => 8
  | q :: L, p => if q.1 = p then q.2.1 else wgL L p
theorem wbL_app (L : List dR) (q : dR) (w : Nat) : wbL (L ++ [q]) w = (wbL L w || decide (q.2.1 = w)) := by simp [wbL]
theorem fbL_app (L : List dR) (q : dR) (b : Nat) : fbL (L ++ [q]) b = (fbL L b || decide (q.1 = b)) := by simp [fbL]
theorem wgL_no : ∀ {L : List dR} {p : Nat}, fbL L p = false → wgL L p = 8
  | [], _, _ => rfl
  | q :: L, p, h => by
    simp only [fbL, List.any_cons, Bool.or_eq_false_iff, decide_eq_false_iff_not] at h
    unfold wgL
    rw [if_neg h.1]
    exact wgL_no h.2
theorem wgL_app : ∀ {L : List dR} {q : dR} {p : Nat}, fbL L q.1 = false → wgL (L ++ [q]) p = if q.1 = p then q.2.1 else wgL L p
  | [], q, p, _ => rfl
  | x :: L, q, p, h => by
    simp only [fbL, List.any_cons, Bool.or_eq_false_iff, decide_eq_false_iff_not] at h
    show (if x.1 = p then x.2.1 else wgL (L ++ [q]) p) = _
    rw [wgL_app h.2]
    show _ = if q.1 = p then q.2.1 else (if x.1 = p then x.2.1 else wgL L p)
    by_cases h1 : x.1 = p
    · rw [if_pos h1, if_pos h1, if_neg (fun q2 => h.1 (h1.trans q2.symm))]
    · rw [if_neg h1, if_neg h1]
/-- the best weigher among the first i -/
def bst (La : mLaw) (f : Nat → Int32) (b fr : Nat) (L : List dR) : Nat → Nat × Int32
  | 0 => (8, -1)
  | i + 1 => if f (20 + i * 8 + b) < nI 0 ∧ wbL L i = false then (if lwO (wds f b fr i L.length) La ≤ (bst La f b fr L i).2 then bst La f b fr L i else (i, lwO (wds f b fr i L.length) La)) else bst La f b fr L i
theorem bst_ok (La : mLaw) (f : Nat → Int32) (b fr : Nat) (L : List dR) : ∀ i, ((bst La f b fr L i).1 = 8 ∧ (bst La f b fr L i).2 = -1) ∨ ((bst La f b fr L i).1 < i ∧ wbL L (bst La f b fr L i).1 = false ∧ f (20 + (bst La f b fr L i).1 * 8 + b) < nI 0 ∧ 0 ≤ (bst La f b fr L i).2.toInt ∧ (bst La f b fr L i).2.toInt ≤ 50)
  | 0 => Or.inl ⟨rfl, rfl⟩
  | i + 1 => by
    have ih := bst_ok La f b fr L i
    have ih2 : ((bst La f b fr L i).1 = 8 ∧ (bst La f b fr L i).2 = -1) ∨ ((bst La f b fr L i).1 < i + 1 ∧ wbL L (bst La f b fr L i).1 = false ∧ f (20 + (bst La f b fr L i).1 * 8 + b) < nI 0 ∧ 0 ≤ (bst La f b fr L i).2.toInt ∧ (bst La f b fr L i).2.toInt ≤ 50) := by
      rcases ih with h | h
      · exact Or.inl h
      · exact Or.inr ⟨by omega, h.2⟩
    unfold bst
    by_cases h1 : f (20 + i * 8 + b) < nI 0 ∧ wbL L i = false
    · rw [if_pos h1]
      by_cases h2 : lwO (wds f b fr i L.length) La ≤ (bst La f b fr L i).2
      · rw [if_pos h2]; exact ih2
      · rw [if_neg h2]
        exact Or.inr ⟨Nat.lt_succ_self _, h1.2, h1.1, clp_b _⟩
    · rw [if_neg h1]; exact ih2
theorem frd_ok (f : Nat → Int32) (b u : Nat) : ∀ i, ((frd f b u i).1 = 8 ∧ (frd f b u i).2 = nI 0) ∨ ((frd f b u i).1 < i ∧ (frd f b u i).1 ≠ u ∧ (frd f b u i).2 = f (20 + (frd f b u i).1 * 8 + b) ∧ nI 0 < (frd f b u i).2)
  | 0 => Or.inl ⟨rfl, rfl⟩
  | i + 1 => by
    have ih := frd_ok f b u i
    unfold frd
    by_cases h : i = u ∨ f (20 + i * 8 + b) ≤ (frd f b u i).2
    · rw [if_pos h]
      rcases ih with ih | ih
      · exact Or.inl ih
      · exact Or.inr ⟨by omega, ih.2⟩
    · rw [if_neg h]
      have h1 : ¬ i = u := fun q => h (Or.inl q)
      have h2 : (frd f b u i).2 < f (20 + i * 8 + b) := fa_of_nle (fun q => h (Or.inr q))
      refine Or.inr ⟨Nat.lt_succ_self _, h1, rfl, ?_⟩
      show nI 0 < f (20 + i * 8 + b)
      rcases ih with ih | ih
      · rw [← ih.2]; exact h2
      · exact fa_trans ih.2.2.2 (fa_of_lt h2).1
/-- a friend by, one put aside who hates: the same -/
theorem frd_w {f : Nat → Int32} {b w : Nat} (hw : f (20 + w * 8 + b) ≤ nI 0) : ∀ i, i ≤ 8 → frd f b w i = frd f b 8 i
  | 0, _ => rfl
  | i + 1, hi => by
    have ih := frd_w hw i (by omega)
    unfold frd
    rw [ih]
    by_cases h : f (20 + i * 8 + b) ≤ (frd f b 8 i).2
    · rw [if_pos (Or.inr h), if_pos (Or.inr h)]
    · have h2 : ¬ i = w := by
        rintro rfl
        apply h
        rcases frd_ok f b 8 i with q | q
        · rw [q.2]; exact hw
        · rw [fa_le] at hw ⊢
          have := q.2.2.2
          rw [fa_lt] at this
          omega
      rw [if_neg (fun q => q.elim (fun q => h2 q) (fun q => h q)), if_neg (fun q => q.elim (fun q => by omega) (fun q => h q))]
def srv (La : mLaw) (n : Nat) (f : Nat → Int32) (L : List dR) (b : Nat) : (Nat → Int32) × List dR :=
  if (frd f b 8 n).1 = 8 then (f, L) else if (bst La f b (frd f b 8 n).1 L n).1 = 8 then (f, L) else
    (mput (mput f (20 + (bst La f b (frd f b 8 n).1 L n).1 * 8 + b) (mn (f (20 + (bst La f b (frd f b 8 n).1 L n).1 * 8 + b) + f 16) (nI 9))) b (mx (f b - (bst La f b (frd f b 8 n).1 L n).2) (nI 0)), L ++ [(b, (bst La f b (frd f b 8 n).1 L n).1, (frd f b 8 n).1, (bst La f b (frd f b 8 n).1 L n).2)])
/-- the hungriest among the first i that had no turn -/
def hgr (f : Nat → Int32) (T : Nat → Bool) : Nat → Nat × Int32
  | 0 => (8, -1)
  | i + 1 => if T i = false then (if f i ≤ (hgr f T i).2 then hgr f T i else (i, f i)) else hgr f T i
theorem hgr_ok {f : Nat → Int32} {T : Nat → Bool} (hf : ∀ i, i < 8 → 0 ≤ (f i).toInt) : ∀ i, i ≤ 8 → (((hgr f T i).1 = 8 ∧ (hgr f T i).2 = -1 ∧ ∀ j, j < i → T j = true) ∨ ((hgr f T i).1 < i ∧ T (hgr f T i).1 = false ∧ (hgr f T i).2 = f (hgr f T i).1))
  | 0, _ => Or.inl ⟨rfl, rfl, fun j hj => absurd hj (Nat.not_lt_zero _)⟩
  | i + 1, hi => by
    have ih := hgr_ok (T := T) hf i (by omega)
    unfold hgr
    by_cases h1 : T i = false
    · rw [if_pos h1]
      by_cases h2 : f i ≤ (hgr f T i).2
      · rw [if_pos h2]
        rcases ih with ih | ih
        · rw [ih.2.1, fa_le, show (-1 : Int32).toInt = -1 by decide] at h2
          have := hf i (by omega)
          omega
        · exact Or.inr ⟨by omega, ih.2⟩
      · rw [if_neg h2]
        exact Or.inr ⟨Nat.lt_succ_self _, h1, rfl⟩
    · rw [if_neg h1]
      rcases ih with ih | ih
      · refine Or.inl ⟨ih.1, ih.2.1, fun j hj => ?_⟩
        by_cases q : j = i
        · subst q; simpa using h1
        · exact ih.2.2 j (by omega)
      · exact Or.inr ⟨by omega, ih.2⟩
abbrev dT : Type := (Nat → Int32) × List dR × (Nat → Bool)
def trn (La : mLaw) (n : Nat) (f : Nat → Int32) : Nat → dT
  | 0 => (f, [], fun _ => false)
  | k + 1 => ((srv La n (trn La n f k).1 (trn La n f k).2.1 (hgr (trn La n f k).1 (trn La n f k).2.2 n).1).1, (srv La n (trn La n f k).1 (trn La n f k).2.1 (hgr (trn La n f k).1 (trn La n f k).2.2 n).1).2, fun i => (trn La n f k).2.2 i || decide (i = (hgr (trn La n f k).1 (trn La n f k).2.2 n).1))
def dyF (La : mLaw) (n : Nat) (f : Nat → Int32) : Nat → Int32 := endF (trn La n f n).1 n (fbL (trn La n f n).2.1)
def dyL (La : mLaw) (n : Nat) (f : Nat → Int32) : List dR := (trn La n f n).2.1
def rOk (n : Nat) (q : dR) : Prop := q.1 < n ∧ q.2.1 < n ∧ q.2.2.1 < n ∧ 0 ≤ q.2.2.2.toInt ∧ q.2.2.2.toInt ≤ 50
theorem mn_ti (x y : Int32) : (mn x y).toInt = min x.toInt y.toInt := by
  show (if y < x then y else x).toInt = _
  split
  · next h => rw [fa_lt] at h; omega
  · next h => rw [fa_lt] at h; omega
theorem mx_ti (x y : Int32) : (mx x y).toInt = max x.toInt y.toInt := by
  show (if x < y then y else x).toInt = _
  split
  · next h => rw [fa_lt] at h; omega
  · next h => rw [fa_lt] at h; omega
theorem okv_16 {v : Int32} : okv 16 v ↔ 0 ≤ v.toInt ∧ v.toInt ≤ 3 := Iff.rfl
theorem srv_ok {La : mLaw} {n : Nat} {f : Nat → Int32} {L : List dR} {b : Nat} (h8 : n ≤ 8) (hb : b < n) (hf : PB f) (hL : ∀ q ∈ L, rOk n q) : PB (srv La n f L b).1 ∧ (∀ q ∈ (srv La n f L b).2, rOk n q) ∧ ((srv La n f L b).2 = L ∨ ∃ q, (srv La n f L b).2 = L ++ [q] ∧ q.1 = b) := by
  unfold srv
  by_cases h1 : (frd f b 8 n).1 = 8
  · rw [if_pos h1]; exact ⟨hf, hL, Or.inl rfl⟩
  · rw [if_neg h1]
    by_cases h2 : (bst La f b (frd f b 8 n).1 L n).1 = 8
    · rw [if_pos h2]; exact ⟨hf, hL, Or.inl rfl⟩
    · rw [if_neg h2]
      have a1 := (frd_ok f b 8 n).resolve_left (fun q => h1 q.1)
      have a2 := (bst_ok La f b (frd f b 8 n).1 L n).resolve_left (fun q => h2 q.1)
      generalize hw : (bst La f b (frd f b 8 n).1 L n).1 = w at *
      generalize ho : (bst La f b (frd f b 8 n).1 L n).2 = o at *
      generalize hr : (frd f b 8 n).1 = fr at *
      have hne : w ≠ b := by
        rintro rfl
        have h3 := a2.2.2.1
        rw [hf.dg (by omega)] at h3
        exact absurd h3 (by decide)
      have b1 := (okv_ft (by omega) (by omega) hne).mp (hf.ok (p := 20 + w * 8 + b) (by omega))
      have b2 := okv_16.mp (hf.ok (p := 16) (by omega))
      have b3 := (okv_hu (i := b) (by omega)).mp (hf.ok (p := b) (by omega))
      refine ⟨(hf.put (by omega) ((okv_ft (by omega) (by omega) hne).mpr ?_)).put (by omega) ((okv_hu (by omega)).mpr ?_), ?_, Or.inr ⟨_, rfl, rfl⟩⟩
      · rw [mn_ti, ti_add (by omega) (by omega) (by omega) (by omega), nI_toInt (by omega)]
        omega
      · rw [mx_ti, ti_sub (by omega) (by omega) (by omega) (by omega), nI_toInt (by omega)]
        omega
      · intro q hq
        rcases List.mem_append.mp hq with hq | hq
        · exact hL q hq
        · rw [List.mem_singleton] at hq
          subst hq
          exact ⟨hb, a2.1, a1.1, a2.2.2.2⟩
theorem cn_lt {p : Nat → Bool} : ∀ {n : Nat}, cn p n < n → ∃ i, i < n ∧ p i = false
  | 0, h => absurd h (Nat.not_lt_zero _)
  | n + 1, h => by
    unfold cn at h
    by_cases hp : p n = true
    · rw [if_pos hp] at h
      obtain ⟨i, h1, h2⟩ := cn_lt (p := p) (n := n) (by omega)
      exact ⟨i, by omega, h2⟩
    · exact ⟨n, by omega, by simpa using hp⟩
theorem cn_set {p : Nat → Bool} {b : Nat} (hb : p b = false) : ∀ n, cn (fun i => p i || decide (i = b)) n = cn p n + if b < n then 1 else 0
  | 0 => rfl
  | n + 1 => by
    unfold cn
    rw [cn_set hb n]
    by_cases h : n = b
    · subst h
      simp [hb]
    · have : (p n || decide (n = b)) = p n := by rw [decide_eq_false h, Bool.or_false]
      rw [this]
      have e1 : (if b < n + 1 then 1 else 0) = (if b < n then 1 else 0) := by split <;> split <;> omega
      rw [e1]
      omega
theorem cn_f : ∀ n, cn (fun _ => false) n = 0
  | 0 => rfl
  | n + 1 => by unfold cn; rw [cn_f n]; rfl
theorem trn_ok {La : mLaw} {n : Nat} {f : Nat → Int32} (h8 : n ≤ 8) (hf : PB f) : ∀ k, k ≤ n → PB (trn La n f k).1 ∧ (∀ q ∈ (trn La n f k).2.1, rOk n q) ∧ (trn La n f k).2.1.length ≤ k ∧ cn (trn La n f k).2.2 n = k ∧ (∀ b, (trn La n f k).2.2 b = false → fbL (trn La n f k).2.1 b = false) ∧ ∀ b, (trn La n f k).2.2 b = true → b < n
  | 0, _ => ⟨hf, fun q hq => absurd hq (List.not_mem_nil), Nat.le_refl _, cn_f n, fun b _ => rfl, fun b hb => by cases hb⟩
  | k + 1, hk => by
    obtain ⟨i1, i2, i3, i4, i5, i6⟩ := trn_ok (La := La) h8 hf k (by omega)
    have hh := hgr_ok (T := (trn La n f k).2.2) (fun i hi => ((okv_hu hi).mp (i1.ok (p := i) (by omega))).1) n h8
    obtain ⟨i, hi, hiT⟩ := cn_lt (p := (trn La n f k).2.2) (n := n) (by omega)
    have hh2 := hh.resolve_left (fun q => by rw [q.2.2 i hi] at hiT; cases hiT)
    obtain ⟨s1, s2, s3⟩ := srv_ok (La := La) (L := (trn La n f k).2.1) h8 hh2.1 i1 i2
    refine ⟨s1, s2, ?_, ?_, ?_, ?_⟩
    · show (srv La n _ _ _).2.length ≤ _
      rcases s3 with s3 | ⟨q, s3, _⟩
      · rw [s3]; omega
      · rw [s3, List.length_append]
        simp only [List.length_cons, List.length_nil]
        omega
    · show cn (fun i => (trn La n f k).2.2 i || decide (i = (hgr (trn La n f k).1 (trn La n f k).2.2 n).1)) n = _
      rw [cn_set hh2.2.1, if_pos hh2.1, i4]
    · intro b hb
      have hb : ((trn La n f k).2.2 b || decide (b = (hgr (trn La n f k).1 (trn La n f k).2.2 n).1)) = false := hb
      rw [Bool.or_eq_false_iff, decide_eq_false_iff_not] at hb
      show fbL (srv La n _ _ _).2 b = false
      rcases s3 with s3 | ⟨q, s3, s4⟩
      · rw [s3]; exact i5 b hb.1
      · rw [s3, fbL_app, i5 b hb.1, s4, decide_eq_false (fun q => hb.2 q.symm)]
        rfl
    · intro b hb
      have hb : ((trn La n f k).2.2 b || decide (b = (hgr (trn La n f k).1 (trn La n f k).2.2 n).1)) = true := hb
      rw [Bool.or_eq_true, decide_eq_true_eq] at hb
      rcases hb with hb | hb
      · exact i6 b hb
      · rw [hb]; exact hh2.1
theorem trn_b {La : mLaw} {n : Nat} {f : Nat → Int32} (h8 : n ≤ 8) (hf : PB f) {k : Nat} (hk : k < n) : (hgr (trn La n f k).1 (trn La n f k).2.2 n).1 < n ∧ (trn La n f k).2.2 (hgr (trn La n f k).1 (trn La n f k).2.2 n).1 = false := by
  obtain ⟨i1, i2, i3, i4, i5, i6⟩ := trn_ok (La := La) h8 hf k (by omega)
  have hh := hgr_ok (T := (trn La n f k).2.2) (fun i hi => ((okv_hu hi).mp (i1.ok (p := i) (by omega))).1) n h8
  obtain ⟨i, hi, hiT⟩ := cn_lt (p := (trn La n f k).2.2) (n := n) (by omega)
  have hh2 := hh.resolve_left (fun q => by rw [q.2.2 i hi] at hiT; cases hiT)
  exact ⟨hh2.1, hh2.2.1⟩
theorem hun_PB {f : Nat → Int32} (hf : PB f) (fed : Nat → Bool) {n : Nat} (h8 : n ≤ 8) : PB (hunF f fed n) := by
  refine ⟨fun p hp => ?_, fun p hp => ?_⟩
  · unfold hunF
    by_cases h : p < n ∧ fed p = false
    · rw [if_pos h]
      have a := (okv_hu (i := p) (by omega)).mp (hf.ok hp)
      have b : 0 ≤ (f 18).toInt ∧ (f 18).toInt ≤ 20 := hf.ok (p := 18) (by omega)
      refine (okv_hu (by omega)).mpr ?_
      rw [mn_ti, ti_add (by omega) (by omega) (by omega) (by omega), nI_toInt (by omega)]
      omega
    · rw [if_neg h]; exact hf.1 p hp
  · unfold hunF
    rw [if_neg (by omega)]
    exact hf.2 p hp
theorem day_PB {f : Nat → Int32} (hf : PB f) : PB (dayF f) := by
  unfold dayF
  refine hf.put (by omega) ?_
  have b : 0 ≤ (f 19).toInt ∧ (f 19).toInt ≤ 99 := hf.ok (p := 19) (by omega)
  show 0 ≤ (mn (f 19 + nI 1) (nI 99)).toInt ∧ (mn (f 19 + nI 1) (nI 99)).toInt ≤ 99
  rw [mn_ti, ti_add (by omega) (by omega) (by rw [nI_toInt (by omega)]; omega) (by rw [nI_toInt (by omega)]; omega), nI_toInt (by omega), nI_toInt (by omega)]
  omega
theorem fdv_ok {p : Nat} {v : Int32} (hp : 20 ≤ p) (h : okv p v) : okv p (fdv v) := by
  have e0 : (nI 0).toInt = 0 := by decide
  have e1 : (nI 1).toInt = 1 := by decide
  have hb : lob p ≤ 0 ∧ -9 ≤ lob p ∧ 0 ≤ hib p ∧ hib p ≤ 99 := by
    unfold lob hib
    grind
  unfold okv at h ⊢
  unfold fdv
  split
  · next h1 =>
    rw [fa_le] at h1
    split
    · omega
    · next h2 =>
      rw [fa_le] at h2
      rw [ti_add (by omega) (by omega) (by omega) (by omega)]
      omega
  · next h1 =>
    rw [fa_le] at h1
    rw [ti_sub (by omega) (by omega) (by omega) (by omega)]
    omega
theorem fad_PB {f : Nat → Int32} (hf : PB f) : PB (fadF f 84) := by
  refine ⟨fun p hp => ?_, fun p hp => ?_⟩
  · unfold fadF
    split
    · next h => exact fdv_ok h.1 (hf.1 p hp)
    · exact hf.1 p hp
  · unfold fadF
    rw [if_neg (by omega)]
    exact hf.2 p hp
theorem end_PB {f : Nat → Int32} (hf : PB f) (fed : Nat → Bool) {n : Nat} (h8 : n ≤ 8) : PB (endF f n fed) := by
  unfold endF
  have h1 := day_PB (hun_PB hf fed h8)
  split
  · exact h1
  · split
    · exact fad_PB h1
    · exact h1
theorem dyF_PB {La : mLaw} {n : Nat} {f : Nat → Int32} (h8 : n ≤ 8) (hf : PB f) : PB (dyF La n f) := end_PB (trn_ok h8 hf n (Nat.le_refl _)).1 _ h8
theorem dyL_ok {La : mLaw} {n : Nat} {f : Nat → Int32} (h8 : n ≤ 8) (hf : PB f) : (∀ q ∈ dyL La n f, rOk n q) ∧ (dyL La n f).length ≤ n := ⟨(trn_ok h8 hf n (Nat.le_refl _)).2.1, (trn_ok h8 hf n (Nat.le_refl _)).2.2.1⟩
