/-! bits; rings, days, images of bazaars -/
theorem bt_1 : ∀ k, k < 32 → bt (nI 1) k = decide (k = 0) := by decide +kernel
theorem tst (x : Int32) {i : Nat} (hi : i < 32) : (x >>> (nI i &&& 31)) &&& nI 1 = nI (if bt x i then 1 else 0) := by
  apply b_ext
  intro k hk
  rw [b_and, bt_1 k hk]
  by_cases h0 : k = 0
  · subst h0
    rw [b_sshr i hi x (by omega), if_pos (by omega), Nat.add_zero]
    cases bt x i <;> decide
  · rw [decide_eq_false h0, Bool.and_false]
    cases bt x i
    · exact (b_0 k).symm
    · show false = bt (nI 1) k
      rw [bt_1 k hk, decide_eq_false h0]
theorem tst1 (x : Int32) {i : Nat} (hi : i < 32) : (x >>> (nI i &&& 31)) &&& nI 1 = nI 1 ↔ bt x i = true := by
  rw [tst x hi]
  cases bt x i <;> decide
theorem tst0 (x : Int32) {i : Nat} (hi : i < 32) : (x >>> (nI i &&& 31)) &&& nI 1 = nI 0 ↔ bt x i = false := by
  rw [tst x hi]
  cases bt x i <;> decide
theorem b_set (x : Int32) {i j : Nat} (hi : i < 32) (hj : j < 32) : bt (x ||| (nI 1 <<< (nI j &&& 31))) i = (bt x i || decide (i = j)) := by
  rw [b_or, b_shl j hj _ hi]
  congr 1
  by_cases h : j ≤ i
  · rw [decide_eq_true h, Bool.true_and, bt_1 _ (by omega)]
    by_cases h2 : i = j
    · rw [decide_eq_true h2, decide_eq_true (by omega)]
    · rw [decide_eq_false h2, decide_eq_false (by omega)]
  · rw [decide_eq_false h, decide_eq_false (by omega), Bool.false_and]
theorem bt_one {i j : Nat} (hi : i < 32) (hj : j < 32) : bt (nI 1 <<< (nI j &&& 31)) i = decide (i = j) := by
  rw [b_shl j hj _ hi]
  by_cases h : j ≤ i
  · rw [decide_eq_true h, Bool.true_and, bt_1 _ (by omega)]
    by_cases h2 : i = j
    · rw [decide_eq_true h2, decide_eq_true (by omega)]
    · rw [decide_eq_false h2, decide_eq_false (by omega)]
  · rw [decide_eq_false h, decide_eq_false (by omega), Bool.false_and]
theorem bt_0 (i : Nat) : bt (nI 0) i = false := b_0 i
def an (p : Nat → Bool) : Nat → Bool
  | 0 => false
  | i + 1 => an p i || p i
/-- who is reached from one by just so many hates -/
def rch (f : Nat → Int32) (n one : Nat) : Nat → Nat → Bool
  | 0 => fun b => decide (b = one)
  | s + 1 => fun b => an (fun a => rch f n one s a && !decide (nI 0 ≤ f (20 + a * 8 + b))) n
def rgl (f : Nat → Int32) (n one : Nat) : Int32 := if fa_first (fun s => rch f n one (s + 1) one) n < n then nI (fa_first (fun s => rch f n one (s + 1) one) n + 1) else -2
def rgs (f : Nat → Int32) (n : Nat) : Nat → Int32 := fd (fun i x => if rgl f n i = -2 then x else if x = -2 then rgl f n i else if x ≤ rgl f n i then x else rgl f n i) (-2)
section B3
variable {D k a n : Nat} {MI : mI} {ML : mJ} {x y : Int32}
theorem s_hatedBy (hB : bz k a) (hn : MI k 0 = nI n) (h8 : n ≤ 8) : ∃ r, mrc (D + 2) 23 [.ref k, .int x] MI ML (some (.int r)) MI ML ∧ ∀ b, b < n → bt r b = an (fun a' => bt x a' && !decide (nI 0 ≤ MI a (20 + a' * 8 + b))) n := by
  suffices h : VX0_hatedBy_0 (D + 1) (fun v M L => ∃ r, v = some (.int r) ∧ M = MI ∧ L = ML ∧ ∀ b, b < n → bt r b = an (fun a' => bt x a' && !decide (nI 0 ≤ MI a (20 + a' * 8 + b))) n) k a x MI ML by
    obtain ⟨v, M, L, ⟨r, rfl, rfl, rfl, hr⟩, h⟩ := EX0_hatedBy h
    exact ⟨r, h, hr⟩
  refine BX0_hatedBy_0 hB ?_
  refine up (P := fun i => ∀ r, (∀ b, b < n → bt r b = an (fun a' => bt x a' && !decide (nI 0 ≤ MI a (20 + a' * 8 + b))) i) → VX0_hatedBy_4 (D + 1) _ k a x r (nI i) MI ML) n (Nat.zero_le _) ?_ ?_ (nI 0) (fun b _ => bt_0 b)
  · intro r hr
    exact BX0_hatedBy_4 hB ⟨fun _ => ⟨r, rfl, rfl, rfl, hr⟩, fun h => absurd (by rw [hn]; exact nI_le (Nat.le_refl _) (by omega)) h⟩
  · intro i _ hi ih r hr
    refine BX0_hatedBy_4 hB ?_
    rw [hn]
    refine ⟨fun h => absurd h (nI_ge hi (by omega)), fun _ => ?_⟩
    refine up (P := fun j => ∀ r, (∀ b, b < n → bt r b = an (fun a' => bt x a' && !decide (nI 0 ≤ MI a (20 + a' * 8 + b))) (if b < j then i + 1 else i)) → VX0_hatedBy_15 (D + 1) _ k a x r (nI i) (nI j) MI ML) n (Nat.zero_le _) ?_ ?_ r (fun b hb => by rw [if_neg (Nat.not_lt_zero _)]; exact hr b hb)
    · intro r hr
      refine BX0_hatedBy_15 hB ⟨fun _ => ?_, fun h => absurd (by rw [hn]; exact nI_le (Nat.le_refl _) (by omega)) h⟩
      rw [nI_add]
      exact ih r (fun b hb => by rw [hr b hb, if_pos hb])
    · intro j _ hj ihj r hr
      have hk : ∀ b, b < n → b ≠ j → bt r b = an (fun a' => bt x a' && !decide (nI 0 ≤ MI a (20 + a' * 8 + b))) (if b < j + 1 then i + 1 else i) := by
        intro b hb hne
        rw [hr b hb]
        by_cases q : b < j
        · rw [if_pos q, if_pos (by omega)]
        · rw [if_neg q, if_neg (by omega)]
      have hj0 := hr j hj
      rw [if_neg (Nat.lt_irrefl _)] at hj0
      refine BX0_hatedBy_15 hB ?_
      rw [hn]
      refine ⟨fun h => absurd h (nI_ge hj (by omega)), fun _ => ?_⟩
      rw [tst1 x (by omega)]
      refine ⟨fun hx => ?_, fun hx => ?_⟩
      · refine usei (s_felt hB (by omega) (by omega)) ?_
        rw [nI_add]
        refine ⟨fun h0 => ihj r ?_, fun h0 => ihj _ ?_⟩
        · intro b hb
          by_cases q : b = j
          · subst q
            rw [if_pos (by omega), hj0]
            simp [an, h0]
          · exact hk b hb q
        · intro b hb
          rw [b_set r (by omega) (by omega)]
          by_cases q : b = j
          · subst q
            rw [if_pos (by omega), hj0]
            simp [an, h0, hx]
          · rw [decide_eq_false q, Bool.or_false]
            exact hk b hb q
      · rw [nI_add]
        refine ihj r ?_
        intro b hb
        by_cases q : b = j
        · subst q
          rw [if_pos (by omega), hj0]
          simp [an, hx]
        · exact hk b hb q
theorem an_cong {p q : Nat → Bool} : ∀ {n : Nat}, (∀ i, i < n → p i = q i) → an p n = an q n
  | 0, _ => rfl
  | n + 1, h => by
    unfold an
    rw [an_cong (n := n) (fun i hi => h i (by omega)), h n (by omega)]
theorem s_ringThrough {one : Nat} (hB : bz k a) (hn : MI k 0 = nI n) (h8 : n ≤ 8) (ho : one < n) : mrc (D + 3) 22 [.ref k, .int (nI one)] MI ML (some (.int (rgl (MI a) n one))) MI ML := by
  refine mrc_of (EX0_ringThrough (BX0_ringThrough_0 hB ?_))
  refine up (P := fun s => ∀ r, (∀ b, b < n → bt r b = rch (MI a) n one (s - 1) b) → (∀ t, 1 ≤ t → t < s → rch (MI a) n one t one = false) → VX0_ringThrough_6 (D + 2) _ k a (nI one) r (nI s) MI ML) (n + 1) (by omega) ?_ ?_ _ (fun b hb => by rw [bt_one (by omega) (by omega)]; rfl) (fun t _ _ => by omega)
  · intro r _ hno
    refine BX0_ringThrough_6 hB ?_
    rw [hn]
    refine ⟨fun _ => ?_, fun h => absurd (nI_lt (by omega) (by omega)) h⟩
    refine iR ?_ rfl
    unfold rgl
    rw [if_neg]
    intro h
    have := fa_first_yes _ _ h
    rw [hno _ (by omega) (by omega)] at this
    cases this
  · intro s hs hsn ih r hr hno
    refine BX0_ringThrough_6 hB ?_
    rw [hn]
    refine ⟨fun h => absurd h (nI_nlt (by omega) (by omega)), fun _ => ?_⟩
    obtain ⟨r', h1, h2⟩ := s_hatedBy (D := D) (x := r) (ML := ML) hB hn h8
    refine usei h1 ?_
    have hr' : ∀ b, b < n → bt r' b = rch (MI a) n one s b := by
      intro b hb
      rw [h2 b hb]
      obtain ⟨s', rfl⟩ : ∃ s', s = s' + 1 := ⟨s - 1, by omega⟩
      show _ = an _ n
      apply an_cong
      intro i hi
      rw [hr i hi]
      rfl
    rw [tst1 r' (by omega), nI_add]
    refine ⟨fun hx => ?_, fun hx => ?_⟩
    · rw [hr' one ho] at hx
      refine iR ?_ rfl
      have e : fa_first (fun s => rch (MI a) n one (s + 1) one) n = s - 1 := by
        rcases Nat.lt_trichotomy (fa_first (fun s => rch (MI a) n one (s + 1) one) n) (s - 1) with q | q | q
        · have := fa_first_yes (fun s => rch (MI a) n one (s + 1) one) n (by omega)
          rw [hno _ (by omega) (by omega)] at this
          cases this
        · exact q
        · have := fa_first_no (fun s => rch (MI a) n one (s + 1) one) n (s - 1) q
          rw [show s - 1 + 1 = s by omega, hx] at this
          cases this
      unfold rgl
      rw [e, if_pos (by omega), show s - 1 + 1 = s by omega]
    · rw [hr' one ho] at hx
      refine ih r' (fun b hb => by rw [hr' b hb]; rfl) (fun t h1 h2 => ?_)
      rcases Nat.lt_or_ge t s with q | q
      · exact hno t h1 q
      · have : t = s := by omega
        subst this
        simpa using hx
theorem s_smallestRing (hB : bz k a) (hn : MI k 0 = nI n) (h8 : n ≤ 8) : mrc (D + 4) 21 [.ref k] MI ML (some (.int (rgs (MI a) n n))) MI ML := by
  refine mrc_of (EX0_smallestRing (BX0_smallestRing_0 hB ?_))
  refine up (P := fun i => VX0_smallestRing_5 (D + 3) _ k a (rgs (MI a) n i) (nI i) MI ML) n (Nat.zero_le _) ?_ ?_
  · exact BX0_smallestRing_5 hB ⟨fun _ => eRr, fun h => absurd (by rw [hn]; exact nI_le (Nat.le_refl _) (by omega)) h⟩
  · intro i _ hi ih
    refine BX0_smallestRing_5 hB ?_
    rw [hn]
    refine ⟨fun h => absurd h (nI_ge hi (by omega)), fun _ => ?_⟩
    refine usei (s_ringThrough hB hn h8 hi) ?_
    rw [nI_add]
    have e : rgs (MI a) n (i + 1) = (if rgl (MI a) n i = -2 then rgs (MI a) n i else if rgs (MI a) n i = -2 then rgl (MI a) n i else if rgs (MI a) n i ≤ rgl (MI a) n i then rgs (MI a) n i else rgl (MI a) n i) := rfl
    rw [e] at ih
    refine ⟨fun h1 => ?_, fun h1 => ⟨fun h2 => ?_, fun h2 => ⟨fun h3 => ?_, fun h3 => ?_⟩⟩⟩
    · rwa [if_pos h1] at ih
    · rwa [if_neg h1, if_pos h2] at ih
    · rwa [if_neg h1, if_neg h2, if_pos h3] at ih
    · rwa [if_neg h1, if_neg h2, if_neg h3] at ih
/-- people without a lover, as bits -/
def lvl (f : Nat → Int32) (n : Nat) : Nat → Int32 := fd (fun i x => if cn (fun j => !decide (f (20 + j * 8 + i) ≤ nI 0)) n = 0 then x ||| (nI 1 <<< (nI i &&& 31)) else x ||| nI 0) (nI 0)
theorem s_loveless (hB : bz k a) (hn : MI k 0 = nI n) (h8 : n ≤ 8) : mrc (D + 3) 19 [.ref k] MI ML (some (.int (lvl (MI a) n n))) MI ML := by
  refine mrc_of (EX0_loveless (BX0_loveless_0 hB ?_))
  refine up (P := fun i => VX0_loveless_4 (D + 2) _ k a (lvl (MI a) n i) (nI i) MI ML) n (Nat.zero_le _) ?_ ?_
  · exact BX0_loveless_4 hB ⟨fun _ => eRr, fun h => absurd (by rw [hn]; exact nI_le (Nat.le_refl _) (by omega)) h⟩
  · intro i _ hi ih
    refine BX0_loveless_4 hB ?_
    rw [hn]
    refine ⟨fun h => absurd h (nI_ge hi (by omega)), fun _ => ?_⟩
    refine usei (s_loversOf hB hn h8 (by omega)) ?_
    have := cn_le (fun j => !decide (MI a (20 + j * 8 + i) ≤ nI 0)) n
    rw [nI_add, nI_eq (by omega) (by omega)]
    have e : lvl (MI a) n (i + 1) = (if cn (fun j => !decide (MI a (20 + j * 8 + i) ≤ nI 0)) n = 0 then lvl (MI a) n i ||| (nI 1 <<< (nI i &&& 31)) else lvl (MI a) n i ||| nI 0) := rfl
    rw [e] at ih
    refine ⟨fun h1 => ?_, fun h1 => ?_⟩
    · rwa [if_pos h1] at ih
    · rwa [if_neg h1] at ih
def sm (p : Nat → Nat) : Nat → Nat
  | 0 => 0
  | i + 1 => sm p i + p i
theorem s_feelingsBelowNone (hB : bz k a) (hn : MI k 0 = nI n) (h8 : n ≤ 8) : mrc (D + 3) 20 [.ref k] MI ML (some (.int (nI (sm (fun b => cn (fun i => !decide (nI 0 ≤ MI a (20 + i * 8 + b))) n) n)))) MI ML := by
  refine mrc_of (EX0_feelingsBelowNone (BX0_feelingsBelowNone_0 hB ?_))
  refine up (P := fun i => VX0_feelingsBelowNone_4 (D + 2) _ k a (nI (sm (fun b => cn (fun i => !decide (nI 0 ≤ MI a (20 + i * 8 + b))) n) i)) (nI i) MI ML) n (Nat.zero_le _) ?_ ?_
  · exact BX0_feelingsBelowNone_4 hB ⟨fun _ => eRr, fun h => absurd (by rw [hn]; exact nI_le (Nat.le_refl _) (by omega)) h⟩
  · intro i _ hi ih
    refine BX0_feelingsBelowNone_4 hB ?_
    rw [hn]
    refine ⟨fun h => absurd h (nI_ge hi (by omega)), fun _ => ?_⟩
    refine usei (s_hatersOf hB hn h8 (by omega)) ?_
    rw [nI_add, nI_add]
    exact ih
/-- the end of a day -/
def hunF (f : Nat → Int32) (fed : Nat → Bool) (m : Nat) : Nat → Int32 := fun p => if p < m ∧ fed p = false then mn (f p + f 18) (nI 99) else f p
def dayF (f : Nat → Int32) : Nat → Int32 := mput f 19 (mn (f 19 + nI 1) (nI 99))
def endF (f : Nat → Int32) (n : Nat) (fed : Nat → Bool) : Nat → Int32 :=
  if dayF (hunF f fed n) 17 = nI 0 then dayF (hunF f fed n) else if dayF (hunF f fed n) 19 - dayF (hunF f fed n) 19 / dayF (hunF f fed n) 17 * dayF (hunF f fed n) 17 = nI 0 then fadF (dayF (hunF f fed n)) 84 else dayF (hunF f fed n)
theorem s_endDay {fed : Nat → Bool} (hB : bz k a) (hn : MI k 0 = nI n) (h8 : n ≤ 8) (hf : ∀ i, i < n → bt x i = fed i) : mrc (D + 3) 24 [.ref k, .int x] MI ML none (mup MI a (endF (MI a) n fed)) ML := by
  obtain ⟨hka, hak⟩ := bz_n hB
  refine mrc_of (EX0_endDay (BX0_endDay_0 hB ?_))
  have e0 : MI = mup MI a (hunF (MI a) fed 0) := by
    funext q p
    unfold mup
    split
    · next h => subst h; exact (if_neg (by omega)).symm
    · rfl
  rw [show VX0_endDay_2 (D + 2) _ k a x (nI 0) MI ML = VX0_endDay_2 (D + 2) _ k a x (nI 0) (mup MI a (hunF (MI a) fed 0)) ML from congrArg (fun M => VX0_endDay_2 (D + 2) _ k a x (nI 0) M ML) e0]
  refine up (P := fun i => VX0_endDay_2 (D + 2) _ k a x (nI i) (mup MI a (hunF (MI a) fed i)) ML) n (Nat.zero_le _) ?_ ?_
  · refine BX0_endDay_2 hB ?_
    simp only [mup_s, mup_mup, mup_n hka, hn]
    refine ⟨fun _ => ?_, fun h => absurd (nI_le (Nat.le_refl _) (by omega)) h⟩
    show (dayF (hunF (MI a) fed n) 17 = nI 0 → _) ∧ (¬ dayF (hunF (MI a) fed n) 17 = nI 0 → ¬ dayF (hunF (MI a) fed n) 17 = nI 0 ∧ ((dayF (hunF (MI a) fed n) 19 - dayF (hunF (MI a) fed n) 19 / dayF (hunF (MI a) fed n) 17 * dayF (hunF (MI a) fed n) 17 = nI 0 → _) ∧ (¬ dayF (hunF (MI a) fed n) 19 - dayF (hunF (MI a) fed n) 19 / dayF (hunF (MI a) fed n) 17 * dayF (hunF (MI a) fed n) 17 = nI 0 → _)))
    refine ⟨fun h1 => ?_, fun h1 => ⟨h1, fun h2 => ?_, fun h2 => ?_⟩⟩
    · refine vR ?_
      unfold endF
      rw [if_pos h1]
      rfl
    · refine usev (s_fade hB) (vR ?_)
      unfold endF
      rw [if_neg h1, if_pos h2, mup_mup, mup_s]
      rfl
    · refine vR ?_
      unfold endF
      rw [if_neg h1, if_neg h2]
      rfl
  · intro i _ hi ih
    refine BX0_endDay_2 hB ?_
    simp only [mup_s, mup_mup, mup_n hka, hn]
    refine ⟨fun h => absurd h (nI_ge hi (by omega)), fun _ => ?_⟩
    rw [tst0 x (by omega), hf i hi, nI_add]
    refine ⟨fun h1 => ?_, fun h1 => ?_⟩
    · refine usev (s_hungerMore hB (by omega)) ?_
      rw [mup_s, mup_mup]
      have e : mput (hunF (MI a) fed i) i (mn (hunF (MI a) fed i i + hunF (MI a) fed i 18) (nI 99)) = hunF (MI a) fed (i + 1) := by
        funext p
        unfold mput
        by_cases hp : p = i
        · subst hp
          rw [if_pos rfl]
          unfold hunF
          rw [if_neg (by omega), if_neg (by omega), if_pos ⟨by omega, h1⟩]
        · rw [if_neg hp]
          unfold hunF
          by_cases q : p < i ∧ fed p = false
          · rw [if_pos q, if_pos ⟨by omega, q.2⟩]
          · rw [if_neg q, if_neg (fun z => q ⟨by omega, z.2⟩)]
      rw [e]
      exact ih
    · have e : hunF (MI a) fed i = hunF (MI a) fed (i + 1) := by
        funext p
        unfold hunF
        by_cases q : p < i ∧ fed p = false
        · rw [if_pos q, if_pos ⟨by omega, q.2⟩]
        · rw [if_neg q, if_neg]
          intro z
          have : p = i := by
            rcases Nat.lt_or_ge p i with w | w
            · exact absurd ⟨w, z.2⟩ q
            · omega
          subst this
          exact h1 z.2
      rw [e]
      exact ih
/-- an image laid back -/
def lbF (f g : Nat → Int32) (m i j : Nat) : Nat → Int32 := fun p => if p < (if 0 < j then i + 1 else i) then g p else if 20 ≤ p ∧ p < 84 ∧ (p - 20) % 8 < m ∧ ((p - 20) / 8 < i ∨ ((p - 20) / 8 = i ∧ (p - 20) % 8 < j)) then g p else f p
def backF (f g : Nat → Int32) (m : Nat) : Nat → Int32 := fun p => if p < m ∨ p = 19 ∨ (20 ≤ p ∧ p < 84 ∧ (p - 20) % 8 < m ∧ (p - 20) / 8 < m) then g p else f p
theorem s_layBack {k2 a2 m : Nat} (hB : bz k a) (hB2 : bz k2 a2) (hne : k ≠ k2) (hn : MI k2 0 = nI m) (h8 : m ≤ 8) : mrc (D + 2) 27 [.ref k, .ref k2] MI ML none (mup MI a (backF (MI a) (MI a2) m)) ML := by
  have h1 : k2 ≠ a ∧ a2 ≠ a := by
    rcases hB with ⟨rfl, rfl⟩ | ⟨rfl, rfl⟩ | ⟨rfl, rfl⟩ <;> rcases hB2 with ⟨rfl, rfl⟩ | ⟨rfl, rfl⟩ | ⟨rfl, rfl⟩ <;> first | decide | exact absurd rfl hne
  refine mrc_of (EX0_layBack (BX0_layBack_0 hB hB2 ?_))
  have e0 : ∀ f : Nat → Nat → Int32, f = mup f a (fun p => if p < 0 then MI a2 p else if 20 ≤ p ∧ p < 84 ∧ (p - 20) % 8 < m ∧ (p - 20) / 8 < 0 then MI a2 p else f a p) := by
    intro f
    funext q p
    unfold mup
    split
    · next h => subst h; dsimp only; rw [if_neg (by omega), if_neg (by omega)]
    · rfl
  suffices h : VX0_layBack_2 (D + 1) (eR none (mup MI a (backF (MI a) (MI a2) m)) ML) k a k2 a2 (nI 0) (mup MI a (fun p => if p < 0 then MI a2 p else if 20 ≤ p ∧ p < 84 ∧ (p - 20) % 8 < m ∧ (p - 20) / 8 < 0 then MI a2 p else MI a p)) ML by
    rwa [← e0 MI] at h
  refine up (P := fun i => VX0_layBack_2 (D + 1) _ k a k2 a2 (nI i) (mup MI a (fun p => if p < i then MI a2 p else if 20 ≤ p ∧ p < 84 ∧ (p - 20) % 8 < m ∧ (p - 20) / 8 < i then MI a2 p else MI a p)) ML) m (Nat.zero_le _) ?_ ?_
  · refine BX0_layBack_2 hB hB2 ?_
    simp only [mup_s, mup_n h1.1, mup_n h1.2, mup_mup, hn]
    refine ⟨fun _ => vR ?_, fun h => absurd (nI_le (Nat.le_refl _) (by omega)) h⟩
    congr 1
    funext p
    unfold mput backF
    grind
  · intro i _ hi ih
    refine BX0_layBack_2 hB hB2 ?_
    simp only [mup_s, mup_n h1.1, mup_n h1.2, mup_mup, hn, nI_add, Nat.zero_add]
    refine ⟨fun h => absurd h (nI_ge hi (by omega)), fun _ => ⟨i, rfl, by omega, i, rfl, by omega, ?_⟩⟩
    have e1 : (mput (fun p => if p < i then MI a2 p else if 20 ≤ p ∧ p < 84 ∧ (p - 20) % 8 < m ∧ (p - 20) / 8 < i then MI a2 p else MI a p) i (MI a2 i)) = (fun p => if p < i + 1 then MI a2 p else if 20 ≤ p ∧ p < 84 ∧ (p - 20) % 8 < m ∧ ((p - 20) / 8 < i ∨ ((p - 20) / 8 = i ∧ (p - 20) % 8 < 0)) then MI a2 p else MI a p) := by
      funext p
      unfold mput
      grind
    rw [e1]
    refine up (P := fun j => VX0_layBack_28 (D + 1) _ k a k2 a2 (nI i) (nI j) (mup MI a (fun p => if p < i + 1 then MI a2 p else if 20 ≤ p ∧ p < 84 ∧ (p - 20) % 8 < m ∧ ((p - 20) / 8 < i ∨ ((p - 20) / 8 = i ∧ (p - 20) % 8 < j)) then MI a2 p else MI a p)) ML) m (Nat.zero_le _) ?_ ?_
    · refine BX0_layBack_28 hB hB2 ?_
      simp only [mup_s, mup_n h1.1, mup_n h1.2, mup_mup, hn, nI_add]
      refine ⟨fun _ => ?_, fun h => absurd (nI_le (Nat.le_refl _) (by omega)) h⟩
      rw [show (fun p => if p < i + 1 then MI a2 p else if 20 ≤ p ∧ p < 84 ∧ (p - 20) % 8 < m ∧ ((p - 20) / 8 < i ∨ ((p - 20) / 8 = i ∧ (p - 20) % 8 < m)) then MI a2 p else MI a p) = (fun p => if p < i + 1 then MI a2 p else if 20 ≤ p ∧ p < 84 ∧ (p - 20) % 8 < m ∧ (p - 20) / 8 < i + 1 then MI a2 p else MI a p) from by funext p; grind]
      exact ih
    · intro j _ hj ihj
      refine BX0_layBack_28 hB hB2 ?_
      simp only [mup_s, mup_n h1.1, mup_n h1.2, mup_mup, hn, nI_add]
      refine ⟨fun h => absurd h (nI_ge hj (by omega)), fun _ => usei s_placeOfFeeling ⟨_, rfl, by omega, _, rfl, by omega, ?_⟩⟩
      simp only [mup_s, mup_n h1.1, mup_n h1.2, mup_mup]
      rw [show mput (fun p => if p < i + 1 then MI a2 p else if 20 ≤ p ∧ p < 84 ∧ (p - 20) % 8 < m ∧ ((p - 20) / 8 < i ∨ ((p - 20) / 8 = i ∧ (p - 20) % 8 < j)) then MI a2 p else MI a p) (20 + i * 8 + j) (MI a2 (20 + i * 8 + j)) = (fun p => if p < i + 1 then MI a2 p else if 20 ≤ p ∧ p < 84 ∧ (p - 20) % 8 < m ∧ ((p - 20) / 8 < i ∨ ((p - 20) / 8 = i ∧ (p - 20) % 8 < j + 1)) then MI a2 p else MI a p) from by
        funext p
        unfold mput
        have e1 : (20 + i * 8 + j - 20) / 8 = i := by omega
        have e2 : (20 + i * 8 + j - 20) % 8 = j := by omega
        by_cases hp : p = 20 + i * 8 + j
        · subst hp; rw [if_pos rfl, if_neg (by omega), if_pos (by omega)]
        · rw [if_neg hp]
          dsimp only
          by_cases q : p < i + 1
          · rw [if_pos q, if_pos q]
          · rw [if_neg q, if_neg q]
            by_cases w : 20 ≤ p ∧ p < 84 ∧ (p - 20) % 8 < m ∧ ((p - 20) / 8 < i ∨ ((p - 20) / 8 = i ∧ (p - 20) % 8 < j))
            · rw [if_pos w, if_pos (by omega)]
            · rw [if_neg w, if_neg (by omega)]]
      exact ihj
end B3
