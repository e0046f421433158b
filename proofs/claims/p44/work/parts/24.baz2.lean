/-! bits; rings, days, images of bazaars -/
theorem bt_1 : ∀ k, k < 32 → bt (nI 1) k = decide (k = 0) := by decide +kernel
theorem tst (x : Int32) {i : Nat} (hi : i < 32) : (x >>> (nI i &&& 31)) &&& nI 1 = nI (if bt x i then 1 else 0) := by
  apply b_ext
  intro k hk
  rw [b_and, bt_1 k hk]
  by_cases h0 : k = 0
  · subst h0
    rw [b_sshr i hi x (by omega), if_pos (by omega), Nat.add_zero]
    cases bt x i <;> decide
  · rw [decide_eq_false h0, Bool.and_false]
    cases bt x i
    · exact (b_0 k).symm
    · show false = bt (nI 1) k
      rw [bt_1 k hk, decide_eq_false h0]
theorem tst1 (x : Int32) {i : Nat} (hi : i < 32) : (x >>> (nI i &&& 31)) &&& nI 1 = nI 1 ↔ bt x i = true := by
  rw [tst x hi]
  cases bt x i <;> decide
theorem tst0 (x : Int32) {i : Nat} (hi : i < 32) : (x >>> (nI i &&& 31)) &&& nI 1 = nI 0 ↔ bt x i = false := by
  rw [tst x hi]
  cases bt x i <;> decide
theorem b_set (x : Int32) {i j : Nat} (hi : i < 32) (hj : j < 32) : bt (x ||| (nI 1 <<< (nI j &&& 31))) i = (bt x i || decide (i = j)) := by
  rw [b_or, b_shl j hj _ hi]
  congr 1
  by_cases h : j ≤ i
  · rw [decide_eq_true h, Bool.true_and, bt_1 _ (by omega)]
    by_cases h2 : i = j
    · rw [decide_eq_true h2, decide_eq_true (by omega)]
    · rw [decide_eq_false h2, decide_eq_false (by omega)]
  · rw [decide_eq_false h, decide_eq_false (by omega), Bool.false_and]
theorem bt_one {i j : Nat} (hi : i < 32) (hj : j < 32) : bt (nI 1 <<< (nI j &&& 31)) i = decide (i = j) := by
  rw [b_shl j hj _ hi]
  by_cases h : j ≤ i
  · rw [decide_eq_true h, Bool.true_and, bt_1 _ (by omega)]
    by_cases h2 : i = j
    · rw [decide_eq_true h2, decide_eq_true (by omega)]
    · rw [decide_eq_false h2, decide_eq_false (by omega)]
  · rw [decide_eq_false h, decide_eq_false (by omega), Bool.false_and]
theorem bt_0 (i : Nat) : bt (nI 0) i = false := b_0 i
def an (p : Nat → Bool) : Nat → Bool
  | 0 => false
  | i + 1 => an p i || p i
/-- who is reached from one by just so many hates -/
def rch (f : Nat → Int32) (n one : Nat) : Nat → Nat → Bool
  | 0 => fun b => decide (b = one)
  | s + 1 => fun b => an (fun a => rch f n one s a && !decide (nI 0 ≤ f (20 + a * 8 + b))) n
def rgl (f : Nat → Int32) (n one : Nat) : Int32 := if fa_first (fun s => rch f n one (s + 1) one) n < n then nI (fa_first (fun s => rch f n one (s + 1) one) n + 1) else -2
def rgs (f : Nat → Int32) (n : Nat) : Nat → Int32 := fd (fun i x => if rgl f n i = -2 then x else if x = -2 then rgl f n i else if x ≤ rgl f n i then x else rgl f n i) (-2)
section B3
variable {D k a n : Nat} {MI : mI} {ML : mJ} {x y : Int32}
theorem an_cong {p q : Nat → Bool} : ∀ {n : Nat}, (∀ i, i < n → p i = q i) → an p n = an q n
  | 0, _ => rfl
  | n + 1, h => by
    unfold an
    rw [an_cong (n := n) (fun i hi => h i (by omega)), h n (by omega)]
/-- people without a lover, as bits -/
def lvl (f : Nat → Int32) (n : Nat) : Nat → Int32 := fd (fun i x => if cn (fun j => !decide (f (20 + j * 8 + i) ≤ nI 0)) n = 0 then x ||| (nI 1 <<< (nI i &&& 31)) else x ||| nI 0) (nI 0)
def sm (p : Nat → Nat) : Nat → Nat
  | 0 => 0
  | i + 1 => sm p i + p i
theorem s_feelingsBelowNone (hB : bz k a) (hn : MI k 0 = nI n) (h8 : n ≤ 8) : mrc (D + 3) 20 [.ref k] MI ML (some (.int (nI (sm (fun b => cn (fun i => !decide (nI 0 ≤ MI a (20 + i * 8 + b))) n) n)))) MI ML := by
  refine mrc_of (EX0_feelingsBelowNone (BX0_feelingsBelowNone_0 hB ?_))
  refine up (P := fun i => VX0_feelingsBelowNone_4 (D + 2) _ k a (nI (sm (fun b => cn (fun i => !decide (nI 0 ≤ MI a (20 + i * 8 + b))) n) i)) (nI i) MI ML) n (Nat.zero_le _) ?_ ?_
  · exact BX0_feelingsBelowNone_4 hB ⟨fun _ => eRr, fun h => absurd (by rw [hn]; exact nI_le (Nat.le_refl _) (by omega)) h⟩
  · intro i _ hi ih
    refine BX0_feelingsBelowNone_4 hB ?_
    rw [hn]
    refine ⟨fun h => absurd h (nI_ge hi (by omega)), fun _ => ?_⟩
    refine usei (s_hatersOf hB hn h8 (by omega)) ?_
    rw [nI_add, nI_add]
    exact ih
/-- the end of a day -/
def hunF (f : Nat → Int32) (fed : Nat → Bool) (m : Nat) : Nat → Int32 := fun p => if p < m ∧ fed p = false then mn (f p + f 18) (nI 99) else f p
def dayF (f : Nat → Int32) : Nat → Int32 := mput f 19 (mn (f 19 + nI 1) (nI 99))
def endF (f : Nat → Int32) (n : Nat) (fed : Nat → Bool) : Nat → Int32 :=
  if dayF (hunF f fed n) 17 = nI 0 then dayF (hunF f fed n) else if dayF (hunF f fed n) 19 - dayF (hunF f fed n) 19 / dayF (hunF f fed n) 17 * dayF (hunF f fed n) 17 = nI 0 then fadF (dayF (hunF f fed n)) 84 else dayF (hunF f fed n)
theorem s_endDay {fed : Nat → Bool} (hB : bz k a) (hn : MI k 0 = nI n) (h8 : n ≤ 8) (hf : ∀ i, i < n → bt x i = fed i) : mrc (D + 3) 24 [.ref k, .int x] MI ML none (mup MI a (endF (MI a) n fed)) ML := by
  obtain ⟨hka, hak⟩ := bz_n hB
  refine mrc_of (EX0_endDay (BX0_endDay_0 hB ?_))
  have e0 : MI = mup MI a (hunF (MI a) fed 0) := by
    funext q p
    unfold mup
    split
    · next h => subst h; exact (if_neg (by omega)).symm
    · rfl
  rw [show VX0_endDay_2 (D + 2) _ k a x (nI 0) MI ML = VX0_endDay_2 (D + 2) _ k a x (nI 0) (mup MI a (hunF (MI a) fed 0)) ML from congrArg (fun M => VX0_endDay_2 (D + 2) _ k a x (nI 0) M ML) e0]
  refine up (P := fun i => VX0_endDay_2 (D + 2) _ k a x (nI i) (mup MI a (hunF (MI a) fed i)) ML) n (Nat.zero_le _) ?_ ?_
  · refine BX0_endDay_2 hB ?_
    simp only [mup_s, mup_mup, mup_n hka, hn]
    refine ⟨fun _ => ?_, fun h => absurd (nI_le (Nat.le_refl _) (by omega)) h⟩
    show (dayF (hunF (MI a) fed n) 17 = nI 0 → _) ∧ (¬ dayF (hunF (MI a) fed n) 17 = nI 0 → ¬ dayF (hunF (MI a) fed n) 17 = nI 0 ∧ ((dayF (hunF (MI a) fed n) 19 - dayF (hunF (MI a) fed n) 19 / dayF (hunF (MI a) fed n) 17 * dayF (hunF (MI a) fed n) 17 = nI 0 → _) ∧ (¬ dayF (hunF (MI a) fed n) 19 - dayF (hunF (MI a) fed n) 19 / dayF (hunF (MI a) fed n) 17 * dayF (hunF (MI a) fed n) 17 = nI 0 → _)))
    refine ⟨fun h1 => ?_, fun h1 => ⟨h1, fun h2 => ?_, fun h2 => ?_⟩⟩
    · refine vR ?_
      unfold endF
      rw [if_pos h1]
      rfl
    · refine usev (s_fade hB) (vR ?_)
      unfold endF
      rw [if_neg h1, if_pos h2, mup_mup, mup_s]
      rfl
    · refine vR ?_
      unfold endF
      rw [if_neg h1, if_neg h2]
      rfl
  · intro i _ hi ih
    refine BX0_endDay_2 hB ?_
    simp only [mup_s, mup_mup, mup_n hka, hn]
    refine ⟨fun h => absurd h (nI_ge hi (by omega)), fun _ => ?_⟩
    rw [tst0 x (by omega), hf i hi, nI_add]
    refine ⟨fun h1 => ?_, fun h1 => ?_⟩
    · refine usev (s_hungerMore hB (by omega)) ?_
      rw [mup_s, mup_mup]
      have e : mput (hunF (MI a) fed i) i (mn (hunF (MI a) fed i i + hunF (MI a) fed i 18) (nI 99)) = hunF (MI a) fed (i + 1) := by
        funext p
        unfold mput
        by_cases hp : p = i
        · subst hp
          rw [if_pos rfl]
          unfold hunF
          rw [if_neg (by omega), if_neg (by omega), if_pos ⟨by omega, h1⟩]
        · rw [if_neg hp]
          unfold hunF
          by_cases q : p < i ∧ fed p = false
          · rw [if_pos q, if_pos ⟨by omega, q.2⟩]
          · rw [if_neg q, if_neg (fun z => q ⟨by omega, z.2⟩)]
      rw [e]
      exact ih
    · have e : hunF (MI a) fed i = hunF (MI a) fed (i + 1) := by
        funext p
        unfold hunF
        by_cases q : p < i ∧ fed p = false
        · rw [if_pos q, if_pos ⟨by omega, q.2⟩]
        · rw [if_neg q, if_neg]
          intro z
          have : p = i := by
            rcases Nat.lt_or_ge p i with w | w
            · exact absurd ⟨w, z.2⟩ q
            · omega
          subst this
          exact h1 z.2
      rw [e]
      exact ih
/-- an image laid back -/
def lbF (f g : Nat → Int32) (m i j : Nat) : Nat → Int32 := fun p => if p < (if 0 < j then i + 1 else i) then g p else if 20 ≤ p ∧ p < 84 ∧ (p - 20) % 8 < m ∧ ((p - 20) / 8 < i ∨ ((p - 20) / 8 = i ∧ (p - 20) % 8 < j)) then g p else f p
def backF (f g : Nat → Int32) (m : Nat) : Nat → Int32 := fun p => if p < m ∨ p = 19 ∨ (20 ≤ p ∧ p < 84 ∧ (p - 20) % 8 < m ∧ (p - 20) / 8 < m) then g p else f p
end B3
