/-! people, deeds: the class and the model answer alike -/
theorem bI2 : ∀ b : Bool, bI b &&& 1 = bI b := by decide
section TR
variable {D n : Nat} {MI : mI} {ML : mJ}
/-- the least ring, steps below s of a ring from one -/
def lsA (p : Nat → Bool) (l : Int32) : Nat → Int32
  | 0 => l
  | s + 1 => if p (s + 1) then (if lsA p l s = -2 then nI (s + 1) else if lsA p l s ≤ nI (s + 1) then lsA p l s else nI (s + 1)) else lsA p l s
theorem lsA_no {p : Nat → Bool} {l : Int32} : ∀ {s : Nat}, (∀ t, t < s → p (t + 1) = false) → lsA p l s = l
  | 0, _ => rfl
  | s + 1, h => by
    rw [lsA, h s (by omega), if_neg (by decide), lsA_no (fun t ht => h t (by omega))]
theorem lsA_yes {p : Nat → Bool} {l : Int32} {t : Nat} (ht : p (t + 1) = true) (hno : ∀ u, u < t → p (u + 1) = false) : ∀ {s : Nat}, t < s → s < 1000 → lsA p l s = (if l = -2 then nI (t + 1) else if l ≤ nI (t + 1) then l else nI (t + 1)) := by
  intro s hs h1
  induction s with
  | zero => omega
  | succ s ih =>
    by_cases e : s = t
    · subst e
      rw [lsA, ht, if_pos rfl, lsA_no hno]
    · rw [lsA, ih (by omega) (by omega)]
      by_cases hp : p (s + 1) = true
      · rw [if_pos hp]
        have m2 : (-2 : Int32).toInt = -2 := by decide
        by_cases h2 : l = -2
        · rw [if_pos h2]
          rw [if_neg (fun q => by rw [fa_eq, nI_toInt (by omega), m2] at q; omega), if_pos (nI_le (by omega) (by omega))]
        · rw [if_neg h2]
          by_cases h3 : l ≤ nI (t + 1)
          · rw [if_pos h3, if_neg h2, if_pos]
            rw [fa_le, nI_toInt (by omega)] at h3 ⊢
            omega
          · rw [if_neg h3, if_neg (fun q => by rw [fa_eq, nI_toInt (by omega), m2] at q; omega), if_pos (nI_le (by omega) (by omega))]
      · rw [if_neg hp]
theorem lsA_rgl (f : Nat → Int32) {n one : Nat} (l : Int32) (hn : n < 999) : lsA (fun s => rch f n one s one) l n = (if rgl f n one = -2 then l else if l = -2 then rgl f n one else if l ≤ rgl f n one then l else rgl f n one) := by
  have m2 : (-2 : Int32).toInt = -2 := by decide
  unfold rgl
  by_cases h : fa_first (fun s => rch f n one (s + 1) one) n < n
  · rw [if_pos h, if_neg (fun q => by rw [fa_eq, nI_toInt (by omega), m2] at q; omega)]
    exact lsA_yes (p := fun s => rch f n one s one) (fa_first_yes _ _ h) (fun u hu => fa_first_no _ _ u hu) h (by omega)
  · rw [if_neg h, if_pos rfl]
    exact lsA_no (p := fun s => rch f n one s one) (fun t ht => fa_first_no (fun s => rch f n one (s + 1) one) n t (by omega))
theorem t_ring (hn : MI 46 6 = nI n) (h8 : n ≤ 8) : ∃ M', mrc (D + 2) 231 [.ref 46] MI ML (some (.int (rgs (MI 47) n n))) M' ML ∧ ∀ b, b ≠ 68 → b ≠ 69 → M' b = MI b := by
  suffices h : VX11_ring_0 (D + 1) (fun v M L => v = some (.int (rgs (MI 47) n n)) ∧ L = ML ∧ ∀ b, b ≠ 68 → b ≠ 69 → M b = MI b) MI ML by
    obtain ⟨v, M, L, ⟨rfl, rfl, hr⟩, h⟩ := EX11_ring h
    exact ⟨M, h, hr⟩
  have fr1 : ∀ (M : mI) (x : Nat → Int32), (∀ b, b ≠ 68 → b ≠ 69 → M b = MI b) → ∀ b, b ≠ 68 → b ≠ 69 → mup M 68 x b = MI b := fun M x h b h1 h2 => by rw [mup_n h1]; exact h b h1 h2
  have fr2 : ∀ (M : mI) (x : Nat → Int32), (∀ b, b ≠ 68 → b ≠ 69 → M b = MI b) → ∀ b, b ≠ 68 → b ≠ 69 → mup M 69 x b = MI b := fun M x h b h1 h2 => by rw [mup_n h2]; exact h b h1 h2
  have hn' : ∀ M : mI, (∀ b, b ≠ 68 → b ≠ 69 → M b = MI b) → M 46 6 = nI n := fun M h => by rw [h 46 (by decide) (by decide)]; exact hn
  refine BX11_ring_0 ?_
  refine up (P := fun i => ∀ M : mI, (∀ b, b ≠ 68 → b ≠ 69 → M b = MI b) → VX11_ring_5 (D + 1) _ (rgs (MI 47) n i) (nI i) M ML) n (Nat.zero_le _) ?_ ?_ MI (fun _ _ _ => rfl)
  · intro M hM
    exact BX11_ring_5 (cT (by rw [hn' M hM]; exact nI_le (Nat.le_refl _) (by omega)) ⟨rfl, rfl, hM⟩)
  intro i _ hi ih M hM
  refine BX11_ring_5 (cF (by rw [hn' M hM]; exact nI_ge hi (by omega)) ?_)
  refine up (P := fun j => ∀ M : mI, (∀ b, b ≠ 68 → b ≠ 69 → M b = MI b) → (∀ q, q < j → M 68 q = bI (decide (q = i))) → VX11_ring_15 (D + 1) _ (rgs (MI 47) n i) (nI i) (nI j) M ML) n (Nat.zero_le _) ?_ ?_ M hM (fun q hq => by omega)
  rotate_left
  · intro j _ hj ihj M hM h68
    refine BX11_ring_15 (cF (by rw [hn' M hM]; exact nI_ge hj (by omega)) ?_)
    rw [nI_add, nI_eq (by omega) (by omega)]
    have key : ∀ x : Int32, x = bI (decide (j = i)) → ∀ q, q < j + 1 → mup M 68 (mput (M 68) j (x &&& 1)) 68 q = bI (decide (q = i)) := by
      intro x hx q hq
      rw [mup_s]
      by_cases e : q = j
      · subst e; rw [mput_s, hx, bI2]
      · rw [mput_n e]; exact h68 q (by omega)
    refine br (fun e => ⟨j, rfl, by omega, ihj _ (fr1 M _ hM) (key _ (by rw [decide_eq_true e]; rfl))⟩) (fun e => ⟨j, rfl, by omega, ihj _ (fr1 M _ hM) (key _ (by rw [decide_eq_false e]; rfl))⟩)
  intro M hM h68
  refine BX11_ring_15 (cT (by rw [hn' M hM]; exact nI_le (Nat.le_refl _) (by omega)) ?_)
  refine up (i0 := 0) (P := fun s => ∀ M : mI, (∀ b, b ≠ 68 → b ≠ 69 → M b = MI b) → (∀ q, q < n → M 68 q = bI (rch (MI 47) n i s q)) → VX11_ring_47 (D + 1) _ (lsA (fun s => rch (MI 47) n i s i) (rgs (MI 47) n i) s) (nI i) (nI (s + 1)) M ML) n (Nat.zero_le _) ?_ ?_ M hM h68
  · intro M hM h68
    refine BX11_ring_47 (cT (by rw [hn' M hM]; exact nI_lt (by omega) (by omega)) ?_)
    rw [nI_add, lsA_rgl _ _ (by omega)]
    exact ih M hM
  intro s _ hs ihs M hM h68
  refine BX11_ring_47 (cF (by rw [hn' M hM]; exact nI_nlt (by omega) (by omega)) ?_)
  refine up (P := fun b => ∀ M : mI, (∀ b, b ≠ 68 → b ≠ 69 → M b = MI b) → (∀ q, q < n → M 68 q = bI (rch (MI 47) n i s q)) → (∀ q, q < b → M 69 q = bI (rch (MI 47) n i (s + 1) q)) → VX11_ring_58 (D + 1) _ (lsA (fun s => rch (MI 47) n i s i) (rgs (MI 47) n i) s) (nI i) (nI (s + 1)) (nI b) M ML) n (Nat.zero_le _) ?_ ?_ M hM h68 (fun q hq => by omega)
  rotate_left
  · intro b _ hb ihb M hM h68 h69
    refine BX11_ring_58 (cF (by rw [hn' M hM]; exact nI_ge hb (by omega)) ⟨b, rfl, by omega, ?_⟩)
    refine up (P := fun a => ∀ M : mI, (∀ b, b ≠ 68 → b ≠ 69 → M b = MI b) → (∀ q, q < n → M 68 q = bI (rch (MI 47) n i s q)) → (∀ q, q < b → M 69 q = bI (rch (MI 47) n i (s + 1) q)) → M 69 b = bI (an (fun a => rch (MI 47) n i s a && !decide (nI 0 ≤ MI 47 (20 + a * 8 + b))) a) → VX11_ring_78 (D + 1) _ (lsA (fun s => rch (MI 47) n i s i) (rgs (MI 47) n i) s) (nI i) (nI (s + 1)) (nI b) (nI a) M ML) n (Nat.zero_le _) ?_ ?_ _ (fr2 M _ hM) (by rw [mup_n (by decide)]; exact h68) (fun q hq => by rw [mup_s, mput_n (by omega)]; exact h69 q hq) (by rw [mup_s, mput_s]; exact bI2 false)
    · intro M hM h68 h69 hb0
      refine BX11_ring_78 (cT (by rw [hn' M hM]; exact nI_le (Nat.le_refl _) (by omega)) ?_)
      rw [nI_add]
      refine ihb M hM h68 (fun q hq => ?_)
      by_cases e : q = b
      · subst e; exact hb0
      · exact h69 q (by omega)
    · intro a _ ha iha M hM h68 h69 hb0
      have key : ∀ x : Bool, (x = (an (fun a => rch (MI 47) n i s a && !decide (nI 0 ≤ MI 47 (20 + a * 8 + b))) (a + 1))) → VX11_ring_78 (D + 1) (fun v M L => v = some (.int (rgs (MI 47) n n)) ∧ L = ML ∧ ∀ b, b ≠ 68 → b ≠ 69 → M b = MI b) (lsA (fun s => rch (MI 47) n i s i) (rgs (MI 47) n i) s) (nI i) (nI (s + 1)) (nI b) (nI (a + 1)) (mup M 69 (mput (M 69) b (bI x &&& 1))) ML := by
        intro x hx
        refine iha _ (fr2 M _ hM) (by rw [mup_n (by decide)]; exact h68) (fun q hq => by rw [mup_s, mput_n (by omega)]; exact h69 q hq) ?_
        rw [mup_s, mput_s, bI2, hx]
      refine BX11_ring_78 (cF (by rw [hn' M hM]; exact nI_ge ha (by omega)) ⟨b, rfl, by omega, ?_⟩)
      rw [hb0, nI_add, bI_0]
      refine br (fun e => ⟨a, rfl, by omega, ?_⟩) (fun e => ⟨b, rfl, by omega, key true ?_⟩)
      · rw [h68 a ha, bI_0]
        refine br (fun e2 => ⟨b, rfl, by omega, key false ?_⟩) (fun e2 => usei t_felt ⟨_, rfl, by omega, ?_⟩)
        · rw [an, e, e2]; rfl
        · rw [hM 47 (by decide) (by decide)]
          refine br (fun e3 => ⟨b, rfl, by omega, key false ?_⟩) (fun e3 => ⟨b, rfl, by omega, key true ?_⟩)
          · rw [an, e, decide_eq_true e3]; simp
          · rw [an, decide_eq_false e3, show rch (MI 47) n i s a = true by simpa using e2]; simp
      · rw [an, show an (fun a => rch (MI 47) n i s a && !decide (nI 0 ≤ MI 47 (20 + a * 8 + b))) a = true by simpa using e]; rfl
  intro M hM h68 h69
  refine BX11_ring_58 (cT (by rw [hn' M hM]; exact nI_le (Nat.le_refl _) (by omega)) ?_)
  refine up (P := fun p => ∀ M : mI, (∀ b, b ≠ 68 → b ≠ 69 → M b = MI b) → (∀ q, q < n → M 69 q = bI (rch (MI 47) n i (s + 1) q)) → (∀ q, q < p → M 68 q = bI (rch (MI 47) n i (s + 1) q)) → VX11_ring_149 (D + 1) _ (lsA (fun s => rch (MI 47) n i s i) (rgs (MI 47) n i) s) (nI i) (nI (s + 1)) (nI p) M ML) n (Nat.zero_le _) ?_ ?_ M hM h69 (fun q hq => by omega)
  · intro M hM h69 h68
    refine BX11_ring_149 (cT (by rw [hn' M hM]; exact nI_le (Nat.le_refl _) (by omega)) ⟨i, rfl, by omega, ?_⟩)
    rw [h68 i hi, bI_0, nI_add]
    have k := ihs M hM h68
    rw [lsA] at k
    refine br (fun e => ?_) (fun e => br (fun e2 => ?_) (fun e2 => br (fun e3 => ?_) (fun e3 => ?_)))
    · rw [e, if_neg (by decide)] at k; exact k
    · rw [if_pos (by simpa using e), if_pos e2] at k; exact k
    · rw [if_pos (by simpa using e), if_neg e2, if_pos e3] at k; exact k
    · rw [if_pos (by simpa using e), if_neg e2, if_neg e3] at k; exact k
  · intro p _ hp ihp M hM h69 h68
    refine BX11_ring_149 (cF (by rw [hn' M hM]; exact nI_ge hp (by omega)) ⟨p, rfl, by omega, p, rfl, by omega, ?_⟩)
    rw [nI_add, h69 p hp, bI2]
    refine ihp _ (fr1 M _ hM) (by rw [mup_n (by decide)]; exact h69) (fun q hq => ?_)
    rw [mup_s]
    by_cases e : q = p
    · subst e; rw [mput_s]
    · rw [mput_n e]; exact h68 q (by omega)
theorem sm_sw (p : Nat → Nat → Bool) (m : Nat) : ∀ n, sm (fun b => cn (fun a => p a b) m) n = sm (fun a => cn (fun b => p a b) n) m := by
  have h0 : ∀ m, sm (fun _ => 0) m = 0 := fun m => by
    induction m with
    | zero => rfl
    | succ m ih => rw [sm, ih]
  have hs : ∀ (f g : Nat → Nat) m, sm (fun a => f a + g a) m = sm f m + sm g m := fun f g m => by
    induction m with
    | zero => rfl
    | succ m ih => simp only [sm, ih]; omega
  have hc : ∀ (q : Nat → Bool) m, cn q m = sm (fun a => if q a then 1 else 0) m := fun q m => by
    induction m with
    | zero => rfl
    | succ m ih => simp only [sm, cn, ih]
  intro n
  induction n with
  | zero => simp only [sm, cn, h0]
  | succ n ih =>
    simp only [sm, cn, ih, hs]
    rw [hc (fun a => p a n)]
theorem t_count5 (hn : MI 46 6 = nI n) (h8 : n ≤ 8) {Q : Option Value → mI → mJ → Prop} (hQ : Q (some (.int (nI (sm (fun a => cn (fun b => !decide (nI 0 ≤ MI 47 (20 + a * 8 + b))) n) n)))) MI ML) : VX11_count_67 (D + 1) Q (nI 0) (nI 0) MI ML := by
  refine up (P := fun a => VX11_count_67 (D + 1) _ (nI (sm (fun a => cn (fun b => !decide (nI 0 ≤ MI 47 (20 + a * 8 + b))) n) a)) (nI a) MI ML) n (Nat.zero_le _) ?_ ?_
  · exact BX11_count_67 (cT (by rw [hn]; exact nI_le (Nat.le_refl _) (by omega)) hQ)
  · intro a _ ha ih
    refine BX11_count_67 (cF (by rw [hn]; exact nI_ge ha (by omega)) ?_)
    refine up (i0 := 0) (P := fun b => VX11_count_78 (D + 1) _ (nI (sm (fun a => cn (fun b => !decide (nI 0 ≤ MI 47 (20 + a * 8 + b))) n) a + cn (fun b => !decide (nI 0 ≤ MI 47 (20 + a * 8 + b))) b)) (nI a) (nI b) MI ML) n (Nat.zero_le _) ?_ ?_
    · refine BX11_count_78 (cT (by rw [hn]; exact nI_le (Nat.le_refl _) (by omega)) ?_)
      rw [nI_add]
      exact ih
    · intro b _ hb ihb
      refine BX11_count_78 (cF (by rw [hn]; exact nI_ge hb (by omega)) (usei t_felt ⟨_, rfl, by omega, ?_⟩))
      simp only [nI_add]
      refine br (fun h => ?_) (fun h => ?_)
      · have e : cn (fun b => !decide (nI 0 ≤ MI 47 (20 + a * 8 + b))) (b + 1) = cn (fun b => !decide (nI 0 ≤ MI 47 (20 + a * 8 + b))) b + 0 := by rw [cn, decide_eq_true h]; rfl
        rwa [e, ← Nat.add_assoc] at ihb
      · have e : cn (fun b => !decide (nI 0 ≤ MI 47 (20 + a * 8 + b))) (b + 1) = cn (fun b => !decide (nI 0 ≤ MI 47 (20 + a * 8 + b))) b + 1 := by rw [cn, decide_eq_false h]; rfl
        rwa [e, ← Nat.add_assoc] at ihb
end TR
