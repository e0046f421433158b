/-! what holds at first; the law's loop -/
def al0 : List (Nat × Nat × Int32) := [(47, 18, nI 6), (47, 16, nI 1), (76, 5, (-1 : Int32)), (76, 4, (-1 : Int32)), (76, 3, (-1 : Int32)), (76, 2, (-1 : Int32)), (76, 1, (-1 : Int32)), (76, 0, (-1 : Int32)), (46, 40, (-1 : Int32)), (43, 3, nI 0), (43, 1, nI 0), (39, 4, nI 0), (39, 3, nI 0), (33, 5, nI 0), (37, 18, nI 6), (37, 16, nI 1), (36, 0, nI 0), (33, 2, nI 0), (28, 6, nI 0), (28, 5, nI 0), (28, 0, nI 0), (18, 6, nI 0), (18, 5, nI 0), (18, 0, nI 0), (15, 6, nI 0), (15, 5, nI 0), (15, 4, nI 0), (15, 3, nI 0), (15, 2, nI 0), (15, 1, nI 8), (17, 18, nI 6), (17, 16, nI 1), (16, 0, nI 0), (11, 5, nI 6), (11, 4, nI 6), (11, 3, nI 6), (11, 2, nI 6), (11, 1, nI 6), (11, 0, nI 6), (6, 1, nI 0), (3, 4, nI 0), (3, 3, nI 0), (3, 1, nI 0), (2, 18, nI 6), (2, 16, nI 1), (1, 0, nI 0)]
def bl0 : List (Nat × Nat × Int64) := [(60, 5, (146885 : Int64)), (60, 4, (4153 : Int64)), (60, 3, (755156 : Int64)), (60, 2, (290921650 : Int64)), (60, 1, (409285 : Int64)), (60, 0, (263813 : Int64))]
theorem rdI_hi {a N : Nat} : ∀ {al : List (Nat × Nat × Int32)}, (al.all (fun e => !(Nat.beq e.1 a) || Nat.blt e.2.1 N)) = true → ∀ p, N ≤ p → rdI al a p = 0
  | [], _, _, _ => rfl
  | e :: t, h, p, hp => by
    rw [List.all_cons, Bool.and_eq_true] at h
    have h1 : ¬ (a = e.1 ∧ p = e.2.1) := fun q => by
      have h2 := h.1
      rw [← q.1, ← q.2, Nat.beq_refl] at h2
      have h3 : Nat.blt p N = true := h2
      have h4 : p < N := Nat.le_of_ble_eq_true h3
      omega
    show (if a = e.1 ∧ p = e.2.1 then e.2.2 else rdI t a p) = 0
    rw [if_neg h1]
    exact rdI_hi h.2 p hp
theorem inv_0 : Inv (rdI al0) (rdJ bl0) := by
  have z : ∀ a, (al0.all (fun e => !(Nat.beq e.1 a) || Nat.blt e.2.1 84)) = true → Z84 (rdI al0 a) := fun a h p hp => rdI_hi h p hp
  have e47 : rdI al0 47 = rdI al0 2 := by
    funext p
    by_cases h : p < 84
    · have k : ∀ p, p < 84 → rdI al0 47 p = rdI al0 2 p := by decide +kernel
      exact k p h
    · rw [z 47 (by decide +kernel) p (by omega), z 2 (by decide +kernel) p (by omega)]
  have k2 : ∀ p, p < 84 → lob p ≤ (rdI al0 2 p).toInt ∧ (rdI al0 2 p).toInt ≤ hib p := by decide +kernel
  have k6 : ∀ d, d < 6 → rdI al0 11 d = nI 6 ∧ rdI al0 76 d = -1 ∧ rdI al0 12 d = nI 0 ∧ rdI al0 77 d = nI 0 := by decide +kernel
  have k7 : ∀ j, j < 6 → rdI al0 70 j = rdI al0 34 j := by decide +kernel
  refine ⟨⟨0, by decide, by decide +kernel, by decide +kernel, e47, ⟨k2, z 2 (by decide +kernel)⟩, z 17 (by decide +kernel), z 37 (by decide +kernel), z 61 (by decide +kernel), z 72 (by decide +kernel)⟩,
    ⟨0, 0, Nat.le_refl _, by decide, by decide +kernel, by decide +kernel, by decide +kernel, by decide +kernel, fun j hj => absurd hj (Nat.not_lt_zero _)⟩,
    ⟨0, by decide, by decide +kernel, by decide +kernel, fun j hj => absurd hj (Nat.not_lt_zero _)⟩,
    ⟨[], fun l hl => absurd hl List.not_mem_nil, ⟨Nat.zero_le _, by decide +kernel, fun i hi => absurd hi (Nat.not_lt_zero _)⟩, ⟨Nat.zero_le _, Nat.zero_le _, by decide +kernel, fun i hi => absurd hi (Nat.not_lt_zero _), fun i hi => absurd hi (Nat.not_lt_zero _)⟩⟩,
    ⟨0, ⟨by decide, by decide +kernel, by decide +kernel, fun j hj => absurd hj (Nat.not_lt_zero _)⟩, fun d hd => Or.inl (k6 d hd)⟩,
    ⟨by decide +kernel, 0, by decide, by decide +kernel, by decide +kernel, fun j _ hj => absurd hj (Nat.not_lt_zero _)⟩,
    ⟨k7, 0, by decide, by decide +kernel, by decide +kernel, fun j hj => absurd hj (Nat.not_lt_zero _)⟩,
    Or.inl ⟨by decide +kernel, by decide +kernel⟩,
    by decide +kernel, by decide +kernel, by decide +kernel, by decide +kernel, by decide +kernel, by decide +kernel⟩
theorem li_1 {L i : Nat} (hL : L ≤ 3072) (hi : i ≤ 3100) : (nI L - nI 6 < nI i) ↔ L < i + 6 := by
  rw [fa_lt, ti_sub (by rw [nI_toInt (by omega)]; omega) (by rw [nI_toInt (by omega)]; omega) (by decide) (by decide), nI_toInt (by omega), nI_toInt (by omega), nI_toInt (by omega)]
  omega
abbrev lQ : Option Value → mI → mJ → Prop := fun v _ _ => v = some (.int (nI 1))
theorem law_loop {L : Nat} {xs : Nat → Int32} (hL : L ≤ 3072) : ∀ (k i : Nat) (MI : mI) (ML : mJ), L < i + k → i ≤ L → Inv MI ML → VL_law_18 300 lQ L xs (nI i) MI ML
  | 0, i, _, _, h, h2, _ => absurd h2 (by omega)
  | k + 1, i, MI, ML, hk, hi, hI => by
    refine BL_law_18 (by omega) ?_
    rw [li_1 hL (by omega)]
    refine br (fun _ => rfl) (fun h6 => ⟨i, rfl, by omega, ?_⟩)
    have nx : ∀ (M : mI) (N : mJ), Inv M N → VL_law_18 300 lQ L xs (nI i + nI 6) M N := fun M N hv => by
      rw [nI_add]
      exact law_loop hL k (i + 6) M N (by omega) (by omega) hv
    refine br (fun _ => ?_) (fun _ => ?_)
    · obtain ⟨v, M1, L1, M2, L2, a, b, c⟩ := p_person (xs (i + 1)) (xs (i + 2)) MI ML hI
      exact ⟨i + 1, by rw [nI_add], by omega, i + 2, by rw [nI_add], by omega, v, M1, L1, a, i + 1, by rw [nI_add], by omega, i + 2, by rw [nI_add], by omega, v, M2, L2, b, cT rfl (nx M2 L2 c)⟩
    refine br (fun _ => ?_) (fun _ => ?_)
    · obtain ⟨v, M1, L1, M2, L2, a, b, c⟩ := p_people (xs (i + 1)) (xs (i + 2)) (xs (i + 3)) MI ML hI
      exact ⟨i + 1, by rw [nI_add], by omega, i + 2, by rw [nI_add], by omega, i + 3, by rw [nI_add], by omega, v, M1, L1, a, i + 1, by rw [nI_add], by omega, i + 2, by rw [nI_add], by omega, i + 3, by rw [nI_add], by omega, v, M2, L2, b, cT rfl (nx M2 L2 c)⟩
    refine br (fun _ => ?_) (fun _ => ?_)
    · obtain ⟨v, M1, L1, M2, L2, a, b, c⟩ := p_mend (xs (i + 1)) (xs (i + 2)) (xs (i + 3)) MI ML hI
      exact ⟨i + 1, by rw [nI_add], by omega, i + 2, by rw [nI_add], by omega, i + 3, by rw [nI_add], by omega, v, M1, L1, a, i + 1, by rw [nI_add], by omega, i + 2, by rw [nI_add], by omega, i + 3, by rw [nI_add], by omega, v, M2, L2, b, cT rfl (nx M2 L2 c)⟩
    refine br (fun _ => ?_) (fun _ => ?_)
    · obtain ⟨v, M1, L1, M2, L2, a, b, c⟩ := p_of (xs (i + 1)) (xs (i + 2)) MI ML hI
      exact ⟨i + 1, by rw [nI_add], by omega, i + 2, by rw [nI_add], by omega, v, M1, L1, a, i + 1, by rw [nI_add], by omega, i + 2, by rw [nI_add], by omega, v, M2, L2, b, cT rfl (nx M2 L2 c)⟩
    refine br (fun _ => ?_) (fun _ => ?_)
    · obtain ⟨v, M1, L1, M2, L2, a, b, c⟩ := p_feel (xs (i + 1)) (xs (i + 2)) MI ML hI
      exact ⟨i + 1, by rw [nI_add], by omega, i + 2, by rw [nI_add], by omega, v, M1, L1, a, i + 1, by rw [nI_add], by omega, i + 2, by rw [nI_add], by omega, v, M2, L2, b, cT rfl (nx M2 L2 c)⟩
    refine br (fun _ => ?_) (fun _ => ?_)
    · obtain ⟨v, M1, L1, M2, L2, a, b, c⟩ := p_feeling (xs (i + 1)) MI ML hI
      exact ⟨i + 1, by rw [nI_add], by omega, v, M1, L1, a, i + 1, by rw [nI_add], by omega, v, M2, L2, b, cT rfl (nx M2 L2 c)⟩
    refine br (fun _ => ?_) (fun _ => ?_)
    · obtain ⟨v, M1, L1, M2, L2, a, b, c⟩ := p_feed (xs (i + 1)) MI ML hI
      exact ⟨i + 1, by rw [nI_add], by omega, v, M1, L1, a, i + 1, by rw [nI_add], by omega, v, M2, L2, b, cT rfl (nx M2 L2 c)⟩
    refine br (fun _ => ?_) (fun _ => ?_)
    · obtain ⟨v, M1, L1, M2, L2, a, b, c⟩ := p_law  MI ML hI
      exact ⟨v, M1, L1, a, v, M2, L2, b, cT rfl (nx M2 L2 c)⟩
    refine br (fun _ => ?_) (fun _ => ?_)
    · obtain ⟨v, M1, L1, M2, L2, a, b, c⟩ := p_paired (xs (i + 1)) MI ML hI
      exact ⟨i + 1, by rw [nI_add], by omega, v, M1, L1, a, i + 1, by rw [nI_add], by omega, v, M2, L2, b, cT rfl (nx M2 L2 c)⟩
    refine br (fun _ => ?_) (fun _ => ?_)
    · obtain ⟨v, M1, L1, M2, L2, a, b, c⟩ := p_harm (xs (i + 1)) MI ML hI
      exact ⟨i + 1, by rw [nI_add], by omega, v, M1, L1, a, i + 1, by rw [nI_add], by omega, v, M2, L2, b, cT rfl (nx M2 L2 c)⟩
    refine br (fun _ => ?_) (fun _ => ?_)
    · obtain ⟨v, M1, L1, M2, L2, a, b, c⟩ := p_lacks (xs (i + 1)) (xs (i + 2)) MI ML hI
      exact ⟨i + 1, by rw [nI_add], by omega, i + 2, by rw [nI_add], by omega, v, M1, L1, a, i + 1, by rw [nI_add], by omega, i + 2, by rw [nI_add], by omega, v, M2, L2, b, cT rfl (nx M2 L2 c)⟩
    refine br (fun _ => ?_) (fun _ => ?_)
    · obtain ⟨v, M1, L1, M2, L2, a, b, c⟩ := p_later (xs (i + 1)) (xs (i + 2)) MI ML hI
      exact ⟨i + 1, by rw [nI_add], by omega, i + 2, by rw [nI_add], by omega, v, M1, L1, a, i + 1, by rw [nI_add], by omega, i + 2, by rw [nI_add], by omega, v, M2, L2, b, cT rfl (nx M2 L2 c)⟩
    refine br (fun _ => ?_) (fun _ => ?_)
    · obtain ⟨v, M1, L1, M2, L2, a, b, c⟩ := p_feltLater (xs (i + 1)) (xs (i + 2)) MI ML hI
      exact ⟨i + 1, by rw [nI_add], by omega, i + 2, by rw [nI_add], by omega, v, M1, L1, a, i + 1, by rw [nI_add], by omega, i + 2, by rw [nI_add], by omega, v, M2, L2, b, cT rfl (nx M2 L2 c)⟩
    refine br (fun _ => ?_) (fun _ => ?_)
    · obtain ⟨v, M1, L1, M2, L2, a, b, c⟩ := p_lasts (xs (i + 1)) MI ML hI
      exact ⟨i + 1, by rw [nI_add], by omega, v, M1, L1, a, i + 1, by rw [nI_add], by omega, v, M2, L2, b, cT rfl (nx M2 L2 c)⟩
    refine br (fun _ => ?_) (fun _ => ?_)
    · obtain ⟨v, M1, L1, M2, L2, a, b, c⟩ := p_renewed (xs (i + 1)) (xs (i + 2)) MI ML hI
      exact ⟨i + 1, by rw [nI_add], by omega, i + 2, by rw [nI_add], by omega, v, M1, L1, a, i + 1, by rw [nI_add], by omega, i + 2, by rw [nI_add], by omega, v, M2, L2, b, cT rfl (nx M2 L2 c)⟩
    refine br (fun _ => ?_) (fun _ => ?_)
    · obtain ⟨v, M1, L1, M2, L2, a, b, c⟩ := p_worth (xs (i + 1)) (xs (i + 2)) (xs (i + 3)) MI ML hI
      exact ⟨i + 1, by rw [nI_add], by omega, i + 2, by rw [nI_add], by omega, i + 3, by rw [nI_add], by omega, v, M1, L1, a, i + 1, by rw [nI_add], by omega, i + 2, by rw [nI_add], by omega, i + 3, by rw [nI_add], by omega, v, M2, L2, b, cT rfl (nx M2 L2 c)⟩
    refine br (fun _ => ?_) (fun _ => ?_)
    · obtain ⟨v, M1, L1, M2, L2, a, b, c⟩ := p_ring  MI ML hI
      exact ⟨v, M1, L1, a, v, M2, L2, b, cT rfl (nx M2 L2 c)⟩
    refine br (fun _ => ?_) (fun _ => ?_)
    · obtain ⟨v, M1, L1, M2, L2, a, b, c⟩ := p_judge (xs (i + 1)) (xs (i + 2)) MI ML hI
      exact ⟨i + 1, by rw [nI_add], by omega, i + 2, by rw [nI_add], by omega, v, M1, L1, a, i + 1, by rw [nI_add], by omega, i + 2, by rw [nI_add], by omega, v, M2, L2, b, cT rfl (nx M2 L2 c)⟩
    refine br (fun _ => ?_) (fun _ => ?_)
    · obtain ⟨v, M1, L1, M2, L2, a, b, c⟩ := p_fits (xs (i + 1)) (xs (i + 2)) (xs (i + 3)) MI ML hI
      exact ⟨i + 1, by rw [nI_add], by omega, i + 2, by rw [nI_add], by omega, i + 3, by rw [nI_add], by omega, v, M1, L1, a, i + 1, by rw [nI_add], by omega, i + 2, by rw [nI_add], by omega, i + 3, by rw [nI_add], by omega, v, M2, L2, b, cT rfl (nx M2 L2 c)⟩
    refine br (fun _ => ?_) (fun _ => ?_)
    · obtain ⟨v, M1, L1, M2, L2, a, b, c⟩ := p_byTurns (xs (i + 1)) (xs (i + 2)) (xs (i + 3)) MI ML hI
      exact ⟨i + 1, by rw [nI_add], by omega, i + 2, by rw [nI_add], by omega, i + 3, by rw [nI_add], by omega, v, M1, L1, a, i + 1, by rw [nI_add], by omega, i + 2, by rw [nI_add], by omega, i + 3, by rw [nI_add], by omega, v, M2, L2, b, cT rfl (nx M2 L2 c)⟩
    refine br (fun _ => ?_) (fun _ => ?_)
    · obtain ⟨v, M1, L1, M2, L2, a, b, c⟩ := p_drawn (xs (i + 1)) (xs (i + 2)) (xs (i + 3)) MI ML hI
      exact ⟨i + 1, by rw [nI_add], by omega, i + 2, by rw [nI_add], by omega, i + 3, by rw [nI_add], by omega, v, M1, L1, a, i + 1, by rw [nI_add], by omega, i + 2, by rw [nI_add], by omega, i + 3, by rw [nI_add], by omega, v, M2, L2, b, cT rfl (nx M2 L2 c)⟩
    refine br (fun _ => ?_) (fun _ => ?_)
    · obtain ⟨v, M1, L1, M2, L2, a, b, c⟩ := p_day  MI ML hI
      exact ⟨v, M1, L1, a, v, M2, L2, b, cT rfl (nx M2 L2 c)⟩
    refine br (fun _ => ?_) (fun _ => ?_)
    · obtain ⟨v, M1, L1, M2, L2, a, b, c⟩ := p_wrong (xs (i + 1)) (xs (i + 2)) MI ML hI
      exact ⟨i + 1, by rw [nI_add], by omega, i + 2, by rw [nI_add], by omega, v, M1, L1, a, i + 1, by rw [nI_add], by omega, i + 2, by rw [nI_add], by omega, v, M2, L2, b, cT rfl (nx M2 L2 c)⟩
    refine br (fun _ => ?_) (fun _ => ?_)
    · obtain ⟨v, M1, L1, M2, L2, a, b, c⟩ := p_lease (xs (i + 1)) (xs (i + 2)) MI ML hI
      exact ⟨i + 1, by rw [nI_add], by omega, i + 2, by rw [nI_add], by omega, v, M1, L1, a, i + 1, by rw [nI_add], by omega, i + 2, by rw [nI_add], by omega, v, M2, L2, b, cT rfl (nx M2 L2 c)⟩
    refine br (fun _ => ?_) (fun _ => ?_)
    · obtain ⟨v, M1, L1, M2, L2, a, b, c⟩ := p_gift (xs (i + 1)) (xs (i + 2)) MI ML hI
      exact ⟨i + 1, by rw [nI_add], by omega, i + 2, by rw [nI_add], by omega, v, M1, L1, a, i + 1, by rw [nI_add], by omega, i + 2, by rw [nI_add], by omega, v, M2, L2, b, cT rfl (nx M2 L2 c)⟩
    refine br (fun _ => ?_) (fun _ => ?_)
    · obtain ⟨v, M1, L1, M2, L2, a, b, c⟩ := p_tale (xs (i + 1)) MI ML hI
      exact ⟨i + 1, by rw [nI_add], by omega, v, M1, L1, a, i + 1, by rw [nI_add], by omega, v, M2, L2, b, cT rfl (nx M2 L2 c)⟩
    refine br (fun _ => ?_) (fun _ => ?_)
    · obtain ⟨v, M1, L1, M2, L2, a, b, c⟩ := p_led (xs (i + 1)) MI ML hI
      exact ⟨i + 1, by rw [nI_add], by omega, v, M1, L1, a, i + 1, by rw [nI_add], by omega, v, M2, L2, b, cT rfl (nx M2 L2 c)⟩
    refine br (fun _ => ?_) (fun _ => ?_)
    · obtain ⟨v, M1, L1, M2, L2, a, b, c⟩ := p_image  MI ML hI
      exact ⟨v, M1, L1, a, v, M2, L2, b, cT rfl (nx M2 L2 c)⟩
    refine br (fun _ => ?_) (fun _ => ?_)
    · obtain ⟨v, M1, L1, M2, L2, a, b, c⟩ := p_back  MI ML hI
      exact ⟨v, M1, L1, a, v, M2, L2, b, cT rfl (nx M2 L2 c)⟩
    refine br (fun _ => ?_) (fun _ => ?_)
    · obtain ⟨v, M1, L1, M2, L2, a, b, c⟩ := p_undo  MI ML hI
      exact ⟨v, M1, L1, a, v, M2, L2, b, cT rfl (nx M2 L2 c)⟩
    refine br (fun _ => ?_) (fun _ => ?_)
    · obtain ⟨v, M1, L1, M2, L2, a, b, c⟩ := p_redo  MI ML hI
      exact ⟨v, M1, L1, a, v, M2, L2, b, cT rfl (nx M2 L2 c)⟩
    refine br (fun _ => ?_) (fun _ => ?_)
    · obtain ⟨v, M1, L1, M2, L2, a, b, c⟩ := p_body (xs (i + 1)) MI ML hI
      exact ⟨i + 1, by rw [nI_add], by omega, v, M1, L1, a, i + 1, by rw [nI_add], by omega, v, M2, L2, b, cT rfl (nx M2 L2 c)⟩
    refine br (fun _ => ?_) (fun _ => ?_)
    · obtain ⟨v, M1, L1, M2, L2, a, b, c⟩ := p_act (xs (i + 1)) (xs (i + 2)) (xs (i + 3)) MI ML hI
      exact ⟨i + 1, by rw [nI_add], by omega, i + 2, by rw [nI_add], by omega, i + 3, by rw [nI_add], by omega, v, M1, L1, a, i + 1, by rw [nI_add], by omega, i + 2, by rw [nI_add], by omega, i + 3, by rw [nI_add], by omega, v, M2, L2, b, cT rfl (nx M2 L2 c)⟩
    refine br (fun _ => ?_) (fun _ => ?_)
    · obtain ⟨v, M1, L1, M2, L2, a, b, c⟩ := p_trace (xs (i + 1)) MI ML hI
      exact ⟨i + 1, by rw [nI_add], by omega, v, M1, L1, a, i + 1, by rw [nI_add], by omega, v, M2, L2, b, cT rfl (nx M2 L2 c)⟩
    refine br (fun _ => ?_) (fun _ => ?_)
    · obtain ⟨v, M1, L1, M2, L2, a, b, c⟩ := p_keep (xs (i + 1)) (xs (i + 2)) MI ML hI
      exact ⟨i + 1, by rw [nI_add], by omega, i + 2, by rw [nI_add], by omega, v, M1, L1, a, i + 1, by rw [nI_add], by omega, i + 2, by rw [nI_add], by omega, v, M2, L2, b, cT rfl (nx M2 L2 c)⟩
    refine br (fun _ => ?_) (fun _ => ?_)
    · obtain ⟨v, M1, L1, M2, L2, a, b, c⟩ := p_row (xs (i + 1)) (xs (i + 2)) (xs (i + 3)) MI ML hI
      exact ⟨i + 1, by rw [nI_add], by omega, i + 2, by rw [nI_add], by omega, i + 3, by rw [nI_add], by omega, v, M1, L1, a, i + 1, by rw [nI_add], by omega, i + 2, by rw [nI_add], by omega, i + 3, by rw [nI_add], by omega, v, M2, L2, b, cT rfl (nx M2 L2 c)⟩
    refine br (fun _ => ?_) (fun _ => ?_)
    · obtain ⟨v, M1, L1, M2, L2, a, b, c⟩ := p_put (xs (i + 1)) (xs (i + 2)) (((xs (i + 3)).toInt64 <<< ((nI 32).toInt64 &&& 63)) ||| ((xs (i + 4)).toInt64 &&& (4294967295 : Int64))) MI ML hI
      exact ⟨i + 1, by rw [nI_add], by omega, i + 2, by rw [nI_add], by omega, i + 3, by rw [nI_add], by omega, i + 4, by rw [nI_add], by omega, v, M1, L1, a, i + 1, by rw [nI_add], by omega, i + 2, by rw [nI_add], by omega, i + 3, by rw [nI_add], by omega, i + 4, by rw [nI_add], by omega, v, M2, L2, b, cT rfl (nx M2 L2 c)⟩
    refine br (fun _ => ?_) (fun _ => ?_)
    · obtain ⟨v, M1, L1, M2, L2, a, b, c⟩ := p_element (xs (i + 1)) (xs (i + 2)) MI ML hI
      exact ⟨i + 1, by rw [nI_add], by omega, i + 2, by rw [nI_add], by omega, v, M1, L1, a, i + 1, by rw [nI_add], by omega, i + 2, by rw [nI_add], by omega, v, M2, L2, b, cT (by rw [lgE]) (nx M2 L2 c)⟩
    refine br (fun _ => ?_) (fun _ => ?_)
    · obtain ⟨v, M1, L1, M2, L2, a, b, c⟩ := p_shift (xs (i + 1)) (xs (i + 2)) (xs (i + 3)) (xs (i + 4)) (xs (i + 5)) MI ML hI
      exact ⟨i + 1, by rw [nI_add], by omega, i + 2, by rw [nI_add], by omega, i + 3, by rw [nI_add], by omega, i + 4, by rw [nI_add], by omega, i + 5, by rw [nI_add], by omega, v, M1, L1, a, i + 1, by rw [nI_add], by omega, i + 2, by rw [nI_add], by omega, i + 3, by rw [nI_add], by omega, i + 4, by rw [nI_add], by omega, i + 5, by rw [nI_add], by omega, v, M2, L2, b, cT rfl (nx M2 L2 c)⟩
    refine br (fun _ => ?_) (fun _ => ?_)
    · obtain ⟨v, M1, L1, M2, L2, a, b, c⟩ := p_taken (xs (i + 1)) (xs (i + 2)) MI ML hI
      exact ⟨i + 1, by rw [nI_add], by omega, i + 2, by rw [nI_add], by omega, v, M1, L1, a, i + 1, by rw [nI_add], by omega, i + 2, by rw [nI_add], by omega, v, M2, L2, b, cT rfl (nx M2 L2 c)⟩
    refine br (fun _ => ?_) (fun _ => ?_)
    · obtain ⟨v, M1, L1, M2, L2, a, b, c⟩ := p_count (xs (i + 1)) MI ML hI
      exact ⟨i + 1, by rw [nI_add], by omega, v, M1, L1, a, i + 1, by rw [nI_add], by omega, v, M2, L2, b, cT rfl (nx M2 L2 c)⟩
    exact nx MI ML hI
