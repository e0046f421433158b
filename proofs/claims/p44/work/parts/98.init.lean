/-! what holds behind the class's making; the law's run -/
def al0 : List (Nat × Nat × Int32) := [(43, 3, nI 0), (43, 1, nI 0), (39, 4, nI 0), (39, 3, nI 0), (33, 5, nI 0), (37, 18, nI 6), (37, 16, nI 1), (36, 0, nI 0), (33, 2, nI 0), (28, 6, nI 0), (28, 5, nI 0), (28, 0, nI 0), (18, 6, nI 0), (18, 5, nI 0), (18, 0, nI 0), (15, 6, nI 0), (15, 5, nI 0), (15, 4, nI 0), (15, 3, nI 0), (15, 2, nI 0), (15, 1, nI 8), (17, 18, nI 6), (17, 16, nI 1), (16, 0, nI 0), (11, 5, nI 6), (11, 4, nI 6), (11, 3, nI 6), (11, 2, nI 6), (11, 1, nI 6), (11, 0, nI 6), (6, 1, nI 0), (3, 4, nI 0), (3, 3, nI 0), (3, 1, nI 0), (2, 18, nI 6), (2, 16, nI 1), (1, 0, nI 0)]
def bl0 : List (Nat × Nat × Int64) := []
theorem rdI_hi {a N : Nat} : ∀ {al : List (Nat × Nat × Int32)}, (al.all (fun e => !(Nat.beq e.1 a) || Nat.blt e.2.1 N)) = true → ∀ p, N ≤ p → rdI al a p = 0
  | [], _, _, _ => rfl
  | e :: t, h, p, hp => by
    rw [List.all_cons, Bool.and_eq_true] at h
    have h1 : ¬ (a = e.1 ∧ p = e.2.1) := fun q => by
      have h2 := h.1
      rw [← q.1, ← q.2, Nat.beq_refl] at h2
      have h3 : Nat.blt p N = true := h2
      have h4 : p < N := Nat.le_of_ble_eq_true h3
      omega
    show (if a = e.1 ∧ p = e.2.1 then e.2.2 else rdI t a p) = 0
    rw [if_neg h1]
    exact rdI_hi h.2 p hp
theorem init_0 : KI 0 (rdI al0 2) [] (fun _ => nI 0) (rdI al0) := by
  have z : ∀ a, (al0.all (fun e => !(Nat.beq e.1 a) || Nat.blt e.2.1 84)) = true → Z84 (rdI al0 a) := fun a h p hp => rdI_hi h p hp
  have k2 : ∀ p, p < 84 → lob p ≤ (rdI al0 2 p).toInt ∧ (rdI al0 2 p).toInt ≤ hib p := by decide +kernel
  have k34 : ∀ j, j < 6 → rdI al0 34 j = nI 0 := by decide +kernel
  exact ⟨by decide, by decide +kernel, rfl, ⟨k2, z 2 (by decide +kernel)⟩, z 17 (by decide +kernel), fun l hl => absurd hl List.not_mem_nil, ⟨Nat.zero_le _, by decide +kernel, fun i hi => absurd hi (Nat.not_lt_zero _)⟩, ⟨0, by decide, by decide +kernel⟩, k34⟩
theorem init_T : TP [] (rdI al0) := ⟨Nat.zero_le _, by decide +kernel, fun j hj => absurd hj (Nat.not_lt_zero _)⟩
theorem init_z : ∀ q, q < 16 ∨ 19 < q → rdI al0 2 q = nI 0 := by
  intro q hq
  by_cases h : q < 84
  · have k : ∀ q, q < 84 → q < 16 ∨ 19 < q → rdI al0 2 q = nI 0 := by decide +kernel
    exact k q h hq
  · have e := rdI_hi (a := 2) (N := 84) (al := al0) (by decide +kernel) q (by omega)
    rw [e]
    rfl
def lQ : Option Value → mS → Prop := fun v S => v = some (.int (nI 1)) ∧ S.2.1.length ≤ 100 ∧ S.1 ≤ 6000
theorem law_run {L : Nat} {xs : Nat → Int32} (hL : L ≤ 260) : ∃ (S1 : mS) (K : Nat), S1.2.1.length ≤ 100 ∧ S1.1 ≤ 6000 ∧ mex (TL_law L xs) (mrnS L xs 310) (fun v S' => v = some (.int (nI 1)) ∧ S' = S1) K (0, men [.float 0] 23, [], (0, [], rdI [], rdJ [])) := by
  have k : mEx (mrnT (mTbS L xs) 310) (TL_law L xs) lQ (0, men [.float 0] 23, [], (0, [], rdI [], rdJ [])) := by
    refine xA_new rfl rfl ?_
    refine x_st rfl ?_
    refine x_cv rfl (mrn_S (ic_13 (D := 307))) ?_
    refine x_st rfl ?_
    refine x_kl ?_ (l_law (Q := lQ) (MI := rdI al0) (ML := rdJ bl0) (g := rdI al0 2) hL init_0 init_T (by decide +kernel) (by decide +kernel) (by decide +kernel) (by decide +kernel) init_z (fun _ _ => rfl) ?_)
    · exact ⟨Or.inr rfl, ⟨Or.inr rfl, ⟨Or.inl rfl, ⟨Or.inl rfl, ⟨Or.inl rfl, ⟨Or.inl rfl, ⟨Or.inl rfl, ⟨Or.inl rfl, ⟨Or.inl rfl, ⟨Or.inl rfl, ⟨Or.inl rfl, ⟨Or.inl rfl, ⟨Or.inl rfl, ⟨Or.inl rfl, ⟨Or.inl rfl, ⟨Or.inl rfl, ⟨Or.inl rfl, ⟨Or.inl rfl, ⟨Or.inl rfl, ⟨Or.inl rfl, ⟨Or.inl rfl, ⟨Or.inl rfl, ⟨Or.inl rfl, ⟨Or.inl rfl, True.intro⟩⟩⟩⟩⟩⟩⟩⟩⟩⟩⟩⟩⟩⟩⟩⟩⟩⟩⟩⟩⟩⟩⟩⟩
    · rintro M E d ⟨F, rfl, hF, rfl⟩
      refine ⟨rfl, ?_, ?_⟩
      · show (Sh0 ++ (EB ++ F)).length ≤ 100
        rw [List.length_append, List.length_append, hF]
        decide
      · show W0 + (102 + 200 * 3) ≤ 6000
        decide
  obtain ⟨K, hK⟩ := k
  obtain ⟨v, S', ⟨rfl, q1, q2⟩, h2⟩ := mex_det hK
  exact ⟨S', K, q1, q2, h2⟩
