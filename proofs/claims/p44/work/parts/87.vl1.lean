/-! the law's bodies by blocks -/
def VL_out_0 (C : mC) (Q : Option Value → mS → Prop) (a0 : Nat) (a1 : Nat) (a2 : Nat) (a3 : Nat) (v4 : Int32) (v5 : Int32) (v6 : Int32) (w : Nat) (Sh : List mT) (MI : mI) (ML : mJ) : Prop := mEx C TL_out Q (0, [some (.ref a0), some (.ref a1), some (.ref a2), some (.ref a3), some (.int v4), some (.int v5), some (.int v6), none, none, none], [], (w, Sh, MI, ML))
def VL_out_95 (C : mC) (Q : Option Value → mS → Prop) (s0 : Int32) (w : Nat) (Sh : List mT) (MI : mI) (ML : mJ) : Prop := mEx C TL_out Q (95, [none, none, none, none, none, none, none, none, none, none], [.int s0], (w, Sh, MI, ML))
theorem BL_out_0 {C : mC} {Q : Option Value → mS → Prop} {a0 : Nat} {a1 : Nat} {a2 : Nat} {a3 : Nat} {v4 : Int32} {v5 : Int32} {v6 : Int32} {w : Nat} {Sh : List mT} {MI : mI} {ML : mJ}
    (h : ∃ i1 : Nat, aok Sh a2 i1 (((nI 8) * v4) + v5) ∧ (∃ (x4 : Int32) (M2 : mI) (N3 : mJ), C 280 [.ref a0, .ref a2, .int v5] (w, Sh, MI, ML) (some (.int x4)) (w, Sh, M2, N3) ∧ (∃ i5 : Nat, aok Sh a2 i5 (((nI 8) * x4) + v5) ∧ (aok Sh a3 0 (nI 0) ∧ ((nI 0 ≤ (M2 a3 0) → aok Sh a3 0 (nI 0) ∧ (∃ i6 : Nat, aok Sh a1 i6 (((nI 2) * v5) + (nI 1)) ∧ (aok Sh a3 1 (nI 1) ∧ (¬ (M2 a3 1) = nI 0 ∧ (∃ i7 : Nat, aok Sh a1 i7 ((nI 2) * v5) ∧ (aok Sh a3 2 (nI 2) ∧ (¬ (M2 a3 2) = nI 0 ∧ (aok Sh a0 4 (nI 4) ∧ (VL_out_95 C Q (((((((-(MI a2 i1)) * (M2 a3 0)) + (M2 a1 i6)) - ((M2 a2 i5) / (M2 a3 1))) + ((M2 a1 i7) / (M2 a3 2))) + ((M2 a0 4) - (M2 a0 4) / (nI 3) * (nI 3))) - v6) w Sh M2 N3))))))))) ∧ (¬ nI 0 ≤ (M2 a3 0) → ∃ i8 : Nat, aok Sh a1 i8 (((nI 2) * v5) + (nI 1)) ∧ (VL_out_95 C Q (((nI 8) + (M2 a1 i8)) - (-(MI a2 i1))) w Sh M2 N3))))))) :
    VL_out_0 C Q a0 a1 a2 a3 v4 v5 v6 w Sh MI ML := by
  show mEx C TL_out Q (0, [some (.ref a0), some (.ref a1), some (.ref a2), some (.ref a3), some (.int v4), some (.int v5), some (.int v6), none, none, none], [], (w, Sh, MI, ML))
  refine x_st rfl ?_
  refine x_st rfl ?_
  refine x_st rfl ?_
  refine x_st rfl ?_
  refine x_st rfl ?_
  refine x_st rfl ?_
  obtain ⟨i1, ha, h⟩ := h
  refine y_ia (nx := 10) (i := i1) rfl ha ?_
  refine x_st rfl ?_
  refine x_st rfl ?_
  refine x_st rfl ?_
  refine x_st rfl ?_
  refine x_st rfl ?_
  refine x_st rfl ?_
  refine x_st rfl ?_
  obtain ⟨x4, M2, N3, hc, h⟩ := h
  refine x_ci rfl hc ?_
  refine x_st rfl ?_
  refine x_st rfl ?_
  refine x_st rfl ?_
  obtain ⟨i5, ha, h⟩ := h
  refine y_ia (nx := 28) (i := i5) rfl ha ?_
  refine x_st rfl ?_
  refine x_st rfl ?_
  refine x_st rfl ?_
  refine y_ia (nx := 33) (i := 0) rfl h.1 ?_
  replace h := h.2
  refine x_br rfl (fun c => ?_) (fun c => ?_)
  · replace h := h.1 c
    refine x_st rfl ?_
    refine x_st rfl ?_
    refine x_st rfl ?_
    refine y_ia (nx := 58) (i := 0) rfl h.1 ?_
    replace h := h.2
    refine x_st rfl ?_
    refine x_st rfl ?_
    refine x_st rfl ?_
    refine x_st rfl ?_
    refine x_st rfl ?_
    refine x_st rfl ?_
    refine x_st rfl ?_
    obtain ⟨i6, ha, h⟩ := h
    refine y_ia (nx := 67) (i := i6) rfl ha ?_
    refine x_st rfl ?_
    refine x_st rfl ?_
    refine x_st rfl ?_
    refine x_st rfl ?_
    refine y_ia (nx := 73) (i := 1) rfl h.1 ?_
    replace h := h.2
    refine x_ck rfl h.1 ?_
    have h := h.2
    refine x_st rfl ?_
    refine x_st rfl ?_
    refine x_st rfl ?_
    refine x_st rfl ?_
    refine x_st rfl ?_
    obtain ⟨i7, ha, h⟩ := h
    refine y_ia (nx := 81) (i := i7) rfl ha ?_
    refine x_st rfl ?_
    refine x_st rfl ?_
    refine y_ia (nx := 84) (i := 2) rfl h.1 ?_
    replace h := h.2
    refine x_ck rfl h.1 ?_
    have h := h.2
    refine x_st rfl ?_
    refine x_st rfl ?_
    refine x_st rfl ?_
    refine y_ia (nx := 89) (i := 4) rfl h.1 ?_
    replace h := h.2
    refine x_st rfl ?_
    refine x_st rfl ?_
    refine x_st rfl ?_
    refine x_st rfl ?_
    refine x_st rfl ?_
    refine x_kl ?_ h
    exact ⟨Or.inl rfl, ⟨Or.inl rfl, ⟨Or.inl rfl, ⟨Or.inl rfl, ⟨Or.inl rfl, ⟨Or.inl rfl, ⟨Or.inl rfl, ⟨Or.inl rfl, ⟨Or.inl rfl, ⟨Or.inl rfl, True.intro⟩⟩⟩⟩⟩⟩⟩⟩⟩⟩
  · replace h := h.2 c
    refine x_st rfl ?_
    refine x_st rfl ?_
    refine x_st rfl ?_
    refine x_st rfl ?_
    refine x_st rfl ?_
    refine x_st rfl ?_
    refine x_st rfl ?_
    obtain ⟨i8, ha, h⟩ := h
    refine y_ia (nx := 46) (i := i8) rfl ha ?_
    refine x_st rfl ?_
    refine x_st rfl ?_
    refine x_st rfl ?_
    refine x_st rfl ?_
    refine x_kl ?_ h
    exact ⟨Or.inl rfl, ⟨Or.inl rfl, ⟨Or.inl rfl, ⟨Or.inl rfl, ⟨Or.inl rfl, ⟨Or.inl rfl, ⟨Or.inl rfl, ⟨Or.inl rfl, ⟨Or.inl rfl, ⟨Or.inl rfl, True.intro⟩⟩⟩⟩⟩⟩⟩⟩⟩⟩
theorem BL_out_95 {C : mC} {Q : Option Value → mS → Prop} {s0 : Int32} {w : Nat} {Sh : List mT} {MI : mI} {ML : mJ}
    (h : (nI 0 ≤ s0 → (s0 ≤ (nI 50) → Q (some (.int s0)) (w, Sh, MI, ML)) ∧ (¬ s0 ≤ (nI 50) → Q (some (.int (nI 50))) (w, Sh, MI, ML))) ∧ (¬ nI 0 ≤ s0 → Q (some (.int (nI 0))) (w, Sh, MI, ML))) :
    VL_out_95 C Q s0 w Sh MI ML := by
  show mEx C TL_out Q (95, [none, none, none, none, none, none, none, none, none, none], [.int s0], (w, Sh, MI, ML))
  refine x_st rfl ?_
  refine x_st rfl ?_
  refine x_br rfl (fun c => ?_) (fun c => ?_)
  · replace h := h.1 c
    refine x_st rfl ?_
    refine x_st rfl ?_
    refine x_br rfl (fun c => ?_) (fun c => ?_)
    · replace h := h.1 c
      refine x_st rfl ?_
      exact x_ret rfl h
    · replace h := h.2 c
      refine x_st rfl ?_
      refine x_st rfl ?_
      exact x_ret rfl h
  · replace h := h.2 c
    refine x_st rfl ?_
    refine x_st rfl ?_
    exact x_ret rfl h
theorem EL_out {D : Nat} {Q : Option Value → mS → Prop} {a0 : Nat} {a1 : Nat} {a2 : Nat} {a3 : Nat} {v4 : Int32} {v5 : Int32} {v6 : Int32} {w : Nat} {Sh : List mT} {MI : mI} {ML : mJ} (hQ : ∀ v S', Q v S' → Sh.length ≤ S'.2.1.length ∧ w ≤ S'.1) (h : VL_out_0 (mrnT mTb D) Q a0 a1 a2 a3 v4 v5 v6 w Sh MI ML) : ∃ v S', Q v S' ∧ mrnT mTb (D + 1) 281 [.ref a0, .ref a1, .ref a2, .ref a3, .int v4, .int v5, .int v6] (w, Sh, MI, ML) v S' := by
  refine y_en (Tb := mTb) (n := 3) rfl hQ ?_
  refine x_kl ?_ h
  exact ⟨Or.inr rfl, ⟨Or.inr rfl, ⟨Or.inr rfl, ⟨Or.inr rfl, ⟨Or.inr rfl, ⟨Or.inr rfl, ⟨Or.inr rfl, ⟨Or.inl rfl, ⟨Or.inl rfl, ⟨Or.inl rfl, True.intro⟩⟩⟩⟩⟩⟩⟩⟩⟩⟩
