/-! the law's bodies by blocks -/
def VL_day_0 (C : mC) (Q : Option Value → mS → Prop) (a0 : Nat) (a1 : Nat) (a2 : Nat) (a3 : Nat) (a4 : Nat) (w : Nat) (Sh : List mT) (MI : mI) (ML : mJ) : Prop := mEx C TL_day Q (0, [some (.ref a0), some (.ref a1), some (.ref a2), some (.ref a3), some (.ref a4), none, none, none, none, none, none, none], [], (w, Sh, MI, ML))
def VL_day_12 (C : mC) (Q : Option Value → mS → Prop) (a0 : Nat) (a1 : Nat) (a2 : Nat) (a3 : Nat) (a4 : Nat) (v5 : Int32) (v6 : Int32) (v7 : Int32) (v8 : Int32) (w : Nat) (Sh : List mT) (MI : mI) (ML : mJ) : Prop := mEx C TL_day Q (12, [some (.ref a0), some (.ref a1), some (.ref a2), some (.ref a3), some (.ref a4), some (.int v5), some (.int v6), some (.int v7), some (.int v8), none, none, none], [], (w, Sh, MI, ML))
def VL_day_35 (C : mC) (Q : Option Value → mS → Prop) (a0 : Nat) (a1 : Nat) (a2 : Nat) (a3 : Nat) (a4 : Nat) (v5 : Int32) (v6 : Int32) (v7 : Int32) (v8 : Int32) (w : Nat) (Sh : List mT) (MI : mI) (ML : mJ) : Prop := mEx C TL_day Q (35, [some (.ref a0), some (.ref a1), some (.ref a2), some (.ref a3), some (.ref a4), some (.int v5), some (.int v6), some (.int v7), some (.int v8), none, none, none], [], (w, Sh, MI, ML))
def VL_day_49 (C : mC) (Q : Option Value → mS → Prop) (a0 : Nat) (a1 : Nat) (a2 : Nat) (a3 : Nat) (a4 : Nat) (v5 : Int32) (v6 : Int32) (v7 : Int32) (v8 : Int32) (v9 : Int32) (v10 : Int32) (w : Nat) (Sh : List mT) (MI : mI) (ML : mJ) : Prop := mEx C TL_day Q (49, [some (.ref a0), some (.ref a1), some (.ref a2), some (.ref a3), some (.ref a4), some (.int v5), some (.int v6), some (.int v7), some (.int v8), some (.int v9), some (.int v10), none], [], (w, Sh, MI, ML))
def VL_day_125 (C : mC) (Q : Option Value → mS → Prop) (a0 : Nat) (a1 : Nat) (a2 : Nat) (a3 : Nat) (a4 : Nat) (v5 : Int32) (v6 : Int32) (v7 : Int32) (v8 : Int32) (v9 : Int32) (v10 : Int32) (v11 : Int32) (w : Nat) (Sh : List mT) (MI : mI) (ML : mJ) : Prop := mEx C TL_day Q (125, [some (.ref a0), some (.ref a1), some (.ref a2), some (.ref a3), some (.ref a4), some (.int v5), some (.int v6), some (.int v7), some (.int v8), some (.int v9), some (.int v10), some (.int v11)], [], (w, Sh, MI, ML))
def VL_day_200 (C : mC) (Q : Option Value → mS → Prop) (a0 : Nat) (a1 : Nat) (a2 : Nat) (a3 : Nat) (a4 : Nat) (v5 : Int32) (v6 : Int32) (v7 : Int32) (v8 : Int32) (v9 : Int32) (v10 : Int32) (w : Nat) (Sh : List mT) (MI : mI) (ML : mJ) : Prop := mEx C TL_day Q (200, [some (.ref a0), some (.ref a1), some (.ref a2), some (.ref a3), some (.ref a4), some (.int v5), some (.int v6), some (.int v7), some (.int v8), some (.int v9), some (.int v10), none], [], (w, Sh, MI, ML))
def VL_day_252 (C : mC) (Q : Option Value → mS → Prop) (a0 : Nat) (a1 : Nat) (a2 : Nat) (a3 : Nat) (a4 : Nat) (v5 : Int32) (v6 : Int32) (v7 : Int32) (v8 : Int32) (v9 : Int32) (v10 : Int32) (b0 : Nat) (s1 : Int32) (s2 : Int32) (w : Nat) (Sh : List mT) (MI : mI) (ML : mJ) : Prop := mEx C TL_day Q (252, [some (.ref a0), some (.ref a1), some (.ref a2), some (.ref a3), some (.ref a4), some (.int v5), some (.int v6), some (.int v7), some (.int v8), some (.int v9), some (.int v10), none], [.int s2, .int s1, .ref b0], (w, Sh, MI, ML))
def VL_day_297 (C : mC) (Q : Option Value → mS → Prop) (a0 : Nat) (a1 : Nat) (a2 : Nat) (a4 : Nat) (v5 : Int32) (v8 : Int32) (w : Nat) (Sh : List mT) (MI : mI) (ML : mJ) : Prop := mEx C TL_day Q (297, [some (.ref a0), some (.ref a1), some (.ref a2), none, some (.ref a4), some (.int v5), none, none, some (.int v8), none, none, none], [], (w, Sh, MI, ML))
def VL_day_372 (C : mC) (Q : Option Value → mS → Prop) (a0 : Nat) (a2 : Nat) (v5 : Int32) (w : Nat) (Sh : List mT) (MI : mI) (ML : mJ) : Prop := mEx C TL_day Q (372, [some (.ref a0), none, some (.ref a2), none, none, some (.int v5), none, none, none, none, none, none], [], (w, Sh, MI, ML))
def VL_day_391 (C : mC) (Q : Option Value → mS → Prop) (a2 : Nat) (v5 : Int32) (v8 : Int32) (w : Nat) (Sh : List mT) (MI : mI) (ML : mJ) : Prop := mEx C TL_day Q (391, [none, none, some (.ref a2), none, none, some (.int v5), none, none, some (.int v8), none, none, none], [], (w, Sh, MI, ML))
theorem BL_day_0 {C : mC} {Q : Option Value → mS → Prop} {a0 : Nat} {a1 : Nat} {a2 : Nat} {a3 : Nat} {a4 : Nat} {w : Nat} {Sh : List mT} {MI : mI} {ML : mJ}
    (h : VL_day_12 C Q a0 a1 a2 a3 a4 (nI 0) (nI 0) (nI 0) (nI 0) w Sh MI ML) :
    VL_day_0 C Q a0 a1 a2 a3 a4 w Sh MI ML := by
  show mEx C TL_day Q (0, [some (.ref a0), some (.ref a1), some (.ref a2), some (.ref a3), some (.ref a4), none, none, none, none, none, none, none], [], (w, Sh, MI, ML))
  refine x_st rfl ?_
  refine x_st rfl ?_
  refine x_st rfl ?_
  refine x_st rfl ?_
  refine x_st rfl ?_
  refine x_st rfl ?_
  refine x_st rfl ?_
  refine x_st rfl ?_
  refine x_kl ?_ h
  exact ⟨Or.inr rfl, ⟨Or.inr rfl, ⟨Or.inr rfl, ⟨Or.inr rfl, ⟨Or.inr rfl, ⟨Or.inr rfl, ⟨Or.inr rfl, ⟨Or.inr rfl, ⟨Or.inr rfl, ⟨Or.inl rfl, ⟨Or.inl rfl, ⟨Or.inl rfl, True.intro⟩⟩⟩⟩⟩⟩⟩⟩⟩⟩⟩⟩
theorem BL_day_12 {C : mC} {Q : Option Value → mS → Prop} {a0 : Nat} {a1 : Nat} {a2 : Nat} {a3 : Nat} {a4 : Nat} {v5 : Int32} {v6 : Int32} {v7 : Int32} {v8 : Int32} {w : Nat} {Sh : List mT} {MI : mI} {ML : mJ}
    (h : ((nI 8) ≤ v8 → VL_day_35 C Q a0 a1 a2 a3 a4 v5 v6 v7 (nI 0) w Sh MI ML) ∧ (¬ (nI 8) ≤ v8 → ∃ i1 : Nat, aok Sh a4 i1 v8 ∧ (VL_day_12 C Q a0 a1 a2 a3 a4 v5 v6 v7 (v8 + (nI 1)) w Sh (mup MI a4 (mput (MI a4) i1 (nI 8))) ML))) :
    VL_day_12 C Q a0 a1 a2 a3 a4 v5 v6 v7 v8 w Sh MI ML := by
  show mEx C TL_day Q (12, [some (.ref a0), some (.ref a1), some (.ref a2), some (.ref a3), some (.ref a4), some (.int v5), some (.int v6), some (.int v7), some (.int v8), none, none, none], [], (w, Sh, MI, ML))
  refine x_st rfl ?_
  refine x_st rfl ?_
  refine x_br rfl (fun c => ?_) (fun c => ?_)
  · replace h := h.1 c
    refine x_st rfl ?_
    refine x_st rfl ?_
    refine x_kl ?_ h
    exact ⟨Or.inr rfl, ⟨Or.inr rfl, ⟨Or.inr rfl, ⟨Or.inr rfl, ⟨Or.inr rfl, ⟨Or.inr rfl, ⟨Or.inr rfl, ⟨Or.inr rfl, ⟨Or.inr rfl, ⟨Or.inl rfl, ⟨Or.inl rfl, ⟨Or.inl rfl, True.intro⟩⟩⟩⟩⟩⟩⟩⟩⟩⟩⟩⟩
  · replace h := h.2 c
    refine x_st rfl ?_
    refine x_st rfl ?_
    refine x_st rfl ?_
    obtain ⟨i1, ha, h⟩ := h
    refine y_iast (nx := 26) (i := i1) rfl ha ?_
    refine x_st rfl ?_
    refine x_st rfl ?_
    refine x_kl ?_ h
    exact ⟨Or.inr rfl, ⟨Or.inr rfl, ⟨Or.inr rfl, ⟨Or.inr rfl, ⟨Or.inr rfl, ⟨Or.inr rfl, ⟨Or.inr rfl, ⟨Or.inr rfl, ⟨Or.inr rfl, ⟨Or.inl rfl, ⟨Or.inl rfl, ⟨Or.inl rfl, True.intro⟩⟩⟩⟩⟩⟩⟩⟩⟩⟩⟩⟩
theorem BL_day_35 {C : mC} {Q : Option Value → mS → Prop} {a0 : Nat} {a1 : Nat} {a2 : Nat} {a3 : Nat} {a4 : Nat} {v5 : Int32} {v6 : Int32} {v7 : Int32} {v8 : Int32} {w : Nat} {Sh : List mT} {MI : mI} {ML : mJ}
    (h : aok Sh a0 0 (nI 0) ∧ (((MI a0 0) ≤ v8 → VL_day_297 C Q a0 a1 a2 a4 v5 (nI 0) w Sh MI ML) ∧ (¬ (MI a0 0) ≤ v8 → VL_day_49 C Q a0 a1 a2 a3 a4 v5 v6 v7 v8 (-1 : Int32) (nI 0) w Sh MI ML))) :
    VL_day_35 C Q a0 a1 a2 a3 a4 v5 v6 v7 v8 w Sh MI ML := by
  show mEx C TL_day Q (35, [some (.ref a0), some (.ref a1), some (.ref a2), some (.ref a3), some (.ref a4), some (.int v5), some (.int v6), some (.int v7), some (.int v8), none, none, none], [], (w, Sh, MI, ML))
  refine x_st rfl ?_
  refine x_st rfl ?_
  refine x_st rfl ?_
  refine y_ia (nx := 40) (i := 0) rfl h.1 ?_
  replace h := h.2
  refine x_br rfl (fun c => ?_) (fun c => ?_)
  · replace h := h.1 c
    refine x_st rfl ?_
    refine x_st rfl ?_
    refine x_kl ?_ h
    exact ⟨Or.inr rfl, ⟨Or.inr rfl, ⟨Or.inr rfl, ⟨Or.inl rfl, ⟨Or.inr rfl, ⟨Or.inr rfl, ⟨Or.inl rfl, ⟨Or.inl rfl, ⟨Or.inr rfl, ⟨Or.inl rfl, ⟨Or.inl rfl, ⟨Or.inl rfl, True.intro⟩⟩⟩⟩⟩⟩⟩⟩⟩⟩⟩⟩
  · replace h := h.2 c
    refine x_st rfl ?_
    refine x_st rfl ?_
    refine x_st rfl ?_
    refine x_st rfl ?_
    refine x_kl ?_ h
    exact ⟨Or.inr rfl, ⟨Or.inr rfl, ⟨Or.inr rfl, ⟨Or.inr rfl, ⟨Or.inr rfl, ⟨Or.inr rfl, ⟨Or.inr rfl, ⟨Or.inr rfl, ⟨Or.inr rfl, ⟨Or.inr rfl, ⟨Or.inr rfl, ⟨Or.inl rfl, True.intro⟩⟩⟩⟩⟩⟩⟩⟩⟩⟩⟩⟩
theorem BL_day_49 {C : mC} {Q : Option Value → mS → Prop} {a0 : Nat} {a1 : Nat} {a2 : Nat} {a3 : Nat} {a4 : Nat} {v5 : Int32} {v6 : Int32} {v7 : Int32} {v8 : Int32} {v9 : Int32} {v10 : Int32} {w : Nat} {Sh : List mT} {MI : mI} {ML : mJ}
    (h : aok Sh a0 0 (nI 0) ∧ (((MI a0 0) ≤ v10 → ∃ (x3 : Int32) (M1 : mI) (N2 : mJ), C 280 [.ref a0, .ref a2, .int v9] (w, Sh, MI, ML) (some (.int x3)) (w, Sh, M1, N2) ∧ ((nI 0 ≤ x3 → VL_day_125 C Q a0 a1 a2 a3 a4 v5 v6 (v7 ||| ((nI 1) <<< (v9 &&& 31))) v8 v9 (-1 : Int32) (nI 0) w Sh M1 N2) ∧ (¬ nI 0 ≤ x3 → VL_day_35 C Q a0 a1 a2 a3 a4 v5 v6 (v7 ||| ((nI 1) <<< (v9 &&& 31))) (v8 + (nI 1)) w Sh M1 N2))) ∧ (¬ (MI a0 0) ≤ v10 → (((v7 >>> (v10 &&& 31)) &&& (nI 1)) = nI 0 → (v9 < nI 0 → VL_day_49 C Q a0 a1 a2 a3 a4 v5 v6 v7 v8 v10 (v10 + (nI 1)) w Sh MI ML) ∧ (¬ v9 < nI 0 → ∃ i4 : Nat, aok Sh a1 i4 ((nI 2) * v10) ∧ (∃ i5 : Nat, aok Sh a1 i5 ((nI 2) * v9) ∧ (((MI a1 i4) ≤ (MI a1 i5) → VL_day_49 C Q a0 a1 a2 a3 a4 v5 v6 v7 v8 v9 (v10 + (nI 1)) w Sh MI ML) ∧ (¬ (MI a1 i4) ≤ (MI a1 i5) → VL_day_49 C Q a0 a1 a2 a3 a4 v5 v6 v7 v8 v10 (v10 + (nI 1)) w Sh MI ML))))) ∧ (¬ ((v7 >>> (v10 &&& 31)) &&& (nI 1)) = nI 0 → VL_day_49 C Q a0 a1 a2 a3 a4 v5 v6 v7 v8 v9 (v10 + (nI 1)) w Sh MI ML)))) :
    VL_day_49 C Q a0 a1 a2 a3 a4 v5 v6 v7 v8 v9 v10 w Sh MI ML := by
  show mEx C TL_day Q (49, [some (.ref a0), some (.ref a1), some (.ref a2), some (.ref a3), some (.ref a4), some (.int v5), some (.int v6), some (.int v7), some (.int v8), some (.int v9), some (.int v10), none], [], (w, Sh, MI, ML))
  refine x_st rfl ?_
  refine x_st rfl ?_
  refine x_st rfl ?_
  refine y_ia (nx := 54) (i := 0) rfl h.1 ?_
  replace h := h.2
  refine x_br rfl (fun c => ?_) (fun c => ?_)
  · replace h := h.1 c
    refine x_st rfl ?_
    refine x_st rfl ?_
    refine x_st rfl ?_
    refine x_st rfl ?_
    refine x_st rfl ?_
    refine x_st rfl ?_
    refine x_st rfl ?_
    refine x_st rfl ?_
    refine x_st rfl ?_
    obtain ⟨x3, M1, N2, hc, h⟩ := h
    refine x_ci rfl hc ?_
    refine x_br rfl (fun c => ?_) (fun c => ?_)
    · replace h := h.1 c
      refine x_st rfl ?_
      refine x_st rfl ?_
      refine x_st rfl ?_
      refine x_st rfl ?_
      refine x_kl ?_ h
      exact ⟨Or.inr rfl, ⟨Or.inr rfl, ⟨Or.inr rfl, ⟨Or.inr rfl, ⟨Or.inr rfl, ⟨Or.inr rfl, ⟨Or.inr rfl, ⟨Or.inr rfl, ⟨Or.inr rfl, ⟨Or.inr rfl, ⟨Or.inr rfl, ⟨Or.inr rfl, True.intro⟩⟩⟩⟩⟩⟩⟩⟩⟩⟩⟩⟩
    · replace h := h.2 c
      refine x_st rfl ?_
      refine x_st rfl ?_
      refine x_st rfl ?_
      refine x_kl ?_ h
      exact ⟨Or.inr rfl, ⟨Or.inr rfl, ⟨Or.inr rfl, ⟨Or.inr rfl, ⟨Or.inr rfl, ⟨Or.inr rfl, ⟨Or.inr rfl, ⟨Or.inr rfl, ⟨Or.inr rfl, ⟨Or.inl rfl, ⟨Or.inl rfl, ⟨Or.inl rfl, True.intro⟩⟩⟩⟩⟩⟩⟩⟩⟩⟩⟩⟩
  · replace h := h.2 c
    refine x_st rfl ?_
    refine x_st rfl ?_
    refine x_st rfl ?_
    refine x_st rfl ?_
    refine x_st rfl ?_
    refine x_br rfl (fun c => ?_) (fun c => ?_)
    · replace h := h.1 c
      refine x_st rfl ?_
      refine x_br rfl (fun c => ?_) (fun c => ?_)
      · replace h := h.1 c
        refine x_st rfl ?_
        refine x_st rfl ?_
        refine x_st rfl ?_
        refine x_st rfl ?_
        refine x_kl ?_ h
        exact ⟨Or.inr rfl, ⟨Or.inr rfl, ⟨Or.inr rfl, ⟨Or.inr rfl, ⟨Or.inr rfl, ⟨Or.inr rfl, ⟨Or.inr rfl, ⟨Or.inr rfl, ⟨Or.inr rfl, ⟨Or.inr rfl, ⟨Or.inr rfl, ⟨Or.inl rfl, True.intro⟩⟩⟩⟩⟩⟩⟩⟩⟩⟩⟩⟩
      · replace h := h.2 c
        refine x_st rfl ?_
        refine x_st rfl ?_
        refine x_st rfl ?_
        refine x_st rfl ?_
        obtain ⟨i4, ha, h⟩ := h
        refine y_ia (nx := 78) (i := i4) rfl ha ?_
        refine x_st rfl ?_
        refine x_st rfl ?_
        refine x_st rfl ?_
        refine x_st rfl ?_
        obtain ⟨i5, ha, h⟩ := h
        refine y_ia (nx := 84) (i := i5) rfl ha ?_
        refine x_br rfl (fun c => ?_) (fun c => ?_)
        · replace h := h.1 c
          refine x_st rfl ?_
          refine x_st rfl ?_
          refine x_kl ?_ h
          exact ⟨Or.inr rfl, ⟨Or.inr rfl, ⟨Or.inr rfl, ⟨Or.inr rfl, ⟨Or.inr rfl, ⟨Or.inr rfl, ⟨Or.inr rfl, ⟨Or.inr rfl, ⟨Or.inr rfl, ⟨Or.inr rfl, ⟨Or.inr rfl, ⟨Or.inl rfl, True.intro⟩⟩⟩⟩⟩⟩⟩⟩⟩⟩⟩⟩
        · replace h := h.2 c
          refine x_st rfl ?_
          refine x_st rfl ?_
          refine x_st rfl ?_
          refine x_st rfl ?_
          refine x_kl ?_ h
          exact ⟨Or.inr rfl, ⟨Or.inr rfl, ⟨Or.inr rfl, ⟨Or.inr rfl, ⟨Or.inr rfl, ⟨Or.inr rfl, ⟨Or.inr rfl, ⟨Or.inr rfl, ⟨Or.inr rfl, ⟨Or.inr rfl, ⟨Or.inr rfl, ⟨Or.inl rfl, True.intro⟩⟩⟩⟩⟩⟩⟩⟩⟩⟩⟩⟩
    · replace h := h.2 c
      refine x_st rfl ?_
      refine x_st rfl ?_
      refine x_kl ?_ h
      exact ⟨Or.inr rfl, ⟨Or.inr rfl, ⟨Or.inr rfl, ⟨Or.inr rfl, ⟨Or.inr rfl, ⟨Or.inr rfl, ⟨Or.inr rfl, ⟨Or.inr rfl, ⟨Or.inr rfl, ⟨Or.inr rfl, ⟨Or.inr rfl, ⟨Or.inl rfl, True.intro⟩⟩⟩⟩⟩⟩⟩⟩⟩⟩⟩⟩
theorem BL_day_125 {C : mC} {Q : Option Value → mS → Prop} {a0 : Nat} {a1 : Nat} {a2 : Nat} {a3 : Nat} {a4 : Nat} {v5 : Int32} {v6 : Int32} {v7 : Int32} {v8 : Int32} {v9 : Int32} {v10 : Int32} {v11 : Int32} {w : Nat} {Sh : List mT} {MI : mI} {ML : mJ}
    (h : aok Sh a0 0 (nI 0) ∧ (((MI a0 0) ≤ v11 → VL_day_200 C Q a0 a1 a2 a3 a4 v5 v6 v7 v8 v9 v10 w Sh MI ML) ∧ (¬ (MI a0 0) ≤ v11 → ∃ i1 : Nat, aok Sh a2 i1 (((nI 8) * v11) + v9) ∧ ((nI 0 ≤ (MI a2 i1) → VL_day_125 C Q a0 a1 a2 a3 a4 v5 v6 v7 v8 v9 v10 (v11 + (nI 1)) w Sh MI ML) ∧ (¬ nI 0 ≤ (MI a2 i1) → (((v6 >>> (v11 &&& 31)) &&& (nI 1)) = nI 0 → (v10 < nI 0 → VL_day_125 C Q a0 a1 a2 a3 a4 v5 v6 v7 v8 v9 v11 (v11 + (nI 1)) w Sh MI ML) ∧ (¬ v10 < nI 0 → ∃ (x4 : Int32) (M2 : mI) (N3 : mJ), C 281 [.ref a0, .ref a1, .ref a2, .ref a3, .int v11, .int v9, .int v5] (w, Sh, MI, ML) (some (.int x4)) (w, Sh, M2, N3) ∧ (∃ (x7 : Int32) (M5 : mI) (N6 : mJ), C 281 [.ref a0, .ref a1, .ref a2, .ref a3, .int v10, .int v9, .int v5] (w, Sh, M2, N3) (some (.int x7)) (w, Sh, M5, N6) ∧ ((x4 ≤ x7 → VL_day_125 C Q a0 a1 a2 a3 a4 v5 v6 v7 v8 v9 v10 (v11 + (nI 1)) w Sh M5 N6) ∧ (¬ x4 ≤ x7 → VL_day_125 C Q a0 a1 a2 a3 a4 v5 v6 v7 v8 v9 v11 (v11 + (nI 1)) w Sh M5 N6))))) ∧ (¬ ((v6 >>> (v11 &&& 31)) &&& (nI 1)) = nI 0 → VL_day_125 C Q a0 a1 a2 a3 a4 v5 v6 v7 v8 v9 v10 (v11 + (nI 1)) w Sh MI ML)))))) :
    VL_day_125 C Q a0 a1 a2 a3 a4 v5 v6 v7 v8 v9 v10 v11 w Sh MI ML := by
  show mEx C TL_day Q (125, [some (.ref a0), some (.ref a1), some (.ref a2), some (.ref a3), some (.ref a4), some (.int v5), some (.int v6), some (.int v7), some (.int v8), some (.int v9), some (.int v10), some (.int v11)], [], (w, Sh, MI, ML))
  refine x_st rfl ?_
  refine x_st rfl ?_
  refine x_st rfl ?_
  refine y_ia (nx := 130) (i := 0) rfl h.1 ?_
  replace h := h.2
  refine x_br rfl (fun c => ?_) (fun c => ?_)
  · replace h := h.1 c
    refine x_kl ?_ h
    exact ⟨Or.inr rfl, ⟨Or.inr rfl, ⟨Or.inr rfl, ⟨Or.inr rfl, ⟨Or.inr rfl, ⟨Or.inr rfl, ⟨Or.inr rfl, ⟨Or.inr rfl, ⟨Or.inr rfl, ⟨Or.inr rfl, ⟨Or.inr rfl, ⟨Or.inl rfl, True.intro⟩⟩⟩⟩⟩⟩⟩⟩⟩⟩⟩⟩
  · replace h := h.2 c
    refine x_st rfl ?_
    refine x_st rfl ?_
    refine x_st rfl ?_
    refine x_st rfl ?_
    refine x_st rfl ?_
    refine x_st rfl ?_
    obtain ⟨i1, ha, h⟩ := h
    refine y_ia (nx := 143) (i := i1) rfl ha ?_
    refine x_br rfl (fun c => ?_) (fun c => ?_)
    · replace h := h.1 c
      refine x_st rfl ?_
      refine x_st rfl ?_
      refine x_kl ?_ h
      exact ⟨Or.inr rfl, ⟨Or.inr rfl, ⟨Or.inr rfl, ⟨Or.inr rfl, ⟨Or.inr rfl, ⟨Or.inr rfl, ⟨Or.inr rfl, ⟨Or.inr rfl, ⟨Or.inr rfl, ⟨Or.inr rfl, ⟨Or.inr rfl, ⟨Or.inr rfl, True.intro⟩⟩⟩⟩⟩⟩⟩⟩⟩⟩⟩⟩
    · replace h := h.2 c
      refine x_st rfl ?_
      refine x_st rfl ?_
      refine x_st rfl ?_
      refine x_st rfl ?_
      refine x_st rfl ?_
      refine x_br rfl (fun c => ?_) (fun c => ?_)
      · replace h := h.1 c
        refine x_st rfl ?_
        refine x_br rfl (fun c => ?_) (fun c => ?_)
        · replace h := h.1 c
          refine x_st rfl ?_
          refine x_st rfl ?_
          refine x_st rfl ?_
          refine x_st rfl ?_
          refine x_kl ?_ h
          exact ⟨Or.inr rfl, ⟨Or.inr rfl, ⟨Or.inr rfl, ⟨Or.inr rfl, ⟨Or.inr rfl, ⟨Or.inr rfl, ⟨Or.inr rfl, ⟨Or.inr rfl, ⟨Or.inr rfl, ⟨Or.inr rfl, ⟨Or.inr rfl, ⟨Or.inr rfl, True.intro⟩⟩⟩⟩⟩⟩⟩⟩⟩⟩⟩⟩
        · replace h := h.2 c
          refine x_st rfl ?_
          refine x_st rfl ?_
          refine x_st rfl ?_
          refine x_st rfl ?_
          refine x_st rfl ?_
          refine x_st rfl ?_
          refine x_st rfl ?_
          obtain ⟨x4, M2, N3, hc, h⟩ := h
          refine x_ci rfl hc ?_
          refine x_st rfl ?_
          refine x_st rfl ?_
          refine x_st rfl ?_
          refine x_st rfl ?_
          refine x_st rfl ?_
          refine x_st rfl ?_
          refine x_st rfl ?_
          obtain ⟨x7, M5, N6, hc, h⟩ := h
          refine x_ci rfl hc ?_
          refine x_br rfl (fun c => ?_) (fun c => ?_)
          · replace h := h.1 c
            refine x_st rfl ?_
            refine x_st rfl ?_
            refine x_kl ?_ h
            exact ⟨Or.inr rfl, ⟨Or.inr rfl, ⟨Or.inr rfl, ⟨Or.inr rfl, ⟨Or.inr rfl, ⟨Or.inr rfl, ⟨Or.inr rfl, ⟨Or.inr rfl, ⟨Or.inr rfl, ⟨Or.inr rfl, ⟨Or.inr rfl, ⟨Or.inr rfl, True.intro⟩⟩⟩⟩⟩⟩⟩⟩⟩⟩⟩⟩
          · replace h := h.2 c
            refine x_st rfl ?_
            refine x_st rfl ?_
            refine x_st rfl ?_
            refine x_st rfl ?_
            refine x_kl ?_ h
            exact ⟨Or.inr rfl, ⟨Or.inr rfl, ⟨Or.inr rfl, ⟨Or.inr rfl, ⟨Or.inr rfl, ⟨Or.inr rfl, ⟨Or.inr rfl, ⟨Or.inr rfl, ⟨Or.inr rfl, ⟨Or.inr rfl, ⟨Or.inr rfl, ⟨Or.inr rfl, True.intro⟩⟩⟩⟩⟩⟩⟩⟩⟩⟩⟩⟩
      · replace h := h.2 c
        refine x_st rfl ?_
        refine x_st rfl ?_
        refine x_kl ?_ h
        exact ⟨Or.inr rfl, ⟨Or.inr rfl, ⟨Or.inr rfl, ⟨Or.inr rfl, ⟨Or.inr rfl, ⟨Or.inr rfl, ⟨Or.inr rfl, ⟨Or.inr rfl, ⟨Or.inr rfl, ⟨Or.inr rfl, ⟨Or.inr rfl, ⟨Or.inr rfl, True.intro⟩⟩⟩⟩⟩⟩⟩⟩⟩⟩⟩⟩
theorem BL_day_200 {C : mC} {Q : Option Value → mS → Prop} {a0 : Nat} {a1 : Nat} {a2 : Nat} {a3 : Nat} {a4 : Nat} {v5 : Int32} {v6 : Int32} {v7 : Int32} {v8 : Int32} {v9 : Int32} {v10 : Int32} {w : Nat} {Sh : List mT} {MI : mI} {ML : mJ}
    (h : (nI 0 ≤ v10 → ∃ (x3 : Int32) (M1 : mI) (N2 : mJ), C 281 [.ref a0, .ref a1, .ref a2, .ref a3, .int v10, .int v9, .int v5] (w, Sh, MI, ML) (some (.int x3)) (w, Sh, M1, N2) ∧ (∃ i4 : Nat, aok Sh a1 i4 ((nI 2) * v9) ∧ (((M1 a1 i4) ≤ x3 → VL_day_252 C Q a0 a1 a2 a3 a4 v5 v6 v7 v8 v9 v10 a1 ((nI 2) * v9) (nI 0) w Sh M1 N2) ∧ (¬ (M1 a1 i4) ≤ x3 → ∃ i5 : Nat, aok Sh a1 i5 ((nI 2) * v9) ∧ (VL_day_252 C Q a0 a1 a2 a3 a4 v5 v6 v7 v8 v9 v10 a1 ((nI 2) * v9) ((M1 a1 i5) - x3) w Sh M1 N2))))) ∧ (¬ nI 0 ≤ v10 → VL_day_35 C Q a0 a1 a2 a3 a4 v5 v6 v7 (v8 + (nI 1)) w Sh MI ML)) :
    VL_day_200 C Q a0 a1 a2 a3 a4 v5 v6 v7 v8 v9 v10 w Sh MI ML := by
  show mEx C TL_day Q (200, [some (.ref a0), some (.ref a1), some (.ref a2), some (.ref a3), some (.ref a4), some (.int v5), some (.int v6), some (.int v7), some (.int v8), some (.int v9), some (.int v10), none], [], (w, Sh, MI, ML))
  refine x_st rfl ?_
  refine x_br rfl (fun c => ?_) (fun c => ?_)
  · replace h := h.1 c
    refine x_st rfl ?_
    refine x_st rfl ?_
    refine x_st rfl ?_
    refine x_st rfl ?_
    refine x_st rfl ?_
    refine x_st rfl ?_
    refine x_st rfl ?_
    obtain ⟨x3, M1, N2, hc, h⟩ := h
    refine x_ci rfl hc ?_
    refine x_st rfl ?_
    refine x_st rfl ?_
    refine x_st rfl ?_
    refine x_st rfl ?_
    refine x_st rfl ?_
    refine x_st rfl ?_
    refine x_st rfl ?_
    refine x_st rfl ?_
    refine x_st rfl ?_
    obtain ⟨i4, ha, h⟩ := h
    refine y_ia (nx := 234) (i := i4) rfl ha ?_
    refine x_st rfl ?_
    refine x_br rfl (fun c => ?_) (fun c => ?_)
    · replace h := h.1 c
      refine x_st rfl ?_
      refine x_kl ?_ h
      exact ⟨Or.inr rfl, ⟨Or.inr rfl, ⟨Or.inr rfl, ⟨Or.inr rfl, ⟨Or.inr rfl, ⟨Or.inr rfl, ⟨Or.inr rfl, ⟨Or.inr rfl, ⟨Or.inr rfl, ⟨Or.inr rfl, ⟨Or.inr rfl, ⟨Or.inl rfl, True.intro⟩⟩⟩⟩⟩⟩⟩⟩⟩⟩⟩⟩
    · replace h := h.2 c
      refine x_st rfl ?_
      refine x_st rfl ?_
      refine x_st rfl ?_
      refine x_st rfl ?_
      obtain ⟨i5, ha, h⟩ := h
      refine y_ia (nx := 245) (i := i5) rfl ha ?_
      refine x_st rfl ?_
      refine x_st rfl ?_
      refine x_st rfl ?_
      refine x_kl ?_ h
      exact ⟨Or.inr rfl, ⟨Or.inr rfl, ⟨Or.inr rfl, ⟨Or.inr rfl, ⟨Or.inr rfl, ⟨Or.inr rfl, ⟨Or.inr rfl, ⟨Or.inr rfl, ⟨Or.inr rfl, ⟨Or.inr rfl, ⟨Or.inr rfl, ⟨Or.inl rfl, True.intro⟩⟩⟩⟩⟩⟩⟩⟩⟩⟩⟩⟩
  · replace h := h.2 c
    refine x_st rfl ?_
    refine x_st rfl ?_
    refine x_st rfl ?_
    refine x_kl ?_ h
    exact ⟨Or.inr rfl, ⟨Or.inr rfl, ⟨Or.inr rfl, ⟨Or.inr rfl, ⟨Or.inr rfl, ⟨Or.inr rfl, ⟨Or.inr rfl, ⟨Or.inr rfl, ⟨Or.inr rfl, ⟨Or.inl rfl, ⟨Or.inl rfl, ⟨Or.inl rfl, True.intro⟩⟩⟩⟩⟩⟩⟩⟩⟩⟩⟩⟩
theorem BL_day_252 {C : mC} {Q : Option Value → mS → Prop} {a0 : Nat} {a1 : Nat} {a2 : Nat} {a3 : Nat} {a4 : Nat} {v5 : Int32} {v6 : Int32} {v7 : Int32} {v8 : Int32} {v9 : Int32} {v10 : Int32} {b0 : Nat} {s1 : Int32} {s2 : Int32} {w : Nat} {Sh : List mT} {MI : mI} {ML : mJ}
    (h : ∃ i1 : Nat, aok Sh b0 i1 s1 ∧ (∃ i2 : Nat, aok Sh a2 i2 (((nI 8) * v10) + v9) ∧ (aok Sh a0 1 (nI 1) ∧ (∃ i3 : Nat, aok Sh a2 i3 (((nI 8) * v10) + v9) ∧ (∃ i4 : Nat, aok Sh a4 i4 v9 ∧ (VL_day_35 C Q a0 a1 a2 a3 a4 (v5 + (nI 1)) (v6 ||| ((nI 1) <<< (v10 &&& 31))) v7 (v8 + (nI 1)) w Sh (mup (mup (mup MI b0 (mput (MI b0) i1 s2)) a2 (mput ((mup MI b0 (mput (MI b0) i1 s2)) a2) i3 (((mup MI b0 (mput (MI b0) i1 s2)) a2 i2) + ((mup MI b0 (mput (MI b0) i1 s2)) a0 1)))) a4 (mput ((mup (mup MI b0 (mput (MI b0) i1 s2)) a2 (mput ((mup MI b0 (mput (MI b0) i1 s2)) a2) i3 (((mup MI b0 (mput (MI b0) i1 s2)) a2 i2) + ((mup MI b0 (mput (MI b0) i1 s2)) a0 1)))) a4) i4 v10)) ML)))))) :
    VL_day_252 C Q a0 a1 a2 a3 a4 v5 v6 v7 v8 v9 v10 b0 s1 s2 w Sh MI ML := by
  show mEx C TL_day Q (252, [some (.ref a0), some (.ref a1), some (.ref a2), some (.ref a3), some (.ref a4), some (.int v5), some (.int v6), some (.int v7), some (.int v8), some (.int v9), some (.int v10), none], [.int s2, .int s1, .ref b0], (w, Sh, MI, ML))
  obtain ⟨i1, ha, h⟩ := h
  refine y_iast (nx := 253) (i := i1) rfl ha ?_
  refine x_st rfl ?_
  refine x_st rfl ?_
  refine x_st rfl ?_
  refine x_st rfl ?_
  refine x_st rfl ?_
  refine x_st rfl ?_
  refine x_st rfl ?_
  obtain ⟨i2, ha, h⟩ := h
  refine y_ia (nx := 264) (i := i2) rfl ha ?_
  refine x_st rfl ?_
  refine x_st rfl ?_
  refine y_ia (nx := 267) (i := 1) rfl h.1 ?_
  replace h := h.2
  refine x_st rfl ?_
  obtain ⟨i3, ha, h⟩ := h
  refine y_iast (nx := 269) (i := i3) rfl ha ?_
  refine x_st rfl ?_
  refine x_st rfl ?_
  refine x_st rfl ?_
  refine x_st rfl ?_
  refine x_st rfl ?_
  refine x_st rfl ?_
  refine x_st rfl ?_
  refine x_st rfl ?_
  refine x_st rfl ?_
  obtain ⟨i4, ha, h⟩ := h
  refine y_iast (nx := 285) (i := i4) rfl ha ?_
  refine x_st rfl ?_
  refine x_st rfl ?_
  refine x_st rfl ?_
  refine x_kl ?_ h
  exact ⟨Or.inr rfl, ⟨Or.inr rfl, ⟨Or.inr rfl, ⟨Or.inr rfl, ⟨Or.inr rfl, ⟨Or.inr rfl, ⟨Or.inr rfl, ⟨Or.inr rfl, ⟨Or.inr rfl, ⟨Or.inl rfl, ⟨Or.inl rfl, ⟨Or.inl rfl, True.intro⟩⟩⟩⟩⟩⟩⟩⟩⟩⟩⟩⟩
theorem BL_day_297 {C : mC} {Q : Option Value → mS → Prop} {a0 : Nat} {a1 : Nat} {a2 : Nat} {a4 : Nat} {v5 : Int32} {v8 : Int32} {w : Nat} {Sh : List mT} {MI : mI} {ML : mJ}
    (h : aok Sh a0 0 (nI 0) ∧ (((MI a0 0) ≤ v8 → aok Sh a0 4 (nI 4) ∧ (((nI 99) ≤ (MI a0 4) → VL_day_372 C Q a0 a2 v5 w Sh MI ML) ∧ (¬ (nI 99) ≤ (MI a0 4) → aok Sh a0 4 (nI 4) ∧ (aok Sh a0 4 (nI 4) ∧ (VL_day_372 C Q a0 a2 v5 w Sh (mup MI a0 (mput (MI a0) 4 ((MI a0 4) + (nI 1)))) ML))))) ∧ (¬ (MI a0 0) ≤ v8 → ∃ i1 : Nat, aok Sh a4 i1 v8 ∧ (((MI a4 i1) = (nI 8) → ∃ i2 : Nat, aok Sh a1 i2 ((nI 2) * v8) ∧ (aok Sh a0 3 (nI 3) ∧ ((((MI a1 i2) + (MI a0 3)) ≤ (nI 99) → ∃ i3 : Nat, aok Sh a1 i3 ((nI 2) * v8) ∧ (aok Sh a0 3 (nI 3) ∧ (∃ i4 : Nat, aok Sh a1 i4 ((nI 2) * v8) ∧ (VL_day_297 C Q a0 a1 a2 a4 v5 (v8 + (nI 1)) w Sh (mup MI a1 (mput (MI a1) i4 ((MI a1 i3) + (MI a0 3)))) ML)))) ∧ (¬ ((MI a1 i2) + (MI a0 3)) ≤ (nI 99) → ∃ i5 : Nat, aok Sh a1 i5 ((nI 2) * v8) ∧ (VL_day_297 C Q a0 a1 a2 a4 v5 (v8 + (nI 1)) w Sh (mup MI a1 (mput (MI a1) i5 (nI 99))) ML))))) ∧ (¬ (MI a4 i1) = (nI 8) → VL_day_297 C Q a0 a1 a2 a4 v5 (v8 + (nI 1)) w Sh MI ML))))) :
    VL_day_297 C Q a0 a1 a2 a4 v5 v8 w Sh MI ML := by
  show mEx C TL_day Q (297, [some (.ref a0), some (.ref a1), some (.ref a2), none, some (.ref a4), some (.int v5), none, none, some (.int v8), none, none, none], [], (w, Sh, MI, ML))
  refine x_st rfl ?_
  refine x_st rfl ?_
  refine x_st rfl ?_
  refine y_ia (nx := 302) (i := 0) rfl h.1 ?_
  replace h := h.2
  refine x_br rfl (fun c => ?_) (fun c => ?_)
  · replace h := h.1 c
    refine x_st rfl ?_
    refine x_st rfl ?_
    refine y_ia (nx := 360) (i := 4) rfl h.1 ?_
    replace h := h.2
    refine x_st rfl ?_
    refine x_br rfl (fun c => ?_) (fun c => ?_)
    · replace h := h.1 c
      refine x_kl ?_ h
      exact ⟨Or.inr rfl, ⟨Or.inl rfl, ⟨Or.inr rfl, ⟨Or.inl rfl, ⟨Or.inl rfl, ⟨Or.inr rfl, ⟨Or.inl rfl, ⟨Or.inl rfl, ⟨Or.inl rfl, ⟨Or.inl rfl, ⟨Or.inl rfl, ⟨Or.inl rfl, True.intro⟩⟩⟩⟩⟩⟩⟩⟩⟩⟩⟩⟩
    · replace h := h.2 c
      refine x_st rfl ?_
      refine x_st rfl ?_
      refine x_st rfl ?_
      refine y_ia (nx := 369) (i := 4) rfl h.1 ?_
      replace h := h.2
      refine x_st rfl ?_
      refine x_st rfl ?_
      refine y_iast (nx := 372) (i := 4) rfl h.1 ?_
      replace h := h.2
      refine x_kl ?_ h
      exact ⟨Or.inr rfl, ⟨Or.inl rfl, ⟨Or.inr rfl, ⟨Or.inl rfl, ⟨Or.inl rfl, ⟨Or.inr rfl, ⟨Or.inl rfl, ⟨Or.inl rfl, ⟨Or.inl rfl, ⟨Or.inl rfl, ⟨Or.inl rfl, ⟨Or.inl rfl, True.intro⟩⟩⟩⟩⟩⟩⟩⟩⟩⟩⟩⟩
  · replace h := h.2 c
    refine x_st rfl ?_
    refine x_st rfl ?_
    obtain ⟨i1, ha, h⟩ := h
    refine y_ia (nx := 310) (i := i1) rfl ha ?_
    refine x_st rfl ?_
    refine x_br rfl (fun c => ?_) (fun c => ?_)
    · replace h := h.1 c
      refine x_st rfl ?_
      refine x_st rfl ?_
      refine x_st rfl ?_
      refine x_st rfl ?_
      refine x_st rfl ?_
      refine x_st rfl ?_
      refine x_st rfl ?_
      refine x_st rfl ?_
      obtain ⟨i2, ha, h⟩ := h
      refine y_ia (nx := 326) (i := i2) rfl ha ?_
      refine x_st rfl ?_
      refine x_st rfl ?_
      refine y_ia (nx := 329) (i := 3) rfl h.1 ?_
      replace h := h.2
      refine x_st rfl ?_
      refine x_st rfl ?_
      refine x_br rfl (fun c => ?_) (fun c => ?_)
      · replace h := h.1 c
        refine x_st rfl ?_
        refine x_st rfl ?_
        refine x_st rfl ?_
        refine x_st rfl ?_
        obtain ⟨i3, ha, h⟩ := h
        refine y_ia (nx := 346) (i := i3) rfl ha ?_
        refine x_st rfl ?_
        refine x_st rfl ?_
        refine y_ia (nx := 349) (i := 3) rfl h.1 ?_
        replace h := h.2
        refine x_st rfl ?_
        obtain ⟨i4, ha, h⟩ := h
        refine y_iast (nx := 351) (i := i4) rfl ha ?_
        refine x_st rfl ?_
        refine x_st rfl ?_
        refine x_kl ?_ h
        exact ⟨Or.inr rfl, ⟨Or.inr rfl, ⟨Or.inr rfl, ⟨Or.inl rfl, ⟨Or.inr rfl, ⟨Or.inr rfl, ⟨Or.inl rfl, ⟨Or.inl rfl, ⟨Or.inr rfl, ⟨Or.inl rfl, ⟨Or.inl rfl, ⟨Or.inl rfl, True.intro⟩⟩⟩⟩⟩⟩⟩⟩⟩⟩⟩⟩
      · replace h := h.2 c
        refine x_st rfl ?_
        refine x_st rfl ?_
        obtain ⟨i5, ha, h⟩ := h
        refine y_iast (nx := 351) (i := i5) rfl ha ?_
        refine x_st rfl ?_
        refine x_st rfl ?_
        refine x_kl ?_ h
        exact ⟨Or.inr rfl, ⟨Or.inr rfl, ⟨Or.inr rfl, ⟨Or.inl rfl, ⟨Or.inr rfl, ⟨Or.inr rfl, ⟨Or.inl rfl, ⟨Or.inl rfl, ⟨Or.inr rfl, ⟨Or.inl rfl, ⟨Or.inl rfl, ⟨Or.inl rfl, True.intro⟩⟩⟩⟩⟩⟩⟩⟩⟩⟩⟩⟩
    · replace h := h.2 c
      refine x_st rfl ?_
      refine x_st rfl ?_
      refine x_kl ?_ h
      exact ⟨Or.inr rfl, ⟨Or.inr rfl, ⟨Or.inr rfl, ⟨Or.inl rfl, ⟨Or.inr rfl, ⟨Or.inr rfl, ⟨Or.inl rfl, ⟨Or.inl rfl, ⟨Or.inr rfl, ⟨Or.inl rfl, ⟨Or.inl rfl, ⟨Or.inl rfl, True.intro⟩⟩⟩⟩⟩⟩⟩⟩⟩⟩⟩⟩
theorem BL_day_372 {C : mC} {Q : Option Value → mS → Prop} {a0 : Nat} {a2 : Nat} {v5 : Int32} {w : Nat} {Sh : List mT} {MI : mI} {ML : mJ}
    (h : aok Sh a0 2 (nI 2) ∧ (((MI a0 2) = nI 0 → Q (some (.int v5)) (w, Sh, MI, ML)) ∧ (¬ (MI a0 2) = nI 0 → aok Sh a0 4 (nI 4) ∧ (aok Sh a0 2 (nI 2) ∧ (¬ (MI a0 2) = nI 0 ∧ ((((MI a0 4) - (MI a0 4) / (MI a0 2) * (MI a0 2)) = nI 0 → VL_day_391 C Q a2 v5 (nI 0) w Sh MI ML) ∧ (¬ ((MI a0 4) - (MI a0 4) / (MI a0 2) * (MI a0 2)) = nI 0 → Q (some (.int v5)) (w, Sh, MI, ML)))))))) :
    VL_day_372 C Q a0 a2 v5 w Sh MI ML := by
  show mEx C TL_day Q (372, [some (.ref a0), none, some (.ref a2), none, none, some (.int v5), none, none, none, none, none, none], [], (w, Sh, MI, ML))
  refine x_st rfl ?_
  refine x_st rfl ?_
  refine y_ia (nx := 375) (i := 2) rfl h.1 ?_
  replace h := h.2
  refine x_br rfl (fun c => ?_) (fun c => ?_)
  · replace h := h.1 c
    refine x_st rfl ?_
    exact x_ret rfl h
  · replace h := h.2 c
    refine x_st rfl ?_
    refine x_st rfl ?_
    refine y_ia (nx := 381) (i := 4) rfl h.1 ?_
    replace h := h.2
    refine x_st rfl ?_
    refine x_st rfl ?_
    refine y_ia (nx := 384) (i := 2) rfl h.1 ?_
    replace h := h.2
    refine x_ck rfl h.1 ?_
    have h := h.2
    refine x_br rfl (fun c => ?_) (fun c => ?_)
    · replace h := h.1 c
      refine x_st rfl ?_
      refine x_st rfl ?_
      refine x_kl ?_ h
      exact ⟨Or.inl rfl, ⟨Or.inl rfl, ⟨Or.inr rfl, ⟨Or.inl rfl, ⟨Or.inl rfl, ⟨Or.inr rfl, ⟨Or.inl rfl, ⟨Or.inl rfl, ⟨Or.inr rfl, ⟨Or.inl rfl, ⟨Or.inl rfl, ⟨Or.inl rfl, True.intro⟩⟩⟩⟩⟩⟩⟩⟩⟩⟩⟩⟩
    · replace h := h.2 c
      refine x_st rfl ?_
      exact x_ret rfl h
theorem BL_day_391 {C : mC} {Q : Option Value → mS → Prop} {a2 : Nat} {v5 : Int32} {v8 : Int32} {w : Nat} {Sh : List mT} {MI : mI} {ML : mJ}
    (h : ((nI 64) ≤ v8 → Q (some (.int v5)) (w, Sh, MI, ML)) ∧ (¬ (nI 64) ≤ v8 → ∃ i1 : Nat, aok Sh a2 i1 v8 ∧ (∃ i2 : Nat, aok Sh a2 i2 v8 ∧ (((MI a2 i2) ≤ nI 0 → ∃ i3 : Nat, aok Sh a2 i3 v8 ∧ ((nI 0 ≤ (MI a2 i3) → ∃ i4 : Nat, aok Sh a2 i4 v8 ∧ (VL_day_391 C Q a2 v5 (v8 + (nI 1)) w Sh (mup MI a2 (mput (MI a2) i4 ((MI a2 i1) + (nI 0)))) ML)) ∧ (¬ nI 0 ≤ (MI a2 i3) → ∃ i5 : Nat, aok Sh a2 i5 v8 ∧ (VL_day_391 C Q a2 v5 (v8 + (nI 1)) w Sh (mup MI a2 (mput (MI a2) i5 ((MI a2 i1) + (nI 1)))) ML)))) ∧ (¬ (MI a2 i2) ≤ nI 0 → ∃ i6 : Nat, aok Sh a2 i6 v8 ∧ (VL_day_391 C Q a2 v5 (v8 + (nI 1)) w Sh (mup MI a2 (mput (MI a2) i6 ((MI a2 i1) + (-1 : Int32)))) ML)))))) :
    VL_day_391 C Q a2 v5 v8 w Sh MI ML := by
  show mEx C TL_day Q (391, [none, none, some (.ref a2), none, none, some (.int v5), none, none, some (.int v8), none, none, none], [], (w, Sh, MI, ML))
  refine x_st rfl ?_
  refine x_st rfl ?_
  refine x_br rfl (fun c => ?_) (fun c => ?_)
  · replace h := h.1 c
    refine x_st rfl ?_
    exact x_ret rfl h
  · replace h := h.2 c
    refine x_st rfl ?_
    refine x_st rfl ?_
    refine x_st rfl ?_
    obtain ⟨i1, ha, h⟩ := h
    refine y_ia (nx := 403) (i := i1) rfl ha ?_
    refine x_st rfl ?_
    refine x_st rfl ?_
    obtain ⟨i2, ha, h⟩ := h
    refine y_ia (nx := 407) (i := i2) rfl ha ?_
    refine x_br rfl (fun c => ?_) (fun c => ?_)
    · replace h := h.1 c
      refine x_st rfl ?_
      refine x_st rfl ?_
      obtain ⟨i3, ha, h⟩ := h
      refine y_ia (nx := 418) (i := i3) rfl ha ?_
      refine x_br rfl (fun c => ?_) (fun c => ?_)
      · replace h := h.1 c
        refine x_st rfl ?_
        refine x_st rfl ?_
        obtain ⟨i4, ha, h⟩ := h
        refine y_iast (nx := 428) (i := i4) rfl ha ?_
        refine x_st rfl ?_
        refine x_st rfl ?_
        refine x_kl ?_ h
        exact ⟨Or.inl rfl, ⟨Or.inl rfl, ⟨Or.inr rfl, ⟨Or.inl rfl, ⟨Or.inl rfl, ⟨Or.inr rfl, ⟨Or.inl rfl, ⟨Or.inl rfl, ⟨Or.inr rfl, ⟨Or.inl rfl, ⟨Or.inl rfl, ⟨Or.inl rfl, True.intro⟩⟩⟩⟩⟩⟩⟩⟩⟩⟩⟩⟩
      · replace h := h.2 c
        refine x_st rfl ?_
        refine x_st rfl ?_
        refine x_st rfl ?_
        obtain ⟨i5, ha, h⟩ := h
        refine y_iast (nx := 428) (i := i5) rfl ha ?_
        refine x_st rfl ?_
        refine x_st rfl ?_
        refine x_kl ?_ h
        exact ⟨Or.inl rfl, ⟨Or.inl rfl, ⟨Or.inr rfl, ⟨Or.inl rfl, ⟨Or.inl rfl, ⟨Or.inr rfl, ⟨Or.inl rfl, ⟨Or.inl rfl, ⟨Or.inr rfl, ⟨Or.inl rfl, ⟨Or.inl rfl, ⟨Or.inl rfl, True.intro⟩⟩⟩⟩⟩⟩⟩⟩⟩⟩⟩⟩
    · replace h := h.2 c
      refine x_st rfl ?_
      refine x_st rfl ?_
      refine x_st rfl ?_
      obtain ⟨i6, ha, h⟩ := h
      refine y_iast (nx := 428) (i := i6) rfl ha ?_
      refine x_st rfl ?_
      refine x_st rfl ?_
      refine x_kl ?_ h
      exact ⟨Or.inl rfl, ⟨Or.inl rfl, ⟨Or.inr rfl, ⟨Or.inl rfl, ⟨Or.inl rfl, ⟨Or.inr rfl, ⟨Or.inl rfl, ⟨Or.inl rfl, ⟨Or.inr rfl, ⟨Or.inl rfl, ⟨Or.inl rfl, ⟨Or.inl rfl, True.intro⟩⟩⟩⟩⟩⟩⟩⟩⟩⟩⟩⟩
theorem EL_day {D : Nat} {Q : Option Value → mS → Prop} {a0 : Nat} {a1 : Nat} {a2 : Nat} {a3 : Nat} {a4 : Nat} {w : Nat} {Sh : List mT} {MI : mI} {ML : mJ} (hQ : ∀ v S', Q v S' → Sh.length ≤ S'.2.1.length ∧ w ≤ S'.1) (h : VL_day_0 (mrnT mTb D) Q a0 a1 a2 a3 a4 w Sh MI ML) : ∃ v S', Q v S' ∧ mrnT mTb (D + 1) 282 [.ref a0, .ref a1, .ref a2, .ref a3, .ref a4] (w, Sh, MI, ML) v S' := by
  refine y_en (Tb := mTb) (n := 7) rfl hQ ?_
  refine x_kl ?_ h
  exact ⟨Or.inr rfl, ⟨Or.inr rfl, ⟨Or.inr rfl, ⟨Or.inr rfl, ⟨Or.inr rfl, ⟨Or.inl rfl, ⟨Or.inl rfl, ⟨Or.inl rfl, ⟨Or.inl rfl, ⟨Or.inl rfl, ⟨Or.inl rfl, ⟨Or.inl rfl, True.intro⟩⟩⟩⟩⟩⟩⟩⟩⟩⟩⟩⟩
