/-! the law's bodies by blocks -/
def VL_bazaar_0 (C : mC) (Q : Option Value → mS → Prop) (L : Nat) (xs : Nat → Int32) (a0 : Nat) (a2 : Nat) (a3 : Nat) (a4 : Nat) (a5 : Nat) (v6 : Int32) (v7 : Int32) (w : Nat) (Sh : List mT) (MI : mI) (ML : mJ) : Prop := mEx C (TL_bazaar L xs) Q (0, [some (.ref a0), some (.float 0), some (.ref a2), some (.ref a3), some (.ref a4), some (.ref a5), some (.int v6), some (.int v7), none, none, none, none], [], (w, Sh, MI, ML))
def VL_bazaar_25 (C : mC) (Q : Option Value → mS → Prop) (L : Nat) (xs : Nat → Int32) (a0 : Nat) (a2 : Nat) (a3 : Nat) (a4 : Nat) (a5 : Nat) (v8 : Int32) (w : Nat) (Sh : List mT) (MI : mI) (ML : mJ) : Prop := mEx C (TL_bazaar L xs) Q (25, [some (.ref a0), some (.float 0), some (.ref a2), some (.ref a3), some (.ref a4), some (.ref a5), none, none, some (.int v8), none, none, none], [], (w, Sh, MI, ML))
def VL_bazaar_34 (C : mC) (Q : Option Value → mS → Prop) (L : Nat) (xs : Nat → Int32) (a0 : Nat) (a2 : Nat) (a3 : Nat) (a4 : Nat) (a5 : Nat) (v8 : Int32) (w : Nat) (Sh : List mT) (MI : mI) (ML : mJ) : Prop := mEx C (TL_bazaar L xs) Q (34, [some (.ref a0), some (.float 0), some (.ref a2), some (.ref a3), some (.ref a4), some (.ref a5), none, none, some (.int v8), none, none, none], [], (w, Sh, MI, ML))
def VL_bazaar_45 (C : mC) (Q : Option Value → mS → Prop) (L : Nat) (xs : Nat → Int32) (a0 : Nat) (a2 : Nat) (a3 : Nat) (a4 : Nat) (a5 : Nat) (v8 : Int32) (w : Nat) (Sh : List mT) (MI : mI) (ML : mJ) : Prop := mEx C (TL_bazaar L xs) Q (45, [some (.ref a0), some (.float 0), some (.ref a2), some (.ref a3), some (.ref a4), some (.ref a5), none, none, some (.int v8), none, none, none], [], (w, Sh, MI, ML))
def VL_bazaar_56 (C : mC) (Q : Option Value → mS → Prop) (L : Nat) (xs : Nat → Int32) (a0 : Nat) (a2 : Nat) (a3 : Nat) (a4 : Nat) (a5 : Nat) (v8 : Int32) (w : Nat) (Sh : List mT) (MI : mI) (ML : mJ) : Prop := mEx C (TL_bazaar L xs) Q (56, [some (.ref a0), some (.float 0), some (.ref a2), some (.ref a3), some (.ref a4), some (.ref a5), none, none, some (.int v8), none, none, none], [], (w, Sh, MI, ML))
def VL_bazaar_80 (C : mC) (Q : Option Value → mS → Prop) (L : Nat) (xs : Nat → Int32) (a0 : Nat) (a2 : Nat) (a3 : Nat) (a4 : Nat) (a5 : Nat) (b0 : Nat) (s1 : Int32) (s2 : Int32) (w : Nat) (Sh : List mT) (MI : mI) (ML : mJ) : Prop := mEx C (TL_bazaar L xs) Q (80, [some (.ref a0), some (.float 0), some (.ref a2), some (.ref a3), some (.ref a4), some (.ref a5), none, none, none, none, none, none], [.int s2, .int s1, .ref b0], (w, Sh, MI, ML))
def VL_bazaar_81 (C : mC) (Q : Option Value → mS → Prop) (L : Nat) (xs : Nat → Int32) (a0 : Nat) (a2 : Nat) (a3 : Nat) (a4 : Nat) (a5 : Nat) (w : Nat) (Sh : List mT) (MI : mI) (ML : mJ) : Prop := mEx C (TL_bazaar L xs) Q (81, [some (.ref a0), some (.float 0), some (.ref a2), some (.ref a3), some (.ref a4), some (.ref a5), none, none, none, none, none, none], [], (w, Sh, MI, ML))
def VL_bazaar_137 (C : mC) (Q : Option Value → mS → Prop) (L : Nat) (xs : Nat → Int32) (a0 : Nat) (a2 : Nat) (a3 : Nat) (a4 : Nat) (a5 : Nat) (v9 : Int32) (w : Nat) (Sh : List mT) (MI : mI) (ML : mJ) : Prop := mEx C (TL_bazaar L xs) Q (137, [some (.ref a0), some (.float 0), some (.ref a2), some (.ref a3), some (.ref a4), some (.ref a5), none, none, none, some (.int v9), none, none], [], (w, Sh, MI, ML))
def VL_bazaar_168 (C : mC) (Q : Option Value → mS → Prop) (L : Nat) (xs : Nat → Int32) (a0 : Nat) (a2 : Nat) (a3 : Nat) (a4 : Nat) (a5 : Nat) (v9 : Int32) (v10 : Int32) (w : Nat) (Sh : List mT) (MI : mI) (ML : mJ) : Prop := mEx C (TL_bazaar L xs) Q (168, [some (.ref a0), some (.float 0), some (.ref a2), some (.ref a3), some (.ref a4), some (.ref a5), none, none, none, some (.int v9), some (.int v10), none], [], (w, Sh, MI, ML))
def VL_bazaar_184 (C : mC) (Q : Option Value → mS → Prop) (L : Nat) (xs : Nat → Int32) (a0 : Nat) (a2 : Nat) (a3 : Nat) (a4 : Nat) (a5 : Nat) (v9 : Int32) (w : Nat) (Sh : List mT) (MI : mI) (ML : mJ) : Prop := mEx C (TL_bazaar L xs) Q (184, [some (.ref a0), some (.float 0), some (.ref a2), some (.ref a3), some (.ref a4), some (.ref a5), none, none, none, some (.int v9), none, none], [], (w, Sh, MI, ML))
def VL_bazaar_218 (C : mC) (Q : Option Value → mS → Prop) (L : Nat) (xs : Nat → Int32) (a0 : Nat) (a2 : Nat) (a4 : Nat) (a5 : Nat) (v9 : Int32) (w : Nat) (Sh : List mT) (MI : mI) (ML : mJ) : Prop := mEx C (TL_bazaar L xs) Q (218, [some (.ref a0), some (.float 0), some (.ref a2), none, some (.ref a4), some (.ref a5), none, none, none, some (.int v9), none, none], [], (w, Sh, MI, ML))
def VL_bazaar_229 (C : mC) (Q : Option Value → mS → Prop) (L : Nat) (xs : Nat → Int32) (a0 : Nat) (a2 : Nat) (a4 : Nat) (a5 : Nat) (v9 : Int32) (v10 : Int32) (w : Nat) (Sh : List mT) (MI : mI) (ML : mJ) : Prop := mEx C (TL_bazaar L xs) Q (229, [some (.ref a0), some (.float 0), some (.ref a2), none, some (.ref a4), some (.ref a5), none, none, none, some (.int v9), some (.int v10), none], [], (w, Sh, MI, ML))
def VL_bazaar_303 (C : mC) (Q : Option Value → mS → Prop) (L : Nat) (xs : Nat → Int32) (a0 : Nat) (a2 : Nat) (a4 : Nat) (a5 : Nat) (v9 : Int32) (v10 : Int32) (b0 : Nat) (s1 : Int32) (s2 : Int32) (w : Nat) (Sh : List mT) (MI : mI) (ML : mJ) : Prop := mEx C (TL_bazaar L xs) Q (303, [some (.ref a0), some (.float 0), some (.ref a2), none, some (.ref a4), some (.ref a5), none, none, none, some (.int v9), some (.int v10), none], [.int s2, .int s1, .ref b0], (w, Sh, MI, ML))
def VL_bazaar_371 (C : mC) (Q : Option Value → mS → Prop) (L : Nat) (xs : Nat → Int32) (a0 : Nat) (a5 : Nat) (v9 : Int32) (v10 : Int32) (w : Nat) (Sh : List mT) (MI : mI) (ML : mJ) : Prop := mEx C (TL_bazaar L xs) Q (371, [some (.ref a0), none, none, none, none, some (.ref a5), none, none, none, some (.int v9), some (.int v10), none], [], (w, Sh, MI, ML))
def VL_bazaar_402 (C : mC) (Q : Option Value → mS → Prop) (L : Nat) (xs : Nat → Int32) (a0 : Nat) (a5 : Nat) (w : Nat) (Sh : List mT) (MI : mI) (ML : mJ) : Prop := mEx C (TL_bazaar L xs) Q (402, [some (.ref a0), none, none, none, none, some (.ref a5), none, none, none, none, none, none], [], (w, Sh, MI, ML))
def VL_bazaar_596 (C : mC) (Q : Option Value → mS → Prop) (L : Nat) (xs : Nat → Int32) (a0 : Nat) (s0 : Int32) (w : Nat) (Sh : List mT) (MI : mI) (ML : mJ) : Prop := mEx C (TL_bazaar L xs) Q (596, [some (.ref a0), none, none, none, none, none, none, none, none, none, none, none], [.int s0], (w, Sh, MI, ML))
theorem BL_bazaar_0 {C : mC} {Q : Option Value → mS → Prop} {L : Nat} {xs : Nat → Int32} {a0 : Nat} {a2 : Nat} {a3 : Nat} {a4 : Nat} {a5 : Nat} {v6 : Int32} {v7 : Int32} {w : Nat} {Sh : List mT} {MI : mI} {ML : mJ} (hL : L < 10001)
    (h : ∃ (x3 : Int32) (M1 : mI) (N2 : mJ), C 300 [.float 0, .int (nI 0)] (w, Sh, MI, ML) (some (.int x3)) (w, Sh, M1, N2) ∧ (¬ ((v7 - v6) + (nI 1)) = nI 0 ∧ (aok Sh a2 0 (nI 0) ∧ (VL_bazaar_25 C Q L xs a0 a2 a3 a4 a5 x3 w Sh (mup M1 a2 (mput (M1 a2) 0 (v6 + ((((x3).toUInt32 >>> (((nI 1)).toUInt32 &&& Int32.toUInt32 31)).toInt32) - (((x3).toUInt32 >>> (((nI 1)).toUInt32 &&& Int32.toUInt32 31)).toInt32) / ((v7 - v6) + (nI 1)) * ((v7 - v6) + (nI 1)))))) N2)))) :
    VL_bazaar_0 C Q L xs a0 a2 a3 a4 a5 v6 v7 w Sh MI ML := by
  show mEx C (TL_bazaar L xs) Q (0, [some (.ref a0), some (.float 0), some (.ref a2), some (.ref a3), some (.ref a4), some (.ref a5), some (.int v6), some (.int v7), none, none, none, none], [], (w, Sh, MI, ML))
  refine x_st rfl ?_
  refine x_st rfl ?_
  obtain ⟨x3, M1, N2, hc, h⟩ := h
  refine x_ci rfl hc ?_
  refine x_st rfl ?_
  refine x_st rfl ?_
  refine x_st rfl ?_
  refine x_st rfl ?_
  refine x_st rfl ?_
  refine x_st rfl ?_
  refine x_st rfl ?_
  refine x_st rfl ?_
  refine x_st rfl ?_
  refine x_st rfl ?_
  refine x_st rfl ?_
  refine x_st rfl ?_
  refine x_ck rfl h.1 ?_
  have h := h.2
  refine x_st rfl ?_
  refine y_iast (nx := 25) (i := 0) rfl h.1 ?_
  replace h := h.2
  refine x_kl ?_ h
  exact ⟨Or.inr rfl, ⟨Or.inr rfl, ⟨Or.inr rfl, ⟨Or.inr rfl, ⟨Or.inr rfl, ⟨Or.inr rfl, ⟨Or.inl rfl, ⟨Or.inl rfl, ⟨Or.inr rfl, ⟨Or.inl rfl, ⟨Or.inl rfl, ⟨Or.inl rfl, True.intro⟩⟩⟩⟩⟩⟩⟩⟩⟩⟩⟩⟩
theorem BL_bazaar_25 {C : mC} {Q : Option Value → mS → Prop} {L : Nat} {xs : Nat → Int32} {a0 : Nat} {a2 : Nat} {a3 : Nat} {a4 : Nat} {a5 : Nat} {v8 : Int32} {w : Nat} {Sh : List mT} {MI : mI} {ML : mJ} (hL : L < 10001)
    (h : aok Sh a2 1 (nI 1) ∧ (VL_bazaar_34 C Q L xs a0 a2 a3 a4 a5 v8 w Sh (mup MI a2 (mput (MI a2) 1 ((((v8).toUInt32 >>> (((nI 5)).toUInt32 &&& Int32.toUInt32 31)).toInt32) &&& (nI 3)))) ML)) :
    VL_bazaar_25 C Q L xs a0 a2 a3 a4 a5 v8 w Sh MI ML := by
  show mEx C (TL_bazaar L xs) Q (25, [some (.ref a0), some (.float 0), some (.ref a2), some (.ref a3), some (.ref a4), some (.ref a5), none, none, some (.int v8), none, none, none], [], (w, Sh, MI, ML))
  refine x_st rfl ?_
  refine x_st rfl ?_
  refine x_st rfl ?_
  refine x_st rfl ?_
  refine x_st rfl ?_
  refine x_st rfl ?_
  refine x_st rfl ?_
  refine y_iast (nx := 34) (i := 1) rfl h.1 ?_
  replace h := h.2
  refine x_kl ?_ h
  exact ⟨Or.inr rfl, ⟨Or.inr rfl, ⟨Or.inr rfl, ⟨Or.inr rfl, ⟨Or.inr rfl, ⟨Or.inr rfl, ⟨Or.inl rfl, ⟨Or.inl rfl, ⟨Or.inr rfl, ⟨Or.inl rfl, ⟨Or.inl rfl, ⟨Or.inl rfl, True.intro⟩⟩⟩⟩⟩⟩⟩⟩⟩⟩⟩⟩
theorem BL_bazaar_34 {C : mC} {Q : Option Value → mS → Prop} {L : Nat} {xs : Nat → Int32} {a0 : Nat} {a2 : Nat} {a3 : Nat} {a4 : Nat} {a5 : Nat} {v8 : Int32} {w : Nat} {Sh : List mT} {MI : mI} {ML : mJ} (hL : L < 10001)
    (h : aok Sh a2 2 (nI 2) ∧ (VL_bazaar_45 C Q L xs a0 a2 a3 a4 a5 v8 w Sh (mup MI a2 (mput (MI a2) 2 ((((v8).toUInt32 >>> (((nI 7)).toUInt32 &&& Int32.toUInt32 31)).toInt32) - (((v8).toUInt32 >>> (((nI 7)).toUInt32 &&& Int32.toUInt32 31)).toInt32) / (nI 10) * (nI 10)))) ML)) :
    VL_bazaar_34 C Q L xs a0 a2 a3 a4 a5 v8 w Sh MI ML := by
  show mEx C (TL_bazaar L xs) Q (34, [some (.ref a0), some (.float 0), some (.ref a2), some (.ref a3), some (.ref a4), some (.ref a5), none, none, some (.int v8), none, none, none], [], (w, Sh, MI, ML))
  refine x_st rfl ?_
  refine x_st rfl ?_
  refine x_st rfl ?_
  refine x_st rfl ?_
  refine x_st rfl ?_
  refine x_st rfl ?_
  refine x_st rfl ?_
  refine y_iast (nx := 45) (i := 2) rfl h.1 ?_
  replace h := h.2
  refine x_kl ?_ h
  exact ⟨Or.inr rfl, ⟨Or.inr rfl, ⟨Or.inr rfl, ⟨Or.inr rfl, ⟨Or.inr rfl, ⟨Or.inr rfl, ⟨Or.inl rfl, ⟨Or.inl rfl, ⟨Or.inr rfl, ⟨Or.inl rfl, ⟨Or.inl rfl, ⟨Or.inl rfl, True.intro⟩⟩⟩⟩⟩⟩⟩⟩⟩⟩⟩⟩
theorem BL_bazaar_45 {C : mC} {Q : Option Value → mS → Prop} {L : Nat} {xs : Nat → Int32} {a0 : Nat} {a2 : Nat} {a3 : Nat} {a4 : Nat} {a5 : Nat} {v8 : Int32} {w : Nat} {Sh : List mT} {MI : mI} {ML : mJ} (hL : L < 10001)
    (h : aok Sh a2 3 (nI 3) ∧ (VL_bazaar_56 C Q L xs a0 a2 a3 a4 a5 v8 w Sh (mup MI a2 (mput (MI a2) 3 ((((v8).toUInt32 >>> (((nI 11)).toUInt32 &&& Int32.toUInt32 31)).toInt32) - (((v8).toUInt32 >>> (((nI 11)).toUInt32 &&& Int32.toUInt32 31)).toInt32) / (nI 21) * (nI 21)))) ML)) :
    VL_bazaar_45 C Q L xs a0 a2 a3 a4 a5 v8 w Sh MI ML := by
  show mEx C (TL_bazaar L xs) Q (45, [some (.ref a0), some (.float 0), some (.ref a2), some (.ref a3), some (.ref a4), some (.ref a5), none, none, some (.int v8), none, none, none], [], (w, Sh, MI, ML))
  refine x_st rfl ?_
  refine x_st rfl ?_
  refine x_st rfl ?_
  refine x_st rfl ?_
  refine x_st rfl ?_
  refine x_st rfl ?_
  refine x_st rfl ?_
  refine y_iast (nx := 56) (i := 3) rfl h.1 ?_
  replace h := h.2
  refine x_kl ?_ h
  exact ⟨Or.inr rfl, ⟨Or.inr rfl, ⟨Or.inr rfl, ⟨Or.inr rfl, ⟨Or.inr rfl, ⟨Or.inr rfl, ⟨Or.inl rfl, ⟨Or.inl rfl, ⟨Or.inr rfl, ⟨Or.inl rfl, ⟨Or.inl rfl, ⟨Or.inl rfl, True.intro⟩⟩⟩⟩⟩⟩⟩⟩⟩⟩⟩⟩
theorem BL_bazaar_56 {C : mC} {Q : Option Value → mS → Prop} {L : Nat} {xs : Nat → Int32} {a0 : Nat} {a2 : Nat} {a3 : Nat} {a4 : Nat} {a5 : Nat} {v8 : Int32} {w : Nat} {Sh : List mT} {MI : mI} {ML : mJ} (hL : L < 10001)
    (h : (((((v8).toUInt32 >>> (((nI 16)).toUInt32 &&& Int32.toUInt32 31)).toInt32) &&& (nI 1)) = nI 0 → VL_bazaar_80 C Q L xs a0 a2 a3 a4 a5 a2 (nI 4) (nI 0) w Sh MI ML) ∧ (¬ ((((v8).toUInt32 >>> (((nI 16)).toUInt32 &&& Int32.toUInt32 31)).toInt32) &&& (nI 1)) = nI 0 → VL_bazaar_80 C Q L xs a0 a2 a3 a4 a5 a2 (nI 4) ((((v8).toUInt32 >>> (((nI 17)).toUInt32 &&& Int32.toUInt32 31)).toInt32) - (((v8).toUInt32 >>> (((nI 17)).toUInt32 &&& Int32.toUInt32 31)).toInt32) / (nI 100) * (nI 100)) w Sh MI ML)) :
    VL_bazaar_56 C Q L xs a0 a2 a3 a4 a5 v8 w Sh MI ML := by
  show mEx C (TL_bazaar L xs) Q (56, [some (.ref a0), some (.float 0), some (.ref a2), some (.ref a3), some (.ref a4), some (.ref a5), none, none, some (.int v8), none, none, none], [], (w, Sh, MI, ML))
  refine x_st rfl ?_
  refine x_st rfl ?_
  refine x_st rfl ?_
  refine x_st rfl ?_
  refine x_st rfl ?_
  refine x_st rfl ?_
  refine x_st rfl ?_
  refine x_br rfl (fun c => ?_) (fun c => ?_)
  · replace h := h.1 c
    refine x_st rfl ?_
    refine x_st rfl ?_
    refine x_kl ?_ h
    exact ⟨Or.inr rfl, ⟨Or.inr rfl, ⟨Or.inr rfl, ⟨Or.inr rfl, ⟨Or.inr rfl, ⟨Or.inr rfl, ⟨Or.inl rfl, ⟨Or.inl rfl, ⟨Or.inl rfl, ⟨Or.inl rfl, ⟨Or.inl rfl, ⟨Or.inl rfl, True.intro⟩⟩⟩⟩⟩⟩⟩⟩⟩⟩⟩⟩
  · replace h := h.2 c
    refine x_st rfl ?_
    refine x_st rfl ?_
    refine x_st rfl ?_
    refine x_st rfl ?_
    refine x_st rfl ?_
    refine x_kl ?_ h
    exact ⟨Or.inr rfl, ⟨Or.inr rfl, ⟨Or.inr rfl, ⟨Or.inr rfl, ⟨Or.inr rfl, ⟨Or.inr rfl, ⟨Or.inl rfl, ⟨Or.inl rfl, ⟨Or.inl rfl, ⟨Or.inl rfl, ⟨Or.inl rfl, ⟨Or.inl rfl, True.intro⟩⟩⟩⟩⟩⟩⟩⟩⟩⟩⟩⟩
theorem BL_bazaar_80 {C : mC} {Q : Option Value → mS → Prop} {L : Nat} {xs : Nat → Int32} {a0 : Nat} {a2 : Nat} {a3 : Nat} {a4 : Nat} {a5 : Nat} {b0 : Nat} {s1 : Int32} {s2 : Int32} {w : Nat} {Sh : List mT} {MI : mI} {ML : mJ} (hL : L < 10001)
    (h : ∃ i1 : Nat, aok Sh b0 i1 s1 ∧ (VL_bazaar_81 C Q L xs a0 a2 a3 a4 a5 w Sh (mup MI b0 (mput (MI b0) i1 s2)) ML)) :
    VL_bazaar_80 C Q L xs a0 a2 a3 a4 a5 b0 s1 s2 w Sh MI ML := by
  show mEx C (TL_bazaar L xs) Q (80, [some (.ref a0), some (.float 0), some (.ref a2), some (.ref a3), some (.ref a4), some (.ref a5), none, none, none, none, none, none], [.int s2, .int s1, .ref b0], (w, Sh, MI, ML))
  obtain ⟨i1, ha, h⟩ := h
  refine y_iast (nx := 81) (i := i1) rfl ha ?_
  refine x_kl ?_ h
  exact ⟨Or.inr rfl, ⟨Or.inr rfl, ⟨Or.inr rfl, ⟨Or.inr rfl, ⟨Or.inr rfl, ⟨Or.inr rfl, ⟨Or.inl rfl, ⟨Or.inl rfl, ⟨Or.inl rfl, ⟨Or.inl rfl, ⟨Or.inl rfl, ⟨Or.inl rfl, True.intro⟩⟩⟩⟩⟩⟩⟩⟩⟩⟩⟩⟩
theorem BL_bazaar_81 {C : mC} {Q : Option Value → mS → Prop} {L : Nat} {xs : Nat → Int32} {a0 : Nat} {a2 : Nat} {a3 : Nat} {a4 : Nat} {a5 : Nat} {w : Nat} {Sh : List mT} {MI : mI} {ML : mJ} (hL : L < 10001)
    (h : aok Sh a2 1 (nI 1) ∧ (isO Sh a0 10 ∧ ∃ (x3 : Int32) (M1 : mI) (N2 : mJ), C 137 [.ref a0, .int (nI 0), .int (nI 2), .int (MI a2 1)] (w, Sh, MI, ML) (some (.int x3)) (w, Sh, M1, N2) ∧ ((x3 = (nI 1) → aok Sh a2 2 (nI 2) ∧ (isO Sh a0 10 ∧ ∃ (x6 : Int32) (M4 : mI) (N5 : mJ), C 137 [.ref a0, .int (nI 0), .int (nI 3), .int (M1 a2 2)] (w, Sh, M1, N2) (some (.int x6)) (w, Sh, M4, N5) ∧ ((x6 = nI 0 → aok Sh a2 3 (nI 3) ∧ (isO Sh a0 10 ∧ ∃ (x9 : Int32) (M7 : mI) (N8 : mJ), C 137 [.ref a0, .int (nI 0), .int (nI 4), .int (M4 a2 3)] (w, Sh, M4, N5) (some (.int x9)) (w, Sh, M7, N8) ∧ ((x9 = (nI 6) → aok Sh a2 4 (nI 4) ∧ (isO Sh a0 10 ∧ ∃ (x12 : Int32) (M10 : mI) (N11 : mJ), C 137 [.ref a0, .int (nI 0), .int (nI 5), .int (M7 a2 4)] (w, Sh, M7, N8) (some (.int x12)) (w, Sh, M10, N11) ∧ ((x12 = nI 0 → VL_bazaar_137 C Q L xs a0 a2 a3 a4 a5 (nI 0) w Sh M10 N11) ∧ (¬ x12 = nI 0 → Q (some (.int (nI 0))) (w, Sh, M10, N11))))) ∧ (¬ x9 = (nI 6) → Q (some (.int (nI 0))) (w, Sh, M7, N8))))) ∧ (¬ x6 = nI 0 → Q (some (.int (nI 0))) (w, Sh, M4, N5))))) ∧ (¬ x3 = (nI 1) → Q (some (.int (nI 0))) (w, Sh, M1, N2))))) :
    VL_bazaar_81 C Q L xs a0 a2 a3 a4 a5 w Sh MI ML := by
  show mEx C (TL_bazaar L xs) Q (81, [some (.ref a0), some (.float 0), some (.ref a2), some (.ref a3), some (.ref a4), some (.ref a5), none, none, none, none, none, none], [], (w, Sh, MI, ML))
  refine x_st rfl ?_
  refine x_st rfl ?_
  refine x_st rfl ?_
  refine x_st rfl ?_
  refine x_st rfl ?_
  refine y_ia (nx := 87) (i := 1) rfl h.1 ?_
  replace h := h.2
  obtain ⟨ho, x3, M1, N2, hc, h⟩ := h
  refine y_vi (y := 137) (n := 3) (ci := 10) (nx := 90) rfl (fun _ => rfl) ho rfl hc ?_
  refine x_st rfl ?_
  refine x_br rfl (fun c => ?_) (fun c => ?_)
  · replace h := h.1 c
    refine x_st rfl ?_
    refine x_st rfl ?_
    refine x_st rfl ?_
    refine x_st rfl ?_
    refine x_st rfl ?_
    refine y_ia (nx := 100) (i := 2) rfl h.1 ?_
    replace h := h.2
    obtain ⟨ho, x6, M4, N5, hc, h⟩ := h
    refine y_vi (y := 137) (n := 3) (ci := 10) (nx := 103) rfl (fun _ => rfl) ho rfl hc ?_
    refine x_br rfl (fun c => ?_) (fun c => ?_)
    · replace h := h.1 c
      refine x_st rfl ?_
      refine x_st rfl ?_
      refine x_st rfl ?_
      refine x_st rfl ?_
      refine x_st rfl ?_
      refine y_ia (nx := 112) (i := 3) rfl h.1 ?_
      replace h := h.2
      obtain ⟨ho, x9, M7, N8, hc, h⟩ := h
      refine y_vi (y := 137) (n := 3) (ci := 10) (nx := 115) rfl (fun _ => rfl) ho rfl hc ?_
      refine x_st rfl ?_
      refine x_br rfl (fun c => ?_) (fun c => ?_)
      · replace h := h.1 c
        refine x_st rfl ?_
        refine x_st rfl ?_
        refine x_st rfl ?_
        refine x_st rfl ?_
        refine x_st rfl ?_
        refine y_ia (nx := 126) (i := 4) rfl h.1 ?_
        replace h := h.2
        obtain ⟨ho, x12, M10, N11, hc, h⟩ := h
        refine y_vi (y := 137) (n := 3) (ci := 10) (nx := 129) rfl (fun _ => rfl) ho rfl hc ?_
        refine x_br rfl (fun c => ?_) (fun c => ?_)
        · replace h := h.1 c
          refine x_st rfl ?_
          refine x_st rfl ?_
          refine x_kl ?_ h
          exact ⟨Or.inr rfl, ⟨Or.inr rfl, ⟨Or.inr rfl, ⟨Or.inr rfl, ⟨Or.inr rfl, ⟨Or.inr rfl, ⟨Or.inl rfl, ⟨Or.inl rfl, ⟨Or.inl rfl, ⟨Or.inr rfl, ⟨Or.inl rfl, ⟨Or.inl rfl, True.intro⟩⟩⟩⟩⟩⟩⟩⟩⟩⟩⟩⟩
        · replace h := h.2 c
          refine x_st rfl ?_
          exact x_ret rfl h
      · replace h := h.2 c
        refine x_st rfl ?_
        exact x_ret rfl h
    · replace h := h.2 c
      refine x_st rfl ?_
      exact x_ret rfl h
  · replace h := h.2 c
    refine x_st rfl ?_
    exact x_ret rfl h
theorem BL_bazaar_137 {C : mC} {Q : Option Value → mS → Prop} {L : Nat} {xs : Nat → Int32} {a0 : Nat} {a2 : Nat} {a3 : Nat} {a4 : Nat} {a5 : Nat} {v9 : Int32} {w : Nat} {Sh : List mT} {MI : mI} {ML : mJ} (hL : L < 10001)
    (h : aok Sh a2 0 (nI 0) ∧ (((MI a2 0) ≤ v9 → VL_bazaar_218 C Q L xs a0 a2 a4 a5 (nI 0) w Sh MI ML) ∧ (¬ (MI a2 0) ≤ v9 → ∃ (x3 : Int32) (M1 : mI) (N2 : mJ), C 300 [.float 0, .int ((nI 1) + v9)] (w, Sh, MI, ML) (some (.int x3)) (w, Sh, M1, N2) ∧ (∃ i4 : Nat, aok Sh a3 i4 ((nI 2) * v9) ∧ (VL_bazaar_168 C Q L xs a0 a2 a3 a4 a5 v9 x3 w Sh (mup M1 a3 (mput (M1 a3) i4 ((((x3).toUInt32 >>> (((nI 1)).toUInt32 &&& Int32.toUInt32 31)).toInt32) - (((x3).toUInt32 >>> (((nI 1)).toUInt32 &&& Int32.toUInt32 31)).toInt32) / (nI 100) * (nI 100)))) N2))))) :
    VL_bazaar_137 C Q L xs a0 a2 a3 a4 a5 v9 w Sh MI ML := by
  show mEx C (TL_bazaar L xs) Q (137, [some (.ref a0), some (.float 0), some (.ref a2), some (.ref a3), some (.ref a4), some (.ref a5), none, none, none, some (.int v9), none, none], [], (w, Sh, MI, ML))
  refine x_st rfl ?_
  refine x_st rfl ?_
  refine x_st rfl ?_
  refine y_ia (nx := 142) (i := 0) rfl h.1 ?_
  replace h := h.2
  refine x_br rfl (fun c => ?_) (fun c => ?_)
  · replace h := h.1 c
    refine x_st rfl ?_
    refine x_st rfl ?_
    refine x_kl ?_ h
    exact ⟨Or.inr rfl, ⟨Or.inr rfl, ⟨Or.inr rfl, ⟨Or.inl rfl, ⟨Or.inr rfl, ⟨Or.inr rfl, ⟨Or.inl rfl, ⟨Or.inl rfl, ⟨Or.inl rfl, ⟨Or.inr rfl, ⟨Or.inl rfl, ⟨Or.inl rfl, True.intro⟩⟩⟩⟩⟩⟩⟩⟩⟩⟩⟩⟩
  · replace h := h.2 c
    refine x_st rfl ?_
    refine x_st rfl ?_
    refine x_st rfl ?_
    refine x_st rfl ?_
    obtain ⟨x3, M1, N2, hc, h⟩ := h
    refine x_ci rfl hc ?_
    refine x_st rfl ?_
    refine x_st rfl ?_
    refine x_st rfl ?_
    refine x_st rfl ?_
    refine x_st rfl ?_
    refine x_st rfl ?_
    refine x_st rfl ?_
    refine x_st rfl ?_
    refine x_st rfl ?_
    refine x_st rfl ?_
    obtain ⟨i4, ha, h⟩ := h
    refine y_iast (nx := 168) (i := i4) rfl ha ?_
    refine x_kl ?_ h
    exact ⟨Or.inr rfl, ⟨Or.inr rfl, ⟨Or.inr rfl, ⟨Or.inr rfl, ⟨Or.inr rfl, ⟨Or.inr rfl, ⟨Or.inl rfl, ⟨Or.inl rfl, ⟨Or.inl rfl, ⟨Or.inr rfl, ⟨Or.inr rfl, ⟨Or.inl rfl, True.intro⟩⟩⟩⟩⟩⟩⟩⟩⟩⟩⟩⟩
theorem BL_bazaar_168 {C : mC} {Q : Option Value → mS → Prop} {L : Nat} {xs : Nat → Int32} {a0 : Nat} {a2 : Nat} {a3 : Nat} {a4 : Nat} {a5 : Nat} {v9 : Int32} {v10 : Int32} {w : Nat} {Sh : List mT} {MI : mI} {ML : mJ} (hL : L < 10001)
    (h : ∃ i1 : Nat, aok Sh a3 i1 (((nI 2) * v9) + (nI 1)) ∧ (VL_bazaar_184 C Q L xs a0 a2 a3 a4 a5 v9 w Sh (mup MI a3 (mput (MI a3) i1 ((((v10).toUInt32 >>> (((nI 8)).toUInt32 &&& Int32.toUInt32 31)).toInt32) - (((v10).toUInt32 >>> (((nI 8)).toUInt32 &&& Int32.toUInt32 31)).toInt32) / (nI 10) * (nI 10)))) ML)) :
    VL_bazaar_168 C Q L xs a0 a2 a3 a4 a5 v9 v10 w Sh MI ML := by
  show mEx C (TL_bazaar L xs) Q (168, [some (.ref a0), some (.float 0), some (.ref a2), some (.ref a3), some (.ref a4), some (.ref a5), none, none, none, some (.int v9), some (.int v10), none], [], (w, Sh, MI, ML))
  refine x_st rfl ?_
  refine x_st rfl ?_
  refine x_st rfl ?_
  refine x_st rfl ?_
  refine x_st rfl ?_
  refine x_st rfl ?_
  refine x_st rfl ?_
  refine x_st rfl ?_
  refine x_st rfl ?_
  refine x_st rfl ?_
  refine x_st rfl ?_
  obtain ⟨i1, ha, h⟩ := h
  refine y_iast (nx := 184) (i := i1) rfl ha ?_
  refine x_kl ?_ h
  exact ⟨Or.inr rfl, ⟨Or.inr rfl, ⟨Or.inr rfl, ⟨Or.inr rfl, ⟨Or.inr rfl, ⟨Or.inr rfl, ⟨Or.inl rfl, ⟨Or.inl rfl, ⟨Or.inl rfl, ⟨Or.inr rfl, ⟨Or.inl rfl, ⟨Or.inl rfl, True.intro⟩⟩⟩⟩⟩⟩⟩⟩⟩⟩⟩⟩
theorem BL_bazaar_184 {C : mC} {Q : Option Value → mS → Prop} {L : Nat} {xs : Nat → Int32} {a0 : Nat} {a2 : Nat} {a3 : Nat} {a4 : Nat} {a5 : Nat} {v9 : Int32} {w : Nat} {Sh : List mT} {MI : mI} {ML : mJ} (hL : L < 10001)
    (h : ∃ i1 : Nat, aok Sh a3 i1 ((nI 2) * v9) ∧ (∃ i2 : Nat, aok Sh a3 i2 (((nI 2) * v9) + (nI 1)) ∧ (isO Sh a0 10 ∧ ∃ (x5 : Int32) (M3 : mI) (N4 : mJ), C 135 [.ref a0, .int (MI a3 i1), .int (MI a3 i2)] (w, Sh, MI, ML) (some (.int x5)) (w, Sh, M3, N4) ∧ ((x5 = v9 → VL_bazaar_137 C Q L xs a0 a2 a3 a4 a5 (v9 + (nI 1)) w Sh M3 N4) ∧ (¬ x5 = v9 → Q (some (.int (nI 0))) (w, Sh, M3, N4)))))) :
    VL_bazaar_184 C Q L xs a0 a2 a3 a4 a5 v9 w Sh MI ML := by
  show mEx C (TL_bazaar L xs) Q (184, [some (.ref a0), some (.float 0), some (.ref a2), some (.ref a3), some (.ref a4), some (.ref a5), none, none, none, some (.int v9), none, none], [], (w, Sh, MI, ML))
  refine x_st rfl ?_
  refine x_st rfl ?_
  refine x_st rfl ?_
  refine x_st rfl ?_
  refine x_st rfl ?_
  obtain ⟨i1, ha, h⟩ := h
  refine y_ia (nx := 191) (i := i1) rfl ha ?_
  refine x_st rfl ?_
  refine x_st rfl ?_
  refine x_st rfl ?_
  refine x_st rfl ?_
  refine x_st rfl ?_
  refine x_st rfl ?_
  obtain ⟨i2, ha, h⟩ := h
  refine y_ia (nx := 199) (i := i2) rfl ha ?_
  obtain ⟨ho, x5, M3, N4, hc, h⟩ := h
  refine y_vi (y := 135) (n := 2) (ci := 10) (nx := 202) rfl (fun _ => rfl) ho rfl hc ?_
  refine x_st rfl ?_
  refine x_br rfl (fun c => ?_) (fun c => ?_)
  · replace h := h.1 c
    refine x_st rfl ?_
    refine x_st rfl ?_
    refine x_kl ?_ h
    exact ⟨Or.inr rfl, ⟨Or.inr rfl, ⟨Or.inr rfl, ⟨Or.inr rfl, ⟨Or.inr rfl, ⟨Or.inr rfl, ⟨Or.inl rfl, ⟨Or.inl rfl, ⟨Or.inl rfl, ⟨Or.inr rfl, ⟨Or.inl rfl, ⟨Or.inl rfl, True.intro⟩⟩⟩⟩⟩⟩⟩⟩⟩⟩⟩⟩
  · replace h := h.2 c
    refine x_st rfl ?_
    exact x_ret rfl h
theorem BL_bazaar_218 {C : mC} {Q : Option Value → mS → Prop} {L : Nat} {xs : Nat → Int32} {a0 : Nat} {a2 : Nat} {a4 : Nat} {a5 : Nat} {v9 : Int32} {w : Nat} {Sh : List mT} {MI : mI} {ML : mJ} (hL : L < 10001)
    (h : aok Sh a2 0 (nI 0) ∧ (((MI a2 0) ≤ v9 → ∃ (x3 : Int32) (M1 : mI) (N2 : mJ), C 300 [.float 0, .int (nI 57)] (w, Sh, MI, ML) (some (.int x3)) (w, Sh, M1, N2) ∧ (aok Sh a5 0 (nI 0) ∧ (((x3 &&& (nI 1)) = nI 0 → Q (some (.int (nI 1))) (w, Sh, (mup M1 a5 (mput (M1 a5) 0 (-1 : Int32))), N2)) ∧ (¬ (x3 &&& (nI 1)) = nI 0 → VL_bazaar_371 C Q L xs a0 a5 x3 (nI 0) w Sh (mup M1 a5 (mput (M1 a5) 0 (-1 : Int32))) N2)))) ∧ (¬ (MI a2 0) ≤ v9 → VL_bazaar_229 C Q L xs a0 a2 a4 a5 v9 (nI 0) w Sh MI ML))) :
    VL_bazaar_218 C Q L xs a0 a2 a4 a5 v9 w Sh MI ML := by
  show mEx C (TL_bazaar L xs) Q (218, [some (.ref a0), some (.float 0), some (.ref a2), none, some (.ref a4), some (.ref a5), none, none, none, some (.int v9), none, none], [], (w, Sh, MI, ML))
  refine x_st rfl ?_
  refine x_st rfl ?_
  refine x_st rfl ?_
  refine y_ia (nx := 223) (i := 0) rfl h.1 ?_
  replace h := h.2
  refine x_br rfl (fun c => ?_) (fun c => ?_)
  · replace h := h.1 c
    refine x_st rfl ?_
    refine x_st rfl ?_
    obtain ⟨x3, M1, N2, hc, h⟩ := h
    refine x_ci rfl hc ?_
    refine x_st rfl ?_
    refine x_st rfl ?_
    refine x_st rfl ?_
    refine x_st rfl ?_
    refine y_iast (nx := 359) (i := 0) rfl h.1 ?_
    replace h := h.2
    refine x_st rfl ?_
    refine x_st rfl ?_
    refine x_st rfl ?_
    refine x_br rfl (fun c => ?_) (fun c => ?_)
    · replace h := h.1 c
      refine x_st rfl ?_
      exact x_ret rfl h
    · replace h := h.2 c
      refine x_st rfl ?_
      refine x_st rfl ?_
      refine x_kl ?_ h
      exact ⟨Or.inr rfl, ⟨Or.inl rfl, ⟨Or.inl rfl, ⟨Or.inl rfl, ⟨Or.inl rfl, ⟨Or.inr rfl, ⟨Or.inl rfl, ⟨Or.inl rfl, ⟨Or.inl rfl, ⟨Or.inr rfl, ⟨Or.inr rfl, ⟨Or.inl rfl, True.intro⟩⟩⟩⟩⟩⟩⟩⟩⟩⟩⟩⟩
  · replace h := h.2 c
    refine x_st rfl ?_
    refine x_st rfl ?_
    refine x_kl ?_ h
    exact ⟨Or.inr rfl, ⟨Or.inr rfl, ⟨Or.inr rfl, ⟨Or.inl rfl, ⟨Or.inr rfl, ⟨Or.inr rfl, ⟨Or.inl rfl, ⟨Or.inl rfl, ⟨Or.inl rfl, ⟨Or.inr rfl, ⟨Or.inr rfl, ⟨Or.inl rfl, True.intro⟩⟩⟩⟩⟩⟩⟩⟩⟩⟩⟩⟩
theorem BL_bazaar_229 {C : mC} {Q : Option Value → mS → Prop} {L : Nat} {xs : Nat → Int32} {a0 : Nat} {a2 : Nat} {a4 : Nat} {a5 : Nat} {v9 : Int32} {v10 : Int32} {w : Nat} {Sh : List mT} {MI : mI} {ML : mJ} (hL : L < 10001)
    (h : aok Sh a2 0 (nI 0) ∧ (((MI a2 0) ≤ v10 → VL_bazaar_218 C Q L xs a0 a2 a4 a5 (v9 + (nI 1)) w Sh MI ML) ∧ (¬ (MI a2 0) ≤ v10 → (v9 = v10 → VL_bazaar_229 C Q L xs a0 a2 a4 a5 v9 (v10 + (nI 1)) w Sh MI ML) ∧ (¬ v9 = v10 → ∃ (x3 : Int32) (M1 : mI) (N2 : mJ), C 300 [.float 0, .int ((nI 9) + ((((nI 8) * v9) + v10) - (((nI 8) * v9) + v10) / (nI 48) * (nI 48)))] (w, Sh, MI, ML) (some (.int x3)) (w, Sh, M1, N2) ∧ ((((((x3).toUInt32 >>> ((((nI 1) + v9)).toUInt32 &&& Int32.toUInt32 31)).toInt32) - (((x3).toUInt32 >>> ((((nI 1) + v9)).toUInt32 &&& Int32.toUInt32 31)).toInt32) / (nI 5) * (nI 5)) = nI 0 → VL_bazaar_303 C Q L xs a0 a2 a4 a5 v9 v10 a4 (((nI 8) * v9) + v10) (nI 0) w Sh M1 N2) ∧ (¬ ((((x3).toUInt32 >>> ((((nI 1) + v9)).toUInt32 &&& Int32.toUInt32 31)).toInt32) - (((x3).toUInt32 >>> ((((nI 1) + v9)).toUInt32 &&& Int32.toUInt32 31)).toInt32) / (nI 5) * (nI 5)) = nI 0 → VL_bazaar_303 C Q L xs a0 a2 a4 a5 v9 v10 a4 (((nI 8) * v9) + v10) ((((((((x3).toUInt32 >>> ((((nI 1) + v9)).toUInt32 &&& Int32.toUInt32 31)).toInt32)).toUInt32 >>> (((nI 3)).toUInt32 &&& Int32.toUInt32 31)).toInt32) - ((((((x3).toUInt32 >>> ((((nI 1) + v9)).toUInt32 &&& Int32.toUInt32 31)).toInt32)).toUInt32 >>> (((nI 3)).toUInt32 &&& Int32.toUInt32 31)).toInt32) / (nI 19) * (nI 19)) - (nI 9)) w Sh M1 N2)))))) :
    VL_bazaar_229 C Q L xs a0 a2 a4 a5 v9 v10 w Sh MI ML := by
  show mEx C (TL_bazaar L xs) Q (229, [some (.ref a0), some (.float 0), some (.ref a2), none, some (.ref a4), some (.ref a5), none, none, none, some (.int v9), some (.int v10), none], [], (w, Sh, MI, ML))
  refine x_st rfl ?_
  refine x_st rfl ?_
  refine x_st rfl ?_
  refine y_ia (nx := 234) (i := 0) rfl h.1 ?_
  replace h := h.2
  refine x_br rfl (fun c => ?_) (fun c => ?_)
  · replace h := h.1 c
    refine x_st rfl ?_
    refine x_st rfl ?_
    refine x_kl ?_ h
    exact ⟨Or.inr rfl, ⟨Or.inr rfl, ⟨Or.inr rfl, ⟨Or.inl rfl, ⟨Or.inr rfl, ⟨Or.inr rfl, ⟨Or.inl rfl, ⟨Or.inl rfl, ⟨Or.inl rfl, ⟨Or.inr rfl, ⟨Or.inl rfl, ⟨Or.inl rfl, True.intro⟩⟩⟩⟩⟩⟩⟩⟩⟩⟩⟩⟩
  · replace h := h.2 c
    refine x_st rfl ?_
    refine x_st rfl ?_
    refine x_br rfl (fun c => ?_) (fun c => ?_)
    · replace h := h.1 c
      refine x_st rfl ?_
      refine x_st rfl ?_
      refine x_st rfl ?_
      refine x_kl ?_ h
      exact ⟨Or.inr rfl, ⟨Or.inr rfl, ⟨Or.inr rfl, ⟨Or.inl rfl, ⟨Or.inr rfl, ⟨Or.inr rfl, ⟨Or.inl rfl, ⟨Or.inl rfl, ⟨Or.inl rfl, ⟨Or.inr rfl, ⟨Or.inr rfl, ⟨Or.inl rfl, True.intro⟩⟩⟩⟩⟩⟩⟩⟩⟩⟩⟩⟩
    · replace h := h.2 c
      refine x_st rfl ?_
      refine x_st rfl ?_
      refine x_st rfl ?_
      refine x_st rfl ?_
      refine x_st rfl ?_
      refine x_st rfl ?_
      refine x_st rfl ?_
      refine x_st rfl ?_
      refine x_st rfl ?_
      refine x_st rfl ?_
      obtain ⟨x3, M1, N2, hc, h⟩ := h
      refine x_ci rfl hc ?_
      refine x_st rfl ?_
      refine x_st rfl ?_
      refine x_st rfl ?_
      refine x_st rfl ?_
      refine x_st rfl ?_
      refine x_st rfl ?_
      refine x_st rfl ?_
      refine x_st rfl ?_
      refine x_st rfl ?_
      refine x_st rfl ?_
      refine x_st rfl ?_
      refine x_st rfl ?_
      refine x_st rfl ?_
      refine x_st rfl ?_
      refine x_br rfl (fun c => ?_) (fun c => ?_)
      · replace h := h.1 c
        refine x_st rfl ?_
        refine x_st rfl ?_
        refine x_kl ?_ h
        exact ⟨Or.inr rfl, ⟨Or.inr rfl, ⟨Or.inr rfl, ⟨Or.inl rfl, ⟨Or.inr rfl, ⟨Or.inr rfl, ⟨Or.inl rfl, ⟨Or.inl rfl, ⟨Or.inl rfl, ⟨Or.inr rfl, ⟨Or.inr rfl, ⟨Or.inl rfl, True.intro⟩⟩⟩⟩⟩⟩⟩⟩⟩⟩⟩⟩
      · replace h := h.2 c
        refine x_st rfl ?_
        refine x_st rfl ?_
        refine x_st rfl ?_
        refine x_st rfl ?_
        refine x_st rfl ?_
        refine x_st rfl ?_
        refine x_st rfl ?_
        refine x_kl ?_ h
        exact ⟨Or.inr rfl, ⟨Or.inr rfl, ⟨Or.inr rfl, ⟨Or.inl rfl, ⟨Or.inr rfl, ⟨Or.inr rfl, ⟨Or.inl rfl, ⟨Or.inl rfl, ⟨Or.inl rfl, ⟨Or.inr rfl, ⟨Or.inr rfl, ⟨Or.inl rfl, True.intro⟩⟩⟩⟩⟩⟩⟩⟩⟩⟩⟩⟩
theorem BL_bazaar_303 {C : mC} {Q : Option Value → mS → Prop} {L : Nat} {xs : Nat → Int32} {a0 : Nat} {a2 : Nat} {a4 : Nat} {a5 : Nat} {v9 : Int32} {v10 : Int32} {b0 : Nat} {s1 : Int32} {s2 : Int32} {w : Nat} {Sh : List mT} {MI : mI} {ML : mJ} (hL : L < 10001)
    (h : ∃ i1 : Nat, aok Sh b0 i1 s1 ∧ (∃ i2 : Nat, aok Sh a4 i2 (((nI 8) * v9) + v10) ∧ (isO Sh a0 10 ∧ ∃ (x5 : Int32) (M3 : mI) (N4 : mJ), C 139 [.ref a0, .int (((nI 10) * v9) + v10), .int ((mup MI b0 (mput (MI b0) i1 s2)) a4 i2)] (w, Sh, (mup MI b0 (mput (MI b0) i1 s2)), ML) (some (.int x5)) (w, Sh, M3, N4) ∧ ((x5 = (nI 100) → VL_bazaar_229 C Q L xs a0 a2 a4 a5 v9 (v10 + (nI 1)) w Sh M3 N4) ∧ (¬ x5 = (nI 100) → Q (some (.int (nI 0))) (w, Sh, M3, N4)))))) :
    VL_bazaar_303 C Q L xs a0 a2 a4 a5 v9 v10 b0 s1 s2 w Sh MI ML := by
  show mEx C (TL_bazaar L xs) Q (303, [some (.ref a0), some (.float 0), some (.ref a2), none, some (.ref a4), some (.ref a5), none, none, none, some (.int v9), some (.int v10), none], [.int s2, .int s1, .ref b0], (w, Sh, MI, ML))
  obtain ⟨i1, ha, h⟩ := h
  refine y_iast (nx := 304) (i := i1) rfl ha ?_
  refine x_st rfl ?_
  refine x_st rfl ?_
  refine x_st rfl ?_
  refine x_st rfl ?_
  refine x_st rfl ?_
  refine x_st rfl ?_
  refine x_st rfl ?_
  refine x_st rfl ?_
  refine x_st rfl ?_
  refine x_st rfl ?_
  refine x_st rfl ?_
  refine x_st rfl ?_
  obtain ⟨i2, ha, h⟩ := h
  refine y_ia (nx := 324) (i := i2) rfl ha ?_
  obtain ⟨ho, x5, M3, N4, hc, h⟩ := h
  refine y_vi (y := 139) (n := 2) (ci := 10) (nx := 327) rfl (fun _ => rfl) ho rfl hc ?_
  refine x_st rfl ?_
  refine x_br rfl (fun c => ?_) (fun c => ?_)
  · replace h := h.1 c
    refine x_st rfl ?_
    refine x_st rfl ?_
    refine x_kl ?_ h
    exact ⟨Or.inr rfl, ⟨Or.inr rfl, ⟨Or.inr rfl, ⟨Or.inl rfl, ⟨Or.inr rfl, ⟨Or.inr rfl, ⟨Or.inl rfl, ⟨Or.inl rfl, ⟨Or.inl rfl, ⟨Or.inr rfl, ⟨Or.inr rfl, ⟨Or.inl rfl, True.intro⟩⟩⟩⟩⟩⟩⟩⟩⟩⟩⟩⟩
  · replace h := h.2 c
    refine x_st rfl ?_
    exact x_ret rfl h
theorem BL_bazaar_371 {C : mC} {Q : Option Value → mS → Prop} {L : Nat} {xs : Nat → Int32} {a0 : Nat} {a5 : Nat} {v9 : Int32} {v10 : Int32} {w : Nat} {Sh : List mT} {MI : mI} {ML : mJ} (hL : L < 10001)
    (h : ((nI 3) ≤ v10 → VL_bazaar_402 C Q L xs a0 a5 w Sh MI ML) ∧ (¬ (nI 3) ≤ v10 → ∃ i1 : Nat, aok Sh a5 i1 v10 ∧ (VL_bazaar_371 C Q L xs a0 a5 v9 (v10 + (nI 1)) w Sh (mup MI a5 (mput (MI a5) i1 ((nI 1) + ((((v9).toUInt32 >>> ((((nI 1) + ((nI 4) * v10))).toUInt32 &&& Int32.toUInt32 31)).toInt32) - (((v9).toUInt32 >>> ((((nI 1) + ((nI 4) * v10))).toUInt32 &&& Int32.toUInt32 31)).toInt32) / (nI 9) * (nI 9))))) ML))) :
    VL_bazaar_371 C Q L xs a0 a5 v9 v10 w Sh MI ML := by
  show mEx C (TL_bazaar L xs) Q (371, [some (.ref a0), none, none, none, none, some (.ref a5), none, none, none, some (.int v9), some (.int v10), none], [], (w, Sh, MI, ML))
  refine x_st rfl ?_
  refine x_st rfl ?_
  refine x_br rfl (fun c => ?_) (fun c => ?_)
  · replace h := h.1 c
    refine x_kl ?_ h
    exact ⟨Or.inr rfl, ⟨Or.inl rfl, ⟨Or.inl rfl, ⟨Or.inl rfl, ⟨Or.inl rfl, ⟨Or.inr rfl, ⟨Or.inl rfl, ⟨Or.inl rfl, ⟨Or.inl rfl, ⟨Or.inl rfl, ⟨Or.inl rfl, ⟨Or.inl rfl, True.intro⟩⟩⟩⟩⟩⟩⟩⟩⟩⟩⟩⟩
  · replace h := h.2 c
    refine x_st rfl ?_
    refine x_st rfl ?_
    refine x_st rfl ?_
    refine x_st rfl ?_
    refine x_st rfl ?_
    refine x_st rfl ?_
    refine x_st rfl ?_
    refine x_st rfl ?_
    refine x_st rfl ?_
    refine x_st rfl ?_
    refine x_st rfl ?_
    refine x_st rfl ?_
    refine x_st rfl ?_
    obtain ⟨i1, ha, h⟩ := h
    refine y_iast (nx := 396) (i := i1) rfl ha ?_
    refine x_st rfl ?_
    refine x_st rfl ?_
    refine x_kl ?_ h
    exact ⟨Or.inr rfl, ⟨Or.inl rfl, ⟨Or.inl rfl, ⟨Or.inl rfl, ⟨Or.inl rfl, ⟨Or.inr rfl, ⟨Or.inl rfl, ⟨Or.inl rfl, ⟨Or.inl rfl, ⟨Or.inr rfl, ⟨Or.inr rfl, ⟨Or.inl rfl, True.intro⟩⟩⟩⟩⟩⟩⟩⟩⟩⟩⟩⟩
theorem BL_bazaar_402 {C : mC} {Q : Option Value → mS → Prop} {L : Nat} {xs : Nat → Int32} {a0 : Nat} {a5 : Nat} {w : Nat} {Sh : List mT} {MI : mI} {ML : mJ} (hL : L < 10001)
    (h : ∃ (x3 : Int32) (M1 : mI) (N2 : mJ), C 284 [.ref a0, .int (nI 104), .int (nI 97), .int (nI 116)] (w, Sh, MI, ML) (some (.int x3)) (w, Sh, M1, N2) ∧ ((x3 = nI 0 → VL_bazaar_596 C Q L xs a0 (nI 0) w Sh M1 N2) ∧ (¬ x3 = nI 0 → aok Sh a5 0 (nI 0) ∧ (∃ (x6 : Int32) (M4 : mI) (N5 : mJ), C 284 [.ref a0, .int (nI 101), .int (nI 42), .int ((nI 48) + (M1 a5 0))] (w, Sh, M1, N2) (some (.int x6)) (w, Sh, M4, N5) ∧ ((x6 = nI 0 → VL_bazaar_596 C Q L xs a0 (nI 0) w Sh M4 N5) ∧ (¬ x6 = nI 0 → ∃ (x9 : Int32) (M7 : mI) (N8 : mJ), C 284 [.ref a0, .int (nI 43), .int (nI 119), .int (nI 97)] (w, Sh, M4, N5) (some (.int x9)) (w, Sh, M7, N8) ∧ ((x9 = nI 0 → VL_bazaar_596 C Q L xs a0 (nI 0) w Sh M7 N8) ∧ (¬ x9 = nI 0 → ∃ (x12 : Int32) (M10 : mI) (N11 : mJ), C 284 [.ref a0, .int (nI 110), .int (nI 116), .int (nI 45)] (w, Sh, M7, N8) (some (.int x12)) (w, Sh, M10, N11) ∧ ((x12 = nI 0 → VL_bazaar_596 C Q L xs a0 (nI 0) w Sh M10 N11) ∧ (¬ x12 = nI 0 → ∃ (x15 : Int32) (M13 : mI) (N14 : mJ), C 284 [.ref a0, .int (nI 108), .int (nI 111), .int (nI 118)] (w, Sh, M10, N11) (some (.int x15)) (w, Sh, M13, N14) ∧ ((x15 = nI 0 → VL_bazaar_596 C Q L xs a0 (nI 0) w Sh M13 N14) ∧ (¬ x15 = nI 0 → aok Sh a5 1 (nI 1) ∧ (∃ (x18 : Int32) (M16 : mI) (N17 : mJ), C 284 [.ref a0, .int (nI 101), .int (nI 47), .int ((nI 48) + (M13 a5 1))] (w, Sh, M13, N14) (some (.int x18)) (w, Sh, M16, N17) ∧ ((x18 = nI 0 → VL_bazaar_596 C Q L xs a0 (nI 0) w Sh M16 N17) ∧ (¬ x18 = nI 0 → ∃ (x21 : Int32) (M19 : mI) (N20 : mJ), C 284 [.ref a0, .int (nI 43), .int (nI 104), .int (nI 117)] (w, Sh, M16, N17) (some (.int x21)) (w, Sh, M19, N20) ∧ ((x21 = nI 0 → VL_bazaar_596 C Q L xs a0 (nI 0) w Sh M19 N20) ∧ (¬ x21 = nI 0 → ∃ (x24 : Int32) (M22 : mI) (N23 : mJ), C 284 [.ref a0, .int (nI 110), .int (nI 103), .int (nI 101)] (w, Sh, M19, N20) (some (.int x24)) (w, Sh, M22, N23) ∧ ((x24 = nI 0 → VL_bazaar_596 C Q L xs a0 (nI 0) w Sh M22 N23) ∧ (¬ x24 = nI 0 → aok Sh a5 2 (nI 2) ∧ (∃ (x27 : Int32) (M25 : mI) (N26 : mJ), C 284 [.ref a0, .int (nI 114), .int (nI 47), .int ((nI 48) + (M22 a5 2))] (w, Sh, M22, N23) (some (.int x27)) (w, Sh, M25, N26) ∧ ((x27 = nI 0 → VL_bazaar_596 C Q L xs a0 (nI 0) w Sh M25 N26) ∧ (¬ x27 = nI 0 → ∃ (x30 : Int32) (M28 : mI) (N29 : mJ), C 284 [.ref a0, .int (nI 43), .int (nI 100), .int (nI 97)] (w, Sh, M25, N26) (some (.int x30)) (w, Sh, M28, N29) ∧ ((x30 = nI 0 → VL_bazaar_596 C Q L xs a0 (nI 0) w Sh M28 N29) ∧ (¬ x30 = nI 0 → ∃ (x33 : Int32) (M31 : mI) (N32 : mJ), C 284 [.ref a0, .int (nI 121), .int (nI 37), .int (nI 51)] (w, Sh, M28, N29) (some (.int x33)) (w, Sh, M31, N32) ∧ ((x33 = nI 0 → VL_bazaar_596 C Q L xs a0 (nI 0) w Sh M31 N32) ∧ (¬ x33 = nI 0 → ∃ (x36 : Int32) (M34 : mI) (N35 : mJ), C 284 [.ref a0, .int (nI 45), .int (nI 100), .int (nI 111)] (w, Sh, M31, N32) (some (.int x36)) (w, Sh, M34, N35) ∧ ((x36 = nI 0 → VL_bazaar_596 C Q L xs a0 (nI 0) w Sh M34 N35) ∧ (¬ x36 = nI 0 → isO Sh a0 10 ∧ ∃ (x39 : Int32) (M37 : mI) (N38 : mJ), C 141 [.ref a0, .int (nI 110)] (w, Sh, M34, N35) (some (.int x39)) (w, Sh, M37, N38) ∧ ((x39 ≤ nI 0 → VL_bazaar_596 C Q L xs a0 (nI 0) w Sh M37 N38) ∧ (¬ x39 ≤ nI 0 → isO Sh a0 10 ∧ ∃ (x42 : Int32) (M40 : mI) (N41 : mJ), C 141 [.ref a0, .int (nI 101)] (w, Sh, M37, N38) (some (.int x42)) (w, Sh, M40, N41) ∧ ((x42 ≤ nI 0 → VL_bazaar_596 C Q L xs a0 (nI 0) w Sh M40 N41) ∧ (¬ x42 ≤ nI 0 → VL_bazaar_596 C Q L xs a0 (nI 1) w Sh M40 N41)))))))))))))))))))))))))))))))) :
    VL_bazaar_402 C Q L xs a0 a5 w Sh MI ML := by
  show mEx C (TL_bazaar L xs) Q (402, [some (.ref a0), none, none, none, none, some (.ref a5), none, none, none, none, none, none], [], (w, Sh, MI, ML))
  refine x_st rfl ?_
  refine x_st rfl ?_
  refine x_st rfl ?_
  refine x_st rfl ?_
  obtain ⟨x3, M1, N2, hc, h⟩ := h
  refine x_ci rfl hc ?_
  refine x_br rfl (fun c => ?_) (fun c => ?_)
  · replace h := h.1 c
    refine x_st rfl ?_
    refine x_kl ?_ h
    exact ⟨Or.inr rfl, ⟨Or.inl rfl, ⟨Or.inl rfl, ⟨Or.inl rfl, ⟨Or.inl rfl, ⟨Or.inl rfl, ⟨Or.inl rfl, ⟨Or.inl rfl, ⟨Or.inl rfl, ⟨Or.inl rfl, ⟨Or.inl rfl, ⟨Or.inl rfl, True.intro⟩⟩⟩⟩⟩⟩⟩⟩⟩⟩⟩⟩
  · replace h := h.2 c
    refine x_st rfl ?_
    refine x_st rfl ?_
    refine x_st rfl ?_
    refine x_st rfl ?_
    refine x_st rfl ?_
    refine x_st rfl ?_
    refine y_ia (nx := 426) (i := 0) rfl h.1 ?_
    replace h := h.2
    refine x_st rfl ?_
    obtain ⟨x6, M4, N5, hc, h⟩ := h
    refine x_ci rfl hc ?_
    refine x_br rfl (fun c => ?_) (fun c => ?_)
    · replace h := h.1 c
      refine x_st rfl ?_
      refine x_kl ?_ h
      exact ⟨Or.inr rfl, ⟨Or.inl rfl, ⟨Or.inl rfl, ⟨Or.inl rfl, ⟨Or.inl rfl, ⟨Or.inl rfl, ⟨Or.inl rfl, ⟨Or.inl rfl, ⟨Or.inl rfl, ⟨Or.inl rfl, ⟨Or.inl rfl, ⟨Or.inl rfl, True.intro⟩⟩⟩⟩⟩⟩⟩⟩⟩⟩⟩⟩
    · replace h := h.2 c
      refine x_st rfl ?_
      refine x_st rfl ?_
      refine x_st rfl ?_
      refine x_st rfl ?_
      obtain ⟨x9, M7, N8, hc, h⟩ := h
      refine x_ci rfl hc ?_
      refine x_br rfl (fun c => ?_) (fun c => ?_)
      · replace h := h.1 c
        refine x_st rfl ?_
        refine x_kl ?_ h
        exact ⟨Or.inr rfl, ⟨Or.inl rfl, ⟨Or.inl rfl, ⟨Or.inl rfl, ⟨Or.inl rfl, ⟨Or.inl rfl, ⟨Or.inl rfl, ⟨Or.inl rfl, ⟨Or.inl rfl, ⟨Or.inl rfl, ⟨Or.inl rfl, ⟨Or.inl rfl, True.intro⟩⟩⟩⟩⟩⟩⟩⟩⟩⟩⟩⟩
      · replace h := h.2 c
        refine x_st rfl ?_
        refine x_st rfl ?_
        refine x_st rfl ?_
        refine x_st rfl ?_
        obtain ⟨x12, M10, N11, hc, h⟩ := h
        refine x_ci rfl hc ?_
        refine x_br rfl (fun c => ?_) (fun c => ?_)
        · replace h := h.1 c
          refine x_st rfl ?_
          refine x_kl ?_ h
          exact ⟨Or.inr rfl, ⟨Or.inl rfl, ⟨Or.inl rfl, ⟨Or.inl rfl, ⟨Or.inl rfl, ⟨Or.inl rfl, ⟨Or.inl rfl, ⟨Or.inl rfl, ⟨Or.inl rfl, ⟨Or.inl rfl, ⟨Or.inl rfl, ⟨Or.inl rfl, True.intro⟩⟩⟩⟩⟩⟩⟩⟩⟩⟩⟩⟩
        · replace h := h.2 c
          refine x_st rfl ?_
          refine x_st rfl ?_
          refine x_st rfl ?_
          refine x_st rfl ?_
          obtain ⟨x15, M13, N14, hc, h⟩ := h
          refine x_ci rfl hc ?_
          refine x_br rfl (fun c => ?_) (fun c => ?_)
          · replace h := h.1 c
            refine x_st rfl ?_
            refine x_kl ?_ h
            exact ⟨Or.inr rfl, ⟨Or.inl rfl, ⟨Or.inl rfl, ⟨Or.inl rfl, ⟨Or.inl rfl, ⟨Or.inl rfl, ⟨Or.inl rfl, ⟨Or.inl rfl, ⟨Or.inl rfl, ⟨Or.inl rfl, ⟨Or.inl rfl, ⟨Or.inl rfl, True.intro⟩⟩⟩⟩⟩⟩⟩⟩⟩⟩⟩⟩
          · replace h := h.2 c
            refine x_st rfl ?_
            refine x_st rfl ?_
            refine x_st rfl ?_
            refine x_st rfl ?_
            refine x_st rfl ?_
            refine x_st rfl ?_
            refine y_ia (nx := 483) (i := 1) rfl h.1 ?_
            replace h := h.2
            refine x_st rfl ?_
            obtain ⟨x18, M16, N17, hc, h⟩ := h
            refine x_ci rfl hc ?_
            refine x_br rfl (fun c => ?_) (fun c => ?_)
            · replace h := h.1 c
              refine x_st rfl ?_
              refine x_kl ?_ h
              exact ⟨Or.inr rfl, ⟨Or.inl rfl, ⟨Or.inl rfl, ⟨Or.inl rfl, ⟨Or.inl rfl, ⟨Or.inl rfl, ⟨Or.inl rfl, ⟨Or.inl rfl, ⟨Or.inl rfl, ⟨Or.inl rfl, ⟨Or.inl rfl, ⟨Or.inl rfl, True.intro⟩⟩⟩⟩⟩⟩⟩⟩⟩⟩⟩⟩
            · replace h := h.2 c
              refine x_st rfl ?_
              refine x_st rfl ?_
              refine x_st rfl ?_
              refine x_st rfl ?_
              obtain ⟨x21, M19, N20, hc, h⟩ := h
              refine x_ci rfl hc ?_
              refine x_br rfl (fun c => ?_) (fun c => ?_)
              · replace h := h.1 c
                refine x_st rfl ?_
                refine x_kl ?_ h
                exact ⟨Or.inr rfl, ⟨Or.inl rfl, ⟨Or.inl rfl, ⟨Or.inl rfl, ⟨Or.inl rfl, ⟨Or.inl rfl, ⟨Or.inl rfl, ⟨Or.inl rfl, ⟨Or.inl rfl, ⟨Or.inl rfl, ⟨Or.inl rfl, ⟨Or.inl rfl, True.intro⟩⟩⟩⟩⟩⟩⟩⟩⟩⟩⟩⟩
              · replace h := h.2 c
                refine x_st rfl ?_
                refine x_st rfl ?_
                refine x_st rfl ?_
                refine x_st rfl ?_
                obtain ⟨x24, M22, N23, hc, h⟩ := h
                refine x_ci rfl hc ?_
                refine x_br rfl (fun c => ?_) (fun c => ?_)
                · replace h := h.1 c
                  refine x_st rfl ?_
                  refine x_kl ?_ h
                  exact ⟨Or.inr rfl, ⟨Or.inl rfl, ⟨Or.inl rfl, ⟨Or.inl rfl, ⟨Or.inl rfl, ⟨Or.inl rfl, ⟨Or.inl rfl, ⟨Or.inl rfl, ⟨Or.inl rfl, ⟨Or.inl rfl, ⟨Or.inl rfl, ⟨Or.inl rfl, True.intro⟩⟩⟩⟩⟩⟩⟩⟩⟩⟩⟩⟩
                · replace h := h.2 c
                  refine x_st rfl ?_
                  refine x_st rfl ?_
                  refine x_st rfl ?_
                  refine x_st rfl ?_
                  refine x_st rfl ?_
                  refine x_st rfl ?_
                  refine y_ia (nx := 527) (i := 2) rfl h.1 ?_
                  replace h := h.2
                  refine x_st rfl ?_
                  obtain ⟨x27, M25, N26, hc, h⟩ := h
                  refine x_ci rfl hc ?_
                  refine x_br rfl (fun c => ?_) (fun c => ?_)
                  · replace h := h.1 c
                    refine x_st rfl ?_
                    refine x_kl ?_ h
                    exact ⟨Or.inr rfl, ⟨Or.inl rfl, ⟨Or.inl rfl, ⟨Or.inl rfl, ⟨Or.inl rfl, ⟨Or.inl rfl, ⟨Or.inl rfl, ⟨Or.inl rfl, ⟨Or.inl rfl, ⟨Or.inl rfl, ⟨Or.inl rfl, ⟨Or.inl rfl, True.intro⟩⟩⟩⟩⟩⟩⟩⟩⟩⟩⟩⟩
                  · replace h := h.2 c
                    refine x_st rfl ?_
                    refine x_st rfl ?_
                    refine x_st rfl ?_
                    refine x_st rfl ?_
                    obtain ⟨x30, M28, N29, hc, h⟩ := h
                    refine x_ci rfl hc ?_
                    refine x_br rfl (fun c => ?_) (fun c => ?_)
                    · replace h := h.1 c
                      refine x_st rfl ?_
                      refine x_kl ?_ h
                      exact ⟨Or.inr rfl, ⟨Or.inl rfl, ⟨Or.inl rfl, ⟨Or.inl rfl, ⟨Or.inl rfl, ⟨Or.inl rfl, ⟨Or.inl rfl, ⟨Or.inl rfl, ⟨Or.inl rfl, ⟨Or.inl rfl, ⟨Or.inl rfl, ⟨Or.inl rfl, True.intro⟩⟩⟩⟩⟩⟩⟩⟩⟩⟩⟩⟩
                    · replace h := h.2 c
                      refine x_st rfl ?_
                      refine x_st rfl ?_
                      refine x_st rfl ?_
                      refine x_st rfl ?_
                      obtain ⟨x33, M31, N32, hc, h⟩ := h
                      refine x_ci rfl hc ?_
                      refine x_br rfl (fun c => ?_) (fun c => ?_)
                      · replace h := h.1 c
                        refine x_st rfl ?_
                        refine x_kl ?_ h
                        exact ⟨Or.inr rfl, ⟨Or.inl rfl, ⟨Or.inl rfl, ⟨Or.inl rfl, ⟨Or.inl rfl, ⟨Or.inl rfl, ⟨Or.inl rfl, ⟨Or.inl rfl, ⟨Or.inl rfl, ⟨Or.inl rfl, ⟨Or.inl rfl, ⟨Or.inl rfl, True.intro⟩⟩⟩⟩⟩⟩⟩⟩⟩⟩⟩⟩
                      · replace h := h.2 c
                        refine x_st rfl ?_
                        refine x_st rfl ?_
                        refine x_st rfl ?_
                        refine x_st rfl ?_
                        obtain ⟨x36, M34, N35, hc, h⟩ := h
                        refine x_ci rfl hc ?_
                        refine x_br rfl (fun c => ?_) (fun c => ?_)
                        · replace h := h.1 c
                          refine x_st rfl ?_
                          refine x_kl ?_ h
                          exact ⟨Or.inr rfl, ⟨Or.inl rfl, ⟨Or.inl rfl, ⟨Or.inl rfl, ⟨Or.inl rfl, ⟨Or.inl rfl, ⟨Or.inl rfl, ⟨Or.inl rfl, ⟨Or.inl rfl, ⟨Or.inl rfl, ⟨Or.inl rfl, ⟨Or.inl rfl, True.intro⟩⟩⟩⟩⟩⟩⟩⟩⟩⟩⟩⟩
                        · replace h := h.2 c
                          refine x_st rfl ?_
                          refine x_st rfl ?_
                          obtain ⟨ho, x39, M37, N38, hc, h⟩ := h
                          refine y_vi (y := 141) (n := 1) (ci := 10) (nx := 579) rfl (fun _ => rfl) ho rfl hc ?_
                          refine x_br rfl (fun c => ?_) (fun c => ?_)
                          · replace h := h.1 c
                            refine x_st rfl ?_
                            refine x_kl ?_ h
                            exact ⟨Or.inr rfl, ⟨Or.inl rfl, ⟨Or.inl rfl, ⟨Or.inl rfl, ⟨Or.inl rfl, ⟨Or.inl rfl, ⟨Or.inl rfl, ⟨Or.inl rfl, ⟨Or.inl rfl, ⟨Or.inl rfl, ⟨Or.inl rfl, ⟨Or.inl rfl, True.intro⟩⟩⟩⟩⟩⟩⟩⟩⟩⟩⟩⟩
                          · replace h := h.2 c
                            refine x_st rfl ?_
                            refine x_st rfl ?_
                            obtain ⟨ho, x42, M40, N41, hc, h⟩ := h
                            refine y_vi (y := 141) (n := 1) (ci := 10) (nx := 588) rfl (fun _ => rfl) ho rfl hc ?_
                            refine x_br rfl (fun c => ?_) (fun c => ?_)
                            · replace h := h.1 c
                              refine x_st rfl ?_
                              refine x_kl ?_ h
                              exact ⟨Or.inr rfl, ⟨Or.inl rfl, ⟨Or.inl rfl, ⟨Or.inl rfl, ⟨Or.inl rfl, ⟨Or.inl rfl, ⟨Or.inl rfl, ⟨Or.inl rfl, ⟨Or.inl rfl, ⟨Or.inl rfl, ⟨Or.inl rfl, ⟨Or.inl rfl, True.intro⟩⟩⟩⟩⟩⟩⟩⟩⟩⟩⟩⟩
                            · replace h := h.2 c
                              refine x_st rfl ?_
                              refine x_st rfl ?_
                              refine x_kl ?_ h
                              exact ⟨Or.inr rfl, ⟨Or.inl rfl, ⟨Or.inl rfl, ⟨Or.inl rfl, ⟨Or.inl rfl, ⟨Or.inl rfl, ⟨Or.inl rfl, ⟨Or.inl rfl, ⟨Or.inl rfl, ⟨Or.inl rfl, ⟨Or.inl rfl, ⟨Or.inl rfl, True.intro⟩⟩⟩⟩⟩⟩⟩⟩⟩⟩⟩⟩
theorem BL_bazaar_596 {C : mC} {Q : Option Value → mS → Prop} {L : Nat} {xs : Nat → Int32} {a0 : Nat} {s0 : Int32} {w : Nat} {Sh : List mT} {MI : mI} {ML : mJ} (hL : L < 10001)
    (h : (s0 = nI 0 → Q (some (.int (nI 0))) (w, Sh, MI, ML)) ∧ (¬ s0 = nI 0 → isO Sh a0 10 ∧ ∃ (x3 : Int32) (M1 : mI) (N2 : mJ), C 142 [.ref a0] (w, Sh, MI, ML) (some (.int x3)) (w, Sh, M1, N2) ∧ ((x3 = (nI 1) → Q (some (.int (nI 1))) (w, Sh, M1, N2)) ∧ (¬ x3 = (nI 1) → Q (some (.int (nI 0))) (w, Sh, M1, N2))))) :
    VL_bazaar_596 C Q L xs a0 s0 w Sh MI ML := by
  show mEx C (TL_bazaar L xs) Q (596, [some (.ref a0), none, none, none, none, none, none, none, none, none, none, none], [.int s0], (w, Sh, MI, ML))
  refine x_st rfl ?_
  refine x_st rfl ?_
  refine x_br rfl (fun c => ?_) (fun c => ?_)
  · replace h := h.1 c
    refine x_st rfl ?_
    exact x_ret rfl h
  · replace h := h.2 c
    refine x_st rfl ?_
    obtain ⟨ho, x3, M1, N2, hc, h⟩ := h
    refine y_vi (y := 142) (n := 0) (ci := 10) (nx := 607) rfl (fun _ => rfl) ho rfl hc ?_
    refine x_st rfl ?_
    refine x_br rfl (fun c => ?_) (fun c => ?_)
    · replace h := h.1 c
      refine x_st rfl ?_
      refine x_st rfl ?_
      exact x_ret rfl h
    · replace h := h.2 c
      refine x_st rfl ?_
      exact x_ret rfl h
theorem EL_bazaar {D : Nat} {Q : Option Value → mS → Prop} {L : Nat} {xs : Nat → Int32} {a0 : Nat} {a2 : Nat} {a3 : Nat} {a4 : Nat} {a5 : Nat} {v6 : Int32} {v7 : Int32} {w : Nat} {Sh : List mT} {MI : mI} {ML : mJ} (hQ : ∀ v S', Q v S' → Sh.length ≤ S'.2.1.length ∧ w ≤ S'.1) (h : VL_bazaar_0 (mrnT (mTbS L xs) D) Q L xs a0 a2 a3 a4 a5 v6 v7 w Sh MI ML) : ∃ v S', Q v S' ∧ mrnT (mTbS L xs) (D + 1) 301 [.ref a0, .float 0, .ref a2, .ref a3, .ref a4, .ref a5, .int v6, .int v7] (w, Sh, MI, ML) v S' := by
  refine y_en (Tb := (mTbS L xs)) (n := 4) rfl hQ ?_
  refine x_kl ?_ h
  exact ⟨Or.inr rfl, ⟨Or.inr rfl, ⟨Or.inr rfl, ⟨Or.inr rfl, ⟨Or.inr rfl, ⟨Or.inr rfl, ⟨Or.inr rfl, ⟨Or.inr rfl, ⟨Or.inl rfl, ⟨Or.inl rfl, ⟨Or.inl rfl, ⟨Or.inl rfl, True.intro⟩⟩⟩⟩⟩⟩⟩⟩⟩⟩⟩⟩
