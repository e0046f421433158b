/-! the law's bodies by blocks -/
def VL_friend_0 (C : mC) (Q : Option Value → mS → Prop) (a0 : Nat) (a1 : Nat) (v2 : Int32) (w : Nat) (Sh : List mT) (MI : mI) (ML : mJ) : Prop := mEx C TL_friend Q (0, [some (.ref a0), some (.ref a1), some (.int v2), none, none], [], (w, Sh, MI, ML))
def VL_friend_5 (C : mC) (Q : Option Value → mS → Prop) (a0 : Nat) (a1 : Nat) (v2 : Int32) (v3 : Int32) (v4 : Int32) (w : Nat) (Sh : List mT) (MI : mI) (ML : mJ) : Prop := mEx C TL_friend Q (5, [some (.ref a0), some (.ref a1), some (.int v2), some (.int v3), some (.int v4)], [], (w, Sh, MI, ML))
theorem BL_friend_0 {C : mC} {Q : Option Value → mS → Prop} {a0 : Nat} {a1 : Nat} {v2 : Int32} {w : Nat} {Sh : List mT} {MI : mI} {ML : mJ}
    (h : VL_friend_5 C Q a0 a1 v2 (-1 : Int32) (nI 0) w Sh MI ML) :
    VL_friend_0 C Q a0 a1 v2 w Sh MI ML := by
  show mEx C TL_friend Q (0, [some (.ref a0), some (.ref a1), some (.int v2), none, none], [], (w, Sh, MI, ML))
  refine x_st rfl ?_
  refine x_st rfl ?_
  refine x_st rfl ?_
  refine x_st rfl ?_
  refine x_kl ?_ h
  exact ⟨Or.inr rfl, ⟨Or.inr rfl, ⟨Or.inr rfl, ⟨Or.inr rfl, ⟨Or.inr rfl, True.intro⟩⟩⟩⟩⟩
theorem BL_friend_5 {C : mC} {Q : Option Value → mS → Prop} {a0 : Nat} {a1 : Nat} {v2 : Int32} {v3 : Int32} {v4 : Int32} {w : Nat} {Sh : List mT} {MI : mI} {ML : mJ}
    (h : aok Sh a0 0 (nI 0) ∧ (((MI a0 0) ≤ v4 → Q (some (.int v3)) (w, Sh, MI, ML)) ∧ (¬ (MI a0 0) ≤ v4 → ∃ i1 : Nat, aok Sh a1 i1 (((nI 8) * v4) + v2) ∧ (((MI a1 i1) ≤ nI 0 → VL_friend_5 C Q a0 a1 v2 v3 (v4 + (nI 1)) w Sh MI ML) ∧ (¬ (MI a1 i1) ≤ nI 0 → (v3 < nI 0 → VL_friend_5 C Q a0 a1 v2 v4 (v4 + (nI 1)) w Sh MI ML) ∧ (¬ v3 < nI 0 → ∃ i2 : Nat, aok Sh a1 i2 (((nI 8) * v4) + v2) ∧ (∃ i3 : Nat, aok Sh a1 i3 (((nI 8) * v3) + v2) ∧ (((MI a1 i2) ≤ (MI a1 i3) → VL_friend_5 C Q a0 a1 v2 v3 (v4 + (nI 1)) w Sh MI ML) ∧ (¬ (MI a1 i2) ≤ (MI a1 i3) → VL_friend_5 C Q a0 a1 v2 v4 (v4 + (nI 1)) w Sh MI ML))))))))) :
    VL_friend_5 C Q a0 a1 v2 v3 v4 w Sh MI ML := by
  show mEx C TL_friend Q (5, [some (.ref a0), some (.ref a1), some (.int v2), some (.int v3), some (.int v4)], [], (w, Sh, MI, ML))
  refine x_st rfl ?_
  refine x_st rfl ?_
  refine x_st rfl ?_
  refine y_ia (nx := 10) (i := 0) rfl h.1 ?_
  replace h := h.2
  refine x_br rfl (fun c => ?_) (fun c => ?_)
  · replace h := h.1 c
    refine x_st rfl ?_
    exact x_ret rfl h
  · replace h := h.2 c
    refine x_st rfl ?_
    refine x_st rfl ?_
    refine x_st rfl ?_
    refine x_st rfl ?_
    refine x_st rfl ?_
    refine x_st rfl ?_
    obtain ⟨i1, ha, h⟩ := h
    refine y_ia (nx := 22) (i := i1) rfl ha ?_
    refine x_br rfl (fun c => ?_) (fun c => ?_)
    · replace h := h.1 c
      refine x_st rfl ?_
      refine x_st rfl ?_
      refine x_kl ?_ h
      exact ⟨Or.inr rfl, ⟨Or.inr rfl, ⟨Or.inr rfl, ⟨Or.inr rfl, ⟨Or.inr rfl, True.intro⟩⟩⟩⟩⟩
    · replace h := h.2 c
      refine x_st rfl ?_
      refine x_br rfl (fun c => ?_) (fun c => ?_)
      · replace h := h.1 c
        refine x_st rfl ?_
        refine x_st rfl ?_
        refine x_st rfl ?_
        refine x_st rfl ?_
        refine x_kl ?_ h
        exact ⟨Or.inr rfl, ⟨Or.inr rfl, ⟨Or.inr rfl, ⟨Or.inr rfl, ⟨Or.inr rfl, True.intro⟩⟩⟩⟩⟩
      · replace h := h.2 c
        refine x_st rfl ?_
        refine x_st rfl ?_
        refine x_st rfl ?_
        refine x_st rfl ?_
        refine x_st rfl ?_
        refine x_st rfl ?_
        obtain ⟨i2, ha, h⟩ := h
        refine y_ia (nx := 38) (i := i2) rfl ha ?_
        refine x_st rfl ?_
        refine x_st rfl ?_
        refine x_st rfl ?_
        refine x_st rfl ?_
        refine x_st rfl ?_
        refine x_st rfl ?_
        obtain ⟨i3, ha, h⟩ := h
        refine y_ia (nx := 46) (i := i3) rfl ha ?_
        refine x_br rfl (fun c => ?_) (fun c => ?_)
        · replace h := h.1 c
          refine x_st rfl ?_
          refine x_st rfl ?_
          refine x_kl ?_ h
          exact ⟨Or.inr rfl, ⟨Or.inr rfl, ⟨Or.inr rfl, ⟨Or.inr rfl, ⟨Or.inr rfl, True.intro⟩⟩⟩⟩⟩
        · replace h := h.2 c
          refine x_st rfl ?_
          refine x_st rfl ?_
          refine x_st rfl ?_
          refine x_st rfl ?_
          refine x_kl ?_ h
          exact ⟨Or.inr rfl, ⟨Or.inr rfl, ⟨Or.inr rfl, ⟨Or.inr rfl, ⟨Or.inr rfl, True.intro⟩⟩⟩⟩⟩
theorem EL_friend {D : Nat} {Q : Option Value → mS → Prop} {a0 : Nat} {a1 : Nat} {v2 : Int32} {w : Nat} {Sh : List mT} {MI : mI} {ML : mJ} (hQ : ∀ v S', Q v S' → Sh.length ≤ S'.2.1.length ∧ w ≤ S'.1) (h : VL_friend_0 (mrnT mTb D) Q a0 a1 v2 w Sh MI ML) : ∃ v S', Q v S' ∧ mrnT mTb (D + 1) 280 [.ref a0, .ref a1, .int v2] (w, Sh, MI, ML) v S' := by
  refine y_en (Tb := mTb) (n := 2) rfl hQ ?_
  refine x_kl ?_ h
  exact ⟨Or.inr rfl, ⟨Or.inr rfl, ⟨Or.inr rfl, ⟨Or.inl rfl, ⟨Or.inl rfl, True.intro⟩⟩⟩⟩⟩
