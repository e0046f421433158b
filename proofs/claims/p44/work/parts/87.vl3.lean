/-! the law's bodies by blocks -/
def VL_copy_0 (C : mC) (Q : Option Value → mS → Prop) (a0 : Nat) (w : Nat) (Sh : List mT) (MI : mI) (ML : mJ) : Prop := mEx C TL_copy Q (0, [some (.ref a0), none, none], [], (w, Sh, MI, ML))
def VL_copy_7 (C : mC) (Q : Option Value → mS → Prop) (a0 : Nat) (a1 : Nat) (v2 : Int32) (w : Nat) (Sh : List mT) (MI : mI) (ML : mJ) : Prop := mEx C TL_copy Q (7, [some (.ref a0), some (.ref a1), some (.int v2)], [], (w, Sh, MI, ML))
theorem BL_copy_0 {C : mC} {Q : Option Value → mS → Prop} {a0 : Nat} {w : Nat} {Sh : List mT} {MI : mI} {ML : mJ}
    (h : Sh.length < 80 ∧ (VL_copy_7 C Q a0 Sh.length (nI 0) (w + 64) (Sh ++ [(1, 64, [])]) (mup MI Sh.length (fun _ => 0)) ML)) :
    VL_copy_0 C Q a0 w Sh MI ML := by
  show mEx C TL_copy Q (0, [some (.ref a0), none, none], [], (w, Sh, MI, ML))
  refine x_st rfl ?_
  refine y_nwi (N := 64) (nx := 4) rfl h.1 ?_
  replace h := h.2
  refine x_st rfl ?_
  refine x_st rfl ?_
  refine x_st rfl ?_
  refine x_kl ?_ h
  exact ⟨Or.inr rfl, ⟨Or.inr rfl, ⟨Or.inr rfl, True.intro⟩⟩⟩
theorem BL_copy_7 {C : mC} {Q : Option Value → mS → Prop} {a0 : Nat} {a1 : Nat} {v2 : Int32} {w : Nat} {Sh : List mT} {MI : mI} {ML : mJ}
    (h : ∃ n1 : Nat, alo Sh a0 n1 ∧ (((nI n1) ≤ v2 → Q (some (.ref a1)) (w, Sh, MI, ML)) ∧ (¬ (nI n1) ≤ v2 → ∃ i2 : Nat, aok Sh a0 i2 v2 ∧ (∃ i3 : Nat, aok Sh a1 i3 v2 ∧ (VL_copy_7 C Q a0 a1 (v2 + (nI 1)) w Sh (mup MI a1 (mput (MI a1) i3 (MI a0 i2))) ML))))) :
    VL_copy_7 C Q a0 a1 v2 w Sh MI ML := by
  show mEx C TL_copy Q (7, [some (.ref a0), some (.ref a1), some (.int v2)], [], (w, Sh, MI, ML))
  refine x_st rfl ?_
  refine x_st rfl ?_
  obtain ⟨n1, ha, h⟩ := h
  refine x_alen (nx := 10) rfl ha ?_
  refine x_br rfl (fun c => ?_) (fun c => ?_)
  · replace h := h.1 c
    refine x_st rfl ?_
    exact x_ret rfl h
  · replace h := h.2 c
    refine x_st rfl ?_
    refine x_st rfl ?_
    refine x_st rfl ?_
    refine x_st rfl ?_
    obtain ⟨i2, ha, h⟩ := h
    refine y_ia (nx := 18) (i := i2) rfl ha ?_
    obtain ⟨i3, ha, h⟩ := h
    refine y_iast (nx := 19) (i := i3) rfl ha ?_
    refine x_st rfl ?_
    refine x_st rfl ?_
    refine x_kl ?_ h
    exact ⟨Or.inr rfl, ⟨Or.inr rfl, ⟨Or.inr rfl, True.intro⟩⟩⟩
theorem EL_copy {D : Nat} {Q : Option Value → mS → Prop} {a0 : Nat} {w : Nat} {Sh : List mT} {MI : mI} {ML : mJ} (hQ : ∀ v S', Q v S' → Sh.length ≤ S'.2.1.length ∧ w ≤ S'.1) (h : VL_copy_0 (mrnT mTb D) Q a0 w Sh MI ML) : ∃ v S', Q v S' ∧ mrnT mTb (D + 1) 283 [.ref a0] (w, Sh, MI, ML) v S' := by
  refine y_en (Tb := mTb) (n := 2) rfl hQ ?_
  refine x_kl ?_ h
  exact ⟨Or.inr rfl, ⟨Or.inl rfl, ⟨Or.inl rfl, True.intro⟩⟩⟩
