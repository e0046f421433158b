/-! the law's bodies by blocks -/
def VL_cell_0 (C : mC) (Q : Option Value → mS → Prop) (L : Nat) (xs : Nat → Int32) (v1 : Int32) (w : Nat) (Sh : List mT) (MI : mI) (ML : mJ) : Prop := mEx C (TL_cell L xs) Q (0, [some (.float 0), some (.int v1)], [], (w, Sh, MI, ML))
theorem BL_cell_0 {C : mC} {Q : Option Value → mS → Prop} {L : Nat} {xs : Nat → Int32} {v1 : Int32} {w : Nat} {Sh : List mT} {MI : mI} {ML : mJ} (hL : L < 10001)
    (h : ((nI L) ≤ v1 → Q (some (.int ((nI 40503) * v1))) (w, Sh, MI, ML)) ∧ (¬ (nI L) ≤ v1 → ∃ i1 : Nat, v1 = nI i1 ∧ i1 < L ∧ (Q (some (.int (xs i1))) (w, Sh, MI, ML)))) :
    VL_cell_0 C Q L xs v1 w Sh MI ML := by
  show mEx C (TL_cell L xs) Q (0, [some (.float 0), some (.int v1)], [], (w, Sh, MI, ML))
  refine x_st rfl ?_
  refine x_st rfl ?_
  refine x_st rfl ?_
  refine x_br rfl (fun c => ?_) (fun c => ?_)
  · replace h := h.1 c
    refine x_st rfl ?_
    refine x_st rfl ?_
    refine x_st rfl ?_
    exact x_ret rfl h
  · replace h := h.2 c
    refine x_st rfl ?_
    refine x_st rfl ?_
    obtain ⟨i1, hx, hi, h⟩ := h
    refine x_tl (j := 0) (N := L) (f := xs) (nx := 9) (i := i1) rfl hx hi hL ?_
    refine x_st rfl ?_
    exact x_ret rfl h
theorem EL_cell {D : Nat} {Q : Option Value → mS → Prop} {L : Nat} {xs : Nat → Int32} {v1 : Int32} {w : Nat} {Sh : List mT} {MI : mI} {ML : mJ} (hQ : ∀ v S', Q v S' → Sh.length ≤ S'.2.1.length ∧ w ≤ S'.1) (h : VL_cell_0 (mrnT (mTbS L xs) D) Q L xs v1 w Sh MI ML) : ∃ v S', Q v S' ∧ mrnT (mTbS L xs) (D + 1) 300 [.float 0, .int v1] (w, Sh, MI, ML) v S' := by
  refine y_en (Tb := (mTbS L xs)) (n := 0) rfl hQ ?_
  refine x_kl ?_ h
  exact ⟨Or.inr rfl, ⟨Or.inr rfl, True.intro⟩⟩
