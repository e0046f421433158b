/-! the law's bodies by blocks -/
def VL_three_0 (C : mC) (Q : Option Value → mS → Prop) (a0 : Nat) (v1 : Int32) (v2 : Int32) (v3 : Int32) (w : Nat) (Sh : List mT) (MI : mI) (ML : mJ) : Prop := mEx C TL_three Q (0, [some (.ref a0), some (.int v1), some (.int v2), some (.int v3)], [], (w, Sh, MI, ML))
theorem BL_three_0 {C : mC} {Q : Option Value → mS → Prop} {a0 : Nat} {v1 : Int32} {v2 : Int32} {v3 : Int32} {w : Nat} {Sh : List mT} {MI : mI} {ML : mJ}
    (h : isO Sh a0 10 ∧ ∃ (x3 : Int32) (M1 : mI) (N2 : mJ), C 141 [.ref a0, .int v1] (w, Sh, MI, ML) (some (.int x3)) (w, Sh, M1, N2) ∧ ((x3 ≤ nI 0 → Q (some (.int (nI 0))) (w, Sh, M1, N2)) ∧ (¬ x3 ≤ nI 0 → isO Sh a0 10 ∧ ∃ (x6 : Int32) (M4 : mI) (N5 : mJ), C 141 [.ref a0, .int v2] (w, Sh, M1, N2) (some (.int x6)) (w, Sh, M4, N5) ∧ ((x6 ≤ nI 0 → Q (some (.int (nI 0))) (w, Sh, M4, N5)) ∧ (¬ x6 ≤ nI 0 → isO Sh a0 10 ∧ ∃ (x9 : Int32) (M7 : mI) (N8 : mJ), C 141 [.ref a0, .int v3] (w, Sh, M4, N5) (some (.int x9)) (w, Sh, M7, N8) ∧ ((x9 ≤ nI 0 → Q (some (.int (nI 0))) (w, Sh, M7, N8)) ∧ (¬ x9 ≤ nI 0 → Q (some (.int (nI 1))) (w, Sh, M7, N8)))))))) :
    VL_three_0 C Q a0 v1 v2 v3 w Sh MI ML := by
  show mEx C TL_three Q (0, [some (.ref a0), some (.int v1), some (.int v2), some (.int v3)], [], (w, Sh, MI, ML))
  refine x_st rfl ?_
  refine x_st rfl ?_
  obtain ⟨ho, x3, M1, N2, hc, h⟩ := h
  refine y_vi (y := 141) (n := 1) (ci := 10) (nx := 5) rfl (fun _ => rfl) ho rfl hc ?_
  refine x_br rfl (fun c => ?_) (fun c => ?_)
  · replace h := h.1 c
    refine x_st rfl ?_
    exact x_ret rfl h
  · replace h := h.2 c
    refine x_st rfl ?_
    refine x_st rfl ?_
    obtain ⟨ho, x6, M4, N5, hc, h⟩ := h
    refine y_vi (y := 141) (n := 1) (ci := 10) (nx := 13) rfl (fun _ => rfl) ho rfl hc ?_
    refine x_br rfl (fun c => ?_) (fun c => ?_)
    · replace h := h.1 c
      refine x_st rfl ?_
      exact x_ret rfl h
    · replace h := h.2 c
      refine x_st rfl ?_
      refine x_st rfl ?_
      obtain ⟨ho, x9, M7, N8, hc, h⟩ := h
      refine y_vi (y := 141) (n := 1) (ci := 10) (nx := 21) rfl (fun _ => rfl) ho rfl hc ?_
      refine x_br rfl (fun c => ?_) (fun c => ?_)
      · replace h := h.1 c
        refine x_st rfl ?_
        exact x_ret rfl h
      · replace h := h.2 c
        refine x_st rfl ?_
        refine x_st rfl ?_
        exact x_ret rfl h
theorem EL_three {D : Nat} {Q : Option Value → mS → Prop} {a0 : Nat} {v1 : Int32} {v2 : Int32} {v3 : Int32} {w : Nat} {Sh : List mT} {MI : mI} {ML : mJ} (hQ : ∀ v S', Q v S' → Sh.length ≤ S'.2.1.length ∧ w ≤ S'.1) (h : VL_three_0 (mrnT mTb D) Q a0 v1 v2 v3 w Sh MI ML) : ∃ v S', Q v S' ∧ mrnT mTb (D + 1) 284 [.ref a0, .int v1, .int v2, .int v3] (w, Sh, MI, ML) v S' := by
  refine y_en (Tb := mTb) (n := 0) rfl hQ ?_
  refine x_kl ?_ h
  exact ⟨Or.inr rfl, ⟨Or.inr rfl, ⟨Or.inr rfl, ⟨Or.inr rfl, True.intro⟩⟩⟩⟩
