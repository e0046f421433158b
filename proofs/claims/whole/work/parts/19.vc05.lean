/-! bodies by blocks -/
def VX10_isOneOrAll_0 (D : Nat) (Q : Option Value → mI → mJ → Prop)  (v1 : Int32) (MI : mI) (ML : mJ) : Prop := mEx D TX10_isOneOrAll (mqS Q) (0, [some (.ref 0), some (.int v1)], [], (W0, Sh0, MI, ML))
theorem BX10_isOneOrAll_0 {D : Nat} {Q : Option Value → mI → mJ → Prop}  {v1 : Int32} {MI : mI} {ML : mJ} 
    (h : (v1 = (-1 : Int32) → Q (some (.int (nI 1))) MI ML) ∧ (¬ v1 = (-1 : Int32) → ∃ (x3 : Int32) (M1 : mI) (N2 : mJ), mrc D 6 [.ref 1, .int v1] MI ML (some (.int x3)) M1 N2 ∧ ((x3 = nI 0 → Q (some (.int (nI 0))) M1 N2) ∧ (¬ x3 = nI 0 → Q (some (.int (nI 1))) M1 N2)))) :
    VX10_isOneOrAll_0 D Q v1 MI ML := by
  show mEx D TX10_isOneOrAll (mqS Q) (0, [some (.ref 0), some (.int v1)], [], (W0, Sh0, MI, ML))
  refine x_st rfl ?_
  refine x_st rfl ?_
  refine x_br rfl (fun c => ?_) (fun c => ?_)
  · replace h := h.1 c
    refine x_st rfl ?_
    refine x_st rfl ?_
    refine x_ret rfl ?_
    exact ⟨_, _, rfl, h⟩
  · replace h := h.2 c
    refine x_st rfl ?_
    refine x_gr (ci := 10) (k := 0) (nx := 9) rfl sh_0 rfl ?_
    refine x_st rfl ?_
    obtain ⟨x3, M1, N2, hc, h⟩ := h
    refine x_vi (y := 6) (n := 1) (ci := 0) (nx := 13) rfl (fun _ => rfl) sh_1 rfl hc ?_
    refine x_br rfl (fun c => ?_) (fun c => ?_)
    · replace h := h.1 c
      refine x_st rfl ?_
      refine x_ret rfl ?_
      exact ⟨_, _, rfl, h⟩
    · replace h := h.2 c
      refine x_st rfl ?_
      refine x_st rfl ?_
      refine x_ret rfl ?_
      exact ⟨_, _, rfl, h⟩
theorem EX10_isOneOrAll {D : Nat} {Q : Option Value → mI → mJ → Prop}  {v1 : Int32} {MI : mI} {ML : mJ} (h : VX10_isOneOrAll_0 D Q v1 MI ML) : ∃ v MI' ML', Q v MI' ML' ∧ mrc (D + 1) 153 [.ref 0, .int v1] MI ML v MI' ML' := by
  refine x_en (n := 0) (T := TX10_isOneOrAll) rfl rfl ?_
  refine x_kl ?_ h
  exact ⟨Or.inr rfl, ⟨Or.inr rfl, True.intro⟩⟩
def VX10_judge_0 (D : Nat) (Q : Option Value → mI → mJ → Prop)  (v1 : Int32) (v2 : Int32) (MI : mI) (ML : mJ) : Prop := mEx D TX10_judge (mqS Q) (0, [some (.ref 0), some (.int v1), some (.int v2), none], [], (W0, Sh0, MI, ML))
theorem BX10_judge_0 {D : Nat} {Q : Option Value → mI → mJ → Prop}  {v1 : Int32} {v2 : Int32} {MI : mI} {ML : mJ} 
    (h : ∃ (x3 : Int32) (M1 : mI) (N2 : mJ), mrc D 102 [.ref 10, .int v1] MI ML (some (.int x3)) M1 N2 ∧ ((x3 = nI 0 → Q (some (.int (-1 : Int32))) M1 N2) ∧ (¬ x3 = nI 0 → ∃ (x6 : Int32) (M4 : mI) (N5 : mJ), mrc D 6 [.ref 1, .int v2] M1 N2 (some (.int x6)) M4 N5 ∧ ((x6 = nI 0 → Q (some (.int (-1 : Int32))) M4 N5) ∧ (¬ x6 = nI 0 → ∃ (x9 : Int32) (M7 : mI) (N8 : mJ), mrc D 110 [.ref 10, .int v1] M4 N5 (some (.int x9)) M7 N8 ∧ ((x9 = nI 0 → ∃ (M10 : mI) (N11 : mJ), mrc D 122 [.ref 15] M7 N8 none M10 N11 ∧ (∃ (x14 : Int32) (M12 : mI) (N13 : mJ), mrc D 126 [.ref 15, .int v1, .int v2] M10 N11 (some (.int x14)) M12 N13 ∧ (Q (some (.int x14)) M12 N13))) ∧ (¬ x9 = nI 0 → Q (some (.int x9)) M7 N8))))))) :
    VX10_judge_0 D Q v1 v2 MI ML := by
  show mEx D TX10_judge (mqS Q) (0, [some (.ref 0), some (.int v1), some (.int v2), none], [], (W0, Sh0, MI, ML))
  refine x_st rfl ?_
  refine x_gr (ci := 10) (k := 9) (nx := 4) rfl sh_0 rfl ?_
  refine x_st rfl ?_
  obtain ⟨x3, M1, N2, hc, h⟩ := h
  refine x_vi (y := 102) (n := 1) (ci := 8) (nx := 8) rfl (fun _ => rfl) sh_10 rfl hc ?_
  refine x_br rfl (fun c => ?_) (fun c => ?_)
  · replace h := h.1 c
    refine x_st rfl ?_
    refine x_ret rfl ?_
    exact ⟨_, _, rfl, h⟩
  · replace h := h.2 c
    refine x_st rfl ?_
    refine x_gr (ci := 10) (k := 0) (nx := 15) rfl sh_0 rfl ?_
    refine x_st rfl ?_
    obtain ⟨x6, M4, N5, hc, h⟩ := h
    refine x_vi (y := 6) (n := 1) (ci := 0) (nx := 19) rfl (fun _ => rfl) sh_1 rfl hc ?_
    refine x_br rfl (fun c => ?_) (fun c => ?_)
    · replace h := h.1 c
      refine x_st rfl ?_
      refine x_ret rfl ?_
      exact ⟨_, _, rfl, h⟩
    · replace h := h.2 c
      refine x_st rfl ?_
      refine x_gr (ci := 10) (k := 9) (nx := 28) rfl sh_0 rfl ?_
      refine x_st rfl ?_
      obtain ⟨x9, M7, N8, hc, h⟩ := h
      refine x_vi (y := 110) (n := 1) (ci := 8) (nx := 32) rfl (fun _ => rfl) sh_10 rfl hc ?_
      refine x_st rfl ?_
      refine x_st rfl ?_
      refine x_br rfl (fun c => ?_) (fun c => ?_)
      · replace h := h.1 c
        refine x_st rfl ?_
        refine x_gr (ci := 10) (k := 3) (nx := 43) rfl sh_0 rfl ?_
        obtain ⟨M10, N11, hc, h⟩ := h
        refine x_vv (y := 122) (n := 0) (ci := 9) (nx := 46) rfl (fun _ => rfl) sh_15 rfl hc ?_
        refine x_st rfl ?_
        refine x_gr (ci := 10) (k := 3) (nx := 50) rfl sh_0 rfl ?_
        refine x_st rfl ?_
        refine x_st rfl ?_
        obtain ⟨x14, M12, N13, hc, h⟩ := h
        refine x_vi (y := 126) (n := 2) (ci := 9) (nx := 55) rfl (fun _ => rfl) sh_15 rfl hc ?_
        refine x_ret rfl ?_
        exact ⟨_, _, rfl, h⟩
      · replace h := h.2 c
        refine x_st rfl ?_
        refine x_ret rfl ?_
        exact ⟨_, _, rfl, h⟩
theorem EX10_judge {D : Nat} {Q : Option Value → mI → mJ → Prop}  {v1 : Int32} {v2 : Int32} {MI : mI} {ML : mJ} (h : VX10_judge_0 D Q v1 v2 MI ML) : ∃ v MI' ML', Q v MI' ML' ∧ mrc (D + 1) 154 [.ref 0, .int v1, .int v2] MI ML v MI' ML' := by
  refine x_en (n := 1) (T := TX10_judge) rfl rfl ?_
  refine x_kl ?_ h
  exact ⟨Or.inr rfl, ⟨Or.inr rfl, ⟨Or.inr rfl, ⟨Or.inl rfl, True.intro⟩⟩⟩⟩
def VX10_fits_0 (D : Nat) (Q : Option Value → mI → mJ → Prop)  (v1 : Int32) (v2 : Int32) (v3 : Int32) (MI : mI) (ML : mJ) : Prop := mEx D TX10_fits (mqS Q) (0, [some (.ref 0), some (.int v1), some (.int v2), some (.int v3), none, none], [], (W0, Sh0, MI, ML))
theorem BX10_fits_0 {D : Nat} {Q : Option Value → mI → mJ → Prop}  {v1 : Int32} {v2 : Int32} {v3 : Int32} {MI : mI} {ML : mJ} 
    (h : ∃ (x3 : Int32) (M1 : mI) (N2 : mJ), mrc D 102 [.ref 10, .int v1] MI ML (some (.int x3)) M1 N2 ∧ ((x3 = nI 0 → Q (some (.int (-1 : Int32))) M1 N2) ∧ (¬ x3 = nI 0 → ∃ (x6 : Int32) (M4 : mI) (N5 : mJ), mrc D 7 [.ref 1, .int v2] M1 N2 (some (.int x6)) M4 N5 ∧ ((x6 = nI 0 → Q (some (.int (-1 : Int32))) M4 N5) ∧ (¬ x6 = nI 0 → (v3 < nI 0 → Q (some (.int (-1 : Int32))) M4 N5) ∧ (¬ v3 < nI 0 → (v3 ≤ (nI 2) → ∃ (x9 : Int32) (M7 : mI) (N8 : mJ), mrc D 110 [.ref 10, .int v1] M4 N5 (some (.int x9)) M7 N8 ∧ ((x9 = nI 0 → (v3 = (nI 2) → ∃ (M10 : mI) (N11 : mJ), mrc D 127 [.ref 15, .int v1, .int (v2 - v2 / (nI 10) * (nI 10)), .int ((nI 0) + (v2 - v2 / (nI 10) * (nI 10))), .int (nI 0), .int (nI 99)] M7 N8 none M10 N11 ∧ (Q (some (.int (M10 15 5))) M10 N11)) ∧ (¬ v3 = (nI 2) → ∃ (x14 : Int32) (M12 : mI) (N13 : mJ), mrc D 4 [.int (v2 / (nI 10)), .int (v2 - v2 / (nI 10) * (nI 10))] M7 N8 (some (.int x14)) M12 N13 ∧ (∃ (M15 : mI) (N16 : mJ), mrc D 127 [.ref 15, .int v1, .int (v2 - v2 / (nI 10) * (nI 10)), .int x14, .int (-9 : Int32), .int (nI 9)] M12 N13 none M15 N16 ∧ ((v3 = nI 0 → Q (some (.int (M15 15 5))) M15 N16) ∧ (¬ v3 = nI 0 → ((M15 15 5) = nI 0 → Q (some (.int (-2 : Int32))) M15 N16) ∧ (¬ (M15 15 5) = nI 0 → Q (some (.int ((M15 15 6) + (nI 100)))) M15 N16)))))) ∧ (¬ x9 = nI 0 → Q (some (.int x9)) M7 N8))) ∧ (¬ v3 ≤ (nI 2) → Q (some (.int (-1 : Int32))) M4 N5))))))) :
    VX10_fits_0 D Q v1 v2 v3 MI ML := by
  show mEx D TX10_fits (mqS Q) (0, [some (.ref 0), some (.int v1), some (.int v2), some (.int v3), none, none], [], (W0, Sh0, MI, ML))
  refine x_st rfl ?_
  refine x_gr (ci := 10) (k := 9) (nx := 4) rfl sh_0 rfl ?_
  refine x_st rfl ?_
  obtain ⟨x3, M1, N2, hc, h⟩ := h
  refine x_vi (y := 102) (n := 1) (ci := 8) (nx := 8) rfl (fun _ => rfl) sh_10 rfl hc ?_
  refine x_br rfl (fun c => ?_) (fun c => ?_)
  · replace h := h.1 c
    refine x_st rfl ?_
    refine x_ret rfl ?_
    exact ⟨_, _, rfl, h⟩
  · replace h := h.2 c
    refine x_st rfl ?_
    refine x_gr (ci := 10) (k := 0) (nx := 15) rfl sh_0 rfl ?_
    refine x_st rfl ?_
    obtain ⟨x6, M4, N5, hc, h⟩ := h
    refine x_vi (y := 7) (n := 1) (ci := 0) (nx := 19) rfl (fun _ => rfl) sh_1 rfl hc ?_
    refine x_br rfl (fun c => ?_) (fun c => ?_)
    · replace h := h.1 c
      refine x_st rfl ?_
      refine x_ret rfl ?_
      exact ⟨_, _, rfl, h⟩
    · replace h := h.2 c
      refine x_st rfl ?_
      refine x_br rfl (fun c => ?_) (fun c => ?_)
      · replace h := h.1 c
        refine x_st rfl ?_
        refine x_ret rfl ?_
        exact ⟨_, _, rfl, h⟩
      · replace h := h.2 c
        refine x_st rfl ?_
        refine x_st rfl ?_
        refine x_br rfl (fun c => ?_) (fun c => ?_)
        · replace h := h.1 c
          refine x_st rfl ?_
          refine x_gr (ci := 10) (k := 9) (nx := 37) rfl sh_0 rfl ?_
          refine x_st rfl ?_
          obtain ⟨x9, M7, N8, hc, h⟩ := h
          refine x_vi (y := 110) (n := 1) (ci := 8) (nx := 41) rfl (fun _ => rfl) sh_10 rfl hc ?_
          refine x_st rfl ?_
          refine x_st rfl ?_
          refine x_br rfl (fun c => ?_) (fun c => ?_)
          · replace h := h.1 c
            refine x_st rfl ?_
            refine x_st rfl ?_
            refine x_st rfl ?_
            refine x_st rfl ?_
            refine x_st rfl ?_
            refine x_st rfl ?_
            refine x_br rfl (fun c => ?_) (fun c => ?_)
            · replace h := h.1 c
              refine x_st rfl ?_
              refine x_gr (ci := 10) (k := 3) (nx := 66) rfl sh_0 rfl ?_
              refine x_st rfl ?_
              refine x_st rfl ?_
              refine x_st rfl ?_
              refine x_st rfl ?_
              refine x_st rfl ?_
              refine x_st rfl ?_
              refine x_st rfl ?_
              obtain ⟨M10, N11, hc, h⟩ := h
              refine x_vv (y := 127) (n := 5) (ci := 9) (nx := 79) rfl (fun _ => rfl) sh_15 rfl hc ?_
              refine x_st rfl ?_
              refine x_gr (ci := 10) (k := 3) (nx := 83) rfl sh_0 rfl ?_
              refine x_gi (ci := 9) (k := 5) (nx := 86) rfl sh_15 rfl ?_
              refine x_ret rfl ?_
              exact ⟨_, _, rfl, h⟩
            · replace h := h.2 c
              refine x_st rfl ?_
              refine x_gr (ci := 10) (k := 3) (nx := 91) rfl sh_0 rfl ?_
              refine x_st rfl ?_
              refine x_st rfl ?_
              refine x_st rfl ?_
              refine x_st rfl ?_
              refine x_st rfl ?_
              refine x_st rfl ?_
              obtain ⟨x14, M12, N13, hc, h⟩ := h
              refine x_ci rfl hc ?_
              refine x_st rfl ?_
              refine x_st rfl ?_
              obtain ⟨M15, N16, hc, h⟩ := h
              refine x_vv (y := 127) (n := 5) (ci := 9) (nx := 110) rfl (fun _ => rfl) sh_15 rfl hc ?_
              refine x_st rfl ?_
              refine x_br rfl (fun c => ?_) (fun c => ?_)
              · replace h := h.1 c
                refine x_st rfl ?_
                refine x_gr (ci := 10) (k := 3) (nx := 118) rfl sh_0 rfl ?_
                refine x_gi (ci := 9) (k := 5) (nx := 121) rfl sh_15 rfl ?_
                refine x_ret rfl ?_
                exact ⟨_, _, rfl, h⟩
              · replace h := h.2 c
                refine x_st rfl ?_
                refine x_gr (ci := 10) (k := 3) (nx := 126) rfl sh_0 rfl ?_
                refine x_gi (ci := 9) (k := 5) (nx := 129) rfl sh_15 rfl ?_
                refine x_br rfl (fun c => ?_) (fun c => ?_)
                · replace h := h.1 c
                  refine x_st rfl ?_
                  refine x_st rfl ?_
                  refine x_ret rfl ?_
                  exact ⟨_, _, rfl, h⟩
                · replace h := h.2 c
                  refine x_st rfl ?_
                  refine x_gr (ci := 10) (k := 3) (nx := 141) rfl sh_0 rfl ?_
                  refine x_gi (ci := 9) (k := 6) (nx := 144) rfl sh_15 rfl ?_
                  refine x_st rfl ?_
                  refine x_st rfl ?_
                  refine x_ret rfl ?_
                  exact ⟨_, _, rfl, h⟩
          · replace h := h.2 c
            refine x_st rfl ?_
            refine x_ret rfl ?_
            exact ⟨_, _, rfl, h⟩
        · replace h := h.2 c
          refine x_st rfl ?_
          refine x_ret rfl ?_
          exact ⟨_, _, rfl, h⟩
theorem EX10_fits {D : Nat} {Q : Option Value → mI → mJ → Prop}  {v1 : Int32} {v2 : Int32} {v3 : Int32} {MI : mI} {ML : mJ} (h : VX10_fits_0 D Q v1 v2 v3 MI ML) : ∃ v MI' ML', Q v MI' ML' ∧ mrc (D + 1) 155 [.ref 0, .int v1, .int v2, .int v3] MI ML v MI' ML' := by
  refine x_en (n := 2) (T := TX10_fits) rfl rfl ?_
  refine x_kl ?_ h
  exact ⟨Or.inr rfl, ⟨Or.inr rfl, ⟨Or.inr rfl, ⟨Or.inr rfl, ⟨Or.inl rfl, ⟨Or.inl rfl, True.intro⟩⟩⟩⟩⟩⟩
def VX10_byTurns_0 (D : Nat) (Q : Option Value → mI → mJ → Prop)  (v1 : Int32) (v2 : Int32) (v3 : Int32) (MI : mI) (ML : mJ) : Prop := mEx D TX10_byTurns (mqS Q) (0, [some (.ref 0), some (.int v1), some (.int v2), some (.int v3)], [], (W0, Sh0, MI, ML))
theorem BX10_byTurns_0 {D : Nat} {Q : Option Value → mI → mJ → Prop}  {v1 : Int32} {v2 : Int32} {v3 : Int32} {MI : mI} {ML : mJ} 
    (h : ∃ (x3 : Int32) (M1 : mI) (N2 : mJ), mrc D 7 [.ref 1, .int v1] MI ML (some (.int x3)) M1 N2 ∧ ((x3 = nI 0 → Q (some (.int (-1 : Int32))) M1 N2) ∧ (¬ x3 = nI 0 → (v2 < (nI 1) → Q (some (.int (-1 : Int32))) M1 N2) ∧ (¬ v2 < (nI 1) → ((nI 5) < v2 → Q (some (.int (-1 : Int32))) M1 N2) ∧ (¬ (nI 5) < v2 → (v3 < nI 0 → Q (some (.int (-1 : Int32))) M1 N2) ∧ (¬ v3 < nI 0 → (v3 ≤ (nI 1) → ∃ (M4 : mI) (N5 : mJ), mrc D 128 [.ref 15, .int (v1 / (nI 10)), .int (v1 - v1 / (nI 10) * (nI 10)), .int v2] M1 N2 none M4 N5 ∧ ((v3 = nI 0 → Q (some (.int (M4 15 3))) M4 N5) ∧ (¬ v3 = nI 0 → Q (some (.int (M4 15 4))) M4 N5))) ∧ (¬ v3 ≤ (nI 1) → Q (some (.int (-1 : Int32))) M1 N2))))))) :
    VX10_byTurns_0 D Q v1 v2 v3 MI ML := by
  show mEx D TX10_byTurns (mqS Q) (0, [some (.ref 0), some (.int v1), some (.int v2), some (.int v3)], [], (W0, Sh0, MI, ML))
  refine x_st rfl ?_
  refine x_gr (ci := 10) (k := 0) (nx := 4) rfl sh_0 rfl ?_
  refine x_st rfl ?_
  obtain ⟨x3, M1, N2, hc, h⟩ := h
  refine x_vi (y := 7) (n := 1) (ci := 0) (nx := 8) rfl (fun _ => rfl) sh_1 rfl hc ?_
  refine x_br rfl (fun c => ?_) (fun c => ?_)
  · replace h := h.1 c
    refine x_st rfl ?_
    refine x_ret rfl ?_
    exact ⟨_, _, rfl, h⟩
  · replace h := h.2 c
    refine x_st rfl ?_
    refine x_st rfl ?_
    refine x_br rfl (fun c => ?_) (fun c => ?_)
    · replace h := h.1 c
      refine x_st rfl ?_
      refine x_ret rfl ?_
      exact ⟨_, _, rfl, h⟩
    · replace h := h.2 c
      refine x_st rfl ?_
      refine x_st rfl ?_
      refine x_br rfl (fun c => ?_) (fun c => ?_)
      · replace h := h.1 c
        refine x_st rfl ?_
        refine x_ret rfl ?_
        exact ⟨_, _, rfl, h⟩
      · replace h := h.2 c
        refine x_st rfl ?_
        refine x_br rfl (fun c => ?_) (fun c => ?_)
        · replace h := h.1 c
          refine x_st rfl ?_
          refine x_ret rfl ?_
          exact ⟨_, _, rfl, h⟩
        · replace h := h.2 c
          refine x_st rfl ?_
          refine x_st rfl ?_
          refine x_br rfl (fun c => ?_) (fun c => ?_)
          · replace h := h.1 c
            refine x_st rfl ?_
            refine x_gr (ci := 10) (k := 3) (nx := 36) rfl sh_0 rfl ?_
            refine x_st rfl ?_
            refine x_st rfl ?_
            refine x_st rfl ?_
            refine x_st rfl ?_
            refine x_st rfl ?_
            refine x_st rfl ?_
            refine x_st rfl ?_
            obtain ⟨M4, N5, hc, h⟩ := h
            refine x_vv (y := 128) (n := 3) (ci := 9) (nx := 48) rfl (fun _ => rfl) sh_15 rfl hc ?_
            refine x_st rfl ?_
            refine x_br rfl (fun c => ?_) (fun c => ?_)
            · replace h := h.1 c
              refine x_st rfl ?_
              refine x_gr (ci := 10) (k := 3) (nx := 56) rfl sh_0 rfl ?_
              refine x_gi (ci := 9) (k := 3) (nx := 59) rfl sh_15 rfl ?_
              refine x_st rfl ?_
              refine x_ret rfl ?_
              exact ⟨_, _, rfl, h⟩
            · replace h := h.2 c
              refine x_st rfl ?_
              refine x_gr (ci := 10) (k := 3) (nx := 66) rfl sh_0 rfl ?_
              refine x_gi (ci := 9) (k := 4) (nx := 69) rfl sh_15 rfl ?_
              refine x_ret rfl ?_
              exact ⟨_, _, rfl, h⟩
          · replace h := h.2 c
            refine x_st rfl ?_
            refine x_ret rfl ?_
            exact ⟨_, _, rfl, h⟩
theorem EX10_byTurns {D : Nat} {Q : Option Value → mI → mJ → Prop}  {v1 : Int32} {v2 : Int32} {v3 : Int32} {MI : mI} {ML : mJ} (h : VX10_byTurns_0 D Q v1 v2 v3 MI ML) : ∃ v MI' ML', Q v MI' ML' ∧ mrc (D + 1) 156 [.ref 0, .int v1, .int v2, .int v3] MI ML v MI' ML' := by
  refine x_en (n := 0) (T := TX10_byTurns) rfl rfl ?_
  refine x_kl ?_ h
  exact ⟨Or.inr rfl, ⟨Or.inr rfl, ⟨Or.inr rfl, ⟨Or.inr rfl, True.intro⟩⟩⟩⟩
def VX10_drawn_0 (D : Nat) (Q : Option Value → mI → mJ → Prop)  (v1 : Int32) (v2 : Int32) (v3 : Int32) (MI : mI) (ML : mJ) : Prop := mEx D TX10_drawn (mqS Q) (0, [some (.ref 0), some (.int v1), some (.int v2), some (.int v3), none, none, none], [], (W0, Sh0, MI, ML))
theorem BX10_drawn_0 {D : Nat} {Q : Option Value → mI → mJ → Prop}  {v1 : Int32} {v2 : Int32} {v3 : Int32} {MI : mI} {ML : mJ} 
    (h : (v2 < nI 0 → Q (some (.int (-1 : Int32))) MI ML) ∧ (¬ v2 < nI 0 → ∃ (x3 : Int32) (M1 : mI) (N2 : mJ), mrc D 153 [.ref 0, .int v3] MI ML (some (.int x3)) M1 N2 ∧ ((x3 = nI 0 → Q (some (.int (-1 : Int32))) M1 N2) ∧ (¬ x3 = nI 0 → ((v2 / (nI 10000)) < (nI 1) → Q (some (.int (-1 : Int32))) M1 N2) ∧ (¬ (v2 / (nI 10000)) < (nI 1) → ((nI 20) < (v2 / (nI 10000)) → Q (some (.int (-1 : Int32))) M1 N2) ∧ (¬ (nI 20) < (v2 / (nI 10000)) → (((v2 / (nI 100)) - (v2 / (nI 100)) / (nI 100) * (nI 100)) < (nI 1) → Q (some (.int (-1 : Int32))) M1 N2) ∧ (¬ ((v2 / (nI 100)) - (v2 / (nI 100)) / (nI 100) * (nI 100)) < (nI 1) → ((nI 20) < ((v2 / (nI 100)) - (v2 / (nI 100)) / (nI 100) * (nI 100)) → Q (some (.int (-1 : Int32))) M1 N2) ∧ (¬ (nI 20) < ((v2 / (nI 100)) - (v2 / (nI 100)) / (nI 100) * (nI 100)) → ((v2 - v2 / (nI 100) * (nI 100)) ≤ (nI 12) → ∃ (x6 : Int32) (M4 : mI) (N5 : mJ), mrc D 132 [.ref 15, .int v1, .int (v2 / (nI 10000)), .int ((v2 / (nI 100)) - (v2 / (nI 100)) / (nI 100) * (nI 100)), .int (v2 - v2 / (nI 100) * (nI 100)), .int v3] M1 N2 (some (.int x6)) M4 N5 ∧ (Q (some (.int x6)) M4 N5)) ∧ (¬ (v2 - v2 / (nI 100) * (nI 100)) ≤ (nI 12) → Q (some (.int (-1 : Int32))) M1 N2))))))))) :
    VX10_drawn_0 D Q v1 v2 v3 MI ML := by
  show mEx D TX10_drawn (mqS Q) (0, [some (.ref 0), some (.int v1), some (.int v2), some (.int v3), none, none, none], [], (W0, Sh0, MI, ML))
  refine x_st rfl ?_
  refine x_br rfl (fun c => ?_) (fun c => ?_)
  · replace h := h.1 c
    refine x_st rfl ?_
    refine x_ret rfl ?_
    exact ⟨_, _, rfl, h⟩
  · replace h := h.2 c
    refine x_st rfl ?_
    refine x_st rfl ?_
    obtain ⟨x3, M1, N2, hc, h⟩ := h
    refine x_vi (y := 153) (n := 1) (ci := 10) (nx := 9) rfl (fun _ => rfl) sh_0 rfl hc ?_
    refine x_br rfl (fun c => ?_) (fun c => ?_)
    · replace h := h.1 c
      refine x_st rfl ?_
      refine x_ret rfl ?_
      exact ⟨_, _, rfl, h⟩
    · replace h := h.2 c
      refine x_st rfl ?_
      refine x_st rfl ?_
      refine x_st rfl ?_
      refine x_st rfl ?_
      refine x_st rfl ?_
      refine x_st rfl ?_
      refine x_st rfl ?_
      refine x_st rfl ?_
      refine x_st rfl ?_
      refine x_st rfl ?_
      refine x_st rfl ?_
      refine x_st rfl ?_
      refine x_st rfl ?_
      refine x_st rfl ?_
      refine x_st rfl ?_
      refine x_st rfl ?_
      refine x_br rfl (fun c => ?_) (fun c => ?_)
      · replace h := h.1 c
        refine x_st rfl ?_
        refine x_ret rfl ?_
        exact ⟨_, _, rfl, h⟩
      · replace h := h.2 c
        refine x_st rfl ?_
        refine x_st rfl ?_
        refine x_br rfl (fun c => ?_) (fun c => ?_)
        · replace h := h.1 c
          refine x_st rfl ?_
          refine x_ret rfl ?_
          exact ⟨_, _, rfl, h⟩
        · replace h := h.2 c
          refine x_st rfl ?_
          refine x_st rfl ?_
          refine x_br rfl (fun c => ?_) (fun c => ?_)
          · replace h := h.1 c
            refine x_st rfl ?_
            refine x_ret rfl ?_
            exact ⟨_, _, rfl, h⟩
          · replace h := h.2 c
            refine x_st rfl ?_
            refine x_st rfl ?_
            refine x_br rfl (fun c => ?_) (fun c => ?_)
            · replace h := h.1 c
              refine x_st rfl ?_
              refine x_ret rfl ?_
              exact ⟨_, _, rfl, h⟩
            · replace h := h.2 c
              refine x_st rfl ?_
              refine x_st rfl ?_
              refine x_br rfl (fun c => ?_) (fun c => ?_)
              · replace h := h.1 c
                refine x_st rfl ?_
                refine x_gr (ci := 10) (k := 3) (nx := 75) rfl sh_0 rfl ?_
                refine x_st rfl ?_
                refine x_st rfl ?_
                refine x_st rfl ?_
                refine x_st rfl ?_
                refine x_st rfl ?_
                obtain ⟨x6, M4, N5, hc, h⟩ := h
                refine x_vi (y := 132) (n := 5) (ci := 9) (nx := 86) rfl (fun _ => rfl) sh_15 rfl hc ?_
                refine x_ret rfl ?_
                exact ⟨_, _, rfl, h⟩
              · replace h := h.2 c
                refine x_st rfl ?_
                refine x_ret rfl ?_
                exact ⟨_, _, rfl, h⟩
theorem EX10_drawn {D : Nat} {Q : Option Value → mI → mJ → Prop}  {v1 : Int32} {v2 : Int32} {v3 : Int32} {MI : mI} {ML : mJ} (h : VX10_drawn_0 D Q v1 v2 v3 MI ML) : ∃ v MI' ML', Q v MI' ML' ∧ mrc (D + 1) 157 [.ref 0, .int v1, .int v2, .int v3] MI ML v MI' ML' := by
  refine x_en (n := 3) (T := TX10_drawn) rfl rfl ?_
  refine x_kl ?_ h
  exact ⟨Or.inr rfl, ⟨Or.inr rfl, ⟨Or.inr rfl, ⟨Or.inr rfl, ⟨Or.inl rfl, ⟨Or.inl rfl, ⟨Or.inl rfl, True.intro⟩⟩⟩⟩⟩⟩⟩
def VX10_day_0 (D : Nat) (Q : Option Value → mI → mJ → Prop)  (MI : mI) (ML : mJ) : Prop := mEx D TX10_day (mqS Q) (0, [some (.ref 0), none], [], (W0, Sh0, MI, ML))
theorem BX10_day_0 {D : Nat} {Q : Option Value → mI → mJ → Prop}  {MI : mI} {ML : mJ} 
    (h : ∃ (x3 : Int32) (M1 : mI) (N2 : mJ), mrc D 96 [.ref 28, .ref 1, .ref 6] MI ML (some (.int x3)) M1 N2 ∧ (∃ (M4 : mI) (N5 : mJ), mrc D 31 [.ref 33, .ref 28, .int (M1 1 0)] M1 N2 none M4 N5 ∧ (Q (some (.int x3)) M4 N5))) :
    VX10_day_0 D Q  MI ML := by
  show mEx D TX10_day (mqS Q) (0, [some (.ref 0), none], [], (W0, Sh0, MI, ML))
  refine x_st rfl ?_
  refine x_gr (ci := 10) (k := 5) (nx := 4) rfl sh_0 rfl ?_
  refine x_st rfl ?_
  refine x_gr (ci := 10) (k := 0) (nx := 8) rfl sh_0 rfl ?_
  refine x_st rfl ?_
  refine x_gr (ci := 10) (k := 2) (nx := 12) rfl sh_0 rfl ?_
  obtain ⟨x3, M1, N2, hc, h⟩ := h
  refine x_vi (y := 96) (n := 2) (ci := 7) (nx := 15) rfl (fun _ => rfl) sh_28 rfl hc ?_
  refine x_st rfl ?_
  refine x_st rfl ?_
  refine x_gr (ci := 10) (k := 6) (nx := 20) rfl sh_0 rfl ?_
  refine x_st rfl ?_
  refine x_gr (ci := 10) (k := 5) (nx := 24) rfl sh_0 rfl ?_
  refine x_st rfl ?_
  refine x_gr (ci := 10) (k := 0) (nx := 28) rfl sh_0 rfl ?_
  refine x_gi (ci := 0) (k := 0) (nx := 31) rfl sh_1 rfl ?_
  obtain ⟨M4, N5, hc, h⟩ := h
  refine x_vv (y := 31) (n := 2) (ci := 1) (nx := 34) rfl (fun _ => rfl) sh_33 rfl hc ?_
  refine x_st rfl ?_
  refine x_ret rfl ?_
  exact ⟨_, _, rfl, h⟩
theorem EX10_day {D : Nat} {Q : Option Value → mI → mJ → Prop}  {MI : mI} {ML : mJ} (h : VX10_day_0 D Q  MI ML) : ∃ v MI' ML', Q v MI' ML' ∧ mrc (D + 1) 158 [.ref 0] MI ML v MI' ML' := by
  refine x_en (n := 1) (T := TX10_day) rfl rfl ?_
  refine x_kl ?_ h
  exact ⟨Or.inr rfl, ⟨Or.inl rfl, True.intro⟩⟩
def VX10_wrong_0 (D : Nat) (Q : Option Value → mI → mJ → Prop)  (v1 : Int32) (v2 : Int32) (MI : mI) (ML : mJ) : Prop := mEx D TX10_wrong (mqS Q) (0, [some (.ref 0), some (.int v1), some (.int v2), none], [], (W0, Sh0, MI, ML))
theorem BX10_wrong_0 {D : Nat} {Q : Option Value → mI → mJ → Prop}  {v1 : Int32} {v2 : Int32} {MI : mI} {ML : mJ} 
    (h : ∃ (x3 : Int32) (M1 : mI) (N2 : mJ), mrc D 7 [.ref 1, .int v1] MI ML (some (.int x3)) M1 N2 ∧ ((x3 = nI 0 → Q (some (.int (-1 : Int32))) M1 N2) ∧ (¬ x3 = nI 0 → (v2 < (nI 1) → Q (some (.int (-1 : Int32))) M1 N2) ∧ (¬ v2 < (nI 1) → (v2 ≤ (nI 9) → ∃ (x6 : Int32) (M4 : mI) (N5 : mJ), mrc D 14 [.ref 1, .int (v1 - v1 / (nI 10) * (nI 10)), .int (v1 / (nI 10))] M1 N2 (some (.int x6)) M4 N5 ∧ (∃ (M7 : mI) (N8 : mJ), mrc D 15 [.ref 1, .int (v1 - v1 / (nI 10) * (nI 10)), .int (v1 / (nI 10)), .int (if (x6 - v2) < (-9 : Int32) then (-9 : Int32) else (x6 - v2))] M4 N5 none M7 N8 ∧ (∃ (M9 : mI) (N10 : mJ), mrc D 29 [.ref 33, .int (nI 3), .int (nI 1)] M7 N8 none M9 N10 ∧ (Q (some (.int ((if (x6 - v2) < (-9 : Int32) then (-9 : Int32) else (x6 - v2)) + (nI 100)))) M9 N10)))) ∧ (¬ v2 ≤ (nI 9) → Q (some (.int (-1 : Int32))) M1 N2))))) :
    VX10_wrong_0 D Q v1 v2 MI ML := by
  show mEx D TX10_wrong (mqS Q) (0, [some (.ref 0), some (.int v1), some (.int v2), none], [], (W0, Sh0, MI, ML))
  refine x_st rfl ?_
  refine x_gr (ci := 10) (k := 0) (nx := 4) rfl sh_0 rfl ?_
  refine x_st rfl ?_
  obtain ⟨x3, M1, N2, hc, h⟩ := h
  refine x_vi (y := 7) (n := 1) (ci := 0) (nx := 8) rfl (fun _ => rfl) sh_1 rfl hc ?_
  refine x_br rfl (fun c => ?_) (fun c => ?_)
  · replace h := h.1 c
    refine x_st rfl ?_
    refine x_ret rfl ?_
    exact ⟨_, _, rfl, h⟩
  · replace h := h.2 c
    refine x_st rfl ?_
    refine x_st rfl ?_
    refine x_br rfl (fun c => ?_) (fun c => ?_)
    · replace h := h.1 c
      refine x_st rfl ?_
      refine x_ret rfl ?_
      exact ⟨_, _, rfl, h⟩
    · replace h := h.2 c
      refine x_st rfl ?_
      refine x_st rfl ?_
      refine x_br rfl (fun c => ?_) (fun c => ?_)
      · replace h := h.1 c
        refine x_st rfl ?_
        refine x_gr (ci := 10) (k := 0) (nx := 28) rfl sh_0 rfl ?_
        refine x_st rfl ?_
        refine x_st rfl ?_
        refine x_st rfl ?_
        refine x_st rfl ?_
        refine x_st rfl ?_
        refine x_st rfl ?_
        obtain ⟨x6, M4, N5, hc, h⟩ := h
        refine x_vi (y := 14) (n := 2) (ci := 0) (nx := 39) rfl (fun _ => rfl) sh_1 rfl hc ?_
        refine x_st rfl ?_
        refine x_st rfl ?_
        refine x_st rfl ?_
        refine x_st rfl ?_
        refine x_st rfl ?_
        refine x_st rfl ?_
        refine x_gr (ci := 10) (k := 0) (nx := 51) rfl sh_0 rfl ?_
        refine x_st rfl ?_
        refine x_st rfl ?_
        refine x_st rfl ?_
        refine x_st rfl ?_
        refine x_st rfl ?_
        refine x_st rfl ?_
        refine x_st rfl ?_
        obtain ⟨M7, N8, hc, h⟩ := h
        refine x_vv (y := 15) (n := 3) (ci := 0) (nx := 63) rfl (fun _ => rfl) sh_1 rfl hc ?_
        refine x_st rfl ?_
        refine x_gr (ci := 10) (k := 6) (nx := 67) rfl sh_0 rfl ?_
        refine x_st rfl ?_
        refine x_st rfl ?_
        obtain ⟨M9, N10, hc, h⟩ := h
        refine x_vv (y := 29) (n := 2) (ci := 1) (nx := 72) rfl (fun _ => rfl) sh_33 rfl hc ?_
        refine x_st rfl ?_
        refine x_st rfl ?_
        refine x_st rfl ?_
        refine x_ret rfl ?_
        exact ⟨_, _, rfl, h⟩
      · replace h := h.2 c
        refine x_st rfl ?_
        refine x_ret rfl ?_
        exact ⟨_, _, rfl, h⟩
theorem EX10_wrong {D : Nat} {Q : Option Value → mI → mJ → Prop}  {v1 : Int32} {v2 : Int32} {MI : mI} {ML : mJ} (h : VX10_wrong_0 D Q v1 v2 MI ML) : ∃ v MI' ML', Q v MI' ML' ∧ mrc (D + 1) 159 [.ref 0, .int v1, .int v2] MI ML v MI' ML' := by
  refine x_en (n := 1) (T := TX10_wrong) rfl rfl ?_
  refine x_kl ?_ h
  exact ⟨Or.inr rfl, ⟨Or.inr rfl, ⟨Or.inr rfl, ⟨Or.inl rfl, True.intro⟩⟩⟩⟩
def VX10_lease_0 (D : Nat) (Q : Option Value → mI → mJ → Prop)  (v1 : Int32) (v2 : Int32) (MI : mI) (ML : mJ) : Prop := mEx D TX10_lease (mqS Q) (0, [some (.ref 0), some (.int v1), some (.int v2), none, none, none], [], (W0, Sh0, MI, ML))
theorem BX10_lease_0 {D : Nat} {Q : Option Value → mI → mJ → Prop}  {v1 : Int32} {v2 : Int32} {MI : mI} {ML : mJ} 
    (h : ∃ (x3 : Int32) (M1 : mI) (N2 : mJ), mrc D 7 [.ref 1, .int v1] MI ML (some (.int x3)) M1 N2 ∧ ((x3 = nI 0 → Q (some (.int (-1 : Int32))) M1 N2) ∧ (¬ x3 = nI 0 → ∃ (x6 : Int32) (M4 : mI) (N5 : mJ), mrc D 6 [.ref 1, .int v2] M1 N2 (some (.int x6)) M4 N5 ∧ ((x6 = nI 0 → Q (some (.int (-1 : Int32))) M4 N5) ∧ (¬ x6 = nI 0 → (v2 = (v1 / (nI 10)) → Q (some (.int (-1 : Int32))) M4 N5) ∧ (¬ v2 = (v1 / (nI 10)) → (v2 = (v1 - v1 / (nI 10) * (nI 10)) → Q (some (.int (-1 : Int32))) M4 N5) ∧ (¬ v2 = (v1 - v1 / (nI 10) * (nI 10)) → ∃ (x9 : Int32) (M7 : mI) (N8 : mJ), mrc D 14 [.ref 1, .int (v1 - v1 / (nI 10) * (nI 10)), .int v2] M4 N5 (some (.int x9)) M7 N8 ∧ ((x9 < nI 0 → ∃ (M10 : mI) (N11 : mJ), mrc D 15 [.ref 1, .int (v1 / (nI 10)), .int v2, .int x9] M7 N8 none M10 N11 ∧ (∃ (M12 : mI) (N13 : mJ), mrc D 15 [.ref 1, .int (v1 - v1 / (nI 10) * (nI 10)), .int v2, .int (nI 0)] M10 N11 none M12 N13 ∧ (∃ (M14 : mI) (N15 : mJ), mrc D 29 [.ref 33, .int (nI 4), .int (nI 1)] M12 N13 none M14 N15 ∧ (Q (some (.int (x9 + (nI 100)))) M14 N15)))) ∧ (¬ x9 < nI 0 → Q (some (.int (-5 : Int32))) M7 N8))))))))) :
    VX10_lease_0 D Q v1 v2 MI ML := by
  show mEx D TX10_lease (mqS Q) (0, [some (.ref 0), some (.int v1), some (.int v2), none, none, none], [], (W0, Sh0, MI, ML))
  refine x_st rfl ?_
  refine x_st rfl ?_
  refine x_st rfl ?_
  refine x_st rfl ?_
  refine x_st rfl ?_
  refine x_st rfl ?_
  refine x_st rfl ?_
  refine x_st rfl ?_
  refine x_st rfl ?_
  refine x_gr (ci := 10) (k := 0) (nx := 15) rfl sh_0 rfl ?_
  refine x_st rfl ?_
  obtain ⟨x3, M1, N2, hc, h⟩ := h
  refine x_vi (y := 7) (n := 1) (ci := 0) (nx := 19) rfl (fun _ => rfl) sh_1 rfl hc ?_
  refine x_br rfl (fun c => ?_) (fun c => ?_)
  · replace h := h.1 c
    refine x_st rfl ?_
    refine x_ret rfl ?_
    exact ⟨_, _, rfl, h⟩
  · replace h := h.2 c
    refine x_st rfl ?_
    refine x_gr (ci := 10) (k := 0) (nx := 26) rfl sh_0 rfl ?_
    refine x_st rfl ?_
    obtain ⟨x6, M4, N5, hc, h⟩ := h
    refine x_vi (y := 6) (n := 1) (ci := 0) (nx := 30) rfl (fun _ => rfl) sh_1 rfl hc ?_
    refine x_br rfl (fun c => ?_) (fun c => ?_)
    · replace h := h.1 c
      refine x_st rfl ?_
      refine x_ret rfl ?_
      exact ⟨_, _, rfl, h⟩
    · replace h := h.2 c
      refine x_st rfl ?_
      refine x_st rfl ?_
      refine x_br rfl (fun c => ?_) (fun c => ?_)
      · replace h := h.1 c
        refine x_st rfl ?_
        refine x_ret rfl ?_
        exact ⟨_, _, rfl, h⟩
      · replace h := h.2 c
        refine x_st rfl ?_
        refine x_st rfl ?_
        refine x_br rfl (fun c => ?_) (fun c => ?_)
        · replace h := h.1 c
          refine x_st rfl ?_
          refine x_ret rfl ?_
          exact ⟨_, _, rfl, h⟩
        · replace h := h.2 c
          refine x_st rfl ?_
          refine x_gr (ci := 10) (k := 0) (nx := 50) rfl sh_0 rfl ?_
          refine x_st rfl ?_
          refine x_st rfl ?_
          obtain ⟨x9, M7, N8, hc, h⟩ := h
          refine x_vi (y := 14) (n := 2) (ci := 0) (nx := 56) rfl (fun _ => rfl) sh_1 rfl hc ?_
          refine x_st rfl ?_
          refine x_st rfl ?_
          refine x_br rfl (fun c => ?_) (fun c => ?_)
          · replace h := h.1 c
            refine x_st rfl ?_
            refine x_gr (ci := 10) (k := 0) (nx := 70) rfl sh_0 rfl ?_
            refine x_st rfl ?_
            refine x_st rfl ?_
            refine x_st rfl ?_
            obtain ⟨M10, N11, hc, h⟩ := h
            refine x_vv (y := 15) (n := 3) (ci := 0) (nx := 77) rfl (fun _ => rfl) sh_1 rfl hc ?_
            refine x_st rfl ?_
            refine x_gr (ci := 10) (k := 0) (nx := 81) rfl sh_0 rfl ?_
            refine x_st rfl ?_
            refine x_st rfl ?_
            refine x_st rfl ?_
            obtain ⟨M12, N13, hc, h⟩ := h
            refine x_vv (y := 15) (n := 3) (ci := 0) (nx := 88) rfl (fun _ => rfl) sh_1 rfl hc ?_
            refine x_st rfl ?_
            refine x_gr (ci := 10) (k := 6) (nx := 92) rfl sh_0 rfl ?_
            refine x_st rfl ?_
            refine x_st rfl ?_
            obtain ⟨M14, N15, hc, h⟩ := h
            refine x_vv (y := 29) (n := 2) (ci := 1) (nx := 97) rfl (fun _ => rfl) sh_33 rfl hc ?_
            refine x_st rfl ?_
            refine x_st rfl ?_
            refine x_st rfl ?_
            refine x_ret rfl ?_
            exact ⟨_, _, rfl, h⟩
          · replace h := h.2 c
            refine x_st rfl ?_
            refine x_ret rfl ?_
            exact ⟨_, _, rfl, h⟩
theorem EX10_lease {D : Nat} {Q : Option Value → mI → mJ → Prop}  {v1 : Int32} {v2 : Int32} {MI : mI} {ML : mJ} (h : VX10_lease_0 D Q v1 v2 MI ML) : ∃ v MI' ML', Q v MI' ML' ∧ mrc (D + 1) 160 [.ref 0, .int v1, .int v2] MI ML v MI' ML' := by
  refine x_en (n := 3) (T := TX10_lease) rfl rfl ?_
  refine x_kl ?_ h
  exact ⟨Or.inr rfl, ⟨Or.inr rfl, ⟨Or.inr rfl, ⟨Or.inl rfl, ⟨Or.inl rfl, ⟨Or.inl rfl, True.intro⟩⟩⟩⟩⟩⟩
def VX10_gift_0 (D : Nat) (Q : Option Value → mI → mJ → Prop)  (v1 : Int32) (v2 : Int32) (MI : mI) (ML : mJ) : Prop := mEx D TX10_gift (mqS Q) (0, [some (.ref 0), some (.int v1), some (.int v2)], [], (W0, Sh0, MI, ML))
theorem BX10_gift_0 {D : Nat} {Q : Option Value → mI → mJ → Prop}  {v1 : Int32} {v2 : Int32} {MI : mI} {ML : mJ} 
    (h : ∃ (x3 : Int32) (M1 : mI) (N2 : mJ), mrc D 7 [.ref 1, .int v1] MI ML (some (.int x3)) M1 N2 ∧ ((x3 = nI 0 → Q (some (.int (-1 : Int32))) M1 N2) ∧ (¬ x3 = nI 0 → (v2 < (nI 1) → Q (some (.int (-1 : Int32))) M1 N2) ∧ (¬ v2 < (nI 1) → (v2 ≤ (nI 99) → ∃ (M4 : mI) (N5 : mJ), mrc D 12 [.ref 1, .int (v1 / (nI 10)), .int v2] M1 N2 none M4 N5 ∧ (∃ (M6 : mI) (N7 : mJ), mrc D 13 [.ref 1, .int (v1 - v1 / (nI 10) * (nI 10)), .int v2] M4 N5 none M6 N7 ∧ (∃ (M8 : mI) (N9 : mJ), mrc D 29 [.ref 33, .int (nI 5), .int (nI 1)] M6 N7 none M8 N9 ∧ (∃ (x12 : Int32) (M10 : mI) (N11 : mJ), mrc D 11 [.ref 1, .int (v1 / (nI 10))] M8 N9 (some (.int x12)) M10 N11 ∧ (Q (some (.int x12)) M10 N11))))) ∧ (¬ v2 ≤ (nI 99) → Q (some (.int (-1 : Int32))) M1 N2))))) :
    VX10_gift_0 D Q v1 v2 MI ML := by
  show mEx D TX10_gift (mqS Q) (0, [some (.ref 0), some (.int v1), some (.int v2)], [], (W0, Sh0, MI, ML))
  refine x_st rfl ?_
  refine x_gr (ci := 10) (k := 0) (nx := 4) rfl sh_0 rfl ?_
  refine x_st rfl ?_
  obtain ⟨x3, M1, N2, hc, h⟩ := h
  refine x_vi (y := 7) (n := 1) (ci := 0) (nx := 8) rfl (fun _ => rfl) sh_1 rfl hc ?_
  refine x_br rfl (fun c => ?_) (fun c => ?_)
  · replace h := h.1 c
    refine x_st rfl ?_
    refine x_ret rfl ?_
    exact ⟨_, _, rfl, h⟩
  · replace h := h.2 c
    refine x_st rfl ?_
    refine x_st rfl ?_
    refine x_br rfl (fun c => ?_) (fun c => ?_)
    · replace h := h.1 c
      refine x_st rfl ?_
      refine x_ret rfl ?_
      exact ⟨_, _, rfl, h⟩
    · replace h := h.2 c
      refine x_st rfl ?_
      refine x_st rfl ?_
      refine x_br rfl (fun c => ?_) (fun c => ?_)
      · replace h := h.1 c
        refine x_st rfl ?_
        refine x_gr (ci := 10) (k := 0) (nx := 28) rfl sh_0 rfl ?_
        refine x_st rfl ?_
        refine x_st rfl ?_
        refine x_st rfl ?_
        refine x_st rfl ?_
        obtain ⟨M4, N5, hc, h⟩ := h
        refine x_vv (y := 12) (n := 2) (ci := 0) (nx := 36) rfl (fun _ => rfl) sh_1 rfl hc ?_
        refine x_st rfl ?_
        refine x_gr (ci := 10) (k := 0) (nx := 40) rfl sh_0 rfl ?_
        refine x_st rfl ?_
        refine x_st rfl ?_
        refine x_st rfl ?_
        refine x_st rfl ?_
        obtain ⟨M6, N7, hc, h⟩ := h
        refine x_vv (y := 13) (n := 2) (ci := 0) (nx := 48) rfl (fun _ => rfl) sh_1 rfl hc ?_
        refine x_st rfl ?_
        refine x_gr (ci := 10) (k := 6) (nx := 52) rfl sh_0 rfl ?_
        refine x_st rfl ?_
        refine x_st rfl ?_
        obtain ⟨M8, N9, hc, h⟩ := h
        refine x_vv (y := 29) (n := 2) (ci := 1) (nx := 57) rfl (fun _ => rfl) sh_33 rfl hc ?_
        refine x_st rfl ?_
        refine x_gr (ci := 10) (k := 0) (nx := 61) rfl sh_0 rfl ?_
        refine x_st rfl ?_
        refine x_st rfl ?_
        refine x_st rfl ?_
        obtain ⟨x12, M10, N11, hc, h⟩ := h
        refine x_vi (y := 11) (n := 1) (ci := 0) (nx := 68) rfl (fun _ => rfl) sh_1 rfl hc ?_
        refine x_ret rfl ?_
        exact ⟨_, _, rfl, h⟩
      · replace h := h.2 c
        refine x_st rfl ?_
        refine x_ret rfl ?_
        exact ⟨_, _, rfl, h⟩
theorem EX10_gift {D : Nat} {Q : Option Value → mI → mJ → Prop}  {v1 : Int32} {v2 : Int32} {MI : mI} {ML : mJ} (h : VX10_gift_0 D Q v1 v2 MI ML) : ∃ v MI' ML', Q v MI' ML' ∧ mrc (D + 1) 161 [.ref 0, .int v1, .int v2] MI ML v MI' ML' := by
  refine x_en (n := 0) (T := TX10_gift) rfl rfl ?_
  refine x_kl ?_ h
  exact ⟨Or.inr rfl, ⟨Or.inr rfl, ⟨Or.inr rfl, True.intro⟩⟩⟩
def VX10_tale_0 (D : Nat) (Q : Option Value → mI → mJ → Prop)  (v1 : Int32) (MI : mI) (ML : mJ) : Prop := mEx D TX10_tale (mqS Q) (0, [some (.ref 0), some (.int v1)], [], (W0, Sh0, MI, ML))
theorem BX10_tale_0 {D : Nat} {Q : Option Value → mI → mJ → Prop}  {v1 : Int32} {MI : mI} {ML : mJ} 
    (h : ((-1 : Int32) ≤ v1 → (v1 = (-1 : Int32) → ∃ (x3 : Int32) (M1 : mI) (N2 : mJ), mrc D 33 [.ref 33] MI ML (some (.int x3)) M1 N2 ∧ (Q (some (.int x3)) M1 N2)) ∧ (¬ v1 = (-1 : Int32) → ∃ (x6 : Int32) (M4 : mI) (N5 : mJ), mrc D 34 [.ref 33, .int v1] MI ML (some (.int x6)) M4 N5 ∧ (Q (some (.int x6)) M4 N5))) ∧ (¬ (-1 : Int32) ≤ v1 → Q (some (.int (-1 : Int32))) MI ML)) :
    VX10_tale_0 D Q v1 MI ML := by
  show mEx D TX10_tale (mqS Q) (0, [some (.ref 0), some (.int v1)], [], (W0, Sh0, MI, ML))
  refine x_st rfl ?_
  refine x_st rfl ?_
  refine x_br rfl (fun c => ?_) (fun c => ?_)
  · replace h := h.1 c
    refine x_st rfl ?_
    refine x_st rfl ?_
    refine x_br rfl (fun c => ?_) (fun c => ?_)
    · replace h := h.1 c
      refine x_st rfl ?_
      refine x_gr (ci := 10) (k := 6) (nx := 16) rfl sh_0 rfl ?_
      obtain ⟨x3, M1, N2, hc, h⟩ := h
      refine x_vi (y := 33) (n := 0) (ci := 1) (nx := 19) rfl (fun _ => rfl) sh_33 rfl hc ?_
      refine x_st rfl ?_
      refine x_ret rfl ?_
      exact ⟨_, _, rfl, h⟩
    · replace h := h.2 c
      refine x_st rfl ?_
      refine x_gr (ci := 10) (k := 6) (nx := 26) rfl sh_0 rfl ?_
      refine x_st rfl ?_
      obtain ⟨x6, M4, N5, hc, h⟩ := h
      refine x_vi (y := 34) (n := 1) (ci := 1) (nx := 30) rfl (fun _ => rfl) sh_33 rfl hc ?_
      refine x_ret rfl ?_
      exact ⟨_, _, rfl, h⟩
  · replace h := h.2 c
    refine x_st rfl ?_
    refine x_ret rfl ?_
    exact ⟨_, _, rfl, h⟩
theorem EX10_tale {D : Nat} {Q : Option Value → mI → mJ → Prop}  {v1 : Int32} {MI : mI} {ML : mJ} (h : VX10_tale_0 D Q v1 MI ML) : ∃ v MI' ML', Q v MI' ML' ∧ mrc (D + 1) 162 [.ref 0, .int v1] MI ML v MI' ML' := by
  refine x_en (n := 0) (T := TX10_tale) rfl rfl ?_
  refine x_kl ?_ h
  exact ⟨Or.inr rfl, ⟨Or.inr rfl, True.intro⟩⟩
def VX10_led_0 (D : Nat) (Q : Option Value → mI → mJ → Prop)  (v1 : Int32) (MI : mI) (ML : mJ) : Prop := mEx D TX10_led (mqS Q) (0, [some (.ref 0), some (.int v1)], [], (W0, Sh0, MI, ML))
theorem BX10_led_0 {D : Nat} {Q : Option Value → mI → mJ → Prop}  {v1 : Int32} {MI : mI} {ML : mJ} 
    (h : (v1 < nI 0 → Q (some (.int (-1 : Int32))) MI ML) ∧ (¬ v1 < nI 0 → (v1 < (nI 6) → ∃ (x3 : Int32) (M1 : mI) (N2 : mJ), mrc D 30 [.ref 33, .int v1] MI ML (some (.int x3)) M1 N2 ∧ (Q (some (.int x3)) M1 N2)) ∧ (¬ v1 < (nI 6) → Q (some (.int (-1 : Int32))) MI ML))) :
    VX10_led_0 D Q v1 MI ML := by
  show mEx D TX10_led (mqS Q) (0, [some (.ref 0), some (.int v1)], [], (W0, Sh0, MI, ML))
  refine x_st rfl ?_
  refine x_br rfl (fun c => ?_) (fun c => ?_)
  · replace h := h.1 c
    refine x_st rfl ?_
    refine x_st rfl ?_
    refine x_ret rfl ?_
    exact ⟨_, _, rfl, h⟩
  · replace h := h.2 c
    refine x_st rfl ?_
    refine x_st rfl ?_
    refine x_br rfl (fun c => ?_) (fun c => ?_)
    · replace h := h.1 c
      refine x_st rfl ?_
      refine x_gr (ci := 10) (k := 6) (nx := 18) rfl sh_0 rfl ?_
      refine x_st rfl ?_
      obtain ⟨x3, M1, N2, hc, h⟩ := h
      refine x_vi (y := 30) (n := 1) (ci := 1) (nx := 22) rfl (fun _ => rfl) sh_33 rfl hc ?_
      refine x_ret rfl ?_
      exact ⟨_, _, rfl, h⟩
    · replace h := h.2 c
      refine x_st rfl ?_
      refine x_st rfl ?_
      refine x_ret rfl ?_
      exact ⟨_, _, rfl, h⟩
theorem EX10_led {D : Nat} {Q : Option Value → mI → mJ → Prop}  {v1 : Int32} {MI : mI} {ML : mJ} (h : VX10_led_0 D Q v1 MI ML) : ∃ v MI' ML', Q v MI' ML' ∧ mrc (D + 1) 163 [.ref 0, .int v1] MI ML v MI' ML' := by
  refine x_en (n := 0) (T := TX10_led) rfl rfl ?_
  refine x_kl ?_ h
  exact ⟨Or.inr rfl, ⟨Or.inr rfl, True.intro⟩⟩
def VX10_image_0 (D : Nat) (Q : Option Value → mI → mJ → Prop)  (MI : mI) (ML : mJ) : Prop := mEx D TX10_image (mqS Q) (0, [some (.ref 0)], [], (W0, Sh0, MI, ML))
theorem BX10_image_0 {D : Nat} {Q : Option Value → mI → mJ → Prop}  {MI : mI} {ML : mJ} 
    (h : ∃ (M1 : mI) (N2 : mJ), mrc D 35 [.ref 33, .ref 1] MI ML none M1 N2 ∧ (∃ (x5 : Int32) (M3 : mI) (N4 : mJ), mrc D 30 [.ref 33, .int (nI 0)] M1 N2 (some (.int x5)) M3 N4 ∧ (Q (some (.int x5)) M3 N4))) :
    VX10_image_0 D Q  MI ML := by
  show mEx D TX10_image (mqS Q) (0, [some (.ref 0)], [], (W0, Sh0, MI, ML))
  refine x_st rfl ?_
  refine x_gr (ci := 10) (k := 6) (nx := 4) rfl sh_0 rfl ?_
  refine x_st rfl ?_
  refine x_gr (ci := 10) (k := 0) (nx := 8) rfl sh_0 rfl ?_
  obtain ⟨M1, N2, hc, h⟩ := h
  refine x_vv (y := 35) (n := 1) (ci := 1) (nx := 11) rfl (fun _ => rfl) sh_33 rfl hc ?_
  refine x_st rfl ?_
  refine x_gr (ci := 10) (k := 6) (nx := 15) rfl sh_0 rfl ?_
  refine x_st rfl ?_
  obtain ⟨x5, M3, N4, hc, h⟩ := h
  refine x_vi (y := 30) (n := 1) (ci := 1) (nx := 19) rfl (fun _ => rfl) sh_33 rfl hc ?_
  refine x_ret rfl ?_
  exact ⟨_, _, rfl, h⟩
theorem EX10_image {D : Nat} {Q : Option Value → mI → mJ → Prop}  {MI : mI} {ML : mJ} (h : VX10_image_0 D Q  MI ML) : ∃ v MI' ML', Q v MI' ML' ∧ mrc (D + 1) 164 [.ref 0] MI ML v MI' ML' := by
  refine x_en (n := 0) (T := TX10_image) rfl rfl ?_
  refine x_kl ?_ h
  exact ⟨Or.inr rfl, True.intro⟩
def VX10_back_0 (D : Nat) (Q : Option Value → mI → mJ → Prop)  (MI : mI) (ML : mJ) : Prop := mEx D TX10_back (mqS Q) (0, [some (.ref 0)], [], (W0, Sh0, MI, ML))
theorem BX10_back_0 {D : Nat} {Q : Option Value → mI → mJ → Prop}  {MI : mI} {ML : mJ} 
    (h : ∃ (x3 : Int32) (M1 : mI) (N2 : mJ), mrc D 36 [.ref 33] MI ML (some (.int x3)) M1 N2 ∧ ((x3 = nI 0 → Q (some (.int (-5 : Int32))) M1 N2) ∧ (¬ x3 = nI 0 → ∃ (M4 : mI) (N5 : mJ), mrc D 37 [.ref 33, .ref 1] M1 N2 none M4 N5 ∧ (∃ (x8 : Int32) (M6 : mI) (N7 : mJ), mrc D 30 [.ref 33, .int (nI 0)] M4 N5 (some (.int x8)) M6 N7 ∧ (Q (some (.int x8)) M6 N7))))) :
    VX10_back_0 D Q  MI ML := by
  show mEx D TX10_back (mqS Q) (0, [some (.ref 0)], [], (W0, Sh0, MI, ML))
  refine x_st rfl ?_
  refine x_gr (ci := 10) (k := 6) (nx := 4) rfl sh_0 rfl ?_
  obtain ⟨x3, M1, N2, hc, h⟩ := h
  refine x_vi (y := 36) (n := 0) (ci := 1) (nx := 7) rfl (fun _ => rfl) sh_33 rfl hc ?_
  refine x_br rfl (fun c => ?_) (fun c => ?_)
  · replace h := h.1 c
    refine x_st rfl ?_
    refine x_ret rfl ?_
    exact ⟨_, _, rfl, h⟩
  · replace h := h.2 c
    refine x_st rfl ?_
    refine x_gr (ci := 10) (k := 6) (nx := 17) rfl sh_0 rfl ?_
    refine x_st rfl ?_
    refine x_gr (ci := 10) (k := 0) (nx := 21) rfl sh_0 rfl ?_
    obtain ⟨M4, N5, hc, h⟩ := h
    refine x_vv (y := 37) (n := 1) (ci := 1) (nx := 24) rfl (fun _ => rfl) sh_33 rfl hc ?_
    refine x_st rfl ?_
    refine x_gr (ci := 10) (k := 6) (nx := 28) rfl sh_0 rfl ?_
    refine x_st rfl ?_
    obtain ⟨x8, M6, N7, hc, h⟩ := h
    refine x_vi (y := 30) (n := 1) (ci := 1) (nx := 32) rfl (fun _ => rfl) sh_33 rfl hc ?_
    refine x_ret rfl ?_
    exact ⟨_, _, rfl, h⟩
theorem EX10_back {D : Nat} {Q : Option Value → mI → mJ → Prop}  {MI : mI} {ML : mJ} (h : VX10_back_0 D Q  MI ML) : ∃ v MI' ML', Q v MI' ML' ∧ mrc (D + 1) 165 [.ref 0] MI ML v MI' ML' := by
  refine x_en (n := 0) (T := TX10_back) rfl rfl ?_
  refine x_kl ?_ h
  exact ⟨Or.inr rfl, True.intro⟩
def VX10_undo_0 (D : Nat) (Q : Option Value → mI → mJ → Prop)  (MI : mI) (ML : mJ) : Prop := mEx D TX10_undo (mqS Q) (0, [some (.ref 0)], [], (W0, Sh0, MI, ML))
theorem BX10_undo_0 {D : Nat} {Q : Option Value → mI → mJ → Prop}  {MI : mI} {ML : mJ} 
    (h : ∃ (x3 : Int32) (M1 : mI) (N2 : mJ), mrc D 41 [.ref 39] MI ML (some (.int x3)) M1 N2 ∧ ((x3 = nI 0 → Q (some (.int (-5 : Int32))) M1 N2) ∧ (¬ x3 = nI 0 → ∃ (M4 : mI) (N5 : mJ), mrc D 43 [.ref 39, .ref 1] M1 N2 none M4 N5 ∧ (∃ (x8 : Int32) (M6 : mI) (N7 : mJ), mrc D 41 [.ref 39] M4 N5 (some (.int x8)) M6 N7 ∧ (Q (some (.int x8)) M6 N7))))) :
    VX10_undo_0 D Q  MI ML := by
  show mEx D TX10_undo (mqS Q) (0, [some (.ref 0)], [], (W0, Sh0, MI, ML))
  refine x_st rfl ?_
  refine x_gr (ci := 10) (k := 7) (nx := 4) rfl sh_0 rfl ?_
  obtain ⟨x3, M1, N2, hc, h⟩ := h
  refine x_vi (y := 41) (n := 0) (ci := 2) (nx := 7) rfl (fun _ => rfl) sh_39 rfl hc ?_
  refine x_br rfl (fun c => ?_) (fun c => ?_)
  · replace h := h.1 c
    refine x_st rfl ?_
    refine x_ret rfl ?_
    exact ⟨_, _, rfl, h⟩
  · replace h := h.2 c
    refine x_st rfl ?_
    refine x_gr (ci := 10) (k := 7) (nx := 17) rfl sh_0 rfl ?_
    refine x_st rfl ?_
    refine x_gr (ci := 10) (k := 0) (nx := 21) rfl sh_0 rfl ?_
    obtain ⟨M4, N5, hc, h⟩ := h
    refine x_vv (y := 43) (n := 1) (ci := 2) (nx := 24) rfl (fun _ => rfl) sh_39 rfl hc ?_
    refine x_st rfl ?_
    refine x_gr (ci := 10) (k := 7) (nx := 28) rfl sh_0 rfl ?_
    obtain ⟨x8, M6, N7, hc, h⟩ := h
    refine x_vi (y := 41) (n := 0) (ci := 2) (nx := 31) rfl (fun _ => rfl) sh_39 rfl hc ?_
    refine x_ret rfl ?_
    exact ⟨_, _, rfl, h⟩
theorem EX10_undo {D : Nat} {Q : Option Value → mI → mJ → Prop}  {MI : mI} {ML : mJ} (h : VX10_undo_0 D Q  MI ML) : ∃ v MI' ML', Q v MI' ML' ∧ mrc (D + 1) 166 [.ref 0] MI ML v MI' ML' := by
  refine x_en (n := 0) (T := TX10_undo) rfl rfl ?_
  refine x_kl ?_ h
  exact ⟨Or.inr rfl, True.intro⟩
def VX10_redo_0 (D : Nat) (Q : Option Value → mI → mJ → Prop)  (MI : mI) (ML : mJ) : Prop := mEx D TX10_redo (mqS Q) (0, [some (.ref 0)], [], (W0, Sh0, MI, ML))
theorem BX10_redo_0 {D : Nat} {Q : Option Value → mI → mJ → Prop}  {MI : mI} {ML : mJ} 
    (h : ∃ (x3 : Int32) (M1 : mI) (N2 : mJ), mrc D 42 [.ref 39] MI ML (some (.int x3)) M1 N2 ∧ ((x3 = nI 0 → Q (some (.int (-5 : Int32))) M1 N2) ∧ (¬ x3 = nI 0 → ∃ (M4 : mI) (N5 : mJ), mrc D 44 [.ref 39, .ref 1] M1 N2 none M4 N5 ∧ (∃ (x8 : Int32) (M6 : mI) (N7 : mJ), mrc D 42 [.ref 39] M4 N5 (some (.int x8)) M6 N7 ∧ (Q (some (.int x8)) M6 N7))))) :
    VX10_redo_0 D Q  MI ML := by
  show mEx D TX10_redo (mqS Q) (0, [some (.ref 0)], [], (W0, Sh0, MI, ML))
  refine x_st rfl ?_
  refine x_gr (ci := 10) (k := 7) (nx := 4) rfl sh_0 rfl ?_
  obtain ⟨x3, M1, N2, hc, h⟩ := h
  refine x_vi (y := 42) (n := 0) (ci := 2) (nx := 7) rfl (fun _ => rfl) sh_39 rfl hc ?_
  refine x_br rfl (fun c => ?_) (fun c => ?_)
  · replace h := h.1 c
    refine x_st rfl ?_
    refine x_ret rfl ?_
    exact ⟨_, _, rfl, h⟩
  · replace h := h.2 c
    refine x_st rfl ?_
    refine x_gr (ci := 10) (k := 7) (nx := 17) rfl sh_0 rfl ?_
    refine x_st rfl ?_
    refine x_gr (ci := 10) (k := 0) (nx := 21) rfl sh_0 rfl ?_
    obtain ⟨M4, N5, hc, h⟩ := h
    refine x_vv (y := 44) (n := 1) (ci := 2) (nx := 24) rfl (fun _ => rfl) sh_39 rfl hc ?_
    refine x_st rfl ?_
    refine x_gr (ci := 10) (k := 7) (nx := 28) rfl sh_0 rfl ?_
    obtain ⟨x8, M6, N7, hc, h⟩ := h
    refine x_vi (y := 42) (n := 0) (ci := 2) (nx := 31) rfl (fun _ => rfl) sh_39 rfl hc ?_
    refine x_ret rfl ?_
    exact ⟨_, _, rfl, h⟩
theorem EX10_redo {D : Nat} {Q : Option Value → mI → mJ → Prop}  {MI : mI} {ML : mJ} (h : VX10_redo_0 D Q  MI ML) : ∃ v MI' ML', Q v MI' ML' ∧ mrc (D + 1) 167 [.ref 0] MI ML v MI' ML' := by
  refine x_en (n := 0) (T := TX10_redo) rfl rfl ?_
  refine x_kl ?_ h
  exact ⟨Or.inr rfl, True.intro⟩
def VX10_body_0 (D : Nat) (Q : Option Value → mI → mJ → Prop)  (v1 : Int32) (MI : mI) (ML : mJ) : Prop := mEx D TX10_body (mqS Q) (0, [some (.ref 0), some (.int v1)], [], (W0, Sh0, MI, ML))
theorem BX10_body_0 {D : Nat} {Q : Option Value → mI → mJ → Prop}  {v1 : Int32} {MI : mI} {ML : mJ} 
    (h : ∃ (x3 : Int32) (M1 : mI) (N2 : mJ), mrc D 69 [.int v1] MI ML (some (.int x3)) M1 N2 ∧ ((x3 = nI 0 → Q (some (.int (-1 : Int32))) M1 N2) ∧ (¬ x3 = nI 0 → ∃ (x6 : Int32) (M4 : mI) (N5 : mJ), mrc D 72 [.ref 43, .int v1] M1 N2 (some (.int x6)) M4 N5 ∧ (Q (some (.int x6)) M4 N5)))) :
    VX10_body_0 D Q v1 MI ML := by
  show mEx D TX10_body (mqS Q) (0, [some (.ref 0), some (.int v1)], [], (W0, Sh0, MI, ML))
  refine x_st rfl ?_
  obtain ⟨x3, M1, N2, hc, h⟩ := h
  refine x_ci rfl hc ?_
  refine x_br rfl (fun c => ?_) (fun c => ?_)
  · replace h := h.1 c
    refine x_st rfl ?_
    refine x_ret rfl ?_
    exact ⟨_, _, rfl, h⟩
  · replace h := h.2 c
    refine x_st rfl ?_
    refine x_gr (ci := 10) (k := 8) (nx := 11) rfl sh_0 rfl ?_
    refine x_st rfl ?_
    obtain ⟨x6, M4, N5, hc, h⟩ := h
    refine x_vi (y := 72) (n := 1) (ci := 5) (nx := 15) rfl (fun _ => rfl) sh_43 rfl hc ?_
    refine x_st rfl ?_
    refine x_ret rfl ?_
    exact ⟨_, _, rfl, h⟩
theorem EX10_body {D : Nat} {Q : Option Value → mI → mJ → Prop}  {v1 : Int32} {MI : mI} {ML : mJ} (h : VX10_body_0 D Q v1 MI ML) : ∃ v MI' ML', Q v MI' ML' ∧ mrc (D + 1) 168 [.ref 0, .int v1] MI ML v MI' ML' := by
  refine x_en (n := 0) (T := TX10_body) rfl rfl ?_
  refine x_kl ?_ h
  exact ⟨Or.inr rfl, ⟨Or.inr rfl, True.intro⟩⟩
def VX10_act_0 (D : Nat) (Q : Option Value → mI → mJ → Prop)  (v1 : Int32) (v2 : Int32) (v3 : Int32) (MI : mI) (ML : mJ) : Prop := mEx D TX10_act (mqS Q) (0, [some (.ref 0), some (.int v1), some (.int v2), some (.int v3)], [], (W0, Sh0, MI, ML))
theorem BX10_act_0 {D : Nat} {Q : Option Value → mI → mJ → Prop}  {v1 : Int32} {v2 : Int32} {v3 : Int32} {MI : mI} {ML : mJ} 
    (h : ∃ (M1 : mI) (N2 : mJ), mrc D 76 [.ref 43] MI ML none M1 N2 ∧ (∃ (x5 : Int32) (M3 : mI) (N4 : mJ), mrc D 79 [.ref 43, .int v1, .int v2, .int v3] M1 N2 (some (.int x5)) M3 N4 ∧ (Q (some (.int x5)) M3 N4))) :
    VX10_act_0 D Q v1 v2 v3 MI ML := by
  show mEx D TX10_act (mqS Q) (0, [some (.ref 0), some (.int v1), some (.int v2), some (.int v3)], [], (W0, Sh0, MI, ML))
  refine x_st rfl ?_
  refine x_gr (ci := 10) (k := 8) (nx := 4) rfl sh_0 rfl ?_
  obtain ⟨M1, N2, hc, h⟩ := h
  refine x_vv (y := 76) (n := 0) (ci := 5) (nx := 7) rfl (fun _ => rfl) sh_43 rfl hc ?_
  refine x_st rfl ?_
  refine x_gr (ci := 10) (k := 8) (nx := 11) rfl sh_0 rfl ?_
  refine x_st rfl ?_
  refine x_st rfl ?_
  refine x_st rfl ?_
  obtain ⟨x5, M3, N4, hc, h⟩ := h
  refine x_vi (y := 79) (n := 3) (ci := 5) (nx := 17) rfl (fun _ => rfl) sh_43 rfl hc ?_
  refine x_ret rfl ?_
  exact ⟨_, _, rfl, h⟩
theorem EX10_act {D : Nat} {Q : Option Value → mI → mJ → Prop}  {v1 : Int32} {v2 : Int32} {v3 : Int32} {MI : mI} {ML : mJ} (h : VX10_act_0 D Q v1 v2 v3 MI ML) : ∃ v MI' ML', Q v MI' ML' ∧ mrc (D + 1) 169 [.ref 0, .int v1, .int v2, .int v3] MI ML v MI' ML' := by
  refine x_en (n := 0) (T := TX10_act) rfl rfl ?_
  refine x_kl ?_ h
  exact ⟨Or.inr rfl, ⟨Or.inr rfl, ⟨Or.inr rfl, ⟨Or.inr rfl, True.intro⟩⟩⟩⟩
def VX10_trace_0 (D : Nat) (Q : Option Value → mI → mJ → Prop)  (v1 : Int32) (MI : mI) (ML : mJ) : Prop := mEx D TX10_trace (mqS Q) (0, [some (.ref 0), some (.int v1)], [], (W0, Sh0, MI, ML))
theorem BX10_trace_0 {D : Nat} {Q : Option Value → mI → mJ → Prop}  {v1 : Int32} {MI : mI} {ML : mJ} 
    (h : ∃ (x3 : Int32) (M1 : mI) (N2 : mJ), mrc D 78 [.ref 43, .int v1] MI ML (some (.int x3)) M1 N2 ∧ (Q (some (.int x3)) M1 N2)) :
    VX10_trace_0 D Q v1 MI ML := by
  show mEx D TX10_trace (mqS Q) (0, [some (.ref 0), some (.int v1)], [], (W0, Sh0, MI, ML))
  refine x_st rfl ?_
  refine x_gr (ci := 10) (k := 8) (nx := 4) rfl sh_0 rfl ?_
  refine x_st rfl ?_
  obtain ⟨x3, M1, N2, hc, h⟩ := h
  refine x_vi (y := 78) (n := 1) (ci := 5) (nx := 8) rfl (fun _ => rfl) sh_43 rfl hc ?_
  refine x_ret rfl ?_
  exact ⟨_, _, rfl, h⟩
theorem EX10_trace {D : Nat} {Q : Option Value → mI → mJ → Prop}  {v1 : Int32} {MI : mI} {ML : mJ} (h : VX10_trace_0 D Q v1 MI ML) : ∃ v MI' ML', Q v MI' ML' ∧ mrc (D + 1) 170 [.ref 0, .int v1] MI ML v MI' ML' := by
  refine x_en (n := 0) (T := TX10_trace) rfl rfl ?_
  refine x_kl ?_ h
  exact ⟨Or.inr rfl, ⟨Or.inr rfl, True.intro⟩⟩
def VX10_keep_0 (D : Nat) (Q : Option Value → mI → mJ → Prop)  (v1 : Int32) (v2 : Int32) (MI : mI) (ML : mJ) : Prop := mEx D TX10_keep (mqS Q) (0, [some (.ref 0), some (.int v1), some (.int v2)], [], (W0, Sh0, MI, ML))
def VX10_keep_29 (D : Nat) (Q : Option Value → mI → mJ → Prop)  (v1 : Int32) (v2 : Int32) (MI : mI) (ML : mJ) : Prop := mEx D TX10_keep (mqS Q) (29, [some (.ref 0), some (.int v1), some (.int v2)], [], (W0, Sh0, MI, ML))
theorem BX10_keep_0 {D : Nat} {Q : Option Value → mI → mJ → Prop}  {v1 : Int32} {v2 : Int32} {MI : mI} {ML : mJ} 
    (h : ∃ (x3 : Int32) (M1 : mI) (N2 : mJ), mrc D 102 [.ref 10, .int v1] MI ML (some (.int x3)) M1 N2 ∧ ((x3 = nI 0 → Q (some (.int (-1 : Int32))) M1 N2) ∧ (¬ x3 = nI 0 → (v2 = (-1 : Int32) → VX10_keep_29 D Q v1 v2 M1 N2) ∧ (¬ v2 = (-1 : Int32) → ∃ (x6 : Int32) (M4 : mI) (N5 : mJ), mrc D 73 [.ref 43, .int v2] M1 N2 (some (.int x6)) M4 N5 ∧ ((x6 = nI 0 → Q (some (.int (-1 : Int32))) M4 N5) ∧ (¬ x6 = nI 0 → VX10_keep_29 D Q v1 v2 M4 N5)))))) :
    VX10_keep_0 D Q v1 v2 MI ML := by
  show mEx D TX10_keep (mqS Q) (0, [some (.ref 0), some (.int v1), some (.int v2)], [], (W0, Sh0, MI, ML))
  refine x_st rfl ?_
  refine x_gr (ci := 10) (k := 9) (nx := 4) rfl sh_0 rfl ?_
  refine x_st rfl ?_
  obtain ⟨x3, M1, N2, hc, h⟩ := h
  refine x_vi (y := 102) (n := 1) (ci := 8) (nx := 8) rfl (fun _ => rfl) sh_10 rfl hc ?_
  refine x_br rfl (fun c => ?_) (fun c => ?_)
  · replace h := h.1 c
    refine x_st rfl ?_
    refine x_ret rfl ?_
    exact ⟨_, _, rfl, h⟩
  · replace h := h.2 c
    refine x_st rfl ?_
    refine x_st rfl ?_
    refine x_br rfl (fun c => ?_) (fun c => ?_)
    · replace h := h.1 c
      refine x_kl ?_ h
      exact ⟨Or.inr rfl, ⟨Or.inr rfl, ⟨Or.inr rfl, True.intro⟩⟩⟩
    · replace h := h.2 c
      refine x_st rfl ?_
      refine x_gr (ci := 10) (k := 8) (nx := 20) rfl sh_0 rfl ?_
      refine x_st rfl ?_
      obtain ⟨x6, M4, N5, hc, h⟩ := h
      refine x_vi (y := 73) (n := 1) (ci := 5) (nx := 24) rfl (fun _ => rfl) sh_43 rfl hc ?_
      refine x_br rfl (fun c => ?_) (fun c => ?_)
      · replace h := h.1 c
        refine x_st rfl ?_
        refine x_ret rfl ?_
        exact ⟨_, _, rfl, h⟩
      · replace h := h.2 c
        refine x_kl ?_ h
        exact ⟨Or.inr rfl, ⟨Or.inr rfl, ⟨Or.inr rfl, True.intro⟩⟩⟩
theorem BX10_keep_29 {D : Nat} {Q : Option Value → mI → mJ → Prop}  {v1 : Int32} {v2 : Int32} {MI : mI} {ML : mJ} 
    (h : (v2 = (-1 : Int32) → ∃ (M1 : mI) (N2 : mJ), mrc D 113 [.ref 10, .int v1] MI ML none M1 N2 ∧ (Q (some (.int (nI 1))) M1 N2)) ∧ (¬ v2 = (-1 : Int32) → ∃ (M3 : mI) (N4 : mJ), mrc D 114 [.ref 10, .int v1, .int v2] MI ML none M3 N4 ∧ (Q (some (.int (nI 1))) M3 N4))) :
    VX10_keep_29 D Q v1 v2 MI ML := by
  show mEx D TX10_keep (mqS Q) (29, [some (.ref 0), some (.int v1), some (.int v2)], [], (W0, Sh0, MI, ML))
  refine x_st rfl ?_
  refine x_st rfl ?_
  refine x_br rfl (fun c => ?_) (fun c => ?_)
  · replace h := h.1 c
    refine x_st rfl ?_
    refine x_gr (ci := 10) (k := 9) (nx := 38) rfl sh_0 rfl ?_
    refine x_st rfl ?_
    obtain ⟨M1, N2, hc, h⟩ := h
    refine x_vv (y := 113) (n := 1) (ci := 8) (nx := 42) rfl (fun _ => rfl) sh_10 rfl hc ?_
    refine x_st rfl ?_
    refine x_st rfl ?_
    refine x_ret rfl ?_
    exact ⟨_, _, rfl, h⟩
  · replace h := h.2 c
    refine x_st rfl ?_
    refine x_gr (ci := 10) (k := 9) (nx := 49) rfl sh_0 rfl ?_
    refine x_st rfl ?_
    refine x_st rfl ?_
    obtain ⟨M3, N4, hc, h⟩ := h
    refine x_vv (y := 114) (n := 2) (ci := 8) (nx := 54) rfl (fun _ => rfl) sh_10 rfl hc ?_
    refine x_st rfl ?_
    refine x_ret rfl ?_
    exact ⟨_, _, rfl, h⟩
theorem EX10_keep {D : Nat} {Q : Option Value → mI → mJ → Prop}  {v1 : Int32} {v2 : Int32} {MI : mI} {ML : mJ} (h : VX10_keep_0 D Q v1 v2 MI ML) : ∃ v MI' ML', Q v MI' ML' ∧ mrc (D + 1) 171 [.ref 0, .int v1, .int v2] MI ML v MI' ML' := by
  refine x_en (n := 0) (T := TX10_keep) rfl rfl ?_
  refine x_kl ?_ h
  exact ⟨Or.inr rfl, ⟨Or.inr rfl, ⟨Or.inr rfl, True.intro⟩⟩⟩
def VX10_row_0 (D : Nat) (Q : Option Value → mI → mJ → Prop)  (v1 : Int32) (v2 : Int32) (v3 : Int32) (MI : mI) (ML : mJ) : Prop := mEx D TX10_row (mqS Q) (0, [some (.ref 0), some (.int v1), some (.int v2), some (.int v3)], [], (W0, Sh0, MI, ML))
theorem BX10_row_0 {D : Nat} {Q : Option Value → mI → mJ → Prop}  {v1 : Int32} {v2 : Int32} {v3 : Int32} {MI : mI} {ML : mJ} 
    (h : ∃ (x3 : Int32) (M1 : mI) (N2 : mJ), mrc D 102 [.ref 10, .int v1] MI ML (some (.int x3)) M1 N2 ∧ ((x3 = nI 0 → Q (some (.int (-1 : Int32))) M1 N2) ∧ (¬ x3 = nI 0 → ∃ (x6 : Int32) (M4 : mI) (N5 : mJ), mrc D 101 [.int v2] M1 N2 (some (.int x6)) M4 N5 ∧ ((x6 = nI 0 → Q (some (.int (-1 : Int32))) M4 N5) ∧ (¬ x6 = nI 0 → (v3 ≤ (nI 60) → (nI 0 ≤ v3 → ∃ (M7 : mI) (N8 : mJ), mrc D 115 [.ref 10, .int v1, .int v2, .int v3] M4 N5 none M7 N8 ∧ (Q (some (.int (nI 1))) M7 N8)) ∧ (¬ nI 0 ≤ v3 → Q (some (.int (-14 : Int32))) M4 N5)) ∧ (¬ v3 ≤ (nI 60) → Q (some (.int (-1 : Int32))) M4 N5)))))) :
    VX10_row_0 D Q v1 v2 v3 MI ML := by
  show mEx D TX10_row (mqS Q) (0, [some (.ref 0), some (.int v1), some (.int v2), some (.int v3)], [], (W0, Sh0, MI, ML))
  refine x_st rfl ?_
  refine x_gr (ci := 10) (k := 9) (nx := 4) rfl sh_0 rfl ?_
  refine x_st rfl ?_
  obtain ⟨x3, M1, N2, hc, h⟩ := h
  refine x_vi (y := 102) (n := 1) (ci := 8) (nx := 8) rfl (fun _ => rfl) sh_10 rfl hc ?_
  refine x_br rfl (fun c => ?_) (fun c => ?_)
  · replace h := h.1 c
    refine x_st rfl ?_
    refine x_ret rfl ?_
    exact ⟨_, _, rfl, h⟩
  · replace h := h.2 c
    refine x_st rfl ?_
    obtain ⟨x6, M4, N5, hc, h⟩ := h
    refine x_ci rfl hc ?_
    refine x_br rfl (fun c => ?_) (fun c => ?_)
    · replace h := h.1 c
      refine x_st rfl ?_
      refine x_ret rfl ?_
      exact ⟨_, _, rfl, h⟩
    · replace h := h.2 c
      refine x_st rfl ?_
      refine x_st rfl ?_
      refine x_br rfl (fun c => ?_) (fun c => ?_)
      · replace h := h.1 c
        refine x_st rfl ?_
        refine x_br rfl (fun c => ?_) (fun c => ?_)
        · replace h := h.1 c
          refine x_st rfl ?_
          refine x_gr (ci := 10) (k := 9) (nx := 37) rfl sh_0 rfl ?_
          refine x_st rfl ?_
          refine x_st rfl ?_
          refine x_st rfl ?_
          obtain ⟨M7, N8, hc, h⟩ := h
          refine x_vv (y := 115) (n := 3) (ci := 8) (nx := 43) rfl (fun _ => rfl) sh_10 rfl hc ?_
          refine x_st rfl ?_
          refine x_ret rfl ?_
          exact ⟨_, _, rfl, h⟩
        · replace h := h.2 c
          refine x_st rfl ?_
          refine x_ret rfl ?_
          exact ⟨_, _, rfl, h⟩
      · replace h := h.2 c
        refine x_st rfl ?_
        refine x_ret rfl ?_
        exact ⟨_, _, rfl, h⟩
theorem EX10_row {D : Nat} {Q : Option Value → mI → mJ → Prop}  {v1 : Int32} {v2 : Int32} {v3 : Int32} {MI : mI} {ML : mJ} (h : VX10_row_0 D Q v1 v2 v3 MI ML) : ∃ v MI' ML', Q v MI' ML' ∧ mrc (D + 1) 172 [.ref 0, .int v1, .int v2, .int v3] MI ML v MI' ML' := by
  refine x_en (n := 0) (T := TX10_row) rfl rfl ?_
  refine x_kl ?_ h
  exact ⟨Or.inr rfl, ⟨Or.inr rfl, ⟨Or.inr rfl, ⟨Or.inr rfl, True.intro⟩⟩⟩⟩
def VX10_put_0 (D : Nat) (Q : Option Value → mI → mJ → Prop)  (v1 : Int32) (v2 : Int32) (v3 : Int64) (MI : mI) (ML : mJ) : Prop := mEx D TX10_put (mqS Q) (0, [some (.ref 0), some (.int v1), some (.int v2), some (.long v3), none, none], [], (W0, Sh0, MI, ML))
theorem BX10_put_0 {D : Nat} {Q : Option Value → mI → mJ → Prop}  {v1 : Int32} {v2 : Int32} {v3 : Int64} {MI : mI} {ML : mJ} 
    (h : ∃ (x3 : Int32) (M1 : mI) (N2 : mJ), mrc D 102 [.ref 10, .int v1] MI ML (some (.int x3)) M1 N2 ∧ ((x3 = nI 0 → Q (some (.int (-1 : Int32))) M1 N2) ∧ (¬ x3 = nI 0 → ∃ (x6 : Int32) (M4 : mI) (N5 : mJ), mrc D 111 [.ref 10, .int v1, .int v2] M1 N2 (some (.int x6)) M4 N5 ∧ ((x6 = nI 0 → ∃ (M7 : mI) (N8 : mJ), mrc D 118 [.ref 10, .int v1, .int v2, .long v3] M4 N5 none M7 N8 ∧ (Q (some (.int (nI 1))) M7 N8)) ∧ (¬ x6 = nI 0 → Q (some (.int x6)) M4 N5))))) :
    VX10_put_0 D Q v1 v2 v3 MI ML := by
  show mEx D TX10_put (mqS Q) (0, [some (.ref 0), some (.int v1), some (.int v2), some (.long v3), none, none], [], (W0, Sh0, MI, ML))
  refine x_st rfl ?_
  refine x_gr (ci := 10) (k := 9) (nx := 4) rfl sh_0 rfl ?_
  refine x_st rfl ?_
  obtain ⟨x3, M1, N2, hc, h⟩ := h
  refine x_vi (y := 102) (n := 1) (ci := 8) (nx := 8) rfl (fun _ => rfl) sh_10 rfl hc ?_
  refine x_br rfl (fun c => ?_) (fun c => ?_)
  · replace h := h.1 c
    refine x_st rfl ?_
    refine x_ret rfl ?_
    exact ⟨_, _, rfl, h⟩
  · replace h := h.2 c
    refine x_st rfl ?_
    refine x_gr (ci := 10) (k := 9) (nx := 17) rfl sh_0 rfl ?_
    refine x_st rfl ?_
    refine x_st rfl ?_
    obtain ⟨x6, M4, N5, hc, h⟩ := h
    refine x_vi (y := 111) (n := 2) (ci := 8) (nx := 22) rfl (fun _ => rfl) sh_10 rfl hc ?_
    refine x_st rfl ?_
    refine x_st rfl ?_
    refine x_br rfl (fun c => ?_) (fun c => ?_)
    · replace h := h.1 c
      refine x_st rfl ?_
      refine x_gr (ci := 10) (k := 9) (nx := 36) rfl sh_0 rfl ?_
      refine x_st rfl ?_
      refine x_st rfl ?_
      refine x_st rfl ?_
      obtain ⟨M7, N8, hc, h⟩ := h
      refine x_vv (y := 118) (n := 3) (ci := 8) (nx := 42) rfl (fun _ => rfl) sh_10 rfl hc ?_
      refine x_st rfl ?_
      refine x_ret rfl ?_
      exact ⟨_, _, rfl, h⟩
    · replace h := h.2 c
      refine x_st rfl ?_
      refine x_ret rfl ?_
      exact ⟨_, _, rfl, h⟩
theorem EX10_put {D : Nat} {Q : Option Value → mI → mJ → Prop}  {v1 : Int32} {v2 : Int32} {v3 : Int64} {MI : mI} {ML : mJ} (h : VX10_put_0 D Q v1 v2 v3 MI ML) : ∃ v MI' ML', Q v MI' ML' ∧ mrc (D + 1) 173 [.ref 0, .int v1, .int v2, .long v3] MI ML v MI' ML' := by
  refine x_en (n := 1) (T := TX10_put) rfl rfl ?_
  refine x_kl ?_ h
  exact ⟨Or.inr rfl, ⟨Or.inr rfl, ⟨Or.inr rfl, ⟨Or.inr rfl, ⟨Or.inl rfl, ⟨Or.inl rfl, True.intro⟩⟩⟩⟩⟩⟩
def VX10_element_0 (D : Nat) (Q : Option Value → mI → mJ → Prop)  (v1 : Int32) (v2 : Int32) (MI : mI) (ML : mJ) : Prop := mEx D TX10_element (mqS Q) (0, [some (.ref 0), some (.int v1), some (.int v2)], [], (W0, Sh0, MI, ML))
theorem BX10_element_0 {D : Nat} {Q : Option Value → mI → mJ → Prop}  {v1 : Int32} {v2 : Int32} {MI : mI} {ML : mJ} 
    (h : ∃ (x3 : Int32) (M1 : mI) (N2 : mJ), mrc D 102 [.ref 10, .int v1] MI ML (some (.int x3)) M1 N2 ∧ ((x3 = nI 0 → Q (some (.long (-9223372036854775808 : Int64))) M1 N2) ∧ (¬ x3 = nI 0 → ∃ (x6 : Int32) (M4 : mI) (N5 : mJ), mrc D 111 [.ref 10, .int v1, .int v2] M1 N2 (some (.int x6)) M4 N5 ∧ ((x6 = nI 0 → ∃ (x9 : Int64) (M7 : mI) (N8 : mJ), mrc D 117 [.ref 10, .int v1, .int v2] M4 N5 (some (.long x9)) M7 N8 ∧ (Q (some (.long x9)) M7 N8)) ∧ (¬ x6 = nI 0 → Q (some (.long (-9223372036854775808 : Int64))) M4 N5))))) :
    VX10_element_0 D Q v1 v2 MI ML := by
  show mEx D TX10_element (mqS Q) (0, [some (.ref 0), some (.int v1), some (.int v2)], [], (W0, Sh0, MI, ML))
  refine x_st rfl ?_
  refine x_gr (ci := 10) (k := 9) (nx := 4) rfl sh_0 rfl ?_
  refine x_st rfl ?_
  obtain ⟨x3, M1, N2, hc, h⟩ := h
  refine x_vi (y := 102) (n := 1) (ci := 8) (nx := 8) rfl (fun _ => rfl) sh_10 rfl hc ?_
  refine x_br rfl (fun c => ?_) (fun c => ?_)
  · replace h := h.1 c
    refine x_st rfl ?_
    refine x_ret rfl ?_
    exact ⟨_, _, rfl, h⟩
  · replace h := h.2 c
    refine x_st rfl ?_
    refine x_gr (ci := 10) (k := 9) (nx := 15) rfl sh_0 rfl ?_
    refine x_st rfl ?_
    refine x_st rfl ?_
    obtain ⟨x6, M4, N5, hc, h⟩ := h
    refine x_vi (y := 111) (n := 2) (ci := 8) (nx := 20) rfl (fun _ => rfl) sh_10 rfl hc ?_
    refine x_br rfl (fun c => ?_) (fun c => ?_)
    · replace h := h.1 c
      refine x_st rfl ?_
      refine x_gr (ci := 10) (k := 9) (nx := 31) rfl sh_0 rfl ?_
      refine x_st rfl ?_
      refine x_st rfl ?_
      obtain ⟨x9, M7, N8, hc, h⟩ := h
      refine x_vi (y := 117) (n := 2) (ci := 8) (nx := 36) rfl (fun _ => rfl) sh_10 rfl hc ?_
      refine x_ret rfl ?_
      exact ⟨_, _, rfl, h⟩
    · replace h := h.2 c
      refine x_st rfl ?_
      refine x_ret rfl ?_
      exact ⟨_, _, rfl, h⟩
theorem EX10_element {D : Nat} {Q : Option Value → mI → mJ → Prop}  {v1 : Int32} {v2 : Int32} {MI : mI} {ML : mJ} (h : VX10_element_0 D Q v1 v2 MI ML) : ∃ v MI' ML', Q v MI' ML' ∧ mrc (D + 1) 174 [.ref 0, .int v1, .int v2] MI ML v MI' ML' := by
  refine x_en (n := 0) (T := TX10_element) rfl rfl ?_
  refine x_kl ?_ h
  exact ⟨Or.inr rfl, ⟨Or.inr rfl, ⟨Or.inr rfl, True.intro⟩⟩⟩
def VX10_shift_0 (D : Nat) (Q : Option Value → mI → mJ → Prop)  (v1 : Int32) (v2 : Int32) (v3 : Int32) (v4 : Int32) (v5 : Int32) (MI : mI) (ML : mJ) : Prop := mEx D TX10_shift (mqS Q) (0, [some (.ref 0), some (.int v1), some (.int v2), some (.int v3), some (.int v4), some (.int v5)], [], (W0, Sh0, MI, ML))
theorem BX10_shift_0 {D : Nat} {Q : Option Value → mI → mJ → Prop}  {v1 : Int32} {v2 : Int32} {v3 : Int32} {v4 : Int32} {v5 : Int32} {MI : mI} {ML : mJ} 
    (h : ∃ (x3 : Int32) (M1 : mI) (N2 : mJ), mrc D 102 [.ref 10, .int v1] MI ML (some (.int x3)) M1 N2 ∧ ((x3 = nI 0 → Q (some (.int (-1 : Int32))) M1 N2) ∧ (¬ x3 = nI 0 → ∃ (x6 : Int32) (M4 : mI) (N5 : mJ), mrc D 102 [.ref 10, .int v3] M1 N2 (some (.int x6)) M4 N5 ∧ ((x6 = nI 0 → Q (some (.int (-1 : Int32))) M4 N5) ∧ (¬ x6 = nI 0 → ∃ (x9 : Int32) (M7 : mI) (N8 : mJ), mrc D 104 [.ref 10, .int v1] M4 N5 (some (.int x9)) M7 N8 ∧ ((x9 = nI 0 → ∃ (x12 : Int32) (M10 : mI) (N11 : mJ), mrc D 104 [.ref 10, .int v3] M7 N8 (some (.int x12)) M10 N11 ∧ ((x12 = nI 0 → ∃ (x15 : Int32) (M13 : mI) (N14 : mJ), mrc D 107 [.ref 10, .int v1, .int v3] M10 N11 (some (.int x15)) M13 N14 ∧ ((x15 = nI 0 → Q (some (.int (-12 : Int32))) M13 N14) ∧ (¬ x15 = nI 0 → ∃ (x18 : Int32) (M16 : mI) (N17 : mJ), mrc D 112 [.ref 10, .int v1, .int v2, .int v5] M13 N14 (some (.int x18)) M16 N17 ∧ ((x18 = nI 0 → Q (some (.int (-13 : Int32))) M16 N17) ∧ (¬ x18 = nI 0 → ∃ (x21 : Int32) (M19 : mI) (N20 : mJ), mrc D 112 [.ref 10, .int v3, .int v4, .int v5] M16 N17 (some (.int x21)) M19 N20 ∧ ((x21 = nI 0 → Q (some (.int (-13 : Int32))) M19 N20) ∧ (¬ x21 = nI 0 → ∃ (M22 : mI) (N23 : mJ), mrc D 120 [.ref 10, .int v1, .int v2, .int v3, .int v4, .int v5] M19 N20 none M22 N23 ∧ (Q (some (.int v5)) M22 N23)))))))) ∧ (¬ x12 = nI 0 → Q (some (.int (-11 : Int32))) M10 N11))) ∧ (¬ x9 = nI 0 → Q (some (.int (-11 : Int32))) M7 N8))))))) :
    VX10_shift_0 D Q v1 v2 v3 v4 v5 MI ML := by
  show mEx D TX10_shift (mqS Q) (0, [some (.ref 0), some (.int v1), some (.int v2), some (.int v3), some (.int v4), some (.int v5)], [], (W0, Sh0, MI, ML))
  refine x_st rfl ?_
  refine x_gr (ci := 10) (k := 9) (nx := 4) rfl sh_0 rfl ?_
  refine x_st rfl ?_
  obtain ⟨x3, M1, N2, hc, h⟩ := h
  refine x_vi (y := 102) (n := 1) (ci := 8) (nx := 8) rfl (fun _ => rfl) sh_10 rfl hc ?_
  refine x_br rfl (fun c => ?_) (fun c => ?_)
  · replace h := h.1 c
    refine x_st rfl ?_
    refine x_ret rfl ?_
    exact ⟨_, _, rfl, h⟩
  · replace h := h.2 c
    refine x_st rfl ?_
    refine x_gr (ci := 10) (k := 9) (nx := 15) rfl sh_0 rfl ?_
    refine x_st rfl ?_
    obtain ⟨x6, M4, N5, hc, h⟩ := h
    refine x_vi (y := 102) (n := 1) (ci := 8) (nx := 19) rfl (fun _ => rfl) sh_10 rfl hc ?_
    refine x_br rfl (fun c => ?_) (fun c => ?_)
    · replace h := h.1 c
      refine x_st rfl ?_
      refine x_ret rfl ?_
      exact ⟨_, _, rfl, h⟩
    · replace h := h.2 c
      refine x_st rfl ?_
      refine x_gr (ci := 10) (k := 9) (nx := 28) rfl sh_0 rfl ?_
      refine x_st rfl ?_
      obtain ⟨x9, M7, N8, hc, h⟩ := h
      refine x_vi (y := 104) (n := 1) (ci := 8) (nx := 32) rfl (fun _ => rfl) sh_10 rfl hc ?_
      refine x_br rfl (fun c => ?_) (fun c => ?_)
      · replace h := h.1 c
        refine x_st rfl ?_
        refine x_gr (ci := 10) (k := 9) (nx := 39) rfl sh_0 rfl ?_
        refine x_st rfl ?_
        obtain ⟨x12, M10, N11, hc, h⟩ := h
        refine x_vi (y := 104) (n := 1) (ci := 8) (nx := 43) rfl (fun _ => rfl) sh_10 rfl hc ?_
        refine x_br rfl (fun c => ?_) (fun c => ?_)
        · replace h := h.1 c
          refine x_st rfl ?_
          refine x_gr (ci := 10) (k := 9) (nx := 53) rfl sh_0 rfl ?_
          refine x_st rfl ?_
          refine x_st rfl ?_
          obtain ⟨x15, M13, N14, hc, h⟩ := h
          refine x_vi (y := 107) (n := 2) (ci := 8) (nx := 58) rfl (fun _ => rfl) sh_10 rfl hc ?_
          refine x_br rfl (fun c => ?_) (fun c => ?_)
          · replace h := h.1 c
            refine x_st rfl ?_
            refine x_ret rfl ?_
            exact ⟨_, _, rfl, h⟩
          · replace h := h.2 c
            refine x_st rfl ?_
            refine x_gr (ci := 10) (k := 9) (nx := 68) rfl sh_0 rfl ?_
            refine x_st rfl ?_
            refine x_st rfl ?_
            refine x_st rfl ?_
            obtain ⟨x18, M16, N17, hc, h⟩ := h
            refine x_vi (y := 112) (n := 3) (ci := 8) (nx := 75) rfl (fun _ => rfl) sh_10 rfl hc ?_
            refine x_br rfl (fun c => ?_) (fun c => ?_)
            · replace h := h.1 c
              refine x_st rfl ?_
              refine x_ret rfl ?_
              exact ⟨_, _, rfl, h⟩
            · replace h := h.2 c
              refine x_st rfl ?_
              refine x_gr (ci := 10) (k := 9) (nx := 82) rfl sh_0 rfl ?_
              refine x_st rfl ?_
              refine x_st rfl ?_
              refine x_st rfl ?_
              obtain ⟨x21, M19, N20, hc, h⟩ := h
              refine x_vi (y := 112) (n := 3) (ci := 8) (nx := 90) rfl (fun _ => rfl) sh_10 rfl hc ?_
              refine x_br rfl (fun c => ?_) (fun c => ?_)
              · replace h := h.1 c
                refine x_st rfl ?_
                refine x_ret rfl ?_
                exact ⟨_, _, rfl, h⟩
              · replace h := h.2 c
                refine x_st rfl ?_
                refine x_gr (ci := 10) (k := 9) (nx := 100) rfl sh_0 rfl ?_
                refine x_st rfl ?_
                refine x_st rfl ?_
                refine x_st rfl ?_
                refine x_st rfl ?_
                refine x_st rfl ?_
                obtain ⟨M22, N23, hc, h⟩ := h
                refine x_vv (y := 120) (n := 5) (ci := 8) (nx := 110) rfl (fun _ => rfl) sh_10 rfl hc ?_
                refine x_st rfl ?_
                refine x_ret rfl ?_
                exact ⟨_, _, rfl, h⟩
        · replace h := h.2 c
          refine x_st rfl ?_
          refine x_ret rfl ?_
          exact ⟨_, _, rfl, h⟩
      · replace h := h.2 c
        refine x_st rfl ?_
        refine x_ret rfl ?_
        exact ⟨_, _, rfl, h⟩
theorem EX10_shift {D : Nat} {Q : Option Value → mI → mJ → Prop}  {v1 : Int32} {v2 : Int32} {v3 : Int32} {v4 : Int32} {v5 : Int32} {MI : mI} {ML : mJ} (h : VX10_shift_0 D Q v1 v2 v3 v4 v5 MI ML) : ∃ v MI' ML', Q v MI' ML' ∧ mrc (D + 1) 175 [.ref 0, .int v1, .int v2, .int v3, .int v4, .int v5] MI ML v MI' ML' := by
  refine x_en (n := 0) (T := TX10_shift) rfl rfl ?_
  refine x_kl ?_ h
  exact ⟨Or.inr rfl, ⟨Or.inr rfl, ⟨Or.inr rfl, ⟨Or.inr rfl, ⟨Or.inr rfl, ⟨Or.inr rfl, True.intro⟩⟩⟩⟩⟩⟩
def VX10_taken_0 (D : Nat) (Q : Option Value → mI → mJ → Prop)  (v1 : Int32) (v2 : Int32) (MI : mI) (ML : mJ) : Prop := mEx D TX10_taken (mqS Q) (0, [some (.ref 0), some (.int v1), some (.int v2), none], [], (W0, Sh0, MI, ML))
theorem BX10_taken_0 {D : Nat} {Q : Option Value → mI → mJ → Prop}  {v1 : Int32} {v2 : Int32} {MI : mI} {ML : mJ} 
    (h : ∃ (x3 : Int32) (M1 : mI) (N2 : mJ), mrc D 102 [.ref 10, .int v1] MI ML (some (.int x3)) M1 N2 ∧ ((x3 = nI 0 → Q (some (.int (-1 : Int32))) M1 N2) ∧ (¬ x3 = nI 0 → ∃ (x6 : Int32) (M4 : mI) (N5 : mJ), mrc D 69 [.int v2] M1 N2 (some (.int x6)) M4 N5 ∧ ((x6 = nI 0 → Q (some (.int (-1 : Int32))) M4 N5) ∧ (¬ x6 = nI 0 → ∃ (x9 : Int32) (M7 : mI) (N8 : mJ), mrc D 104 [.ref 10, .int v1] M4 N5 (some (.int x9)) M7 N8 ∧ ((x9 = nI 0 → ∃ (x12 : Int32) (M10 : mI) (N11 : mJ), mrc D 105 [.ref 10, .int v1] M7 N8 (some (.int x12)) M10 N11 ∧ ((x12 = nI 0 → Q (some (.int (-12 : Int32))) M10 N11) ∧ (¬ x12 = nI 0 → ∃ (x15 : Int32) (M13 : mI) (N14 : mJ), mrc D 108 [.ref 10, .int v1] M10 N11 (some (.int x15)) M13 N14 ∧ (∃ (x18 : Int32) (M16 : mI) (N17 : mJ), mrc D 75 [.ref 43, .int x15] M13 N14 (some (.int x18)) M16 N17 ∧ (∃ (x21 : Int32) (M19 : mI) (N20 : mJ), mrc D 71 [.int x18, .int v2] M16 N17 (some (.int x21)) M19 N20 ∧ ((x21 = nI 0 → Q (some (.int (-12 : Int32))) M19 N20) ∧ (¬ x21 = nI 0 → Q (some (.int x18)) M19 N20))))))) ∧ (¬ x9 = nI 0 → Q (some (.int (-11 : Int32))) M7 N8))))))) :
    VX10_taken_0 D Q v1 v2 MI ML := by
  show mEx D TX10_taken (mqS Q) (0, [some (.ref 0), some (.int v1), some (.int v2), none], [], (W0, Sh0, MI, ML))
  refine x_st rfl ?_
  refine x_gr (ci := 10) (k := 9) (nx := 4) rfl sh_0 rfl ?_
  refine x_st rfl ?_
  obtain ⟨x3, M1, N2, hc, h⟩ := h
  refine x_vi (y := 102) (n := 1) (ci := 8) (nx := 8) rfl (fun _ => rfl) sh_10 rfl hc ?_
  refine x_br rfl (fun c => ?_) (fun c => ?_)
  · replace h := h.1 c
    refine x_st rfl ?_
    refine x_ret rfl ?_
    exact ⟨_, _, rfl, h⟩
  · replace h := h.2 c
    refine x_st rfl ?_
    obtain ⟨x6, M4, N5, hc, h⟩ := h
    refine x_ci rfl hc ?_
    refine x_br rfl (fun c => ?_) (fun c => ?_)
    · replace h := h.1 c
      refine x_st rfl ?_
      refine x_ret rfl ?_
      exact ⟨_, _, rfl, h⟩
    · replace h := h.2 c
      refine x_st rfl ?_
      refine x_gr (ci := 10) (k := 9) (nx := 24) rfl sh_0 rfl ?_
      refine x_st rfl ?_
      obtain ⟨x9, M7, N8, hc, h⟩ := h
      refine x_vi (y := 104) (n := 1) (ci := 8) (nx := 28) rfl (fun _ => rfl) sh_10 rfl hc ?_
      refine x_br rfl (fun c => ?_) (fun c => ?_)
      · replace h := h.1 c
        refine x_st rfl ?_
        refine x_gr (ci := 10) (k := 9) (nx := 38) rfl sh_0 rfl ?_
        refine x_st rfl ?_
        obtain ⟨x12, M10, N11, hc, h⟩ := h
        refine x_vi (y := 105) (n := 1) (ci := 8) (nx := 42) rfl (fun _ => rfl) sh_10 rfl hc ?_
        refine x_br rfl (fun c => ?_) (fun c => ?_)
        · replace h := h.1 c
          refine x_st rfl ?_
          refine x_ret rfl ?_
          exact ⟨_, _, rfl, h⟩
        · replace h := h.2 c
          refine x_st rfl ?_
          refine x_gr (ci := 10) (k := 8) (nx := 52) rfl sh_0 rfl ?_
          refine x_st rfl ?_
          refine x_gr (ci := 10) (k := 9) (nx := 56) rfl sh_0 rfl ?_
          refine x_st rfl ?_
          obtain ⟨x15, M13, N14, hc, h⟩ := h
          refine x_vi (y := 108) (n := 1) (ci := 8) (nx := 60) rfl (fun _ => rfl) sh_10 rfl hc ?_
          obtain ⟨x18, M16, N17, hc, h⟩ := h
          refine x_vi (y := 75) (n := 1) (ci := 5) (nx := 63) rfl (fun _ => rfl) sh_43 rfl hc ?_
          refine x_st rfl ?_
          refine x_st rfl ?_
          refine x_st rfl ?_
          obtain ⟨x21, M19, N20, hc, h⟩ := h
          refine x_ci rfl hc ?_
          refine x_br rfl (fun c => ?_) (fun c => ?_)
          · replace h := h.1 c
            refine x_st rfl ?_
            refine x_ret rfl ?_
            exact ⟨_, _, rfl, h⟩
          · replace h := h.2 c
            refine x_st rfl ?_
            refine x_st rfl ?_
            refine x_ret rfl ?_
            exact ⟨_, _, rfl, h⟩
      · replace h := h.2 c
        refine x_st rfl ?_
        refine x_ret rfl ?_
        exact ⟨_, _, rfl, h⟩
theorem EX10_taken {D : Nat} {Q : Option Value → mI → mJ → Prop}  {v1 : Int32} {v2 : Int32} {MI : mI} {ML : mJ} (h : VX10_taken_0 D Q v1 v2 MI ML) : ∃ v MI' ML', Q v MI' ML' ∧ mrc (D + 1) 176 [.ref 0, .int v1, .int v2] MI ML v MI' ML' := by
  refine x_en (n := 1) (T := TX10_taken) rfl rfl ?_
  refine x_kl ?_ h
  exact ⟨Or.inr rfl, ⟨Or.inr rfl, ⟨Or.inr rfl, ⟨Or.inl rfl, True.intro⟩⟩⟩⟩
def VX10_count_0 (D : Nat) (Q : Option Value → mI → mJ → Prop)  (v1 : Int32) (MI : mI) (ML : mJ) : Prop := mEx D TX10_count (mqS Q) (0, [some (.ref 0), some (.int v1)], [], (W0, Sh0, MI, ML))
theorem BX10_count_0 {D : Nat} {Q : Option Value → mI → mJ → Prop}  {v1 : Int32} {MI : mI} {ML : mJ} 
    (h : (v1 = (nI 0) → Q (some (.int (MI 1 0))) MI ML) ∧ (¬ v1 = (nI 0) → (v1 = (nI 1) → ∃ (x15 : Int32) (M13 : mI) (N14 : mJ), mrc D 53 [.ref 3] MI ML (some (.int x15)) M13 N14 ∧ (Q (some (.int x15)) M13 N14)) ∧ (¬ v1 = (nI 1) → (v1 = (nI 2) → ∃ (x12 : Int32) (M10 : mI) (N11 : mJ), mrc D 41 [.ref 39] MI ML (some (.int x12)) M10 N11 ∧ (Q (some (.int x12)) M10 N11)) ∧ (¬ v1 = (nI 2) → (v1 = (nI 3) → ∃ (x9 : Int32) (M7 : mI) (N8 : mJ), mrc D 74 [.ref 43] MI ML (some (.int x9)) M7 N8 ∧ (Q (some (.int x9)) M7 N8)) ∧ (¬ v1 = (nI 3) → (v1 = (nI 4) → ∃ (x6 : Int32) (M4 : mI) (N5 : mJ), mrc D 77 [.ref 43] MI ML (some (.int x6)) M4 N5 ∧ (Q (some (.int x6)) M4 N5)) ∧ (¬ v1 = (nI 4) → (v1 = (nI 5) → ∃ (x3 : Int32) (M1 : mI) (N2 : mJ), mrc D 20 [.ref 1] MI ML (some (.int x3)) M1 N2 ∧ (Q (some (.int x3)) M1 N2)) ∧ (¬ v1 = (nI 5) → Q (some (.int (-1 : Int32))) MI ML))))))) :
    VX10_count_0 D Q v1 MI ML := by
  show mEx D TX10_count (mqS Q) (0, [some (.ref 0), some (.int v1)], [], (W0, Sh0, MI, ML))
  refine x_st rfl ?_
  refine x_sw rfl ?_
  refine ⟨fun c => ?_, fun c => ?_⟩
  · replace h := h.1 c
    refine x_st rfl ?_
    refine x_gr (ci := 10) (k := 0) (nx := 44) rfl sh_0 rfl ?_
    refine x_gi (ci := 0) (k := 0) (nx := 47) rfl sh_1 rfl ?_
    refine x_ret rfl ?_
    exact ⟨_, _, rfl, h⟩
  · replace h := h.2 c
    refine ⟨fun c => ?_, fun c => ?_⟩
    · replace h := h.1 c
      refine x_st rfl ?_
      refine x_gr (ci := 10) (k := 1) (nx := 52) rfl sh_0 rfl ?_
      obtain ⟨x15, M13, N14, hc, h⟩ := h
      refine x_vi (y := 53) (n := 0) (ci := 4) (nx := 55) rfl (fun _ => rfl) sh_3 rfl hc ?_
      refine x_ret rfl ?_
      exact ⟨_, _, rfl, h⟩
    · replace h := h.2 c
      refine ⟨fun c => ?_, fun c => ?_⟩
      · replace h := h.1 c
        refine x_st rfl ?_
        refine x_gr (ci := 10) (k := 7) (nx := 60) rfl sh_0 rfl ?_
        obtain ⟨x12, M10, N11, hc, h⟩ := h
        refine x_vi (y := 41) (n := 0) (ci := 2) (nx := 63) rfl (fun _ => rfl) sh_39 rfl hc ?_
        refine x_ret rfl ?_
        exact ⟨_, _, rfl, h⟩
      · replace h := h.2 c
        refine ⟨fun c => ?_, fun c => ?_⟩
        · replace h := h.1 c
          refine x_st rfl ?_
          refine x_gr (ci := 10) (k := 8) (nx := 68) rfl sh_0 rfl ?_
          obtain ⟨x9, M7, N8, hc, h⟩ := h
          refine x_vi (y := 74) (n := 0) (ci := 5) (nx := 71) rfl (fun _ => rfl) sh_43 rfl hc ?_
          refine x_ret rfl ?_
          exact ⟨_, _, rfl, h⟩
        · replace h := h.2 c
          refine ⟨fun c => ?_, fun c => ?_⟩
          · replace h := h.1 c
            refine x_st rfl ?_
            refine x_gr (ci := 10) (k := 8) (nx := 76) rfl sh_0 rfl ?_
            obtain ⟨x6, M4, N5, hc, h⟩ := h
            refine x_vi (y := 77) (n := 0) (ci := 5) (nx := 79) rfl (fun _ => rfl) sh_43 rfl hc ?_
            refine x_ret rfl ?_
            exact ⟨_, _, rfl, h⟩
          · replace h := h.2 c
            refine ⟨fun c => ?_, fun c => ?_⟩
            · replace h := h.1 c
              refine x_st rfl ?_
              refine x_gr (ci := 10) (k := 0) (nx := 84) rfl sh_0 rfl ?_
              obtain ⟨x3, M1, N2, hc, h⟩ := h
              refine x_vi (y := 20) (n := 0) (ci := 0) (nx := 87) rfl (fun _ => rfl) sh_1 rfl hc ?_
              refine x_ret rfl ?_
              exact ⟨_, _, rfl, h⟩
            · replace h := h.2 c
              refine x_st rfl ?_
              refine x_ret rfl ?_
              exact ⟨_, _, rfl, h⟩
theorem EX10_count {D : Nat} {Q : Option Value → mI → mJ → Prop}  {v1 : Int32} {MI : mI} {ML : mJ} (h : VX10_count_0 D Q v1 MI ML) : ∃ v MI' ML', Q v MI' ML' ∧ mrc (D + 1) 177 [.ref 0, .int v1] MI ML v MI' ML' := by
  refine x_en (n := 0) (T := TX10_count) rfl rfl ?_
  refine x_kl ?_ h
  exact ⟨Or.inr rfl, ⟨Or.inr rfl, True.intro⟩⟩
def VX11_within_0 (D : Nat) (Q : Option Value → mI → mJ → Prop)  (v0 : Int64) (v2 : Int64) (v4 : Int64) (MI : mI) (ML : mJ) : Prop := mEx D TX11_within (mqS Q) (0, [some (.long v0), none, some (.long v2), none, some (.long v4), none], [], (W0, Sh0, MI, ML))
theorem BX11_within_0 {D : Nat} {Q : Option Value → mI → mJ → Prop}  {v0 : Int64} {v2 : Int64} {v4 : Int64} {MI : mI} {ML : mJ} 
    (h : ((lg_cmp v0 v2) < nI 0 → Q (some (.int (nI 0))) MI ML) ∧ (¬ (lg_cmp v0 v2) < nI 0 → (nI 0 < (lg_cmp v0 v4) → Q (some (.int (nI 0))) MI ML) ∧ (¬ nI 0 < (lg_cmp v0 v4) → Q (some (.int (nI 1))) MI ML))) :
    VX11_within_0 D Q v0 v2 v4 MI ML := by
  show mEx D TX11_within (mqS Q) (0, [some (.long v0), none, some (.long v2), none, some (.long v4), none], [], (W0, Sh0, MI, ML))
  refine x_st rfl ?_
  refine x_st rfl ?_
  refine x_st rfl ?_
  refine x_br rfl (fun c => ?_) (fun c => ?_)
  · replace h := h.1 c
    refine x_st rfl ?_
    refine x_ret rfl ?_
    exact ⟨_, _, rfl, h⟩
  · replace h := h.2 c
    refine x_st rfl ?_
    refine x_st rfl ?_
    refine x_st rfl ?_
    refine x_br rfl (fun c => ?_) (fun c => ?_)
    · replace h := h.1 c
      refine x_st rfl ?_
      refine x_ret rfl ?_
      exact ⟨_, _, rfl, h⟩
    · replace h := h.2 c
      refine x_st rfl ?_
      refine x_st rfl ?_
      refine x_ret rfl ?_
      exact ⟨_, _, rfl, h⟩
theorem EX11_within {D : Nat} {Q : Option Value → mI → mJ → Prop}  {v0 : Int64} {v2 : Int64} {v4 : Int64} {MI : mI} {ML : mJ} (h : VX11_within_0 D Q v0 v2 v4 MI ML) : ∃ v MI' ML', Q v MI' ML' ∧ mrc (D + 1) 178 [.long v0, .long v2, .long v4] MI ML v MI' ML' := by
  refine x_en (n := 0) (T := TX11_within) rfl rfl ?_
  refine x_kl ?_ h
  exact ⟨Or.inr rfl, ⟨Or.inl rfl, ⟨Or.inr rfl, ⟨Or.inl rfl, ⟨Or.inr rfl, ⟨Or.inl rfl, True.intro⟩⟩⟩⟩⟩⟩
def VX11_becomes_0 (D : Nat) (Q : Option Value → mI → mJ → Prop)  (v1 : Int32) (v2 : Int32) (MI : mI) (ML : mJ) : Prop := mEx D TX11_becomes (mqS Q) (0, [some (.ref 46), some (.int v1), some (.int v2), none, none], [], (W0, Sh0, MI, ML))
def VX11_becomes_26 (D : Nat) (Q : Option Value → mI → mJ → Prop)  (v1 : Int32) (v2 : Int32) (v3 : Int32) (v4 : Int32) (MI : mI) (ML : mJ) : Prop := mEx D TX11_becomes (mqS Q) (26, [some (.ref 46), some (.int v1), some (.int v2), some (.int v3), some (.int v4)], [], (W0, Sh0, MI, ML))
def VX11_becomes_97 (D : Nat) (Q : Option Value → mI → mJ → Prop)  (v1 : Int32) (v2 : Int32) (v3 : Int32) (MI : mI) (ML : mJ) : Prop := mEx D TX11_becomes (mqS Q) (97, [some (.ref 46), some (.int v1), some (.int v2), some (.int v3), none], [], (W0, Sh0, MI, ML))
theorem BX11_becomes_0 {D : Nat} {Q : Option Value → mI → mJ → Prop}  {v1 : Int32} {v2 : Int32} {MI : mI} {ML : mJ} 
    (h : ∃ i1 : Nat, v1 = nI i1 ∧ i1 < 84 ∧ (((MI 47 i1) = v2 → Q (some (.int (MI 47 i1))) MI ML) ∧ (¬ (MI 47 i1) = v2 → ((MI 46 5) = (nI 40) → VX11_becomes_26 D Q v1 v2 (MI 47 i1) (nI 1) MI ML) ∧ (¬ (MI 46 5) = (nI 40) → VX11_becomes_97 D Q v1 v2 (MI 47 i1) MI ML)))) :
    VX11_becomes_0 D Q v1 v2 MI ML := by
  show mEx D TX11_becomes (mqS Q) (0, [some (.ref 46), some (.int v1), some (.int v2), none, none], [], (W0, Sh0, MI, ML))
  refine x_st rfl ?_
  refine x_gr (ci := 11) (k := 0) (nx := 4) rfl sh_46 rfl ?_
  refine x_st rfl ?_
  obtain ⟨i1, hx, hi, h⟩ := h
  refine x_ia (i := i1) (nx := 6) rfl sh_47 hx hi (by decide) ?_
  refine x_st rfl ?_
  refine x_st rfl ?_
  refine x_st rfl ?_
  refine x_br rfl (fun c => ?_) (fun c => ?_)
  · replace h := h.1 c
    refine x_st rfl ?_
    refine x_ret rfl ?_
    exact ⟨_, _, rfl, h⟩
  · replace h := h.2 c
    refine x_st rfl ?_
    refine x_gi (ci := 11) (k := 5) (nx := 18) rfl sh_46 rfl ?_
    refine x_st rfl ?_
    refine x_br rfl (fun c => ?_) (fun c => ?_)
    · replace h := h.1 c
      refine x_st rfl ?_
      refine x_st rfl ?_
      refine x_kl ?_ h
      exact ⟨Or.inr rfl, ⟨Or.inr rfl, ⟨Or.inr rfl, ⟨Or.inr rfl, ⟨Or.inr rfl, True.intro⟩⟩⟩⟩⟩
    · replace h := h.2 c
      refine x_kl ?_ h
      exact ⟨Or.inr rfl, ⟨Or.inr rfl, ⟨Or.inr rfl, ⟨Or.inr rfl, ⟨Or.inl rfl, True.intro⟩⟩⟩⟩⟩
theorem BX11_becomes_26 {D : Nat} {Q : Option Value → mI → mJ → Prop}  {v1 : Int32} {v2 : Int32} {v3 : Int32} {v4 : Int32} {MI : mI} {ML : mJ} 
    (h : ((nI 40) ≤ v4 → VX11_becomes_97 D Q v1 v2 v3 (mup MI 46 (mput (MI 46) 5 ((MI 46 5) - (nI 1)))) ML) ∧ (¬ (nI 40) ≤ v4 → ∃ i1 : Nat, v4 = nI i1 ∧ i1 < 40 ∧ (∃ i2 : Nat, (v4 - (nI 1)) = nI i2 ∧ i2 < 40 ∧ (∃ i3 : Nat, v4 = nI i3 ∧ i3 < 40 ∧ (∃ i4 : Nat, (v4 - (nI 1)) = nI i4 ∧ i4 < 40 ∧ (∃ i5 : Nat, v4 = nI i5 ∧ i5 < 40 ∧ (∃ i6 : Nat, (v4 - (nI 1)) = nI i6 ∧ i6 < 40 ∧ (VX11_becomes_26 D Q v1 v2 v3 (v4 + (nI 1)) (mup (mup (mup MI 48 (mput (MI 48) i2 (MI 48 i1))) 49 (mput ((mup MI 48 (mput (MI 48) i2 (MI 48 i1))) 49) i4 ((mup MI 48 (mput (MI 48) i2 (MI 48 i1))) 49 i3))) 50 (mput ((mup (mup MI 48 (mput (MI 48) i2 (MI 48 i1))) 49 (mput ((mup MI 48 (mput (MI 48) i2 (MI 48 i1))) 49) i4 ((mup MI 48 (mput (MI 48) i2 (MI 48 i1))) 49 i3))) 50) i6 ((mup (mup MI 48 (mput (MI 48) i2 (MI 48 i1))) 49 (mput ((mup MI 48 (mput (MI 48) i2 (MI 48 i1))) 49) i4 ((mup MI 48 (mput (MI 48) i2 (MI 48 i1))) 49 i3))) 50 i5))) ML)))))))) :
    VX11_becomes_26 D Q v1 v2 v3 v4 MI ML := by
  show mEx D TX11_becomes (mqS Q) (26, [some (.ref 46), some (.int v1), some (.int v2), some (.int v3), some (.int v4)], [], (W0, Sh0, MI, ML))
  refine x_st rfl ?_
  refine x_st rfl ?_
  refine x_br rfl (fun c => ?_) (fun c => ?_)
  · replace h := h.1 c
    refine x_st rfl ?_
    refine x_st rfl ?_
    refine x_gi (ci := 11) (k := 5) (nx := 92) rfl sh_46 rfl ?_
    refine x_st rfl ?_
    refine x_st rfl ?_
    refine x_pi (ci := 11) (k := 5) (nx := 97) rfl sh_46 rfl ?_
    refine x_kl ?_ h
    exact ⟨Or.inr rfl, ⟨Or.inr rfl, ⟨Or.inr rfl, ⟨Or.inr rfl, ⟨Or.inl rfl, True.intro⟩⟩⟩⟩⟩
  · replace h := h.2 c
    refine x_st rfl ?_
    refine x_gr (ci := 11) (k := 1) (nx := 37) rfl sh_46 rfl ?_
    refine x_st rfl ?_
    refine x_st rfl ?_
    refine x_st rfl ?_
    refine x_st rfl ?_
    refine x_gr (ci := 11) (k := 1) (nx := 45) rfl sh_46 rfl ?_
    refine x_st rfl ?_
    obtain ⟨i1, hx, hi, h⟩ := h
    refine x_ia (i := i1) (nx := 48) rfl sh_48 hx hi (by decide) ?_
    obtain ⟨i2, hx, hi, h⟩ := h
    refine x_iast (i := i2) (nx := 49) rfl sh_48 hx hi (by decide) ?_
    refine x_st rfl ?_
    refine x_gr (ci := 11) (k := 2) (nx := 53) rfl sh_46 rfl ?_
    refine x_st rfl ?_
    refine x_st rfl ?_
    refine x_st rfl ?_
    refine x_st rfl ?_
    refine x_gr (ci := 11) (k := 2) (nx := 61) rfl sh_46 rfl ?_
    refine x_st rfl ?_
    obtain ⟨i3, hx, hi, h⟩ := h
    refine x_ia (i := i3) (nx := 64) rfl sh_49 hx hi (by decide) ?_
    obtain ⟨i4, hx, hi, h⟩ := h
    refine x_iast (i := i4) (nx := 65) rfl sh_49 hx hi (by decide) ?_
    refine x_st rfl ?_
    refine x_gr (ci := 11) (k := 3) (nx := 69) rfl sh_46 rfl ?_
    refine x_st rfl ?_
    refine x_st rfl ?_
    refine x_st rfl ?_
    refine x_st rfl ?_
    refine x_gr (ci := 11) (k := 3) (nx := 77) rfl sh_46 rfl ?_
    refine x_st rfl ?_
    obtain ⟨i5, hx, hi, h⟩ := h
    refine x_ia (i := i5) (nx := 80) rfl sh_50 hx hi (by decide) ?_
    obtain ⟨i6, hx, hi, h⟩ := h
    refine x_iast (i := i6) (nx := 81) rfl sh_50 hx hi (by decide) ?_
    refine x_st rfl ?_
    refine x_st rfl ?_
    refine x_kl ?_ h
    exact ⟨Or.inr rfl, ⟨Or.inr rfl, ⟨Or.inr rfl, ⟨Or.inr rfl, ⟨Or.inr rfl, True.intro⟩⟩⟩⟩⟩
theorem BX11_becomes_97 {D : Nat} {Q : Option Value → mI → mJ → Prop}  {v1 : Int32} {v2 : Int32} {v3 : Int32} {MI : mI} {ML : mJ} 
    (h : ∃ i1 : Nat, (MI 46 5) = nI i1 ∧ i1 < 40 ∧ (∃ i2 : Nat, ((mup MI 48 (mput (MI 48) i1 v1)) 46 5) = nI i2 ∧ i2 < 40 ∧ (∃ i3 : Nat, ((mup (mup MI 48 (mput (MI 48) i1 v1)) 49 (mput ((mup MI 48 (mput (MI 48) i1 v1)) 49) i2 v3)) 46 5) = nI i3 ∧ i3 < 40 ∧ (∃ i4 : Nat, v1 = nI i4 ∧ i4 < 84 ∧ (Q (some (.int v3)) (mup (mup (mup (mup (mup (mup MI 48 (mput (MI 48) i1 v1)) 49 (mput ((mup MI 48 (mput (MI 48) i1 v1)) 49) i2 v3)) 50 (mput ((mup (mup MI 48 (mput (MI 48) i1 v1)) 49 (mput ((mup MI 48 (mput (MI 48) i1 v1)) 49) i2 v3)) 50) i3 v2)) 46 (mput ((mup (mup (mup MI 48 (mput (MI 48) i1 v1)) 49 (mput ((mup MI 48 (mput (MI 48) i1 v1)) 49) i2 v3)) 50 (mput ((mup (mup MI 48 (mput (MI 48) i1 v1)) 49 (mput ((mup MI 48 (mput (MI 48) i1 v1)) 49) i2 v3)) 50) i3 v2)) 46) 5 (((mup (mup (mup MI 48 (mput (MI 48) i1 v1)) 49 (mput ((mup MI 48 (mput (MI 48) i1 v1)) 49) i2 v3)) 50 (mput ((mup (mup MI 48 (mput (MI 48) i1 v1)) 49 (mput ((mup MI 48 (mput (MI 48) i1 v1)) 49) i2 v3)) 50) i3 v2)) 46 5) + (nI 1)))) 46 (mput ((mup (mup (mup (mup MI 48 (mput (MI 48) i1 v1)) 49 (mput ((mup MI 48 (mput (MI 48) i1 v1)) 49) i2 v3)) 50 (mput ((mup (mup MI 48 (mput (MI 48) i1 v1)) 49 (mput ((mup MI 48 (mput (MI 48) i1 v1)) 49) i2 v3)) 50) i3 v2)) 46 (mput ((mup (mup (mup MI 48 (mput (MI 48) i1 v1)) 49 (mput ((mup MI 48 (mput (MI 48) i1 v1)) 49) i2 v3)) 50 (mput ((mup (mup MI 48 (mput (MI 48) i1 v1)) 49 (mput ((mup MI 48 (mput (MI 48) i1 v1)) 49) i2 v3)) 50) i3 v2)) 46) 5 (((mup (mup (mup MI 48 (mput (MI 48) i1 v1)) 49 (mput ((mup MI 48 (mput (MI 48) i1 v1)) 49) i2 v3)) 50 (mput ((mup (mup MI 48 (mput (MI 48) i1 v1)) 49 (mput ((mup MI 48 (mput (MI 48) i1 v1)) 49) i2 v3)) 50) i3 v2)) 46 5) + (nI 1)))) 46) 4 ((mup (mup (mup (mup MI 48 (mput (MI 48) i1 v1)) 49 (mput ((mup MI 48 (mput (MI 48) i1 v1)) 49) i2 v3)) 50 (mput ((mup (mup MI 48 (mput (MI 48) i1 v1)) 49 (mput ((mup MI 48 (mput (MI 48) i1 v1)) 49) i2 v3)) 50) i3 v2)) 46 (mput ((mup (mup (mup MI 48 (mput (MI 48) i1 v1)) 49 (mput ((mup MI 48 (mput (MI 48) i1 v1)) 49) i2 v3)) 50 (mput ((mup (mup MI 48 (mput (MI 48) i1 v1)) 49 (mput ((mup MI 48 (mput (MI 48) i1 v1)) 49) i2 v3)) 50) i3 v2)) 46) 5 (((mup (mup (mup MI 48 (mput (MI 48) i1 v1)) 49 (mput ((mup MI 48 (mput (MI 48) i1 v1)) 49) i2 v3)) 50 (mput ((mup (mup MI 48 (mput (MI 48) i1 v1)) 49 (mput ((mup MI 48 (mput (MI 48) i1 v1)) 49) i2 v3)) 50) i3 v2)) 46 5) + (nI 1)))) 46 5))) 47 (mput ((mup (mup (mup (mup (mup MI 48 (mput (MI 48) i1 v1)) 49 (mput ((mup MI 48 (mput (MI 48) i1 v1)) 49) i2 v3)) 50 (mput ((mup (mup MI 48 (mput (MI 48) i1 v1)) 49 (mput ((mup MI 48 (mput (MI 48) i1 v1)) 49) i2 v3)) 50) i3 v2)) 46 (mput ((mup (mup (mup MI 48 (mput (MI 48) i1 v1)) 49 (mput ((mup MI 48 (mput (MI 48) i1 v1)) 49) i2 v3)) 50 (mput ((mup (mup MI 48 (mput (MI 48) i1 v1)) 49 (mput ((mup MI 48 (mput (MI 48) i1 v1)) 49) i2 v3)) 50) i3 v2)) 46) 5 (((mup (mup (mup MI 48 (mput (MI 48) i1 v1)) 49 (mput ((mup MI 48 (mput (MI 48) i1 v1)) 49) i2 v3)) 50 (mput ((mup (mup MI 48 (mput (MI 48) i1 v1)) 49 (mput ((mup MI 48 (mput (MI 48) i1 v1)) 49) i2 v3)) 50) i3 v2)) 46 5) + (nI 1)))) 46 (mput ((mup (mup (mup (mup MI 48 (mput (MI 48) i1 v1)) 49 (mput ((mup MI 48 (mput (MI 48) i1 v1)) 49) i2 v3)) 50 (mput ((mup (mup MI 48 (mput (MI 48) i1 v1)) 49 (mput ((mup MI 48 (mput (MI 48) i1 v1)) 49) i2 v3)) 50) i3 v2)) 46 (mput ((mup (mup (mup MI 48 (mput (MI 48) i1 v1)) 49 (mput ((mup MI 48 (mput (MI 48) i1 v1)) 49) i2 v3)) 50 (mput ((mup (mup MI 48 (mput (MI 48) i1 v1)) 49 (mput ((mup MI 48 (mput (MI 48) i1 v1)) 49) i2 v3)) 50) i3 v2)) 46) 5 (((mup (mup (mup MI 48 (mput (MI 48) i1 v1)) 49 (mput ((mup MI 48 (mput (MI 48) i1 v1)) 49) i2 v3)) 50 (mput ((mup (mup MI 48 (mput (MI 48) i1 v1)) 49 (mput ((mup MI 48 (mput (MI 48) i1 v1)) 49) i2 v3)) 50) i3 v2)) 46 5) + (nI 1)))) 46) 4 ((mup (mup (mup (mup MI 48 (mput (MI 48) i1 v1)) 49 (mput ((mup MI 48 (mput (MI 48) i1 v1)) 49) i2 v3)) 50 (mput ((mup (mup MI 48 (mput (MI 48) i1 v1)) 49 (mput ((mup MI 48 (mput (MI 48) i1 v1)) 49) i2 v3)) 50) i3 v2)) 46 (mput ((mup (mup (mup MI 48 (mput (MI 48) i1 v1)) 49 (mput ((mup MI 48 (mput (MI 48) i1 v1)) 49) i2 v3)) 50 (mput ((mup (mup MI 48 (mput (MI 48) i1 v1)) 49 (mput ((mup MI 48 (mput (MI 48) i1 v1)) 49) i2 v3)) 50) i3 v2)) 46) 5 (((mup (mup (mup MI 48 (mput (MI 48) i1 v1)) 49 (mput ((mup MI 48 (mput (MI 48) i1 v1)) 49) i2 v3)) 50 (mput ((mup (mup MI 48 (mput (MI 48) i1 v1)) 49 (mput ((mup MI 48 (mput (MI 48) i1 v1)) 49) i2 v3)) 50) i3 v2)) 46 5) + (nI 1)))) 46 5))) 47) i4 v2)) ML))))) :
    VX11_becomes_97 D Q v1 v2 v3 MI ML := by
  show mEx D TX11_becomes (mqS Q) (97, [some (.ref 46), some (.int v1), some (.int v2), some (.int v3), none], [], (W0, Sh0, MI, ML))
  refine x_st rfl ?_
  refine x_gr (ci := 11) (k := 1) (nx := 101) rfl sh_46 rfl ?_
  refine x_st rfl ?_
  refine x_gi (ci := 11) (k := 5) (nx := 105) rfl sh_46 rfl ?_
  refine x_st rfl ?_
  obtain ⟨i1, hx, hi, h⟩ := h
  refine x_iast (i := i1) (nx := 107) rfl sh_48 hx hi (by decide) ?_
  refine x_st rfl ?_
  refine x_gr (ci := 11) (k := 2) (nx := 111) rfl sh_46 rfl ?_
  refine x_st rfl ?_
  refine x_gi (ci := 11) (k := 5) (nx := 115) rfl sh_46 rfl ?_
  refine x_st rfl ?_
  obtain ⟨i2, hx, hi, h⟩ := h
  refine x_iast (i := i2) (nx := 117) rfl sh_49 hx hi (by decide) ?_
  refine x_st rfl ?_
  refine x_gr (ci := 11) (k := 3) (nx := 121) rfl sh_46 rfl ?_
  refine x_st rfl ?_
  refine x_gi (ci := 11) (k := 5) (nx := 125) rfl sh_46 rfl ?_
  refine x_st rfl ?_
  obtain ⟨i3, hx, hi, h⟩ := h
  refine x_iast (i := i3) (nx := 127) rfl sh_50 hx hi (by decide) ?_
  refine x_st rfl ?_
  refine x_st rfl ?_
  refine x_gi (ci := 11) (k := 5) (nx := 132) rfl sh_46 rfl ?_
  refine x_st rfl ?_
  refine x_st rfl ?_
  refine x_pi (ci := 11) (k := 5) (nx := 137) rfl sh_46 rfl ?_
  refine x_st rfl ?_
  refine x_st rfl ?_
  refine x_gi (ci := 11) (k := 5) (nx := 142) rfl sh_46 rfl ?_
  refine x_pi (ci := 11) (k := 4) (nx := 145) rfl sh_46 rfl ?_
  refine x_st rfl ?_
  refine x_gr (ci := 11) (k := 0) (nx := 149) rfl sh_46 rfl ?_
  refine x_st rfl ?_
  refine x_st rfl ?_
  obtain ⟨i4, hx, hi, h⟩ := h
  refine x_iast (i := i4) (nx := 152) rfl sh_47 hx hi (by decide) ?_
  refine x_st rfl ?_
  refine x_ret rfl ?_
  exact ⟨_, _, rfl, h⟩
theorem EX11_becomes {D : Nat} {Q : Option Value → mI → mJ → Prop}  {v1 : Int32} {v2 : Int32} {MI : mI} {ML : mJ} (h : VX11_becomes_0 D Q v1 v2 MI ML) : ∃ v MI' ML', Q v MI' ML' ∧ mrc (D + 1) 180 [.ref 46, .int v1, .int v2] MI ML v MI' ML' := by
  refine x_en (n := 2) (T := TX11_becomes) rfl rfl ?_
  refine x_kl ?_ h
  exact ⟨Or.inr rfl, ⟨Or.inr rfl, ⟨Or.inr rfl, ⟨Or.inl rfl, ⟨Or.inl rfl, True.intro⟩⟩⟩⟩⟩
