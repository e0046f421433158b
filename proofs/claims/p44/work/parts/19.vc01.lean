/-! bodies by blocks -/
def VX3_held_0 (D : Nat) (Q : Option Value → mI → mJ → Prop)  (v0 : Int32) (MI : mI) (ML : mJ) : Prop := mEx (mrn D) TX3_held (mqS Q) (0, [some (.int v0)], [], (W0, Sh0, MI, ML))
theorem BX3_held_0 {D : Nat} {Q : Option Value → mI → mJ → Prop}  {v0 : Int32} {MI : mI} {ML : mJ} 
    (h : (nI 0 ≤ v0 → (v0 ≤ (nI 50) → Q (some (.int v0)) MI ML) ∧ (¬ v0 ≤ (nI 50) → Q (some (.int (nI 50))) MI ML)) ∧ (¬ nI 0 ≤ v0 → Q (some (.int (nI 0))) MI ML)) :
    VX3_held_0 D Q v0 MI ML := by
  show mEx (mrn D) TX3_held (mqS Q) (0, [some (.int v0)], [], (W0, Sh0, MI, ML))
  refine x_st rfl ?_
  refine x_br rfl (fun c => ?_) (fun c => ?_)
  · replace h := h.1 c
    refine x_st rfl ?_
    refine x_st rfl ?_
    refine x_br rfl (fun c => ?_) (fun c => ?_)
    · replace h := h.1 c
      refine x_st rfl ?_
      refine x_ret rfl ?_
      exact ⟨_, _, rfl, h⟩
    · replace h := h.2 c
      refine x_st rfl ?_
      refine x_st rfl ?_
      refine x_ret rfl ?_
      exact ⟨_, _, rfl, h⟩
  · replace h := h.2 c
    refine x_st rfl ?_
    refine x_st rfl ?_
    refine x_ret rfl ?_
    exact ⟨_, _, rfl, h⟩
theorem EX3_held {D : Nat} {Q : Option Value → mI → mJ → Prop}  {v0 : Int32} {MI : mI} {ML : mJ} (h : VX3_held_0 D Q v0 MI ML) : ∃ v MI' ML', Q v MI' ML' ∧ mrc (D + 1) 49 [.int v0] MI ML v MI' ML' := by
  refine x_en (n := 0) (T := TX3_held) rfl rfl ?_
  refine x_kl ?_ h
  exact ⟨Or.inr rfl, True.intro⟩
def VX3_joined_0 (D : Nat) (Q : Option Value → mI → mJ → Prop)  (v0 : Int32) (v1 : Int32) (v2 : Int32) (MI : mI) (ML : mJ) : Prop := mEx (mrn D) TX3_joined (mqS Q) (0, [some (.int v0), some (.int v1), some (.int v2)], [], (W0, Sh0, MI, ML))
theorem BX3_joined_0 {D : Nat} {Q : Option Value → mI → mJ → Prop}  {v0 : Int32} {v1 : Int32} {v2 : Int32} {MI : mI} {ML : mJ} 
    (h : (v0 = (nI 37) → (v2 = nI 0 → Q (some (.int (nI 0))) MI ML) ∧ (¬ v2 = nI 0 → ¬ v2 = nI 0 ∧ (Q (some (.int (v1 - v1 / v2 * v2))) MI ML))) ∧ (¬ v0 = (nI 37) → (v0 = (nI 38) → (v1 = nI 0 → Q (some (.int (nI 0))) MI ML) ∧ (¬ v1 = nI 0 → (v2 = nI 0 → Q (some (.int (nI 0))) MI ML) ∧ (¬ v2 = nI 0 → Q (some (.int (nI 1))) MI ML))) ∧ (¬ v0 = (nI 38) → (v0 = (nI 42) → Q (some (.int (v1 * v2))) MI ML) ∧ (¬ v0 = (nI 42) → (v0 = (nI 43) → Q (some (.int (v1 + v2))) MI ML) ∧ (¬ v0 = (nI 43) → (v0 = (nI 45) → Q (some (.int (v1 - v2))) MI ML) ∧ (¬ v0 = (nI 45) → (v0 = (nI 47) → (v2 = nI 0 → Q (some (.int (nI 0))) MI ML) ∧ (¬ v2 = nI 0 → ¬ v2 = nI 0 ∧ (Q (some (.int (v1 / v2))) MI ML))) ∧ (¬ v0 = (nI 47) → (v0 = (nI 60) → (v2 ≤ v1 → Q (some (.int (nI 0))) MI ML) ∧ (¬ v2 ≤ v1 → Q (some (.int (nI 1))) MI ML)) ∧ (¬ v0 = (nI 60) → (v0 = (nI 61) → (v1 = v2 → Q (some (.int (nI 1))) MI ML) ∧ (¬ v1 = v2 → Q (some (.int (nI 0))) MI ML)) ∧ (¬ v0 = (nI 61) → (v0 = (nI 62) → (v1 ≤ v2 → Q (some (.int (nI 0))) MI ML) ∧ (¬ v1 ≤ v2 → Q (some (.int (nI 1))) MI ML)) ∧ (¬ v0 = (nI 62) → (v0 = (nI 124) → (v1 = nI 0 → (v2 = nI 0 → Q (some (.int (nI 0))) MI ML) ∧ (¬ v2 = nI 0 → Q (some (.int (nI 1))) MI ML)) ∧ (¬ v1 = nI 0 → Q (some (.int (nI 1))) MI ML)) ∧ (¬ v0 = (nI 124) → Q (some (.int (nI 0))) MI ML))))))))))) :
    VX3_joined_0 D Q v0 v1 v2 MI ML := by
  show mEx (mrn D) TX3_joined (mqS Q) (0, [some (.int v0), some (.int v1), some (.int v2)], [], (W0, Sh0, MI, ML))
  refine x_st rfl ?_
  refine x_sw rfl ?_
  refine ⟨fun c => ?_, fun c => ?_⟩
  · replace h := h.1 c
    refine x_st rfl ?_
    refine x_br rfl (fun c => ?_) (fun c => ?_)
    · replace h := h.1 c
      refine x_st rfl ?_
      refine x_st rfl ?_
      refine x_ret rfl ?_
      exact ⟨_, _, rfl, h⟩
    · replace h := h.2 c
      refine x_st rfl ?_
      refine x_st rfl ?_
      refine x_ck rfl h.1 ?_
      have h := h.2
      refine x_ret rfl ?_
      exact ⟨_, _, rfl, h⟩
  · replace h := h.2 c
    refine ⟨fun c => ?_, fun c => ?_⟩
    · replace h := h.1 c
      refine x_st rfl ?_
      refine x_br rfl (fun c => ?_) (fun c => ?_)
      · replace h := h.1 c
        refine x_st rfl ?_
        refine x_ret rfl ?_
        exact ⟨_, _, rfl, h⟩
      · replace h := h.2 c
        refine x_st rfl ?_
        refine x_br rfl (fun c => ?_) (fun c => ?_)
        · replace h := h.1 c
          refine x_st rfl ?_
          refine x_ret rfl ?_
          exact ⟨_, _, rfl, h⟩
        · replace h := h.2 c
          refine x_st rfl ?_
          refine x_st rfl ?_
          refine x_ret rfl ?_
          exact ⟨_, _, rfl, h⟩
    · replace h := h.2 c
      refine ⟨fun c => ?_, fun c => ?_⟩
      · replace h := h.1 c
        refine x_st rfl ?_
        refine x_st rfl ?_
        refine x_st rfl ?_
        refine x_ret rfl ?_
        exact ⟨_, _, rfl, h⟩
      · replace h := h.2 c
        refine ⟨fun c => ?_, fun c => ?_⟩
        · replace h := h.1 c
          refine x_st rfl ?_
          refine x_st rfl ?_
          refine x_st rfl ?_
          refine x_ret rfl ?_
          exact ⟨_, _, rfl, h⟩
        · replace h := h.2 c
          refine ⟨fun c => ?_, fun c => ?_⟩
          · replace h := h.1 c
            refine x_st rfl ?_
            refine x_st rfl ?_
            refine x_st rfl ?_
            refine x_ret rfl ?_
            exact ⟨_, _, rfl, h⟩
          · replace h := h.2 c
            refine ⟨fun c => ?_, fun c => ?_⟩
            · replace h := h.1 c
              refine x_st rfl ?_
              refine x_br rfl (fun c => ?_) (fun c => ?_)
              · replace h := h.1 c
                refine x_st rfl ?_
                refine x_st rfl ?_
                refine x_ret rfl ?_
                exact ⟨_, _, rfl, h⟩
              · replace h := h.2 c
                refine x_st rfl ?_
                refine x_st rfl ?_
                refine x_ck rfl h.1 ?_
                have h := h.2
                refine x_ret rfl ?_
                exact ⟨_, _, rfl, h⟩
            · replace h := h.2 c
              refine ⟨fun c => ?_, fun c => ?_⟩
              · replace h := h.1 c
                refine x_st rfl ?_
                refine x_st rfl ?_
                refine x_br rfl (fun c => ?_) (fun c => ?_)
                · replace h := h.1 c
                  refine x_st rfl ?_
                  refine x_ret rfl ?_
                  exact ⟨_, _, rfl, h⟩
                · replace h := h.2 c
                  refine x_st rfl ?_
                  refine x_st rfl ?_
                  refine x_ret rfl ?_
                  exact ⟨_, _, rfl, h⟩
              · replace h := h.2 c
                refine ⟨fun c => ?_, fun c => ?_⟩
                · replace h := h.1 c
                  refine x_st rfl ?_
                  refine x_st rfl ?_
                  refine x_br rfl (fun c => ?_) (fun c => ?_)
                  · replace h := h.1 c
                    refine x_st rfl ?_
                    refine x_st rfl ?_
                    refine x_ret rfl ?_
                    exact ⟨_, _, rfl, h⟩
                  · replace h := h.2 c
                    refine x_st rfl ?_
                    refine x_ret rfl ?_
                    exact ⟨_, _, rfl, h⟩
                · replace h := h.2 c
                  refine ⟨fun c => ?_, fun c => ?_⟩
                  · replace h := h.1 c
                    refine x_st rfl ?_
                    refine x_st rfl ?_
                    refine x_br rfl (fun c => ?_) (fun c => ?_)
                    · replace h := h.1 c
                      refine x_st rfl ?_
                      refine x_ret rfl ?_
                      exact ⟨_, _, rfl, h⟩
                    · replace h := h.2 c
                      refine x_st rfl ?_
                      refine x_st rfl ?_
                      refine x_ret rfl ?_
                      exact ⟨_, _, rfl, h⟩
                  · replace h := h.2 c
                    refine ⟨fun c => ?_, fun c => ?_⟩
                    · replace h := h.1 c
                      refine x_st rfl ?_
                      refine x_br rfl (fun c => ?_) (fun c => ?_)
                      · replace h := h.1 c
                        refine x_st rfl ?_
                        refine x_br rfl (fun c => ?_) (fun c => ?_)
                        · replace h := h.1 c
                          refine x_st rfl ?_
                          refine x_ret rfl ?_
                          exact ⟨_, _, rfl, h⟩
                        · replace h := h.2 c
                          refine x_st rfl ?_
                          refine x_st rfl ?_
                          refine x_ret rfl ?_
                          exact ⟨_, _, rfl, h⟩
                      · replace h := h.2 c
                        refine x_st rfl ?_
                        refine x_st rfl ?_
                        refine x_ret rfl ?_
                        exact ⟨_, _, rfl, h⟩
                    · replace h := h.2 c
                      refine x_st rfl ?_
                      refine x_ret rfl ?_
                      exact ⟨_, _, rfl, h⟩
theorem EX3_joined {D : Nat} {Q : Option Value → mI → mJ → Prop}  {v0 : Int32} {v1 : Int32} {v2 : Int32} {MI : mI} {ML : mJ} (h : VX3_joined_0 D Q v0 v1 v2 MI ML) : ∃ v MI' ML', Q v MI' ML' ∧ mrc (D + 1) 50 [.int v0, .int v1, .int v2] MI ML v MI' ML' := by
  refine x_en (n := 0) (T := TX3_joined) rfl rfl ?_
  refine x_kl ?_ h
  exact ⟨Or.inr rfl, ⟨Or.inr rfl, ⟨Or.inr rfl, True.intro⟩⟩⟩
def VX4_take_0 (D : Nat) (Q : Option Value → mI → mJ → Prop)  (v1 : Int32) (MI : mI) (ML : mJ) : Prop := mEx (mrn D) TX4_take (mqS Q) (0, [some (.ref 3), some (.int v1)], [], (W0, Sh0, MI, ML))
theorem BX4_take_0 {D : Nat} {Q : Option Value → mI → mJ → Prop}  {v1 : Int32} {MI : mI} {ML : mJ} 
    (h : ((MI 3 3) < (nI 160) → ∃ i1 : Nat, (MI 3 3) = nI i1 ∧ i1 < 160 ∧ (Q (some (.int ((mup (mup MI 5 (mput (MI 5) i1 v1)) 3 (mput ((mup MI 5 (mput (MI 5) i1 v1)) 3) 3 (((mup MI 5 (mput (MI 5) i1 v1)) 3 3) + (nI 1)))) 3 3))) (mup (mup MI 5 (mput (MI 5) i1 v1)) 3 (mput ((mup MI 5 (mput (MI 5) i1 v1)) 3) 3 (((mup MI 5 (mput (MI 5) i1 v1)) 3 3) + (nI 1)))) ML)) ∧ (¬ (MI 3 3) < (nI 160) → Q (some (.int (-3 : Int32))) MI ML)) :
    VX4_take_0 D Q v1 MI ML := by
  show mEx (mrn D) TX4_take (mqS Q) (0, [some (.ref 3), some (.int v1)], [], (W0, Sh0, MI, ML))
  refine x_st rfl ?_
  refine x_gi (ci := 4) (k := 3) (nx := 4) rfl sh_3 rfl ?_
  refine x_st rfl ?_
  refine x_br rfl (fun c => ?_) (fun c => ?_)
  · replace h := h.1 c
    refine x_st rfl ?_
    refine x_gr (ci := 4) (k := 2) (nx := 17) rfl sh_3 rfl ?_
    refine x_st rfl ?_
    refine x_gi (ci := 4) (k := 3) (nx := 21) rfl sh_3 rfl ?_
    refine x_st rfl ?_
    obtain ⟨i1, hx, hi, h⟩ := h
    refine x_iast (i := i1) (nx := 23) rfl sh_5 hx hi (by decide) ?_
    refine x_st rfl ?_
    refine x_st rfl ?_
    refine x_gi (ci := 4) (k := 3) (nx := 28) rfl sh_3 rfl ?_
    refine x_st rfl ?_
    refine x_st rfl ?_
    refine x_pi (ci := 4) (k := 3) (nx := 33) rfl sh_3 rfl ?_
    refine x_st rfl ?_
    refine x_gi (ci := 4) (k := 3) (nx := 37) rfl sh_3 rfl ?_
    refine x_ret rfl ?_
    exact ⟨_, _, rfl, h⟩
  · replace h := h.2 c
    refine x_st rfl ?_
    refine x_ret rfl ?_
    exact ⟨_, _, rfl, h⟩
theorem EX4_take {D : Nat} {Q : Option Value → mI → mJ → Prop}  {v1 : Int32} {MI : mI} {ML : mJ} (h : VX4_take_0 D Q v1 MI ML) : ∃ v MI' ML', Q v MI' ML' ∧ mrc (D + 1) 52 [.ref 3, .int v1] MI ML v MI' ML' := by
  refine x_en (n := 0) (T := TX4_take) rfl rfl ?_
  refine x_kl ?_ h
  exact ⟨Or.inr rfl, ⟨Or.inr rfl, True.intro⟩⟩
def VX4_length_0 (D : Nat) (Q : Option Value → mI → mJ → Prop)  (MI : mI) (ML : mJ) : Prop := mEx (mrn D) TX4_length (mqS Q) (0, [some (.ref 3)], [], (W0, Sh0, MI, ML))
theorem BX4_length_0 {D : Nat} {Q : Option Value → mI → mJ → Prop}  {MI : mI} {ML : mJ} 
    (h : Q (some (.int (MI 3 3))) MI ML) :
    VX4_length_0 D Q  MI ML := by
  show mEx (mrn D) TX4_length (mqS Q) (0, [some (.ref 3)], [], (W0, Sh0, MI, ML))
  refine x_st rfl ?_
  refine x_gi (ci := 4) (k := 3) (nx := 4) rfl sh_3 rfl ?_
  refine x_ret rfl ?_
  exact ⟨_, _, rfl, h⟩
theorem EX4_length {D : Nat} {Q : Option Value → mI → mJ → Prop}  {MI : mI} {ML : mJ} (h : VX4_length_0 D Q  MI ML) : ∃ v MI' ML', Q v MI' ML' ∧ mrc (D + 1) 53 [.ref 3] MI ML v MI' ML' := by
  refine x_en (n := 0) (T := TX4_length) rfl rfl ?_
  refine x_kl ?_ h
  exact ⟨Or.inr rfl, True.intro⟩
def VX4_clear_0 (D : Nat) (Q : Option Value → mI → mJ → Prop)  (MI : mI) (ML : mJ) : Prop := mEx (mrn D) TX4_clear (mqS Q) (0, [some (.ref 3)], [], (W0, Sh0, MI, ML))
theorem BX4_clear_0 {D : Nat} {Q : Option Value → mI → mJ → Prop}  {MI : mI} {ML : mJ} 
    (h : Q none (mup MI 3 (mput (MI 3) 3 (nI 0))) ML) :
    VX4_clear_0 D Q  MI ML := by
  show mEx (mrn D) TX4_clear (mqS Q) (0, [some (.ref 3)], [], (W0, Sh0, MI, ML))
  refine x_st rfl ?_
  refine x_st rfl ?_
  refine x_pi (ci := 4) (k := 3) (nx := 5) rfl sh_3 rfl ?_
  refine x_ret rfl ?_
  exact ⟨_, _, rfl, h⟩
theorem EX4_clear {D : Nat} {Q : Option Value → mI → mJ → Prop}  {MI : mI} {ML : mJ} (h : VX4_clear_0 D Q  MI ML) : ∃ v MI' ML', Q v MI' ML' ∧ mrc (D + 1) 54 [.ref 3] MI ML v MI' ML' := by
  refine x_en (n := 0) (T := TX4_clear) rfl rfl ?_
  refine x_kl ?_ h
  exact ⟨Or.inr rfl, True.intro⟩
def VX4_read_0 (D : Nat) (Q : Option Value → mI → mJ → Prop)  (MI : mI) (ML : mJ) : Prop := mEx (mrn D) TX4_read (mqS Q) (0, [some (.ref 3), none], [], (W0, Sh0, MI, ML))
def VX4_read_12 (D : Nat) (Q : Option Value → mI → mJ → Prop)  (v1 : Int32) (MI : mI) (ML : mJ) : Prop := mEx (mrn D) TX4_read (mqS Q) (12, [some (.ref 3), some (.int v1)], [], (W0, Sh0, MI, ML))
theorem BX4_read_0 {D : Nat} {Q : Option Value → mI → mJ → Prop}  {MI : mI} {ML : mJ} 
    (h : VX4_read_12 D Q (nI 0) (mup (mup MI 3 (mput (MI 3) 4 (nI 0))) 3 (mput ((mup MI 3 (mput (MI 3) 4 (nI 0))) 3) 1 (nI 0))) ML) :
    VX4_read_0 D Q  MI ML := by
  show mEx (mrn D) TX4_read (mqS Q) (0, [some (.ref 3), none], [], (W0, Sh0, MI, ML))
  refine x_st rfl ?_
  refine x_st rfl ?_
  refine x_pi (ci := 4) (k := 4) (nx := 5) rfl sh_3 rfl ?_
  refine x_st rfl ?_
  refine x_st rfl ?_
  refine x_pi (ci := 4) (k := 1) (nx := 10) rfl sh_3 rfl ?_
  refine x_st rfl ?_
  refine x_st rfl ?_
  refine x_kl ?_ h
  exact ⟨Or.inr rfl, ⟨Or.inr rfl, True.intro⟩⟩
theorem BX4_read_12 {D : Nat} {Q : Option Value → mI → mJ → Prop}  {v1 : Int32} {MI : mI} {ML : mJ} 
    (h : ((nI 160) < v1 → Q (some (.int (MI 3 4))) MI ML) ∧ (¬ (nI 160) < v1 → ∃ (x3 : Int32) (M1 : mI) (N2 : mJ), mrc D 56 [.ref 3] MI ML (some (.int x3)) M1 N2 ∧ ((x3 = nI 0 → Q (some (.int (M1 3 4))) M1 N2) ∧ (¬ x3 = nI 0 → ∃ (x6 : Int32) (M4 : mI) (N5 : mJ), mrc D 66 [.ref 3] M1 N2 (some (.int x6)) M4 N5 ∧ ((x6 = (nI 59) → VX4_read_12 D Q (v1 + (nI 1)) (mup M4 3 (mput (M4 3) 4 ((M4 3 4) + (nI 1)))) N5) ∧ (¬ x6 = (nI 59) → ∃ (x9 : Int32) (M7 : mI) (N8 : mJ), mrc D 66 [.ref 3] M4 N5 (some (.int x9)) M7 N8 ∧ ((x9 = (-1 : Int32) → Q (some (.int (-1 : Int32))) M7 N8) ∧ (¬ x9 = (-1 : Int32) → Q (some (.int (M7 3 4))) M7 N8)))))))) :
    VX4_read_12 D Q v1 MI ML := by
  show mEx (mrn D) TX4_read (mqS Q) (12, [some (.ref 3), some (.int v1)], [], (W0, Sh0, MI, ML))
  refine x_st rfl ?_
  refine x_st rfl ?_
  refine x_br rfl (fun c => ?_) (fun c => ?_)
  · replace h := h.1 c
    refine x_st rfl ?_
    refine x_gi (ci := 4) (k := 4) (nx := 77) rfl sh_3 rfl ?_
    refine x_ret rfl ?_
    exact ⟨_, _, rfl, h⟩
  · replace h := h.2 c
    refine x_st rfl ?_
    obtain ⟨x3, M1, N2, hc, h⟩ := h
    refine x_vi (y := 56) (n := 0) (ci := 4) (nx := 23) rfl (fun _ => rfl) sh_3 rfl hc ?_
    refine x_br rfl (fun c => ?_) (fun c => ?_)
    · replace h := h.1 c
      refine x_st rfl ?_
      refine x_gi (ci := 4) (k := 4) (nx := 30) rfl sh_3 rfl ?_
      refine x_ret rfl ?_
      exact ⟨_, _, rfl, h⟩
    · replace h := h.2 c
      refine x_st rfl ?_
      obtain ⟨x6, M4, N5, hc, h⟩ := h
      refine x_vi (y := 66) (n := 0) (ci := 4) (nx := 35) rfl (fun _ => rfl) sh_3 rfl hc ?_
      refine x_st rfl ?_
      refine x_br rfl (fun c => ?_) (fun c => ?_)
      · replace h := h.1 c
        refine x_st rfl ?_
        refine x_st rfl ?_
        refine x_gi (ci := 4) (k := 4) (nx := 62) rfl sh_3 rfl ?_
        refine x_st rfl ?_
        refine x_st rfl ?_
        refine x_pi (ci := 4) (k := 4) (nx := 67) rfl sh_3 rfl ?_
        refine x_st rfl ?_
        refine x_st rfl ?_
        refine x_kl ?_ h
        exact ⟨Or.inr rfl, ⟨Or.inr rfl, True.intro⟩⟩
      · replace h := h.2 c
        refine x_st rfl ?_
        obtain ⟨x9, M7, N8, hc, h⟩ := h
        refine x_vi (y := 66) (n := 0) (ci := 4) (nx := 44) rfl (fun _ => rfl) sh_3 rfl hc ?_
        refine x_st rfl ?_
        refine x_br rfl (fun c => ?_) (fun c => ?_)
        · replace h := h.1 c
          refine x_st rfl ?_
          refine x_st rfl ?_
          refine x_ret rfl ?_
          exact ⟨_, _, rfl, h⟩
        · replace h := h.2 c
          refine x_st rfl ?_
          refine x_gi (ci := 4) (k := 4) (nx := 56) rfl sh_3 rfl ?_
          refine x_ret rfl ?_
          exact ⟨_, _, rfl, h⟩
theorem EX4_read {D : Nat} {Q : Option Value → mI → mJ → Prop}  {MI : mI} {ML : mJ} (h : VX4_read_0 D Q  MI ML) : ∃ v MI' ML', Q v MI' ML' ∧ mrc (D + 1) 55 [.ref 3] MI ML v MI' ML' := by
  refine x_en (n := 1) (T := TX4_read) rfl rfl ?_
  refine x_kl ?_ h
  exact ⟨Or.inr rfl, ⟨Or.inl rfl, True.intro⟩⟩
def VX4_readLine_0 (D : Nat) (Q : Option Value → mI → mJ → Prop)  (MI : mI) (ML : mJ) : Prop := mEx (mrn D) TX4_readLine (mqS Q) (0, [some (.ref 3)], [], (W0, Sh0, MI, ML))
def VX4_readLine_47 (D : Nat) (Q : Option Value → mI → mJ → Prop)  (MI : mI) (ML : mJ) : Prop := mEx (mrn D) TX4_readLine (mqS Q) (47, [some (.ref 3)], [], (W0, Sh0, MI, ML))
theorem BX4_readLine_0 {D : Nat} {Q : Option Value → mI → mJ → Prop}  {MI : mI} {ML : mJ} 
    (h : ∃ (x3 : Int32) (M1 : mI) (N2 : mJ), mrc D 57 [.ref 3, .int (nI 0), .int (nI 0)] MI ML (some (.int x3)) M1 N2 ∧ ((x3 = nI 0 → Q (some (.int (nI 0))) M1 N2) ∧ (¬ x3 = nI 0 → ∃ (x6 : Int32) (M4 : mI) (N5 : mJ), mrc D 66 [.ref 3] M1 N2 (some (.int x6)) M4 N5 ∧ ((x6 = (nI 63) → ∃ (M7 : mI) (N8 : mJ), mrc D 67 [.ref 3, .int (-63 : Int32)] (mup M4 3 (mput (M4 3) 4 ((M4 3 4) + (nI 1)))) N5 none M7 N8 ∧ (∃ (x11 : Int32) (M9 : mI) (N10 : mJ), mrc D 57 [.ref 3, .int (nI 0), .int (nI 0)] M7 N8 (some (.int x11)) M9 N10 ∧ ((x11 = nI 0 → Q (some (.int (nI 0))) M9 N10) ∧ (¬ x11 = nI 0 → VX4_readLine_47 D Q  M9 N10)))) ∧ (¬ x6 = (nI 63) → VX4_readLine_47 D Q  M4 N5))))) :
    VX4_readLine_0 D Q  MI ML := by
  show mEx (mrn D) TX4_readLine (mqS Q) (0, [some (.ref 3)], [], (W0, Sh0, MI, ML))
  refine x_st rfl ?_
  refine x_st rfl ?_
  refine x_st rfl ?_
  obtain ⟨x3, M1, N2, hc, h⟩ := h
  refine x_vi (y := 57) (n := 2) (ci := 4) (nx := 6) rfl (fun _ => rfl) sh_3 rfl hc ?_
  refine x_br rfl (fun c => ?_) (fun c => ?_)
  · replace h := h.1 c
    refine x_st rfl ?_
    refine x_ret rfl ?_
    exact ⟨_, _, rfl, h⟩
  · replace h := h.2 c
    refine x_st rfl ?_
    obtain ⟨x6, M4, N5, hc, h⟩ := h
    refine x_vi (y := 66) (n := 0) (ci := 4) (nx := 15) rfl (fun _ => rfl) sh_3 rfl hc ?_
    refine x_st rfl ?_
    refine x_br rfl (fun c => ?_) (fun c => ?_)
    · replace h := h.1 c
      refine x_st rfl ?_
      refine x_st rfl ?_
      refine x_gi (ci := 4) (k := 4) (nx := 25) rfl sh_3 rfl ?_
      refine x_st rfl ?_
      refine x_st rfl ?_
      refine x_pi (ci := 4) (k := 4) (nx := 30) rfl sh_3 rfl ?_
      refine x_st rfl ?_
      refine x_st rfl ?_
      obtain ⟨M7, N8, hc, h⟩ := h
      refine x_vv (y := 67) (n := 1) (ci := 4) (nx := 36) rfl (fun _ => rfl) sh_3 rfl hc ?_
      refine x_st rfl ?_
      refine x_st rfl ?_
      refine x_st rfl ?_
      obtain ⟨x11, M9, N10, hc, h⟩ := h
      refine x_vi (y := 57) (n := 2) (ci := 4) (nx := 42) rfl (fun _ => rfl) sh_3 rfl hc ?_
      refine x_br rfl (fun c => ?_) (fun c => ?_)
      · replace h := h.1 c
        refine x_st rfl ?_
        refine x_ret rfl ?_
        exact ⟨_, _, rfl, h⟩
      · replace h := h.2 c
        refine x_kl ?_ h
        exact ⟨Or.inr rfl, True.intro⟩
    · replace h := h.2 c
      refine x_kl ?_ h
      exact ⟨Or.inr rfl, True.intro⟩
theorem BX4_readLine_47 {D : Nat} {Q : Option Value → mI → mJ → Prop}  {MI : mI} {ML : mJ} 
    (h : ∃ (M1 : mI) (N2 : mJ), mrc D 67 [.ref 3, .int (-59 : Int32)] MI ML none M1 N2 ∧ (Q (some (.int (nI 1))) M1 N2)) :
    VX4_readLine_47 D Q  MI ML := by
  show mEx (mrn D) TX4_readLine (mqS Q) (47, [some (.ref 3)], [], (W0, Sh0, MI, ML))
  refine x_st rfl ?_
  refine x_st rfl ?_
  obtain ⟨M1, N2, hc, h⟩ := h
  refine x_vv (y := 67) (n := 1) (ci := 4) (nx := 53) rfl (fun _ => rfl) sh_3 rfl hc ?_
  refine x_st rfl ?_
  refine x_ret rfl ?_
  exact ⟨_, _, rfl, h⟩
theorem EX4_readLine {D : Nat} {Q : Option Value → mI → mJ → Prop}  {MI : mI} {ML : mJ} (h : VX4_readLine_0 D Q  MI ML) : ∃ v MI' ML', Q v MI' ML' ∧ mrc (D + 1) 56 [.ref 3] MI ML v MI' ML' := by
  refine x_en (n := 0) (T := TX4_readLine) rfl rfl ?_
  refine x_kl ?_ h
  exact ⟨Or.inr rfl, True.intro⟩
def VX4_readLevel_0 (D : Nat) (Q : Option Value → mI → mJ → Prop)  (v1 : Int32) (v2 : Int32) (MI : mI) (ML : mJ) : Prop := mEx (mrn D) TX4_readLevel (mqS Q) (0, [some (.ref 3), some (.int v1), some (.int v2), none, none, none], [], (W0, Sh0, MI, ML))
def VX4_readLevel_40 (D : Nat) (Q : Option Value → mI → mJ → Prop)  (v1 : Int32) (v2 : Int32) (v3 : Int32) (v4 : Int32) (MI : mI) (ML : mJ) : Prop := mEx (mrn D) TX4_readLevel (mqS Q) (40, [some (.ref 3), some (.int v1), some (.int v2), some (.int v3), some (.int v4), none], [], (W0, Sh0, MI, ML))
theorem BX4_readLevel_0 {D : Nat} {Q : Option Value → mI → mJ → Prop}  {v1 : Int32} {v2 : Int32} {MI : mI} {ML : mJ} 
    (h : (v1 < (nI 5) → ∃ (x3 : Int32) (M1 : mI) (N2 : mJ), mrc D 57 [.ref 3, .int (v1 + (nI 1)), .int v2] MI ML (some (.int x3)) M1 N2 ∧ ((x3 = nI 0 → Q (some (.int (nI 0))) M1 N2) ∧ (¬ x3 = nI 0 → (v1 = (nI 2) → VX4_readLevel_40 D Q v1 v2 (nI 1) (nI 0) M1 N2) ∧ (¬ v1 = (nI 2) → VX4_readLevel_40 D Q v1 v2 (nI 160) (nI 0) M1 N2)))) ∧ (¬ v1 < (nI 5) → ∃ (x6 : Int32) (M4 : mI) (N5 : mJ), mrc D 59 [.ref 3, .int v2] MI ML (some (.int x6)) M4 N5 ∧ ((x6 = nI 0 ∨ x6 = nI 1) ∧ Q (some (.int x6)) M4 N5))) :
    VX4_readLevel_0 D Q v1 v2 MI ML := by
  show mEx (mrn D) TX4_readLevel (mqS Q) (0, [some (.ref 3), some (.int v1), some (.int v2), none, none, none], [], (W0, Sh0, MI, ML))
  refine x_st rfl ?_
  refine x_st rfl ?_
  refine x_br rfl (fun c => ?_) (fun c => ?_)
  · replace h := h.1 c
    refine x_st rfl ?_
    refine x_st rfl ?_
    refine x_st rfl ?_
    refine x_st rfl ?_
    refine x_st rfl ?_
    obtain ⟨x3, M1, N2, hc, h⟩ := h
    refine x_vi (y := 57) (n := 2) (ci := 4) (nx := 19) rfl (fun _ => rfl) sh_3 rfl hc ?_
    refine x_br rfl (fun c => ?_) (fun c => ?_)
    · replace h := h.1 c
      refine x_st rfl ?_
      refine x_ret rfl ?_
      exact ⟨_, _, rfl, h⟩
    · replace h := h.2 c
      refine x_st rfl ?_
      refine x_st rfl ?_
      refine x_br rfl (fun c => ?_) (fun c => ?_)
      · replace h := h.1 c
        refine x_st rfl ?_
        refine x_st rfl ?_
        refine x_st rfl ?_
        refine x_st rfl ?_
        refine x_st rfl ?_
        refine x_kl ?_ h
        exact ⟨Or.inr rfl, ⟨Or.inr rfl, ⟨Or.inr rfl, ⟨Or.inr rfl, ⟨Or.inr rfl, ⟨Or.inl rfl, True.intro⟩⟩⟩⟩⟩⟩
      · replace h := h.2 c
        refine x_st rfl ?_
        refine x_st rfl ?_
        refine x_st rfl ?_
        refine x_st rfl ?_
        refine x_kl ?_ h
        exact ⟨Or.inr rfl, ⟨Or.inr rfl, ⟨Or.inr rfl, ⟨Or.inr rfl, ⟨Or.inr rfl, ⟨Or.inl rfl, True.intro⟩⟩⟩⟩⟩⟩
  · replace h := h.2 c
    refine x_st rfl ?_
    refine x_st rfl ?_
    obtain ⟨x6, M4, N5, hc, h⟩ := h
    refine x_vi (y := 59) (n := 1) (ci := 4) (nx := 10) rfl (fun _ => rfl) sh_3 rfl hc ?_
    refine x_retz rfl h.1 ?_
    exact ⟨_, _, rfl, h.2⟩
theorem BX4_readLevel_40 {D : Nat} {Q : Option Value → mI → mJ → Prop}  {v1 : Int32} {v2 : Int32} {v3 : Int32} {v4 : Int32} {MI : mI} {ML : mJ} 
    (h : (v3 ≤ v4 → Q (some (.int (nI 1))) MI ML) ∧ (¬ v3 ≤ v4 → ∃ (x3 : Int32) (M1 : mI) (N2 : mJ), mrc D 66 [.ref 3] MI ML (some (.int x3)) M1 N2 ∧ (∃ (x6 : Int32) (M4 : mI) (N5 : mJ), mrc D 58 [.int x3] M1 N2 (some (.int x6)) M4 N5 ∧ ((x6 = v1 → ∃ (x9 : Int32) (M7 : mI) (N8 : mJ), mrc D 66 [.ref 3] M4 N5 (some (.int x9)) M7 N8 ∧ (∃ (x12 : Int32) (M10 : mI) (N11 : mJ), mrc D 57 [.ref 3, .int (v1 + (nI 1)), .int v2] (mup M7 3 (mput (M7 3) 4 ((M7 3 4) + (nI 1)))) N8 (some (.int x12)) M10 N11 ∧ ((x12 = nI 0 → Q (some (.int (nI 0))) M10 N11) ∧ (¬ x12 = nI 0 → ∃ (M13 : mI) (N14 : mJ), mrc D 67 [.ref 3, .int (-x9)] M10 N11 none M13 N14 ∧ (VX4_readLevel_40 D Q v1 v2 v3 (v4 + (nI 1)) M13 N14))))) ∧ (¬ x6 = v1 → Q (some (.int (nI 1))) M4 N5))))) :
    VX4_readLevel_40 D Q v1 v2 v3 v4 MI ML := by
  show mEx (mrn D) TX4_readLevel (mqS Q) (40, [some (.ref 3), some (.int v1), some (.int v2), some (.int v3), some (.int v4), none], [], (W0, Sh0, MI, ML))
  refine x_st rfl ?_
  refine x_st rfl ?_
  refine x_br rfl (fun c => ?_) (fun c => ?_)
  · replace h := h.1 c
    refine x_st rfl ?_
    refine x_ret rfl ?_
    exact ⟨_, _, rfl, h⟩
  · replace h := h.2 c
    refine x_st rfl ?_
    obtain ⟨x3, M1, N2, hc, h⟩ := h
    refine x_vi (y := 66) (n := 0) (ci := 4) (nx := 50) rfl (fun _ => rfl) sh_3 rfl hc ?_
    obtain ⟨x6, M4, N5, hc, h⟩ := h
    refine x_ci rfl hc ?_
    refine x_st rfl ?_
    refine x_br rfl (fun c => ?_) (fun c => ?_)
    · replace h := h.1 c
      refine x_st rfl ?_
      obtain ⟨x9, M7, N8, hc, h⟩ := h
      refine x_vi (y := 66) (n := 0) (ci := 4) (nx := 61) rfl (fun _ => rfl) sh_3 rfl hc ?_
      refine x_st rfl ?_
      refine x_st rfl ?_
      refine x_st rfl ?_
      refine x_gi (ci := 4) (k := 4) (nx := 68) rfl sh_3 rfl ?_
      refine x_st rfl ?_
      refine x_st rfl ?_
      refine x_pi (ci := 4) (k := 4) (nx := 73) rfl sh_3 rfl ?_
      refine x_st rfl ?_
      refine x_st rfl ?_
      refine x_st rfl ?_
      refine x_st rfl ?_
      refine x_st rfl ?_
      obtain ⟨x12, M10, N11, hc, h⟩ := h
      refine x_vi (y := 57) (n := 2) (ci := 4) (nx := 81) rfl (fun _ => rfl) sh_3 rfl hc ?_
      refine x_br rfl (fun c => ?_) (fun c => ?_)
      · replace h := h.1 c
        refine x_st rfl ?_
        refine x_ret rfl ?_
        exact ⟨_, _, rfl, h⟩
      · replace h := h.2 c
        refine x_st rfl ?_
        refine x_st rfl ?_
        refine x_st rfl ?_
        obtain ⟨M13, N14, hc, h⟩ := h
        refine x_vv (y := 67) (n := 1) (ci := 4) (nx := 93) rfl (fun _ => rfl) sh_3 rfl hc ?_
        refine x_st rfl ?_
        refine x_st rfl ?_
        refine x_kl ?_ h
        exact ⟨Or.inr rfl, ⟨Or.inr rfl, ⟨Or.inr rfl, ⟨Or.inr rfl, ⟨Or.inr rfl, ⟨Or.inl rfl, True.intro⟩⟩⟩⟩⟩⟩
    · replace h := h.2 c
      refine x_st rfl ?_
      refine x_ret rfl ?_
      exact ⟨_, _, rfl, h⟩
theorem EX4_readLevel {D : Nat} {Q : Option Value → mI → mJ → Prop}  {v1 : Int32} {v2 : Int32} {MI : mI} {ML : mJ} (h : VX4_readLevel_0 D Q v1 v2 MI ML) : ∃ v MI' ML', Q v MI' ML' ∧ mrc (D + 1) 57 [.ref 3, .int v1, .int v2] MI ML v MI' ML' := by
  refine x_en (n := 3) (T := TX4_readLevel) rfl rfl ?_
  refine x_kl ?_ h
  exact ⟨Or.inr rfl, ⟨Or.inr rfl, ⟨Or.inr rfl, ⟨Or.inl rfl, ⟨Or.inl rfl, ⟨Or.inl rfl, True.intro⟩⟩⟩⟩⟩⟩
def VX4_levelOf_0 (D : Nat) (Q : Option Value → mI → mJ → Prop)  (v0 : Int32) (MI : mI) (ML : mJ) : Prop := mEx (mrn D) TX4_levelOf (mqS Q) (0, [some (.int v0)], [], (W0, Sh0, MI, ML))
theorem BX4_levelOf_0 {D : Nat} {Q : Option Value → mI → mJ → Prop}  {v0 : Int32} {MI : mI} {ML : mJ} 
    (h : (v0 = (nI 37) → Q (some (.int (nI 4))) MI ML) ∧ (¬ v0 = (nI 37) → (v0 = (nI 38) → Q (some (.int (nI 1))) MI ML) ∧ (¬ v0 = (nI 38) → (v0 = (nI 42) → Q (some (.int (nI 4))) MI ML) ∧ (¬ v0 = (nI 42) → (v0 = (nI 43) → Q (some (.int (nI 3))) MI ML) ∧ (¬ v0 = (nI 43) → (v0 = (nI 45) → Q (some (.int (nI 3))) MI ML) ∧ (¬ v0 = (nI 45) → (v0 = (nI 47) → Q (some (.int (nI 4))) MI ML) ∧ (¬ v0 = (nI 47) → (v0 = (nI 60) → Q (some (.int (nI 2))) MI ML) ∧ (¬ v0 = (nI 60) → (v0 = (nI 61) → Q (some (.int (nI 2))) MI ML) ∧ (¬ v0 = (nI 61) → (v0 = (nI 62) → Q (some (.int (nI 2))) MI ML) ∧ (¬ v0 = (nI 62) → (v0 = (nI 124) → Q (some (.int (nI 0))) MI ML) ∧ (¬ v0 = (nI 124) → Q (some (.int (nI 5))) MI ML))))))))))) :
    VX4_levelOf_0 D Q v0 MI ML := by
  show mEx (mrn D) TX4_levelOf (mqS Q) (0, [some (.int v0)], [], (W0, Sh0, MI, ML))
  refine x_st rfl ?_
  refine x_sw rfl ?_
  refine ⟨fun c => ?_, fun c => ?_⟩
  · replace h := h.1 c
    refine x_st rfl ?_
    refine x_ret rfl ?_
    exact ⟨_, _, rfl, h⟩
  · replace h := h.2 c
    refine ⟨fun c => ?_, fun c => ?_⟩
    · replace h := h.1 c
      refine x_st rfl ?_
      refine x_ret rfl ?_
      exact ⟨_, _, rfl, h⟩
    · replace h := h.2 c
      refine ⟨fun c => ?_, fun c => ?_⟩
      · replace h := h.1 c
        refine x_st rfl ?_
        refine x_ret rfl ?_
        exact ⟨_, _, rfl, h⟩
      · replace h := h.2 c
        refine ⟨fun c => ?_, fun c => ?_⟩
        · replace h := h.1 c
          refine x_st rfl ?_
          refine x_ret rfl ?_
          exact ⟨_, _, rfl, h⟩
        · replace h := h.2 c
          refine ⟨fun c => ?_, fun c => ?_⟩
          · replace h := h.1 c
            refine x_st rfl ?_
            refine x_ret rfl ?_
            exact ⟨_, _, rfl, h⟩
          · replace h := h.2 c
            refine ⟨fun c => ?_, fun c => ?_⟩
            · replace h := h.1 c
              refine x_st rfl ?_
              refine x_ret rfl ?_
              exact ⟨_, _, rfl, h⟩
            · replace h := h.2 c
              refine ⟨fun c => ?_, fun c => ?_⟩
              · replace h := h.1 c
                refine x_st rfl ?_
                refine x_ret rfl ?_
                exact ⟨_, _, rfl, h⟩
              · replace h := h.2 c
                refine ⟨fun c => ?_, fun c => ?_⟩
                · replace h := h.1 c
                  refine x_st rfl ?_
                  refine x_ret rfl ?_
                  exact ⟨_, _, rfl, h⟩
                · replace h := h.2 c
                  refine ⟨fun c => ?_, fun c => ?_⟩
                  · replace h := h.1 c
                    refine x_st rfl ?_
                    refine x_ret rfl ?_
                    exact ⟨_, _, rfl, h⟩
                  · replace h := h.2 c
                    refine ⟨fun c => ?_, fun c => ?_⟩
                    · replace h := h.1 c
                      refine x_st rfl ?_
                      refine x_ret rfl ?_
                      exact ⟨_, _, rfl, h⟩
                    · replace h := h.2 c
                      refine x_st rfl ?_
                      refine x_ret rfl ?_
                      exact ⟨_, _, rfl, h⟩
theorem EX4_levelOf {D : Nat} {Q : Option Value → mI → mJ → Prop}  {v0 : Int32} {MI : mI} {ML : mJ} (h : VX4_levelOf_0 D Q v0 MI ML) : ∃ v MI' ML', Q v MI' ML' ∧ mrc (D + 1) 58 [.int v0] MI ML v MI' ML' := by
  refine x_en (n := 0) (T := TX4_levelOf) rfl rfl ?_
  refine x_kl ?_ h
  exact ⟨Or.inr rfl, True.intro⟩
def VX4_readOperand_0 (D : Nat) (Q : Option Value → mI → mJ → Prop)  (v1 : Int32) (MI : mI) (ML : mJ) : Prop := mEx (mrn D) TX4_readOperand (mqS Q) (0, [some (.ref 3), some (.int v1), none], [], (W0, Sh0, MI, ML))
def VX4_readOperand_23 (D : Nat) (Q : Option Value → mI → mJ → Prop)  (v1 : Int32) (v2 : Int32) (MI : mI) (ML : mJ) : Prop := mEx (mrn D) TX4_readOperand (mqS Q) (23, [some (.ref 3), some (.int v1), some (.int v2)], [], (W0, Sh0, MI, ML))
theorem BX4_readOperand_0 {D : Nat} {Q : Option Value → mI → mJ → Prop}  {v1 : Int32} {MI : mI} {ML : mJ} 
    (h : ∃ (x3 : Int32) (M1 : mI) (N2 : mJ), mrc D 66 [.ref 3] MI ML (some (.int x3)) M1 N2 ∧ ((x3 = (nI 40) → VX4_readOperand_23 D Q v1 x3 M1 N2) ∧ (¬ x3 = (nI 40) → (x3 = (nI 33) → VX4_readOperand_23 D Q v1 x3 M1 N2) ∧ (¬ x3 = (nI 33) → (x3 = (nI 45) → VX4_readOperand_23 D Q v1 x3 M1 N2) ∧ (¬ x3 = (nI 45) → ∃ (x6 : Int32) (M4 : mI) (N5 : mJ), mrc D 65 [.int x3] M1 N2 (some (.int x6)) M4 N5 ∧ ((x6 = nI 0 → ∃ (x9 : Int32) (M7 : mI) (N8 : mJ), mrc D 62 [.ref 3] M4 N5 (some (.int x9)) M7 N8 ∧ ((x9 = nI 0 ∨ x9 = nI 1) ∧ Q (some (.int x9)) M7 N8)) ∧ (¬ x6 = nI 0 → ∃ (M10 : mI) (N11 : mJ), mrc D 61 [.ref 3] M4 N5 none M10 N11 ∧ (Q (some (.int (nI 1))) M10 N11)))))))) :
    VX4_readOperand_0 D Q v1 MI ML := by
  show mEx (mrn D) TX4_readOperand (mqS Q) (0, [some (.ref 3), some (.int v1), none], [], (W0, Sh0, MI, ML))
  refine x_st rfl ?_
  obtain ⟨x3, M1, N2, hc, h⟩ := h
  refine x_vi (y := 66) (n := 0) (ci := 4) (nx := 4) rfl (fun _ => rfl) sh_3 rfl hc ?_
  refine x_st rfl ?_
  refine x_st rfl ?_
  refine x_st rfl ?_
  refine x_br rfl (fun c => ?_) (fun c => ?_)
  · replace h := h.1 c
    refine x_kl ?_ h
    exact ⟨Or.inr rfl, ⟨Or.inr rfl, ⟨Or.inr rfl, True.intro⟩⟩⟩
  · replace h := h.2 c
    refine x_st rfl ?_
    refine x_st rfl ?_
    refine x_br rfl (fun c => ?_) (fun c => ?_)
    · replace h := h.1 c
      refine x_kl ?_ h
      exact ⟨Or.inr rfl, ⟨Or.inr rfl, ⟨Or.inr rfl, True.intro⟩⟩⟩
    · replace h := h.2 c
      refine x_st rfl ?_
      refine x_st rfl ?_
      refine x_br rfl (fun c => ?_) (fun c => ?_)
      · replace h := h.1 c
        refine x_kl ?_ h
        exact ⟨Or.inr rfl, ⟨Or.inr rfl, ⟨Or.inr rfl, True.intro⟩⟩⟩
      · replace h := h.2 c
        refine x_st rfl ?_
        obtain ⟨x6, M4, N5, hc, h⟩ := h
        refine x_ci rfl hc ?_
        refine x_br rfl (fun c => ?_) (fun c => ?_)
        · replace h := h.1 c
          refine x_st rfl ?_
          obtain ⟨x9, M7, N8, hc, h⟩ := h
          refine x_vi (y := 62) (n := 0) (ci := 4) (nx := 63) rfl (fun _ => rfl) sh_3 rfl hc ?_
          refine x_retz rfl h.1 ?_
          exact ⟨_, _, rfl, h.2⟩
        · replace h := h.2 c
          refine x_st rfl ?_
          obtain ⟨M10, N11, hc, h⟩ := h
          refine x_vv (y := 61) (n := 0) (ci := 4) (nx := 57) rfl (fun _ => rfl) sh_3 rfl hc ?_
          refine x_st rfl ?_
          refine x_ret rfl ?_
          exact ⟨_, _, rfl, h⟩
theorem BX4_readOperand_23 {D : Nat} {Q : Option Value → mI → mJ → Prop}  {v1 : Int32} {v2 : Int32} {MI : mI} {ML : mJ} 
    (h : ((nI 6) ≤ v1 → Q (some (.int (nI 0))) MI ML) ∧ (¬ (nI 6) ≤ v1 → ∃ (x3 : Int32) (M1 : mI) (N2 : mJ), mrc D 60 [.ref 3, .int v2, .int (v1 + (nI 1))] MI ML (some (.int x3)) M1 N2 ∧ ((x3 = nI 0 → Q (some (.int (nI 0))) M1 N2) ∧ (¬ x3 = nI 0 → Q (some (.int (nI 1))) M1 N2)))) :
    VX4_readOperand_23 D Q v1 v2 MI ML := by
  show mEx (mrn D) TX4_readOperand (mqS Q) (23, [some (.ref 3), some (.int v1), some (.int v2)], [], (W0, Sh0, MI, ML))
  refine x_st rfl ?_
  refine x_st rfl ?_
  refine x_br rfl (fun c => ?_) (fun c => ?_)
  · replace h := h.1 c
    refine x_st rfl ?_
    refine x_ret rfl ?_
    exact ⟨_, _, rfl, h⟩
  · replace h := h.2 c
    refine x_st rfl ?_
    refine x_st rfl ?_
    refine x_st rfl ?_
    refine x_st rfl ?_
    refine x_st rfl ?_
    obtain ⟨x3, M1, N2, hc, h⟩ := h
    refine x_vi (y := 60) (n := 2) (ci := 4) (nx := 37) rfl (fun _ => rfl) sh_3 rfl hc ?_
    refine x_br rfl (fun c => ?_) (fun c => ?_)
    · replace h := h.1 c
      refine x_st rfl ?_
      refine x_ret rfl ?_
      exact ⟨_, _, rfl, h⟩
    · replace h := h.2 c
      refine x_st rfl ?_
      refine x_st rfl ?_
      refine x_ret rfl ?_
      exact ⟨_, _, rfl, h⟩
theorem EX4_readOperand {D : Nat} {Q : Option Value → mI → mJ → Prop}  {v1 : Int32} {MI : mI} {ML : mJ} (h : VX4_readOperand_0 D Q v1 MI ML) : ∃ v MI' ML', Q v MI' ML' ∧ mrc (D + 1) 59 [.ref 3, .int v1] MI ML v MI' ML' := by
  refine x_en (n := 1) (T := TX4_readOperand) rfl rfl ?_
  refine x_kl ?_ h
  exact ⟨Or.inr rfl, ⟨Or.inr rfl, ⟨Or.inl rfl, True.intro⟩⟩⟩
def VX4_readOpened_0 (D : Nat) (Q : Option Value → mI → mJ → Prop)  (v1 : Int32) (v2 : Int32) (MI : mI) (ML : mJ) : Prop := mEx (mrn D) TX4_readOpened (mqS Q) (0, [some (.ref 3), some (.int v1), some (.int v2)], [], (W0, Sh0, MI, ML))
theorem BX4_readOpened_0 {D : Nat} {Q : Option Value → mI → mJ → Prop}  {v1 : Int32} {v2 : Int32} {MI : mI} {ML : mJ} 
    (h : (v1 = (nI 40) → ∃ (x3 : Int32) (M1 : mI) (N2 : mJ), mrc D 57 [.ref 3, .int (nI 0), .int v2] (mup MI 3 (mput (MI 3) 4 ((MI 3 4) + (nI 1)))) ML (some (.int x3)) M1 N2 ∧ ((x3 = nI 0 → Q (some (.int (nI 0))) M1 N2) ∧ (¬ x3 = nI 0 → ∃ (x6 : Int32) (M4 : mI) (N5 : mJ), mrc D 66 [.ref 3] M1 N2 (some (.int x6)) M4 N5 ∧ ((x6 = (nI 41) → Q (some (.int (nI 1))) (mup M4 3 (mput (M4 3) 4 ((M4 3 4) + (nI 1)))) N5) ∧ (¬ x6 = (nI 41) → Q (some (.int (nI 0))) M4 N5))))) ∧ (¬ v1 = (nI 40) → ∃ (x9 : Int32) (M7 : mI) (N8 : mJ), mrc D 59 [.ref 3, .int v2] (mup MI 3 (mput (MI 3) 4 ((MI 3 4) + (nI 1)))) ML (some (.int x9)) M7 N8 ∧ ((x9 = nI 0 → Q (some (.int (nI 0))) M7 N8) ∧ (¬ x9 = nI 0 → (v1 = (nI 33) → ∃ (M10 : mI) (N11 : mJ), mrc D 67 [.ref 3, .int (-33 : Int32)] M7 N8 none M10 N11 ∧ (Q (some (.int (nI 1))) M10 N11)) ∧ (¬ v1 = (nI 33) → ∃ (M12 : mI) (N13 : mJ), mrc D 67 [.ref 3, .int (-126 : Int32)] M7 N8 none M12 N13 ∧ (Q (some (.int (nI 1))) M12 N13)))))) :
    VX4_readOpened_0 D Q v1 v2 MI ML := by
  show mEx (mrn D) TX4_readOpened (mqS Q) (0, [some (.ref 3), some (.int v1), some (.int v2)], [], (W0, Sh0, MI, ML))
  refine x_st rfl ?_
  refine x_st rfl ?_
  refine x_gi (ci := 4) (k := 4) (nx := 5) rfl sh_3 rfl ?_
  refine x_st rfl ?_
  refine x_st rfl ?_
  refine x_pi (ci := 4) (k := 4) (nx := 10) rfl sh_3 rfl ?_
  refine x_st rfl ?_
  refine x_st rfl ?_
  refine x_br rfl (fun c => ?_) (fun c => ?_)
  · replace h := h.1 c
    refine x_st rfl ?_
    refine x_st rfl ?_
    refine x_st rfl ?_
    obtain ⟨x3, M1, N2, hc, h⟩ := h
    refine x_vi (y := 57) (n := 2) (ci := 4) (nx := 22) rfl (fun _ => rfl) sh_3 rfl hc ?_
    refine x_br rfl (fun c => ?_) (fun c => ?_)
    · replace h := h.1 c
      refine x_st rfl ?_
      refine x_ret rfl ?_
      exact ⟨_, _, rfl, h⟩
    · replace h := h.2 c
      refine x_st rfl ?_
      obtain ⟨x6, M4, N5, hc, h⟩ := h
      refine x_vi (y := 66) (n := 0) (ci := 4) (nx := 29) rfl (fun _ => rfl) sh_3 rfl hc ?_
      refine x_st rfl ?_
      refine x_br rfl (fun c => ?_) (fun c => ?_)
      · replace h := h.1 c
        refine x_st rfl ?_
        refine x_st rfl ?_
        refine x_gi (ci := 4) (k := 4) (nx := 41) rfl sh_3 rfl ?_
        refine x_st rfl ?_
        refine x_st rfl ?_
        refine x_pi (ci := 4) (k := 4) (nx := 46) rfl sh_3 rfl ?_
        refine x_st rfl ?_
        refine x_ret rfl ?_
        exact ⟨_, _, rfl, h⟩
      · replace h := h.2 c
        refine x_st rfl ?_
        refine x_ret rfl ?_
        exact ⟨_, _, rfl, h⟩
  · replace h := h.2 c
    refine x_st rfl ?_
    refine x_st rfl ?_
    obtain ⟨x9, M7, N8, hc, h⟩ := h
    refine x_vi (y := 59) (n := 1) (ci := 4) (nx := 53) rfl (fun _ => rfl) sh_3 rfl hc ?_
    refine x_br rfl (fun c => ?_) (fun c => ?_)
    · replace h := h.1 c
      refine x_st rfl ?_
      refine x_ret rfl ?_
      exact ⟨_, _, rfl, h⟩
    · replace h := h.2 c
      refine x_st rfl ?_
      refine x_st rfl ?_
      refine x_st rfl ?_
      refine x_br rfl (fun c => ?_) (fun c => ?_)
      · replace h := h.1 c
        refine x_st rfl ?_
        refine x_st rfl ?_
        obtain ⟨M10, N11, hc, h⟩ := h
        refine x_vv (y := 67) (n := 1) (ci := 4) (nx := 75) rfl (fun _ => rfl) sh_3 rfl hc ?_
        refine x_st rfl ?_
        refine x_ret rfl ?_
        exact ⟨_, _, rfl, h⟩
      · replace h := h.2 c
        refine x_st rfl ?_
        obtain ⟨M12, N13, hc, h⟩ := h
        refine x_vv (y := 67) (n := 1) (ci := 4) (nx := 75) rfl (fun _ => rfl) sh_3 rfl hc ?_
        refine x_st rfl ?_
        refine x_ret rfl ?_
        exact ⟨_, _, rfl, h⟩
theorem EX4_readOpened {D : Nat} {Q : Option Value → mI → mJ → Prop}  {v1 : Int32} {v2 : Int32} {MI : mI} {ML : mJ} (h : VX4_readOpened_0 D Q v1 v2 MI ML) : ∃ v MI' ML', Q v MI' ML' ∧ mrc (D + 1) 60 [.ref 3, .int v1, .int v2] MI ML v MI' ML' := by
  refine x_en (n := 0) (T := TX4_readOpened) rfl rfl ?_
  refine x_kl ?_ h
  exact ⟨Or.inr rfl, ⟨Or.inr rfl, ⟨Or.inr rfl, True.intro⟩⟩⟩
def VX4_readNumber_0 (D : Nat) (Q : Option Value → mI → mJ → Prop)  (MI : mI) (ML : mJ) : Prop := mEx (mrn D) TX4_readNumber (mqS Q) (0, [some (.ref 3), none, none], [], (W0, Sh0, MI, ML))
def VX4_readNumber_4 (D : Nat) (Q : Option Value → mI → mJ → Prop)  (v1 : Int32) (v2 : Int32) (MI : mI) (ML : mJ) : Prop := mEx (mrn D) TX4_readNumber (mqS Q) (4, [some (.ref 3), some (.int v1), some (.int v2)], [], (W0, Sh0, MI, ML))
def VX4_readNumber_48 (D : Nat) (Q : Option Value → mI → mJ → Prop)  (v1 : Int32) (MI : mI) (ML : mJ) : Prop := mEx (mrn D) TX4_readNumber (mqS Q) (48, [some (.ref 3), some (.int v1), none], [], (W0, Sh0, MI, ML))
theorem BX4_readNumber_0 {D : Nat} {Q : Option Value → mI → mJ → Prop}  {MI : mI} {ML : mJ} 
    (h : VX4_readNumber_4 D Q (nI 0) (nI 0) MI ML) :
    VX4_readNumber_0 D Q  MI ML := by
  show mEx (mrn D) TX4_readNumber (mqS Q) (0, [some (.ref 3), none, none], [], (W0, Sh0, MI, ML))
  refine x_st rfl ?_
  refine x_st rfl ?_
  refine x_st rfl ?_
  refine x_st rfl ?_
  refine x_kl ?_ h
  exact ⟨Or.inr rfl, ⟨Or.inr rfl, ⟨Or.inr rfl, True.intro⟩⟩⟩
theorem BX4_readNumber_4 {D : Nat} {Q : Option Value → mI → mJ → Prop}  {v1 : Int32} {v2 : Int32} {MI : mI} {ML : mJ} 
    (h : ((nI 4) ≤ v2 → VX4_readNumber_48 D Q v1 MI ML) ∧ (¬ (nI 4) ≤ v2 → ∃ (x3 : Int32) (M1 : mI) (N2 : mJ), mrc D 66 [.ref 3] MI ML (some (.int x3)) M1 N2 ∧ (∃ (x6 : Int32) (M4 : mI) (N5 : mJ), mrc D 65 [.int x3] M1 N2 (some (.int x6)) M4 N5 ∧ ((x6 = nI 0 → VX4_readNumber_48 D Q v1 M4 N5) ∧ (¬ x6 = nI 0 → ∃ (x9 : Int32) (M7 : mI) (N8 : mJ), mrc D 66 [.ref 3] M4 N5 (some (.int x9)) M7 N8 ∧ (VX4_readNumber_4 D Q (((v1 * (nI 10)) + x9) - (nI 48)) (v2 + (nI 1)) (mup M7 3 (mput (M7 3) 4 ((M7 3 4) + (nI 1)))) N8)))))) :
    VX4_readNumber_4 D Q v1 v2 MI ML := by
  show mEx (mrn D) TX4_readNumber (mqS Q) (4, [some (.ref 3), some (.int v1), some (.int v2)], [], (W0, Sh0, MI, ML))
  refine x_st rfl ?_
  refine x_st rfl ?_
  refine x_br rfl (fun c => ?_) (fun c => ?_)
  · replace h := h.1 c
    refine x_kl ?_ h
    exact ⟨Or.inr rfl, ⟨Or.inr rfl, ⟨Or.inl rfl, True.intro⟩⟩⟩
  · replace h := h.2 c
    refine x_st rfl ?_
    obtain ⟨x3, M1, N2, hc, h⟩ := h
    refine x_vi (y := 66) (n := 0) (ci := 4) (nx := 13) rfl (fun _ => rfl) sh_3 rfl hc ?_
    obtain ⟨x6, M4, N5, hc, h⟩ := h
    refine x_ci rfl hc ?_
    refine x_br rfl (fun c => ?_) (fun c => ?_)
    · replace h := h.1 c
      refine x_kl ?_ h
      exact ⟨Or.inr rfl, ⟨Or.inr rfl, ⟨Or.inl rfl, True.intro⟩⟩⟩
    · replace h := h.2 c
      refine x_st rfl ?_
      refine x_st rfl ?_
      refine x_st rfl ?_
      refine x_st rfl ?_
      obtain ⟨x9, M7, N8, hc, h⟩ := h
      refine x_vi (y := 66) (n := 0) (ci := 4) (nx := 27) rfl (fun _ => rfl) sh_3 rfl hc ?_
      refine x_st rfl ?_
      refine x_st rfl ?_
      refine x_st rfl ?_
      refine x_st rfl ?_
      refine x_st rfl ?_
      refine x_st rfl ?_
      refine x_gi (ci := 4) (k := 4) (nx := 37) rfl sh_3 rfl ?_
      refine x_st rfl ?_
      refine x_st rfl ?_
      refine x_pi (ci := 4) (k := 4) (nx := 42) rfl sh_3 rfl ?_
      refine x_st rfl ?_
      refine x_st rfl ?_
      refine x_kl ?_ h
      exact ⟨Or.inr rfl, ⟨Or.inr rfl, ⟨Or.inr rfl, True.intro⟩⟩⟩
theorem BX4_readNumber_48 {D : Nat} {Q : Option Value → mI → mJ → Prop}  {v1 : Int32} {MI : mI} {ML : mJ} 
    (h : ∃ (M1 : mI) (N2 : mJ), mrc D 67 [.ref 3, .int v1] MI ML none M1 N2 ∧ (Q none M1 N2)) :
    VX4_readNumber_48 D Q v1 MI ML := by
  show mEx (mrn D) TX4_readNumber (mqS Q) (48, [some (.ref 3), some (.int v1), none], [], (W0, Sh0, MI, ML))
  refine x_st rfl ?_
  refine x_st rfl ?_
  obtain ⟨M1, N2, hc, h⟩ := h
  refine x_vv (y := 67) (n := 1) (ci := 4) (nx := 53) rfl (fun _ => rfl) sh_3 rfl hc ?_
  refine x_ret rfl ?_
  exact ⟨_, _, rfl, h⟩
theorem EX4_readNumber {D : Nat} {Q : Option Value → mI → mJ → Prop}  {MI : mI} {ML : mJ} (h : VX4_readNumber_0 D Q  MI ML) : ∃ v MI' ML', Q v MI' ML' ∧ mrc (D + 1) 61 [.ref 3] MI ML v MI' ML' := by
  refine x_en (n := 2) (T := TX4_readNumber) rfl rfl ?_
  refine x_kl ?_ h
  exact ⟨Or.inr rfl, ⟨Or.inl rfl, ⟨Or.inl rfl, True.intro⟩⟩⟩
def VX4_readWord_0 (D : Nat) (Q : Option Value → mI → mJ → Prop)  (MI : mI) (ML : mJ) : Prop := mEx (mrn D) TX4_readWord (mqS Q) (0, [some (.ref 3), none, none], [], (W0, Sh0, MI, ML))
def VX4_readWord_5 (D : Nat) (Q : Option Value → mI → mJ → Prop)  (v1 : Int32) (MI : mI) (ML : mJ) : Prop := mEx (mrn D) TX4_readWord (mqS Q) (5, [some (.ref 3), some (.int v1), none], [], (W0, Sh0, MI, ML))
def VX4_readWord_50 (D : Nat) (Q : Option Value → mI → mJ → Prop)  (v1 : Int32) (v2 : Int32) (MI : mI) (ML : mJ) : Prop := mEx (mrn D) TX4_readWord (mqS Q) (50, [some (.ref 3), some (.int v1), some (.int v2)], [], (W0, Sh0, MI, ML))
theorem BX4_readWord_0 {D : Nat} {Q : Option Value → mI → mJ → Prop}  {MI : mI} {ML : mJ} 
    (h : VX4_readWord_5 D Q (MI 3 4) MI ML) :
    VX4_readWord_0 D Q  MI ML := by
  show mEx (mrn D) TX4_readWord (mqS Q) (0, [some (.ref 3), none, none], [], (W0, Sh0, MI, ML))
  refine x_st rfl ?_
  refine x_gi (ci := 4) (k := 4) (nx := 4) rfl sh_3 rfl ?_
  refine x_st rfl ?_
  refine x_kl ?_ h
  exact ⟨Or.inr rfl, ⟨Or.inr rfl, ⟨Or.inl rfl, True.intro⟩⟩⟩
theorem BX4_readWord_5 {D : Nat} {Q : Option Value → mI → mJ → Prop}  {v1 : Int32} {MI : mI} {ML : mJ} 
    (h : ((MI 3 3) ≤ v1 → VX4_readWord_50 D Q v1 (nI 0) MI ML) ∧ (¬ (MI 3 3) ≤ v1 → ((nI 160) ≤ v1 → VX4_readWord_50 D Q v1 (nI 0) MI ML) ∧ (¬ (nI 160) ≤ v1 → ∃ i1 : Nat, v1 = nI i1 ∧ i1 < 160 ∧ (((MI 5 i1) < (nI 97) → VX4_readWord_50 D Q v1 (nI 0) MI ML) ∧ (¬ (MI 5 i1) < (nI 97) → ∃ i2 : Nat, v1 = nI i2 ∧ i2 < 160 ∧ (((nI 122) < (MI 5 i2) → VX4_readWord_50 D Q v1 (nI 0) MI ML) ∧ (¬ (nI 122) < (MI 5 i2) → VX4_readWord_5 D Q (v1 + (nI 1)) MI ML))))))) :
    VX4_readWord_5 D Q v1 MI ML := by
  show mEx (mrn D) TX4_readWord (mqS Q) (5, [some (.ref 3), some (.int v1), none], [], (W0, Sh0, MI, ML))
  refine x_st rfl ?_
  refine x_st rfl ?_
  refine x_gi (ci := 4) (k := 3) (nx := 10) rfl sh_3 rfl ?_
  refine x_br rfl (fun c => ?_) (fun c => ?_)
  · replace h := h.1 c
    refine x_st rfl ?_
    refine x_st rfl ?_
    refine x_kl ?_ h
    exact ⟨Or.inr rfl, ⟨Or.inr rfl, ⟨Or.inr rfl, True.intro⟩⟩⟩
  · replace h := h.2 c
    refine x_st rfl ?_
    refine x_st rfl ?_
    refine x_br rfl (fun c => ?_) (fun c => ?_)
    · replace h := h.1 c
      refine x_st rfl ?_
      refine x_st rfl ?_
      refine x_kl ?_ h
      exact ⟨Or.inr rfl, ⟨Or.inr rfl, ⟨Or.inr rfl, True.intro⟩⟩⟩
    · replace h := h.2 c
      refine x_st rfl ?_
      refine x_gr (ci := 4) (k := 2) (nx := 24) rfl sh_3 rfl ?_
      refine x_st rfl ?_
      obtain ⟨i1, hx, hi, h⟩ := h
      refine x_ia (i := i1) (nx := 26) rfl sh_5 hx hi (by decide) ?_
      refine x_st rfl ?_
      refine x_br rfl (fun c => ?_) (fun c => ?_)
      · replace h := h.1 c
        refine x_st rfl ?_
        refine x_st rfl ?_
        refine x_kl ?_ h
        exact ⟨Or.inr rfl, ⟨Or.inr rfl, ⟨Or.inr rfl, True.intro⟩⟩⟩
      · replace h := h.2 c
        refine x_st rfl ?_
        refine x_gr (ci := 4) (k := 2) (nx := 35) rfl sh_3 rfl ?_
        refine x_st rfl ?_
        obtain ⟨i2, hx, hi, h⟩ := h
        refine x_ia (i := i2) (nx := 37) rfl sh_5 hx hi (by decide) ?_
        refine x_st rfl ?_
        refine x_br rfl (fun c => ?_) (fun c => ?_)
        · replace h := h.1 c
          refine x_st rfl ?_
          refine x_st rfl ?_
          refine x_kl ?_ h
          exact ⟨Or.inr rfl, ⟨Or.inr rfl, ⟨Or.inr rfl, True.intro⟩⟩⟩
        · replace h := h.2 c
          refine x_st rfl ?_
          refine x_st rfl ?_
          refine x_kl ?_ h
          exact ⟨Or.inr rfl, ⟨Or.inr rfl, ⟨Or.inl rfl, True.intro⟩⟩⟩
theorem BX4_readWord_50 {D : Nat} {Q : Option Value → mI → mJ → Prop}  {v1 : Int32} {v2 : Int32} {MI : mI} {ML : mJ} 
    (h : ((nI 6) ≤ v2 → Q (some (.int (nI 0))) MI ML) ∧ (¬ (nI 6) ≤ v2 → ∃ (x3 : UInt32) (M1 : mI) (N2 : mJ), mrc D 64 [.int v2] MI ML (some (.float x3)) M1 N2 ∧ (∃ (x6 : Int32) (M4 : mI) (N5 : mJ), mrc D 63 [.ref 3, .float x3, .int v1] M1 N2 (some (.int x6)) M4 N5 ∧ ((x6 = nI 0 → VX4_readWord_50 D Q v1 (v2 + (nI 1)) M4 N5) ∧ (¬ x6 = nI 0 → ∃ (M7 : mI) (N8 : mJ), mrc D 67 [.ref 3, .int ((-1 : Int32) - v2)] (mup M4 3 (mput (M4 3) 4 v1)) N5 none M7 N8 ∧ (Q (some (.int (nI 1))) M7 N8)))))) :
    VX4_readWord_50 D Q v1 v2 MI ML := by
  show mEx (mrn D) TX4_readWord (mqS Q) (50, [some (.ref 3), some (.int v1), some (.int v2)], [], (W0, Sh0, MI, ML))
  refine x_st rfl ?_
  refine x_st rfl ?_
  refine x_br rfl (fun c => ?_) (fun c => ?_)
  · replace h := h.1 c
    refine x_st rfl ?_
    refine x_ret rfl ?_
    exact ⟨_, _, rfl, h⟩
  · replace h := h.2 c
    refine x_st rfl ?_
    refine x_st rfl ?_
    obtain ⟨x3, M1, N2, hc, h⟩ := h
    refine x_ci rfl hc ?_
    refine x_st rfl ?_
    obtain ⟨x6, M4, N5, hc, h⟩ := h
    refine x_vi (y := 63) (n := 2) (ci := 4) (nx := 65) rfl (fun _ => rfl) sh_3 rfl hc ?_
    refine x_br rfl (fun c => ?_) (fun c => ?_)
    · replace h := h.1 c
      refine x_st rfl ?_
      refine x_st rfl ?_
      refine x_kl ?_ h
      exact ⟨Or.inr rfl, ⟨Or.inr rfl, ⟨Or.inr rfl, True.intro⟩⟩⟩
    · replace h := h.2 c
      refine x_st rfl ?_
      refine x_st rfl ?_
      refine x_pi (ci := 4) (k := 4) (nx := 73) rfl sh_3 rfl ?_
      refine x_st rfl ?_
      refine x_st rfl ?_
      refine x_st rfl ?_
      refine x_st rfl ?_
      obtain ⟨M7, N8, hc, h⟩ := h
      refine x_vv (y := 67) (n := 1) (ci := 4) (nx := 80) rfl (fun _ => rfl) sh_3 rfl hc ?_
      refine x_st rfl ?_
      refine x_ret rfl ?_
      exact ⟨_, _, rfl, h⟩
theorem EX4_readWord {D : Nat} {Q : Option Value → mI → mJ → Prop}  {MI : mI} {ML : mJ} (h : VX4_readWord_0 D Q  MI ML) : ∃ v MI' ML', Q v MI' ML' ∧ mrc (D + 1) 62 [.ref 3] MI ML v MI' ML' := by
  refine x_en (n := 2) (T := TX4_readWord) rfl rfl ?_
  refine x_kl ?_ h
  exact ⟨Or.inr rfl, ⟨Or.inl rfl, ⟨Or.inl rfl, True.intro⟩⟩⟩
def VX4_isWord_0 (D : Nat) (Q : Option Value → mI → mJ → Prop) (q : UInt32) (v2 : Int32) (MI : mI) (ML : mJ) : Prop := mEx (mrn D) TX4_isWord (mqS Q) (0, [some (.ref 3), some (.float q), some (.int v2), none, none], [], (W0, Sh0, MI, ML))
def VX4_isWord_17 (D : Nat) (Q : Option Value → mI → mJ → Prop) (q : UInt32) (v3 : Int32) (MI : mI) (ML : mJ) : Prop := mEx (mrn D) TX4_isWord (mqS Q) (17, [some (.ref 3), some (.float q), none, some (.int v3), none], [], (W0, Sh0, MI, ML))
theorem BX4_isWord_0 {D : Nat} {Q : Option Value → mI → mJ → Prop} {q : UInt32} {v2 : Int32} {MI : mI} {ML : mJ} 
    (h : ∃ j1 m2 : Nat, (q : UInt32).toNat = 10 + j1 ∧ mstl[j1]? = some m2 ∧ (((v2 - (MI 3 4)) = (nI m2) → VX4_isWord_17 D Q q (nI 0) MI ML) ∧ (¬ (v2 - (MI 3 4)) = (nI m2) → Q (some (.int (nI 0))) MI ML))) :
    VX4_isWord_0 D Q q v2 MI ML := by
  show mEx (mrn D) TX4_isWord (mqS Q) (0, [some (.ref 3), some (.float q), some (.int v2), none, none], [], (W0, Sh0, MI, ML))
  refine x_st rfl ?_
  refine x_st rfl ?_
  refine x_gi (ci := 4) (k := 4) (nx := 5) rfl sh_3 rfl ?_
  refine x_st rfl ?_
  refine x_st rfl ?_
  obtain ⟨j1, m2, hq, hm, h⟩ := h
  refine x_slen (nx := 10) rfl hq hm rfl ?_
  refine x_br rfl (fun c => ?_) (fun c => ?_)
  · replace h := h.1 c
    refine x_st rfl ?_
    refine x_st rfl ?_
    refine x_kl ?_ h
    exact ⟨Or.inr rfl, ⟨Or.inr rfl, ⟨Or.inl rfl, ⟨Or.inr rfl, ⟨Or.inl rfl, True.intro⟩⟩⟩⟩⟩
  · replace h := h.2 c
    refine x_st rfl ?_
    refine x_ret rfl ?_
    exact ⟨_, _, rfl, h⟩
theorem BX4_isWord_17 {D : Nat} {Q : Option Value → mI → mJ → Prop} {q : UInt32} {v3 : Int32} {MI : mI} {ML : mJ} 
    (h : ∃ j1 m2 : Nat, (q : UInt32).toNat = 10 + j1 ∧ mstl[j1]? = some m2 ∧ (((nI m2) ≤ v3 → Q (some (.int (nI 1))) MI ML) ∧ (¬ (nI m2) ≤ v3 → (((MI 3 4) + v3) < nI 0 → Q (some (.int (nI 0))) MI ML) ∧ (¬ ((MI 3 4) + v3) < nI 0 → ((nI 160) ≤ ((MI 3 4) + v3) → Q (some (.int (nI 0))) MI ML) ∧ (¬ (nI 160) ≤ ((MI 3 4) + v3) → ∃ i3 : Nat, ((MI 3 4) + v3) = nI i3 ∧ i3 < 160 ∧ (∃ (j4 : Nat) (b5 : List Int32) (i6 : Nat), (q : UInt32).toNat = 10 + j4 ∧ mstb[j4]? = some b5 ∧ v3 = nI i6 ∧ i6 < b5.length ∧ b5.length < 10001 ∧ (((MI 5 i3) = (b5.getD i6 0) → VX4_isWord_17 D Q q (v3 + (nI 1)) MI ML) ∧ (¬ (MI 5 i3) = (b5.getD i6 0) → Q (some (.int (nI 0))) MI ML)))))))) :
    VX4_isWord_17 D Q q v3 MI ML := by
  show mEx (mrn D) TX4_isWord (mqS Q) (17, [some (.ref 3), some (.float q), none, some (.int v3), none], [], (W0, Sh0, MI, ML))
  refine x_st rfl ?_
  refine x_st rfl ?_
  obtain ⟨j1, m2, hq, hm, h⟩ := h
  refine x_slen (nx := 22) rfl hq hm rfl ?_
  refine x_br rfl (fun c => ?_) (fun c => ?_)
  · replace h := h.1 c
    refine x_st rfl ?_
    refine x_ret rfl ?_
    exact ⟨_, _, rfl, h⟩
  · replace h := h.2 c
    refine x_st rfl ?_
    refine x_gi (ci := 4) (k := 4) (nx := 29) rfl sh_3 rfl ?_
    refine x_st rfl ?_
    refine x_st rfl ?_
    refine x_st rfl ?_
    refine x_st rfl ?_
    refine x_br rfl (fun c => ?_) (fun c => ?_)
    · replace h := h.1 c
      refine x_st rfl ?_
      refine x_ret rfl ?_
      exact ⟨_, _, rfl, h⟩
    · replace h := h.2 c
      refine x_st rfl ?_
      refine x_st rfl ?_
      refine x_br rfl (fun c => ?_) (fun c => ?_)
      · replace h := h.1 c
        refine x_st rfl ?_
        refine x_ret rfl ?_
        exact ⟨_, _, rfl, h⟩
      · replace h := h.2 c
        refine x_st rfl ?_
        refine x_gr (ci := 4) (k := 2) (nx := 50) rfl sh_3 rfl ?_
        refine x_st rfl ?_
        obtain ⟨i3, hx, hi, h⟩ := h
        refine x_ia (i := i3) (nx := 53) rfl sh_5 hx hi (by decide) ?_
        refine x_st rfl ?_
        refine x_st rfl ?_
        obtain ⟨j4, b5, i6, hq, hm, hx, hi, hl, h⟩ := h
        refine x_sat (nx := 58) rfl hq hm rfl hx hi hl ?_
        refine x_br rfl (fun c => ?_) (fun c => ?_)
        · replace h := h.1 c
          refine x_st rfl ?_
          refine x_st rfl ?_
          refine x_kl ?_ h
          exact ⟨Or.inr rfl, ⟨Or.inr rfl, ⟨Or.inl rfl, ⟨Or.inr rfl, ⟨Or.inl rfl, True.intro⟩⟩⟩⟩⟩
        · replace h := h.2 c
          refine x_st rfl ?_
          refine x_ret rfl ?_
          exact ⟨_, _, rfl, h⟩
theorem EX4_isWord {D : Nat} {Q : Option Value → mI → mJ → Prop} {q : UInt32} {v2 : Int32} {MI : mI} {ML : mJ} (h : VX4_isWord_0 D Q q v2 MI ML) : ∃ v MI' ML', Q v MI' ML' ∧ mrc (D + 1) 63 [.ref 3, .float q, .int v2] MI ML v MI' ML' := by
  refine x_en (n := 2) (T := TX4_isWord) rfl rfl ?_
  refine x_kl ?_ h
  exact ⟨Or.inr rfl, ⟨Or.inr rfl, ⟨Or.inr rfl, ⟨Or.inl rfl, ⟨Or.inl rfl, True.intro⟩⟩⟩⟩⟩
def VX4_wordOf_0 (D : Nat) (Q : Option Value → mI → mJ → Prop)  (v0 : Int32) (MI : mI) (ML : mJ) : Prop := mEx (mrn D) TX4_wordOf (mqS Q) (0, [some (.int v0)], [], (W0, Sh0, MI, ML))
theorem BX4_wordOf_0 {D : Nat} {Q : Option Value → mI → mJ → Prop}  {v0 : Int32} {MI : mI} {ML : mJ} 
    (h : (v0 = (nI 0) → Q (some (.float 10)) MI ML) ∧ (¬ v0 = (nI 0) → (v0 = (nI 1) → Q (some (.float 11)) MI ML) ∧ (¬ v0 = (nI 1) → (v0 = (nI 2) → Q (some (.float 12)) MI ML) ∧ (¬ v0 = (nI 2) → (v0 = (nI 3) → Q (some (.float 13)) MI ML) ∧ (¬ v0 = (nI 3) → (v0 = (nI 4) → Q (some (.float 14)) MI ML) ∧ (¬ v0 = (nI 4) → Q (some (.float 15)) MI ML)))))) :
    VX4_wordOf_0 D Q v0 MI ML := by
  show mEx (mrn D) TX4_wordOf (mqS Q) (0, [some (.int v0)], [], (W0, Sh0, MI, ML))
  refine x_st rfl ?_
  refine x_sw rfl ?_
  refine ⟨fun c => ?_, fun c => ?_⟩
  · replace h := h.1 c
    refine x_st rfl ?_
    refine x_ret rfl ?_
    exact ⟨_, _, rfl, h⟩
  · replace h := h.2 c
    refine ⟨fun c => ?_, fun c => ?_⟩
    · replace h := h.1 c
      refine x_st rfl ?_
      refine x_ret rfl ?_
      exact ⟨_, _, rfl, h⟩
    · replace h := h.2 c
      refine ⟨fun c => ?_, fun c => ?_⟩
      · replace h := h.1 c
        refine x_st rfl ?_
        refine x_ret rfl ?_
        exact ⟨_, _, rfl, h⟩
      · replace h := h.2 c
        refine ⟨fun c => ?_, fun c => ?_⟩
        · replace h := h.1 c
          refine x_st rfl ?_
          refine x_ret rfl ?_
          exact ⟨_, _, rfl, h⟩
        · replace h := h.2 c
          refine ⟨fun c => ?_, fun c => ?_⟩
          · replace h := h.1 c
            refine x_st rfl ?_
            refine x_ret rfl ?_
            exact ⟨_, _, rfl, h⟩
          · replace h := h.2 c
            refine x_st rfl ?_
            refine x_ret rfl ?_
            exact ⟨_, _, rfl, h⟩
theorem EX4_wordOf {D : Nat} {Q : Option Value → mI → mJ → Prop}  {v0 : Int32} {MI : mI} {ML : mJ} (h : VX4_wordOf_0 D Q v0 MI ML) : ∃ v MI' ML', Q v MI' ML' ∧ mrc (D + 1) 64 [.int v0] MI ML v MI' ML' := by
  refine x_en (n := 0) (T := TX4_wordOf) rfl rfl ?_
  refine x_kl ?_ h
  exact ⟨Or.inr rfl, True.intro⟩
def VX4_isDigit_0 (D : Nat) (Q : Option Value → mI → mJ → Prop)  (v0 : Int32) (MI : mI) (ML : mJ) : Prop := mEx (mrn D) TX4_isDigit (mqS Q) (0, [some (.int v0)], [], (W0, Sh0, MI, ML))
theorem BX4_isDigit_0 {D : Nat} {Q : Option Value → mI → mJ → Prop}  {v0 : Int32} {MI : mI} {ML : mJ} 
    (h : (v0 < (nI 48) → Q (some (.int (nI 0))) MI ML) ∧ (¬ v0 < (nI 48) → ((nI 57) < v0 → Q (some (.int (nI 0))) MI ML) ∧ (¬ (nI 57) < v0 → Q (some (.int (nI 1))) MI ML))) :
    VX4_isDigit_0 D Q v0 MI ML := by
  show mEx (mrn D) TX4_isDigit (mqS Q) (0, [some (.int v0)], [], (W0, Sh0, MI, ML))
  refine x_st rfl ?_
  refine x_st rfl ?_
  refine x_br rfl (fun c => ?_) (fun c => ?_)
  · replace h := h.1 c
    refine x_st rfl ?_
    refine x_ret rfl ?_
    exact ⟨_, _, rfl, h⟩
  · replace h := h.2 c
    refine x_st rfl ?_
    refine x_st rfl ?_
    refine x_br rfl (fun c => ?_) (fun c => ?_)
    · replace h := h.1 c
      refine x_st rfl ?_
      refine x_ret rfl ?_
      exact ⟨_, _, rfl, h⟩
    · replace h := h.2 c
      refine x_st rfl ?_
      refine x_st rfl ?_
      refine x_ret rfl ?_
      exact ⟨_, _, rfl, h⟩
theorem EX4_isDigit {D : Nat} {Q : Option Value → mI → mJ → Prop}  {v0 : Int32} {MI : mI} {ML : mJ} (h : VX4_isDigit_0 D Q v0 MI ML) : ∃ v MI' ML', Q v MI' ML' ∧ mrc (D + 1) 65 [.int v0] MI ML v MI' ML' := by
  refine x_en (n := 0) (T := TX4_isDigit) rfl rfl ?_
  refine x_kl ?_ h
  exact ⟨Or.inr rfl, True.intro⟩
def VX4_next_0 (D : Nat) (Q : Option Value → mI → mJ → Prop)  (MI : mI) (ML : mJ) : Prop := mEx (mrn D) TX4_next (mqS Q) (0, [some (.ref 3)], [], (W0, Sh0, MI, ML))
theorem BX4_next_0 {D : Nat} {Q : Option Value → mI → mJ → Prop}  {MI : mI} {ML : mJ} 
    (h : ((MI 3 4) < nI 0 → Q (some (.int (-1 : Int32))) MI ML) ∧ (¬ (MI 3 4) < nI 0 → ((MI 3 3) ≤ (MI 3 4) → Q (some (.int (-1 : Int32))) MI ML) ∧ (¬ (MI 3 3) ≤ (MI 3 4) → ((nI 160) ≤ (MI 3 4) → Q (some (.int (-1 : Int32))) MI ML) ∧ (¬ (nI 160) ≤ (MI 3 4) → ∃ i1 : Nat, (MI 3 4) = nI i1 ∧ i1 < 160 ∧ (Q (some (.int (MI 5 i1))) MI ML))))) :
    VX4_next_0 D Q  MI ML := by
  show mEx (mrn D) TX4_next (mqS Q) (0, [some (.ref 3)], [], (W0, Sh0, MI, ML))
  refine x_st rfl ?_
  refine x_gi (ci := 4) (k := 4) (nx := 4) rfl sh_3 rfl ?_
  refine x_br rfl (fun c => ?_) (fun c => ?_)
  · replace h := h.1 c
    refine x_st rfl ?_
    refine x_ret rfl ?_
    exact ⟨_, _, rfl, h⟩
  · replace h := h.2 c
    refine x_st rfl ?_
    refine x_gi (ci := 4) (k := 4) (nx := 11) rfl sh_3 rfl ?_
    refine x_st rfl ?_
    refine x_gi (ci := 4) (k := 3) (nx := 15) rfl sh_3 rfl ?_
    refine x_br rfl (fun c => ?_) (fun c => ?_)
    · replace h := h.1 c
      refine x_st rfl ?_
      refine x_ret rfl ?_
      exact ⟨_, _, rfl, h⟩
    · replace h := h.2 c
      refine x_st rfl ?_
      refine x_gi (ci := 4) (k := 4) (nx := 22) rfl sh_3 rfl ?_
      refine x_st rfl ?_
      refine x_br rfl (fun c => ?_) (fun c => ?_)
      · replace h := h.1 c
        refine x_st rfl ?_
        refine x_ret rfl ?_
        exact ⟨_, _, rfl, h⟩
      · replace h := h.2 c
        refine x_st rfl ?_
        refine x_gr (ci := 4) (k := 2) (nx := 32) rfl sh_3 rfl ?_
        refine x_st rfl ?_
        refine x_gi (ci := 4) (k := 4) (nx := 36) rfl sh_3 rfl ?_
        obtain ⟨i1, hx, hi, h⟩ := h
        refine x_ia (i := i1) (nx := 37) rfl sh_5 hx hi (by decide) ?_
        refine x_st rfl ?_
        refine x_ret rfl ?_
        exact ⟨_, _, rfl, h⟩
theorem EX4_next {D : Nat} {Q : Option Value → mI → mJ → Prop}  {MI : mI} {ML : mJ} (h : VX4_next_0 D Q  MI ML) : ∃ v MI' ML', Q v MI' ML' ∧ mrc (D + 1) 66 [.ref 3] MI ML v MI' ML' := by
  refine x_en (n := 0) (T := TX4_next) rfl rfl ?_
  refine x_kl ?_ h
  exact ⟨Or.inr rfl, True.intro⟩
def VX4_write_0 (D : Nat) (Q : Option Value → mI → mJ → Prop)  (v1 : Int32) (MI : mI) (ML : mJ) : Prop := mEx (mrn D) TX4_write (mqS Q) (0, [some (.ref 3), some (.int v1)], [], (W0, Sh0, MI, ML))
theorem BX4_write_0 {D : Nat} {Q : Option Value → mI → mJ → Prop}  {v1 : Int32} {MI : mI} {ML : mJ} 
    (h : ((nI 161) ≤ (MI 3 1) → Q none MI ML) ∧ (¬ (nI 161) ≤ (MI 3 1) → ∃ i1 : Nat, (MI 3 1) = nI i1 ∧ i1 < 161 ∧ (Q none (mup (mup MI 4 (mput (MI 4) i1 v1)) 3 (mput ((mup MI 4 (mput (MI 4) i1 v1)) 3) 1 (((mup MI 4 (mput (MI 4) i1 v1)) 3 1) + (nI 1)))) ML))) :
    VX4_write_0 D Q v1 MI ML := by
  show mEx (mrn D) TX4_write (mqS Q) (0, [some (.ref 3), some (.int v1)], [], (W0, Sh0, MI, ML))
  refine x_st rfl ?_
  refine x_gi (ci := 4) (k := 1) (nx := 4) rfl sh_3 rfl ?_
  refine x_st rfl ?_
  refine x_br rfl (fun c => ?_) (fun c => ?_)
  · replace h := h.1 c
    refine x_ret rfl ?_
    exact ⟨_, _, rfl, h⟩
  · replace h := h.2 c
    refine x_st rfl ?_
    refine x_gr (ci := 4) (k := 0) (nx := 14) rfl sh_3 rfl ?_
    refine x_st rfl ?_
    refine x_gi (ci := 4) (k := 1) (nx := 18) rfl sh_3 rfl ?_
    refine x_st rfl ?_
    obtain ⟨i1, hx, hi, h⟩ := h
    refine x_iast (i := i1) (nx := 20) rfl sh_4 hx hi (by decide) ?_
    refine x_st rfl ?_
    refine x_st rfl ?_
    refine x_gi (ci := 4) (k := 1) (nx := 25) rfl sh_3 rfl ?_
    refine x_st rfl ?_
    refine x_st rfl ?_
    refine x_pi (ci := 4) (k := 1) (nx := 30) rfl sh_3 rfl ?_
    refine x_ret rfl ?_
    exact ⟨_, _, rfl, h⟩
theorem EX4_write {D : Nat} {Q : Option Value → mI → mJ → Prop}  {v1 : Int32} {MI : mI} {ML : mJ} (h : VX4_write_0 D Q v1 MI ML) : ∃ v MI' ML', Q v MI' ML' ∧ mrc (D + 1) 67 [.ref 3, .int v1] MI ML v MI' ML' := by
  refine x_en (n := 0) (T := TX4_write) rfl rfl ?_
  refine x_kl ?_ h
  exact ⟨Or.inr rfl, ⟨Or.inr rfl, True.intro⟩⟩
def VX5_bodies_0 (D : Nat) (Q : Option Value → mI → mJ → Prop)  (MI : mI) (ML : mJ) : Prop := mEx (mrn D) TX5_bodies (mqS Q) (0, [some (.ref 43)], [], (W0, Sh0, MI, ML))
theorem BX5_bodies_0 {D : Nat} {Q : Option Value → mI → mJ → Prop}  {MI : mI} {ML : mJ} 
    (h : Q (some (.int (MI 43 1))) MI ML) :
    VX5_bodies_0 D Q  MI ML := by
  show mEx (mrn D) TX5_bodies (mqS Q) (0, [some (.ref 43)], [], (W0, Sh0, MI, ML))
  refine x_st rfl ?_
  refine x_gi (ci := 5) (k := 1) (nx := 4) rfl sh_43 rfl ?_
  refine x_ret rfl ?_
  exact ⟨_, _, rfl, h⟩
theorem EX5_bodies {D : Nat} {Q : Option Value → mI → mJ → Prop}  {MI : mI} {ML : mJ} (h : VX5_bodies_0 D Q  MI ML) : ∃ v MI' ML', Q v MI' ML' ∧ mrc (D + 1) 74 [.ref 43] MI ML v MI' ML' := by
  refine x_en (n := 0) (T := TX5_bodies) rfl rfl ?_
  refine x_kl ?_ h
  exact ⟨Or.inr rfl, True.intro⟩
def VX5_ran_0 (D : Nat) (Q : Option Value → mI → mJ → Prop)  (MI : mI) (ML : mJ) : Prop := mEx (mrn D) TX5_ran (mqS Q) (0, [some (.ref 43)], [], (W0, Sh0, MI, ML))
theorem BX5_ran_0 {D : Nat} {Q : Option Value → mI → mJ → Prop}  {MI : mI} {ML : mJ} 
    (h : Q (some (.int (MI 43 3))) MI ML) :
    VX5_ran_0 D Q  MI ML := by
  show mEx (mrn D) TX5_ran (mqS Q) (0, [some (.ref 43)], [], (W0, Sh0, MI, ML))
  refine x_st rfl ?_
  refine x_gi (ci := 5) (k := 3) (nx := 4) rfl sh_43 rfl ?_
  refine x_ret rfl ?_
  exact ⟨_, _, rfl, h⟩
theorem EX5_ran {D : Nat} {Q : Option Value → mI → mJ → Prop}  {MI : mI} {ML : mJ} (h : VX5_ran_0 D Q  MI ML) : ∃ v MI' ML', Q v MI' ML' ∧ mrc (D + 1) 77 [.ref 43] MI ML v MI' ML' := by
  refine x_en (n := 0) (T := TX5_ran) rfl rfl ?_
  refine x_kl ?_ h
  exact ⟨Or.inr rfl, True.intro⟩
def VX7_goBy_0 (D : Nat) (Q : Option Value → mI → mJ → Prop) (r r1 r2 r3 r4 : Nat) (k a : Nat) (MI : mI) (ML : mJ) : Prop := mEx (mrn D) TX7_goBy (mqS Q) (0, [some (.ref r), some (.ref k), some (.ref 6), none, none, none], [], (W0, Sh0, MI, ML))
def VX7_goBy_20 (D : Nat) (Q : Option Value → mI → mJ → Prop) (r r1 r2 r3 r4 : Nat) (k a : Nat) (v3 : Int32) (v4 : Int32) (MI : mI) (ML : mJ) : Prop := mEx (mrn D) TX7_goBy (mqS Q) (20, [some (.ref r), some (.ref k), some (.ref 6), some (.int v3), some (.int v4), none], [], (W0, Sh0, MI, ML))
theorem BX7_goBy_0 {D : Nat} {Q : Option Value → mI → mJ → Prop} {r r1 r2 r3 r4 : Nat} {k a : Nat} {MI : mI} {ML : mJ} (hR : rd r r1 r2 r3 r4) (hB : bz k a)
    (h : VX7_goBy_20 D Q r r1 r2 r3 r4 k a (nI 0) (nI 0) (mup (mup (mup MI r (mput (MI r) 0 (nI 0))) r (mput ((mup MI r (mput (MI r) 0 (nI 0))) r) 5 (nI 0))) r (mput ((mup (mup MI r (mput (MI r) 0 (nI 0))) r (mput ((mup MI r (mput (MI r) 0 (nI 0))) r) 5 (nI 0))) r) 6 (nI 0))) ML) :
    VX7_goBy_0 D Q r r1 r2 r3 r4 k a MI ML := by
  show mEx (mrn D) TX7_goBy (mqS Q) (0, [some (.ref r), some (.ref k), some (.ref 6), none, none, none], [], (W0, Sh0, MI, ML))
  refine x_st rfl ?_
  refine x_st rfl ?_
  refine x_pi (ci := 7) (k := 0) (nx := 5) rfl (rd_o hR) rfl ?_
  refine x_st rfl ?_
  refine x_st rfl ?_
  refine x_pi (ci := 7) (k := 5) (nx := 10) rfl (rd_o hR) rfl ?_
  refine x_st rfl ?_
  refine x_st rfl ?_
  refine x_pi (ci := 7) (k := 6) (nx := 15) rfl (rd_o hR) rfl ?_
  refine x_st rfl ?_
  refine x_st rfl ?_
  refine x_st rfl ?_
  refine x_st rfl ?_
  refine x_kl ?_ h
  exact ⟨Or.inr rfl, ⟨Or.inr rfl, ⟨Or.inr rfl, ⟨Or.inr rfl, ⟨Or.inr rfl, ⟨Or.inl rfl, True.intro⟩⟩⟩⟩⟩⟩
theorem BX7_goBy_20 {D : Nat} {Q : Option Value → mI → mJ → Prop} {r r1 r2 r3 r4 : Nat} {k a : Nat} {v3 : Int32} {v4 : Int32} {MI : mI} {ML : mJ} (hR : rd r r1 r2 r3 r4) (hB : bz k a)
    (h : ((MI k 0) ≤ v4 → ∃ (M1 : mI) (N2 : mJ), mrc D 24 [.ref k, .int (MI r 5)] MI ML none M1 N2 ∧ (Q (some (.int (M1 r 0))) M1 N2)) ∧ (¬ (MI k 0) ≤ v4 → ∃ (x5 : Int32) (M3 : mI) (N4 : mJ), mrc D 97 [.ref k, .int v3] MI ML (some (.int x5)) M3 N4 ∧ (∃ (M6 : mI) (N7 : mJ), mrc D 98 [.ref r, .ref k, .ref 6, .int x5] M3 N4 none M6 N7 ∧ (VX7_goBy_20 D Q r r1 r2 r3 r4 k a (v3 ||| ((nI 1) <<< (x5 &&& 31))) (v4 + (nI 1)) M6 N7)))) :
    VX7_goBy_20 D Q r r1 r2 r3 r4 k a v3 v4 MI ML := by
  show mEx (mrn D) TX7_goBy (mqS Q) (20, [some (.ref r), some (.ref k), some (.ref 6), some (.int v3), some (.int v4), none], [], (W0, Sh0, MI, ML))
  refine x_st rfl ?_
  refine x_st rfl ?_
  refine x_gi (ci := 0) (k := 0) (nx := 26) rfl (bz_o hB) rfl ?_
  refine x_br rfl (fun c => ?_) (fun c => ?_)
  · replace h := h.1 c
    refine x_st rfl ?_
    refine x_st rfl ?_
    refine x_gi (ci := 7) (k := 5) (nx := 62) rfl (rd_o hR) rfl ?_
    obtain ⟨M1, N2, hc, h⟩ := h
    refine x_vv (y := 24) (n := 1) (ci := 0) (nx := 65) rfl (fun _ => rfl) (bz_o hB) rfl hc ?_
    refine x_st rfl ?_
    refine x_gi (ci := 7) (k := 0) (nx := 69) rfl (rd_o hR) rfl ?_
    refine x_ret rfl ?_
    exact ⟨_, _, rfl, h⟩
  · replace h := h.2 c
    refine x_st rfl ?_
    refine x_st rfl ?_
    obtain ⟨x5, M3, N4, hc, h⟩ := h
    refine x_ci rfl hc ?_
    refine x_st rfl ?_
    refine x_st rfl ?_
    refine x_st rfl ?_
    refine x_st rfl ?_
    refine x_st rfl ?_
    refine x_st rfl ?_
    refine x_st rfl ?_
    refine x_st rfl ?_
    refine x_st rfl ?_
    refine x_st rfl ?_
    refine x_st rfl ?_
    obtain ⟨M6, N7, hc, h⟩ := h
    refine x_vv (y := 98) (n := 3) (ci := 7) (nx := 51) rfl (fun _ => rfl) (rd_o hR) rfl hc ?_
    refine x_st rfl ?_
    refine x_st rfl ?_
    refine x_kl ?_ h
    exact ⟨Or.inr rfl, ⟨Or.inr rfl, ⟨Or.inr rfl, ⟨Or.inr rfl, ⟨Or.inr rfl, ⟨Or.inl rfl, True.intro⟩⟩⟩⟩⟩⟩
theorem EX7_goBy {D : Nat} {Q : Option Value → mI → mJ → Prop} {r r1 r2 r3 r4 : Nat} {k a : Nat} {MI : mI} {ML : mJ} (h : VX7_goBy_0 D Q r r1 r2 r3 r4 k a MI ML) : ∃ v MI' ML', Q v MI' ML' ∧ mrc (D + 1) 96 [.ref r, .ref k, .ref 6] MI ML v MI' ML' := by
  refine x_en (n := 3) (T := TX7_goBy) rfl rfl ?_
  refine x_kl ?_ h
  exact ⟨Or.inr rfl, ⟨Or.inr rfl, ⟨Or.inr rfl, ⟨Or.inl rfl, ⟨Or.inl rfl, ⟨Or.inl rfl, True.intro⟩⟩⟩⟩⟩⟩
def VX7_hungriest_0 (D : Nat) (Q : Option Value → mI → mJ → Prop) (k a : Nat) (v1 : Int32) (MI : mI) (ML : mJ) : Prop := mEx (mrn D) TX7_hungriest (mqS Q) (0, [some (.ref k), some (.int v1), none, none, none, none], [], (W0, Sh0, MI, ML))
def VX7_hungriest_8 (D : Nat) (Q : Option Value → mI → mJ → Prop) (k a : Nat) (v1 : Int32) (v2 : Int32) (v3 : Int32) (v4 : Int32) (MI : mI) (ML : mJ) : Prop := mEx (mrn D) TX7_hungriest (mqS Q) (8, [some (.ref k), some (.int v1), some (.int v2), some (.int v3), some (.int v4), none], [], (W0, Sh0, MI, ML))
theorem BX7_hungriest_0 {D : Nat} {Q : Option Value → mI → mJ → Prop} {k a : Nat} {v1 : Int32} {MI : mI} {ML : mJ} (hB : bz k a)
    (h : VX7_hungriest_8 D Q k a v1 (nI 8) (-1 : Int32) (nI 0) MI ML) :
    VX7_hungriest_0 D Q k a v1 MI ML := by
  show mEx (mrn D) TX7_hungriest (mqS Q) (0, [some (.ref k), some (.int v1), none, none, none, none], [], (W0, Sh0, MI, ML))
  refine x_st rfl ?_
  refine x_st rfl ?_
  refine x_st rfl ?_
  refine x_st rfl ?_
  refine x_st rfl ?_
  refine x_st rfl ?_
  refine x_kl ?_ h
  exact ⟨Or.inr rfl, ⟨Or.inr rfl, ⟨Or.inr rfl, ⟨Or.inr rfl, ⟨Or.inr rfl, ⟨Or.inl rfl, True.intro⟩⟩⟩⟩⟩⟩
theorem BX7_hungriest_8 {D : Nat} {Q : Option Value → mI → mJ → Prop} {k a : Nat} {v1 : Int32} {v2 : Int32} {v3 : Int32} {v4 : Int32} {MI : mI} {ML : mJ} (hB : bz k a)
    (h : ((MI k 0) ≤ v4 → Q (some (.int v2)) MI ML) ∧ (¬ (MI k 0) ≤ v4 → ∃ (x3 : Int32) (M1 : mI) (N2 : mJ), mrc D 11 [.ref k, .int v4] MI ML (some (.int x3)) M1 N2 ∧ ((((v1 >>> (v4 &&& 31)) &&& (nI 1)) = nI 0 → (x3 ≤ v3 → VX7_hungriest_8 D Q k a v1 v2 v3 (v4 + (nI 1)) M1 N2) ∧ (¬ x3 ≤ v3 → VX7_hungriest_8 D Q k a v1 v4 x3 (v4 + (nI 1)) M1 N2)) ∧ (¬ ((v1 >>> (v4 &&& 31)) &&& (nI 1)) = nI 0 → VX7_hungriest_8 D Q k a v1 v2 v3 (v4 + (nI 1)) M1 N2)))) :
    VX7_hungriest_8 D Q k a v1 v2 v3 v4 MI ML := by
  show mEx (mrn D) TX7_hungriest (mqS Q) (8, [some (.ref k), some (.int v1), some (.int v2), some (.int v3), some (.int v4), none], [], (W0, Sh0, MI, ML))
  refine x_st rfl ?_
  refine x_st rfl ?_
  refine x_gi (ci := 0) (k := 0) (nx := 14) rfl (bz_o hB) rfl ?_
  refine x_br rfl (fun c => ?_) (fun c => ?_)
  · replace h := h.1 c
    refine x_st rfl ?_
    refine x_ret rfl ?_
    exact ⟨_, _, rfl, h⟩
  · replace h := h.2 c
    refine x_st rfl ?_
    refine x_st rfl ?_
    obtain ⟨x3, M1, N2, hc, h⟩ := h
    refine x_vi (y := 11) (n := 1) (ci := 0) (nx := 23) rfl (fun _ => rfl) (bz_o hB) rfl hc ?_
    refine x_st rfl ?_
    refine x_st rfl ?_
    refine x_st rfl ?_
    refine x_st rfl ?_
    refine x_st rfl ?_
    refine x_st rfl ?_
    refine x_br rfl (fun c => ?_) (fun c => ?_)
    · replace h := h.1 c
      refine x_st rfl ?_
      refine x_st rfl ?_
      refine x_br rfl (fun c => ?_) (fun c => ?_)
      · replace h := h.1 c
        refine x_st rfl ?_
        refine x_st rfl ?_
        refine x_kl ?_ h
        exact ⟨Or.inr rfl, ⟨Or.inr rfl, ⟨Or.inr rfl, ⟨Or.inr rfl, ⟨Or.inr rfl, ⟨Or.inl rfl, True.intro⟩⟩⟩⟩⟩⟩
      · replace h := h.2 c
        refine x_st rfl ?_
        refine x_st rfl ?_
        refine x_st rfl ?_
        refine x_st rfl ?_
        refine x_st rfl ?_
        refine x_st rfl ?_
        refine x_kl ?_ h
        exact ⟨Or.inr rfl, ⟨Or.inr rfl, ⟨Or.inr rfl, ⟨Or.inr rfl, ⟨Or.inr rfl, ⟨Or.inl rfl, True.intro⟩⟩⟩⟩⟩⟩
    · replace h := h.2 c
      refine x_st rfl ?_
      refine x_st rfl ?_
      refine x_kl ?_ h
      exact ⟨Or.inr rfl, ⟨Or.inr rfl, ⟨Or.inr rfl, ⟨Or.inr rfl, ⟨Or.inr rfl, ⟨Or.inl rfl, True.intro⟩⟩⟩⟩⟩⟩
theorem EX7_hungriest {D : Nat} {Q : Option Value → mI → mJ → Prop} {k a : Nat} {v1 : Int32} {MI : mI} {ML : mJ} (h : VX7_hungriest_0 D Q k a v1 MI ML) : ∃ v MI' ML', Q v MI' ML' ∧ mrc (D + 1) 97 [.ref k, .int v1] MI ML v MI' ML' := by
  refine x_en (n := 4) (T := TX7_hungriest) rfl rfl ?_
  refine x_kl ?_ h
  exact ⟨Or.inr rfl, ⟨Or.inr rfl, ⟨Or.inl rfl, ⟨Or.inl rfl, ⟨Or.inl rfl, ⟨Or.inl rfl, True.intro⟩⟩⟩⟩⟩⟩
def VX7_serve_0 (D : Nat) (Q : Option Value → mI → mJ → Prop) (r r1 r2 r3 r4 : Nat) (k a : Nat) (v3 : Int32) (MI : mI) (ML : mJ) : Prop := mEx (mrn D) TX7_serve (mqS Q) (0, [some (.ref r), some (.ref k), some (.ref 6), some (.int v3), none, none, none, none, none, none], [], (W0, Sh0, MI, ML))
def VX7_serve_70 (D : Nat) (Q : Option Value → mI → mJ → Prop) (r r1 r2 r3 r4 : Nat) (k a : Nat) (v3 : Int32) (v4 : Int32) (v5 : Int32) (v6 : Int32) (v7 : Int32) (MI : mI) (ML : mJ) : Prop := mEx (mrn D) TX7_serve (mqS Q) (70, [some (.ref r), some (.ref k), some (.ref 6), some (.int v3), some (.int v4), some (.int v5), some (.int v6), some (.int v7), none, none], [], (W0, Sh0, MI, ML))
theorem BX7_serve_0 {D : Nat} {Q : Option Value → mI → mJ → Prop} {r r1 r2 r3 r4 : Nat} {k a : Nat} {v3 : Int32} {MI : mI} {ML : mJ} (hR : rd r r1 r2 r3 r4) (hB : bz k a)
    (h : ∃ (x3 : Int32) (M1 : mI) (N2 : mJ), mrc D 16 [.ref k, .int v3, .int (nI 8)] MI ML (some (.int x3)) M1 N2 ∧ ((x3 = (nI 8) → Q none M1 N2) ∧ (¬ x3 = (nI 8) → ((M1 r 0) < (nI 8) → ∃ (x6 : Int32) (M4 : mI) (N5 : mJ), mrc D 14 [.ref k, .int x3, .int v3] M1 N2 (some (.int x6)) M4 N5 ∧ (∃ (x9 : Int32) (M7 : mI) (N8 : mJ), mrc D 11 [.ref k, .int v3] M4 N5 (some (.int x9)) M7 N8 ∧ (∃ (x12 : Int32) (M10 : mI) (N11 : mJ), mrc D 9 [.ref k, .int ((nI 8) + v3)] M7 N8 (some (.int x12)) M10 N11 ∧ (∃ (x15 : Int32) (M13 : mI) (N14 : mJ), mrc D 9 [.ref k, .int (nI 19)] M10 N11 (some (.int x15)) M13 N14 ∧ (∃ (M16 : mI) (N17 : mJ), mrc D 47 [.ref 6, .int x6, .int x9, .int x12, .int x15, .int (M13 r 0)] M13 N14 none M16 N17 ∧ (VX7_serve_70 D Q r r1 r2 r3 r4 k a v3 x3 (nI 8) (-1 : Int32) (nI 0) M16 N17)))))) ∧ (¬ (M1 r 0) < (nI 8) → Q none M1 N2)))) :
    VX7_serve_0 D Q r r1 r2 r3 r4 k a v3 MI ML := by
  show mEx (mrn D) TX7_serve (mqS Q) (0, [some (.ref r), some (.ref k), some (.ref 6), some (.int v3), none, none, none, none, none, none], [], (W0, Sh0, MI, ML))
  refine x_st rfl ?_
  refine x_st rfl ?_
  refine x_st rfl ?_
  obtain ⟨x3, M1, N2, hc, h⟩ := h
  refine x_vi (y := 16) (n := 2) (ci := 0) (nx := 7) rfl (fun _ => rfl) (bz_o hB) rfl hc ?_
  refine x_st rfl ?_
  refine x_st rfl ?_
  refine x_st rfl ?_
  refine x_br rfl (fun c => ?_) (fun c => ?_)
  · replace h := h.1 c
    refine x_ret rfl ?_
    exact ⟨_, _, rfl, h⟩
  · replace h := h.2 c
    refine x_st rfl ?_
    refine x_gi (ci := 7) (k := 0) (nx := 20) rfl (rd_o hR) rfl ?_
    refine x_st rfl ?_
    refine x_br rfl (fun c => ?_) (fun c => ?_)
    · replace h := h.1 c
      refine x_st rfl ?_
      refine x_st rfl ?_
      refine x_st rfl ?_
      refine x_st rfl ?_
      obtain ⟨x6, M4, N5, hc, h⟩ := h
      refine x_vi (y := 14) (n := 2) (ci := 0) (nx := 34) rfl (fun _ => rfl) (bz_o hB) rfl hc ?_
      refine x_st rfl ?_
      refine x_st rfl ?_
      obtain ⟨x9, M7, N8, hc, h⟩ := h
      refine x_vi (y := 11) (n := 1) (ci := 0) (nx := 39) rfl (fun _ => rfl) (bz_o hB) rfl hc ?_
      refine x_st rfl ?_
      refine x_st rfl ?_
      refine x_st rfl ?_
      refine x_st rfl ?_
      obtain ⟨x12, M10, N11, hc, h⟩ := h
      refine x_vi (y := 9) (n := 1) (ci := 0) (nx := 47) rfl (fun _ => rfl) (bz_o hB) rfl hc ?_
      refine x_st rfl ?_
      refine x_st rfl ?_
      obtain ⟨x15, M13, N14, hc, h⟩ := h
      refine x_vi (y := 9) (n := 1) (ci := 0) (nx := 53) rfl (fun _ => rfl) (bz_o hB) rfl hc ?_
      refine x_st rfl ?_
      refine x_gi (ci := 7) (k := 0) (nx := 57) rfl (rd_o hR) rfl ?_
      obtain ⟨M16, N17, hc, h⟩ := h
      refine x_vv (y := 47) (n := 5) (ci := 3) (nx := 60) rfl (fun _ => rfl) sh_6 rfl hc ?_
      refine x_st rfl ?_
      refine x_st rfl ?_
      refine x_st rfl ?_
      refine x_st rfl ?_
      refine x_st rfl ?_
      refine x_st rfl ?_
      refine x_kl ?_ h
      exact ⟨Or.inr rfl, ⟨Or.inr rfl, ⟨Or.inr rfl, ⟨Or.inr rfl, ⟨Or.inr rfl, ⟨Or.inr rfl, ⟨Or.inr rfl, ⟨Or.inr rfl, ⟨Or.inl rfl, ⟨Or.inl rfl, True.intro⟩⟩⟩⟩⟩⟩⟩⟩⟩⟩
    · replace h := h.2 c
      refine x_ret rfl ?_
      exact ⟨_, _, rfl, h⟩
theorem BX7_serve_70 {D : Nat} {Q : Option Value → mI → mJ → Prop} {r r1 r2 r3 r4 : Nat} {k a : Nat} {v3 : Int32} {v4 : Int32} {v5 : Int32} {v6 : Int32} {v7 : Int32} {MI : mI} {ML : mJ} (hR : rd r r1 r2 r3 r4) (hB : bz k a)
    (h : ((MI k 0) ≤ v7 → (v5 = (nI 8) → Q none MI ML) ∧ (¬ v5 = (nI 8) → ∃ (x3 : Int32) (M1 : mI) (N2 : mJ), mrc D 14 [.ref k, .int v5, .int v3] MI ML (some (.int x3)) M1 N2 ∧ (∃ (x6 : Int32) (M4 : mI) (N5 : mJ), mrc D 9 [.ref k, .int (nI 16)] M1 N2 (some (.int x6)) M4 N5 ∧ (∃ (M7 : mI) (N8 : mJ), mrc D 15 [.ref k, .int v5, .int v3, .int (if (nI 9) < (x3 + x6) then (nI 9) else (x3 + x6))] M4 N5 none M7 N8 ∧ (∃ (M9 : mI) (N10 : mJ), mrc D 13 [.ref k, .int v3, .int v6] M7 N8 none M9 N10 ∧ (∃ i11 : Nat, (M9 r 0) = nI i11 ∧ i11 < 8 ∧ (∃ i12 : Nat, ((mup M9 r1 (mput (M9 r1) i11 v3)) r 0) = nI i12 ∧ i12 < 8 ∧ (∃ i13 : Nat, ((mup (mup M9 r1 (mput (M9 r1) i11 v3)) r2 (mput ((mup M9 r1 (mput (M9 r1) i11 v3)) r2) i12 v5)) r 0) = nI i13 ∧ i13 < 8 ∧ (∃ i14 : Nat, ((mup (mup (mup M9 r1 (mput (M9 r1) i11 v3)) r2 (mput ((mup M9 r1 (mput (M9 r1) i11 v3)) r2) i12 v5)) r3 (mput ((mup (mup M9 r1 (mput (M9 r1) i11 v3)) r2 (mput ((mup M9 r1 (mput (M9 r1) i11 v3)) r2) i12 v5)) r3) i13 v4)) r 0) = nI i14 ∧ i14 < 8 ∧ (Q none (mup (mup (mup (mup (mup (mup (mup M9 r1 (mput (M9 r1) i11 v3)) r2 (mput ((mup M9 r1 (mput (M9 r1) i11 v3)) r2) i12 v5)) r3 (mput ((mup (mup M9 r1 (mput (M9 r1) i11 v3)) r2 (mput ((mup M9 r1 (mput (M9 r1) i11 v3)) r2) i12 v5)) r3) i13 v4)) r4 (mput ((mup (mup (mup M9 r1 (mput (M9 r1) i11 v3)) r2 (mput ((mup M9 r1 (mput (M9 r1) i11 v3)) r2) i12 v5)) r3 (mput ((mup (mup M9 r1 (mput (M9 r1) i11 v3)) r2 (mput ((mup M9 r1 (mput (M9 r1) i11 v3)) r2) i12 v5)) r3) i13 v4)) r4) i14 v6)) r (mput ((mup (mup (mup (mup M9 r1 (mput (M9 r1) i11 v3)) r2 (mput ((mup M9 r1 (mput (M9 r1) i11 v3)) r2) i12 v5)) r3 (mput ((mup (mup M9 r1 (mput (M9 r1) i11 v3)) r2 (mput ((mup M9 r1 (mput (M9 r1) i11 v3)) r2) i12 v5)) r3) i13 v4)) r4 (mput ((mup (mup (mup M9 r1 (mput (M9 r1) i11 v3)) r2 (mput ((mup M9 r1 (mput (M9 r1) i11 v3)) r2) i12 v5)) r3 (mput ((mup (mup M9 r1 (mput (M9 r1) i11 v3)) r2 (mput ((mup M9 r1 (mput (M9 r1) i11 v3)) r2) i12 v5)) r3) i13 v4)) r4) i14 v6)) r) 0 (((mup (mup (mup (mup M9 r1 (mput (M9 r1) i11 v3)) r2 (mput ((mup M9 r1 (mput (M9 r1) i11 v3)) r2) i12 v5)) r3 (mput ((mup (mup M9 r1 (mput (M9 r1) i11 v3)) r2 (mput ((mup M9 r1 (mput (M9 r1) i11 v3)) r2) i12 v5)) r3) i13 v4)) r4 (mput ((mup (mup (mup M9 r1 (mput (M9 r1) i11 v3)) r2 (mput ((mup M9 r1 (mput (M9 r1) i11 v3)) r2) i12 v5)) r3 (mput ((mup (mup M9 r1 (mput (M9 r1) i11 v3)) r2 (mput ((mup M9 r1 (mput (M9 r1) i11 v3)) r2) i12 v5)) r3) i13 v4)) r4) i14 v6)) r 0) + (nI 1)))) r (mput ((mup (mup (mup (mup (mup M9 r1 (mput (M9 r1) i11 v3)) r2 (mput ((mup M9 r1 (mput (M9 r1) i11 v3)) r2) i12 v5)) r3 (mput ((mup (mup M9 r1 (mput (M9 r1) i11 v3)) r2 (mput ((mup M9 r1 (mput (M9 r1) i11 v3)) r2) i12 v5)) r3) i13 v4)) r4 (mput ((mup (mup (mup M9 r1 (mput (M9 r1) i11 v3)) r2 (mput ((mup M9 r1 (mput (M9 r1) i11 v3)) r2) i12 v5)) r3 (mput ((mup (mup M9 r1 (mput (M9 r1) i11 v3)) r2 (mput ((mup M9 r1 (mput (M9 r1) i11 v3)) r2) i12 v5)) r3) i13 v4)) r4) i14 v6)) r (mput ((mup (mup (mup (mup M9 r1 (mput (M9 r1) i11 v3)) r2 (mput ((mup M9 r1 (mput (M9 r1) i11 v3)) r2) i12 v5)) r3 (mput ((mup (mup M9 r1 (mput (M9 r1) i11 v3)) r2 (mput ((mup M9 r1 (mput (M9 r1) i11 v3)) r2) i12 v5)) r3) i13 v4)) r4 (mput ((mup (mup (mup M9 r1 (mput (M9 r1) i11 v3)) r2 (mput ((mup M9 r1 (mput (M9 r1) i11 v3)) r2) i12 v5)) r3 (mput ((mup (mup M9 r1 (mput (M9 r1) i11 v3)) r2 (mput ((mup M9 r1 (mput (M9 r1) i11 v3)) r2) i12 v5)) r3) i13 v4)) r4) i14 v6)) r) 0 (((mup (mup (mup (mup M9 r1 (mput (M9 r1) i11 v3)) r2 (mput ((mup M9 r1 (mput (M9 r1) i11 v3)) r2) i12 v5)) r3 (mput ((mup (mup M9 r1 (mput (M9 r1) i11 v3)) r2 (mput ((mup M9 r1 (mput (M9 r1) i11 v3)) r2) i12 v5)) r3) i13 v4)) r4 (mput ((mup (mup (mup M9 r1 (mput (M9 r1) i11 v3)) r2 (mput ((mup M9 r1 (mput (M9 r1) i11 v3)) r2) i12 v5)) r3 (mput ((mup (mup M9 r1 (mput (M9 r1) i11 v3)) r2 (mput ((mup M9 r1 (mput (M9 r1) i11 v3)) r2) i12 v5)) r3) i13 v4)) r4) i14 v6)) r 0) + (nI 1)))) r) 5 (((mup (mup (mup (mup (mup M9 r1 (mput (M9 r1) i11 v3)) r2 (mput ((mup M9 r1 (mput (M9 r1) i11 v3)) r2) i12 v5)) r3 (mput ((mup (mup M9 r1 (mput (M9 r1) i11 v3)) r2 (mput ((mup M9 r1 (mput (M9 r1) i11 v3)) r2) i12 v5)) r3) i13 v4)) r4 (mput ((mup (mup (mup M9 r1 (mput (M9 r1) i11 v3)) r2 (mput ((mup M9 r1 (mput (M9 r1) i11 v3)) r2) i12 v5)) r3 (mput ((mup (mup M9 r1 (mput (M9 r1) i11 v3)) r2 (mput ((mup M9 r1 (mput (M9 r1) i11 v3)) r2) i12 v5)) r3) i13 v4)) r4) i14 v6)) r (mput ((mup (mup (mup (mup M9 r1 (mput (M9 r1) i11 v3)) r2 (mput ((mup M9 r1 (mput (M9 r1) i11 v3)) r2) i12 v5)) r3 (mput ((mup (mup M9 r1 (mput (M9 r1) i11 v3)) r2 (mput ((mup M9 r1 (mput (M9 r1) i11 v3)) r2) i12 v5)) r3) i13 v4)) r4 (mput ((mup (mup (mup M9 r1 (mput (M9 r1) i11 v3)) r2 (mput ((mup M9 r1 (mput (M9 r1) i11 v3)) r2) i12 v5)) r3 (mput ((mup (mup M9 r1 (mput (M9 r1) i11 v3)) r2 (mput ((mup M9 r1 (mput (M9 r1) i11 v3)) r2) i12 v5)) r3) i13 v4)) r4) i14 v6)) r) 0 (((mup (mup (mup (mup M9 r1 (mput (M9 r1) i11 v3)) r2 (mput ((mup M9 r1 (mput (M9 r1) i11 v3)) r2) i12 v5)) r3 (mput ((mup (mup M9 r1 (mput (M9 r1) i11 v3)) r2 (mput ((mup M9 r1 (mput (M9 r1) i11 v3)) r2) i12 v5)) r3) i13 v4)) r4 (mput ((mup (mup (mup M9 r1 (mput (M9 r1) i11 v3)) r2 (mput ((mup M9 r1 (mput (M9 r1) i11 v3)) r2) i12 v5)) r3 (mput ((mup (mup M9 r1 (mput (M9 r1) i11 v3)) r2 (mput ((mup M9 r1 (mput (M9 r1) i11 v3)) r2) i12 v5)) r3) i13 v4)) r4) i14 v6)) r 0) + (nI 1)))) r 5) ||| ((nI 1) <<< (v3 &&& 31))))) r (mput ((mup (mup (mup (mup (mup (mup M9 r1 (mput (M9 r1) i11 v3)) r2 (mput ((mup M9 r1 (mput (M9 r1) i11 v3)) r2) i12 v5)) r3 (mput ((mup (mup M9 r1 (mput (M9 r1) i11 v3)) r2 (mput ((mup M9 r1 (mput (M9 r1) i11 v3)) r2) i12 v5)) r3) i13 v4)) r4 (mput ((mup (mup (mup M9 r1 (mput (M9 r1) i11 v3)) r2 (mput ((mup M9 r1 (mput (M9 r1) i11 v3)) r2) i12 v5)) r3 (mput ((mup (mup M9 r1 (mput (M9 r1) i11 v3)) r2 (mput ((mup M9 r1 (mput (M9 r1) i11 v3)) r2) i12 v5)) r3) i13 v4)) r4) i14 v6)) r (mput ((mup (mup (mup (mup M9 r1 (mput (M9 r1) i11 v3)) r2 (mput ((mup M9 r1 (mput (M9 r1) i11 v3)) r2) i12 v5)) r3 (mput ((mup (mup M9 r1 (mput (M9 r1) i11 v3)) r2 (mput ((mup M9 r1 (mput (M9 r1) i11 v3)) r2) i12 v5)) r3) i13 v4)) r4 (mput ((mup (mup (mup M9 r1 (mput (M9 r1) i11 v3)) r2 (mput ((mup M9 r1 (mput (M9 r1) i11 v3)) r2) i12 v5)) r3 (mput ((mup (mup M9 r1 (mput (M9 r1) i11 v3)) r2 (mput ((mup M9 r1 (mput (M9 r1) i11 v3)) r2) i12 v5)) r3) i13 v4)) r4) i14 v6)) r) 0 (((mup (mup (mup (mup M9 r1 (mput (M9 r1) i11 v3)) r2 (mput ((mup M9 r1 (mput (M9 r1) i11 v3)) r2) i12 v5)) r3 (mput ((mup (mup M9 r1 (mput (M9 r1) i11 v3)) r2 (mput ((mup M9 r1 (mput (M9 r1) i11 v3)) r2) i12 v5)) r3) i13 v4)) r4 (mput ((mup (mup (mup M9 r1 (mput (M9 r1) i11 v3)) r2 (mput ((mup M9 r1 (mput (M9 r1) i11 v3)) r2) i12 v5)) r3 (mput ((mup (mup M9 r1 (mput (M9 r1) i11 v3)) r2 (mput ((mup M9 r1 (mput (M9 r1) i11 v3)) r2) i12 v5)) r3) i13 v4)) r4) i14 v6)) r 0) + (nI 1)))) r (mput ((mup (mup (mup (mup (mup M9 r1 (mput (M9 r1) i11 v3)) r2 (mput ((mup M9 r1 (mput (M9 r1) i11 v3)) r2) i12 v5)) r3 (mput ((mup (mup M9 r1 (mput (M9 r1) i11 v3)) r2 (mput ((mup M9 r1 (mput (M9 r1) i11 v3)) r2) i12 v5)) r3) i13 v4)) r4 (mput ((mup (mup (mup M9 r1 (mput (M9 r1) i11 v3)) r2 (mput ((mup M9 r1 (mput (M9 r1) i11 v3)) r2) i12 v5)) r3 (mput ((mup (mup M9 r1 (mput (M9 r1) i11 v3)) r2 (mput ((mup M9 r1 (mput (M9 r1) i11 v3)) r2) i12 v5)) r3) i13 v4)) r4) i14 v6)) r (mput ((mup (mup (mup (mup M9 r1 (mput (M9 r1) i11 v3)) r2 (mput ((mup M9 r1 (mput (M9 r1) i11 v3)) r2) i12 v5)) r3 (mput ((mup (mup M9 r1 (mput (M9 r1) i11 v3)) r2 (mput ((mup M9 r1 (mput (M9 r1) i11 v3)) r2) i12 v5)) r3) i13 v4)) r4 (mput ((mup (mup (mup M9 r1 (mput (M9 r1) i11 v3)) r2 (mput ((mup M9 r1 (mput (M9 r1) i11 v3)) r2) i12 v5)) r3 (mput ((mup (mup M9 r1 (mput (M9 r1) i11 v3)) r2 (mput ((mup M9 r1 (mput (M9 r1) i11 v3)) r2) i12 v5)) r3) i13 v4)) r4) i14 v6)) r) 0 (((mup (mup (mup (mup M9 r1 (mput (M9 r1) i11 v3)) r2 (mput ((mup M9 r1 (mput (M9 r1) i11 v3)) r2) i12 v5)) r3 (mput ((mup (mup M9 r1 (mput (M9 r1) i11 v3)) r2 (mput ((mup M9 r1 (mput (M9 r1) i11 v3)) r2) i12 v5)) r3) i13 v4)) r4 (mput ((mup (mup (mup M9 r1 (mput (M9 r1) i11 v3)) r2 (mput ((mup M9 r1 (mput (M9 r1) i11 v3)) r2) i12 v5)) r3 (mput ((mup (mup M9 r1 (mput (M9 r1) i11 v3)) r2 (mput ((mup M9 r1 (mput (M9 r1) i11 v3)) r2) i12 v5)) r3) i13 v4)) r4) i14 v6)) r 0) + (nI 1)))) r) 5 (((mup (mup (mup (mup (mup M9 r1 (mput (M9 r1) i11 v3)) r2 (mput ((mup M9 r1 (mput (M9 r1) i11 v3)) r2) i12 v5)) r3 (mput ((mup (mup M9 r1 (mput (M9 r1) i11 v3)) r2 (mput ((mup M9 r1 (mput (M9 r1) i11 v3)) r2) i12 v5)) r3) i13 v4)) r4 (mput ((mup (mup (mup M9 r1 (mput (M9 r1) i11 v3)) r2 (mput ((mup M9 r1 (mput (M9 r1) i11 v3)) r2) i12 v5)) r3 (mput ((mup (mup M9 r1 (mput (M9 r1) i11 v3)) r2 (mput ((mup M9 r1 (mput (M9 r1) i11 v3)) r2) i12 v5)) r3) i13 v4)) r4) i14 v6)) r (mput ((mup (mup (mup (mup M9 r1 (mput (M9 r1) i11 v3)) r2 (mput ((mup M9 r1 (mput (M9 r1) i11 v3)) r2) i12 v5)) r3 (mput ((mup (mup M9 r1 (mput (M9 r1) i11 v3)) r2 (mput ((mup M9 r1 (mput (M9 r1) i11 v3)) r2) i12 v5)) r3) i13 v4)) r4 (mput ((mup (mup (mup M9 r1 (mput (M9 r1) i11 v3)) r2 (mput ((mup M9 r1 (mput (M9 r1) i11 v3)) r2) i12 v5)) r3 (mput ((mup (mup M9 r1 (mput (M9 r1) i11 v3)) r2 (mput ((mup M9 r1 (mput (M9 r1) i11 v3)) r2) i12 v5)) r3) i13 v4)) r4) i14 v6)) r) 0 (((mup (mup (mup (mup M9 r1 (mput (M9 r1) i11 v3)) r2 (mput ((mup M9 r1 (mput (M9 r1) i11 v3)) r2) i12 v5)) r3 (mput ((mup (mup M9 r1 (mput (M9 r1) i11 v3)) r2 (mput ((mup M9 r1 (mput (M9 r1) i11 v3)) r2) i12 v5)) r3) i13 v4)) r4 (mput ((mup (mup (mup M9 r1 (mput (M9 r1) i11 v3)) r2 (mput ((mup M9 r1 (mput (M9 r1) i11 v3)) r2) i12 v5)) r3 (mput ((mup (mup M9 r1 (mput (M9 r1) i11 v3)) r2 (mput ((mup M9 r1 (mput (M9 r1) i11 v3)) r2) i12 v5)) r3) i13 v4)) r4) i14 v6)) r 0) + (nI 1)))) r 5) ||| ((nI 1) <<< (v3 &&& 31))))) r) 6 (((mup (mup (mup (mup (mup (mup M9 r1 (mput (M9 r1) i11 v3)) r2 (mput ((mup M9 r1 (mput (M9 r1) i11 v3)) r2) i12 v5)) r3 (mput ((mup (mup M9 r1 (mput (M9 r1) i11 v3)) r2 (mput ((mup M9 r1 (mput (M9 r1) i11 v3)) r2) i12 v5)) r3) i13 v4)) r4 (mput ((mup (mup (mup M9 r1 (mput (M9 r1) i11 v3)) r2 (mput ((mup M9 r1 (mput (M9 r1) i11 v3)) r2) i12 v5)) r3 (mput ((mup (mup M9 r1 (mput (M9 r1) i11 v3)) r2 (mput ((mup M9 r1 (mput (M9 r1) i11 v3)) r2) i12 v5)) r3) i13 v4)) r4) i14 v6)) r (mput ((mup (mup (mup (mup M9 r1 (mput (M9 r1) i11 v3)) r2 (mput ((mup M9 r1 (mput (M9 r1) i11 v3)) r2) i12 v5)) r3 (mput ((mup (mup M9 r1 (mput (M9 r1) i11 v3)) r2 (mput ((mup M9 r1 (mput (M9 r1) i11 v3)) r2) i12 v5)) r3) i13 v4)) r4 (mput ((mup (mup (mup M9 r1 (mput (M9 r1) i11 v3)) r2 (mput ((mup M9 r1 (mput (M9 r1) i11 v3)) r2) i12 v5)) r3 (mput ((mup (mup M9 r1 (mput (M9 r1) i11 v3)) r2 (mput ((mup M9 r1 (mput (M9 r1) i11 v3)) r2) i12 v5)) r3) i13 v4)) r4) i14 v6)) r) 0 (((mup (mup (mup (mup M9 r1 (mput (M9 r1) i11 v3)) r2 (mput ((mup M9 r1 (mput (M9 r1) i11 v3)) r2) i12 v5)) r3 (mput ((mup (mup M9 r1 (mput (M9 r1) i11 v3)) r2 (mput ((mup M9 r1 (mput (M9 r1) i11 v3)) r2) i12 v5)) r3) i13 v4)) r4 (mput ((mup (mup (mup M9 r1 (mput (M9 r1) i11 v3)) r2 (mput ((mup M9 r1 (mput (M9 r1) i11 v3)) r2) i12 v5)) r3 (mput ((mup (mup M9 r1 (mput (M9 r1) i11 v3)) r2 (mput ((mup M9 r1 (mput (M9 r1) i11 v3)) r2) i12 v5)) r3) i13 v4)) r4) i14 v6)) r 0) + (nI 1)))) r (mput ((mup (mup (mup (mup (mup M9 r1 (mput (M9 r1) i11 v3)) r2 (mput ((mup M9 r1 (mput (M9 r1) i11 v3)) r2) i12 v5)) r3 (mput ((mup (mup M9 r1 (mput (M9 r1) i11 v3)) r2 (mput ((mup M9 r1 (mput (M9 r1) i11 v3)) r2) i12 v5)) r3) i13 v4)) r4 (mput ((mup (mup (mup M9 r1 (mput (M9 r1) i11 v3)) r2 (mput ((mup M9 r1 (mput (M9 r1) i11 v3)) r2) i12 v5)) r3 (mput ((mup (mup M9 r1 (mput (M9 r1) i11 v3)) r2 (mput ((mup M9 r1 (mput (M9 r1) i11 v3)) r2) i12 v5)) r3) i13 v4)) r4) i14 v6)) r (mput ((mup (mup (mup (mup M9 r1 (mput (M9 r1) i11 v3)) r2 (mput ((mup M9 r1 (mput (M9 r1) i11 v3)) r2) i12 v5)) r3 (mput ((mup (mup M9 r1 (mput (M9 r1) i11 v3)) r2 (mput ((mup M9 r1 (mput (M9 r1) i11 v3)) r2) i12 v5)) r3) i13 v4)) r4 (mput ((mup (mup (mup M9 r1 (mput (M9 r1) i11 v3)) r2 (mput ((mup M9 r1 (mput (M9 r1) i11 v3)) r2) i12 v5)) r3 (mput ((mup (mup M9 r1 (mput (M9 r1) i11 v3)) r2 (mput ((mup M9 r1 (mput (M9 r1) i11 v3)) r2) i12 v5)) r3) i13 v4)) r4) i14 v6)) r) 0 (((mup (mup (mup (mup M9 r1 (mput (M9 r1) i11 v3)) r2 (mput ((mup M9 r1 (mput (M9 r1) i11 v3)) r2) i12 v5)) r3 (mput ((mup (mup M9 r1 (mput (M9 r1) i11 v3)) r2 (mput ((mup M9 r1 (mput (M9 r1) i11 v3)) r2) i12 v5)) r3) i13 v4)) r4 (mput ((mup (mup (mup M9 r1 (mput (M9 r1) i11 v3)) r2 (mput ((mup M9 r1 (mput (M9 r1) i11 v3)) r2) i12 v5)) r3 (mput ((mup (mup M9 r1 (mput (M9 r1) i11 v3)) r2 (mput ((mup M9 r1 (mput (M9 r1) i11 v3)) r2) i12 v5)) r3) i13 v4)) r4) i14 v6)) r 0) + (nI 1)))) r) 5 (((mup (mup (mup (mup (mup M9 r1 (mput (M9 r1) i11 v3)) r2 (mput ((mup M9 r1 (mput (M9 r1) i11 v3)) r2) i12 v5)) r3 (mput ((mup (mup M9 r1 (mput (M9 r1) i11 v3)) r2 (mput ((mup M9 r1 (mput (M9 r1) i11 v3)) r2) i12 v5)) r3) i13 v4)) r4 (mput ((mup (mup (mup M9 r1 (mput (M9 r1) i11 v3)) r2 (mput ((mup M9 r1 (mput (M9 r1) i11 v3)) r2) i12 v5)) r3 (mput ((mup (mup M9 r1 (mput (M9 r1) i11 v3)) r2 (mput ((mup M9 r1 (mput (M9 r1) i11 v3)) r2) i12 v5)) r3) i13 v4)) r4) i14 v6)) r (mput ((mup (mup (mup (mup M9 r1 (mput (M9 r1) i11 v3)) r2 (mput ((mup M9 r1 (mput (M9 r1) i11 v3)) r2) i12 v5)) r3 (mput ((mup (mup M9 r1 (mput (M9 r1) i11 v3)) r2 (mput ((mup M9 r1 (mput (M9 r1) i11 v3)) r2) i12 v5)) r3) i13 v4)) r4 (mput ((mup (mup (mup M9 r1 (mput (M9 r1) i11 v3)) r2 (mput ((mup M9 r1 (mput (M9 r1) i11 v3)) r2) i12 v5)) r3 (mput ((mup (mup M9 r1 (mput (M9 r1) i11 v3)) r2 (mput ((mup M9 r1 (mput (M9 r1) i11 v3)) r2) i12 v5)) r3) i13 v4)) r4) i14 v6)) r) 0 (((mup (mup (mup (mup M9 r1 (mput (M9 r1) i11 v3)) r2 (mput ((mup M9 r1 (mput (M9 r1) i11 v3)) r2) i12 v5)) r3 (mput ((mup (mup M9 r1 (mput (M9 r1) i11 v3)) r2 (mput ((mup M9 r1 (mput (M9 r1) i11 v3)) r2) i12 v5)) r3) i13 v4)) r4 (mput ((mup (mup (mup M9 r1 (mput (M9 r1) i11 v3)) r2 (mput ((mup M9 r1 (mput (M9 r1) i11 v3)) r2) i12 v5)) r3 (mput ((mup (mup M9 r1 (mput (M9 r1) i11 v3)) r2 (mput ((mup M9 r1 (mput (M9 r1) i11 v3)) r2) i12 v5)) r3) i13 v4)) r4) i14 v6)) r 0) + (nI 1)))) r 5) ||| ((nI 1) <<< (v3 &&& 31))))) r 6) ||| ((nI 1) <<< (v5 &&& 31))))) N10)))))))))) ∧ (¬ (MI k 0) ≤ v7 → ∃ (x17 : Int32) (M15 : mI) (N16 : mJ), mrc D 14 [.ref k, .int v7, .int v3] MI ML (some (.int x17)) M15 N16 ∧ (((-x17) ≤ nI 0 → VX7_serve_70 D Q r r1 r2 r3 r4 k a v3 v4 v5 v6 (v7 + (nI 1)) M15 N16) ∧ (¬ (-x17) ≤ nI 0 → ((((M15 r 6) >>> (v7 &&& 31)) &&& (nI 1)) = nI 0 → ∃ (x20 : Int32) (M18 : mI) (N19 : mJ), mrc D 48 [.ref 6, .int (-x17)] M15 N16 (some (.int x20)) M18 N19 ∧ ((x20 ≤ v6 → VX7_serve_70 D Q r r1 r2 r3 r4 k a v3 v4 v5 v6 (v7 + (nI 1)) M18 N19) ∧ (¬ x20 ≤ v6 → VX7_serve_70 D Q r r1 r2 r3 r4 k a v3 v4 v7 x20 (v7 + (nI 1)) M18 N19))) ∧ (¬ (((M15 r 6) >>> (v7 &&& 31)) &&& (nI 1)) = nI 0 → VX7_serve_70 D Q r r1 r2 r3 r4 k a v3 v4 v5 v6 (v7 + (nI 1)) M15 N16))))) :
    VX7_serve_70 D Q r r1 r2 r3 r4 k a v3 v4 v5 v6 v7 MI ML := by
  show mEx (mrn D) TX7_serve (mqS Q) (70, [some (.ref r), some (.ref k), some (.ref 6), some (.int v3), some (.int v4), some (.int v5), some (.int v6), some (.int v7), none, none], [], (W0, Sh0, MI, ML))
  refine x_st rfl ?_
  refine x_st rfl ?_
  refine x_gi (ci := 0) (k := 0) (nx := 76) rfl (bz_o hB) rfl ?_
  refine x_br rfl (fun c => ?_) (fun c => ?_)
  · replace h := h.1 c
    refine x_st rfl ?_
    refine x_st rfl ?_
    refine x_br rfl (fun c => ?_) (fun c => ?_)
    · replace h := h.1 c
      refine x_ret rfl ?_
      exact ⟨_, _, rfl, h⟩
    · replace h := h.2 c
      refine x_st rfl ?_
      refine x_st rfl ?_
      refine x_st rfl ?_
      obtain ⟨x3, M1, N2, hc, h⟩ := h
      refine x_vi (y := 14) (n := 2) (ci := 0) (nx := 150) rfl (fun _ => rfl) (bz_o hB) rfl hc ?_
      refine x_st rfl ?_
      refine x_st rfl ?_
      obtain ⟨x6, M4, N5, hc, h⟩ := h
      refine x_vi (y := 9) (n := 1) (ci := 0) (nx := 156) rfl (fun _ => rfl) (bz_o hB) rfl hc ?_
      refine x_st rfl ?_
      refine x_st rfl ?_
      refine x_st rfl ?_
      refine x_st rfl ?_
      refine x_st rfl ?_
      refine x_st rfl ?_
      refine x_st rfl ?_
      refine x_st rfl ?_
      obtain ⟨M7, N8, hc, h⟩ := h
      refine x_vv (y := 15) (n := 3) (ci := 0) (nx := 173) rfl (fun _ => rfl) (bz_o hB) rfl hc ?_
      refine x_st rfl ?_
      refine x_st rfl ?_
      refine x_st rfl ?_
      obtain ⟨M9, N10, hc, h⟩ := h
      refine x_vv (y := 13) (n := 2) (ci := 0) (nx := 180) rfl (fun _ => rfl) (bz_o hB) rfl hc ?_
      refine x_st rfl ?_
      refine x_gr (ci := 7) (k := 1) (nx := 184) rfl (rd_o hR) rfl ?_
      refine x_st rfl ?_
      refine x_gi (ci := 7) (k := 0) (nx := 188) rfl (rd_o hR) rfl ?_
      refine x_st rfl ?_
      obtain ⟨i11, hx, hi, h⟩ := h
      refine x_iast (i := i11) (nx := 190) rfl (rd_1 hR) hx hi (by decide) ?_
      refine x_st rfl ?_
      refine x_gr (ci := 7) (k := 2) (nx := 194) rfl (rd_o hR) rfl ?_
      refine x_st rfl ?_
      refine x_gi (ci := 7) (k := 0) (nx := 198) rfl (rd_o hR) rfl ?_
      refine x_st rfl ?_
      obtain ⟨i12, hx, hi, h⟩ := h
      refine x_iast (i := i12) (nx := 201) rfl (rd_2 hR) hx hi (by decide) ?_
      refine x_st rfl ?_
      refine x_gr (ci := 7) (k := 3) (nx := 205) rfl (rd_o hR) rfl ?_
      refine x_st rfl ?_
      refine x_gi (ci := 7) (k := 0) (nx := 209) rfl (rd_o hR) rfl ?_
      refine x_st rfl ?_
      obtain ⟨i13, hx, hi, h⟩ := h
      refine x_iast (i := i13) (nx := 212) rfl (rd_3 hR) hx hi (by decide) ?_
      refine x_st rfl ?_
      refine x_gr (ci := 7) (k := 4) (nx := 216) rfl (rd_o hR) rfl ?_
      refine x_st rfl ?_
      refine x_gi (ci := 7) (k := 0) (nx := 220) rfl (rd_o hR) rfl ?_
      refine x_st rfl ?_
      obtain ⟨i14, hx, hi, h⟩ := h
      refine x_iast (i := i14) (nx := 223) rfl (rd_4 hR) hx hi (by decide) ?_
      refine x_st rfl ?_
      refine x_st rfl ?_
      refine x_gi (ci := 7) (k := 0) (nx := 228) rfl (rd_o hR) rfl ?_
      refine x_st rfl ?_
      refine x_st rfl ?_
      refine x_pi (ci := 7) (k := 0) (nx := 233) rfl (rd_o hR) rfl ?_
      refine x_st rfl ?_
      refine x_st rfl ?_
      refine x_gi (ci := 7) (k := 5) (nx := 238) rfl (rd_o hR) rfl ?_
      refine x_st rfl ?_
      refine x_st rfl ?_
      refine x_st rfl ?_
      refine x_st rfl ?_
      refine x_pi (ci := 7) (k := 5) (nx := 245) rfl (rd_o hR) rfl ?_
      refine x_st rfl ?_
      refine x_st rfl ?_
      refine x_gi (ci := 7) (k := 6) (nx := 250) rfl (rd_o hR) rfl ?_
      refine x_st rfl ?_
      refine x_st rfl ?_
      refine x_st rfl ?_
      refine x_st rfl ?_
      refine x_pi (ci := 7) (k := 6) (nx := 258) rfl (rd_o hR) rfl ?_
      refine x_ret rfl ?_
      exact ⟨_, _, rfl, h⟩
  · replace h := h.2 c
    refine x_st rfl ?_
    refine x_st rfl ?_
    refine x_st rfl ?_
    obtain ⟨x17, M15, N16, hc, h⟩ := h
    refine x_vi (y := 14) (n := 2) (ci := 0) (nx := 86) rfl (fun _ => rfl) (bz_o hB) rfl hc ?_
    refine x_st rfl ?_
    refine x_st rfl ?_
    refine x_st rfl ?_
    refine x_br rfl (fun c => ?_) (fun c => ?_)
    · replace h := h.1 c
      refine x_st rfl ?_
      refine x_st rfl ?_
      refine x_kl ?_ h
      exact ⟨Or.inr rfl, ⟨Or.inr rfl, ⟨Or.inr rfl, ⟨Or.inr rfl, ⟨Or.inr rfl, ⟨Or.inr rfl, ⟨Or.inr rfl, ⟨Or.inr rfl, ⟨Or.inl rfl, ⟨Or.inl rfl, True.intro⟩⟩⟩⟩⟩⟩⟩⟩⟩⟩
    · replace h := h.2 c
      refine x_st rfl ?_
      refine x_gi (ci := 7) (k := 6) (nx := 98) rfl (rd_o hR) rfl ?_
      refine x_st rfl ?_
      refine x_st rfl ?_
      refine x_st rfl ?_
      refine x_st rfl ?_
      refine x_br rfl (fun c => ?_) (fun c => ?_)
      · replace h := h.1 c
        refine x_st rfl ?_
        refine x_st rfl ?_
        obtain ⟨x20, M18, N19, hc, h⟩ := h
        refine x_vi (y := 48) (n := 1) (ci := 3) (nx := 112) rfl (fun _ => rfl) sh_6 rfl hc ?_
        refine x_st rfl ?_
        refine x_st rfl ?_
        refine x_st rfl ?_
        refine x_br rfl (fun c => ?_) (fun c => ?_)
        · replace h := h.1 c
          refine x_st rfl ?_
          refine x_st rfl ?_
          refine x_kl ?_ h
          exact ⟨Or.inr rfl, ⟨Or.inr rfl, ⟨Or.inr rfl, ⟨Or.inr rfl, ⟨Or.inr rfl, ⟨Or.inr rfl, ⟨Or.inr rfl, ⟨Or.inr rfl, ⟨Or.inl rfl, ⟨Or.inl rfl, True.intro⟩⟩⟩⟩⟩⟩⟩⟩⟩⟩
        · replace h := h.2 c
          refine x_st rfl ?_
          refine x_st rfl ?_
          refine x_st rfl ?_
          refine x_st rfl ?_
          refine x_st rfl ?_
          refine x_st rfl ?_
          refine x_kl ?_ h
          exact ⟨Or.inr rfl, ⟨Or.inr rfl, ⟨Or.inr rfl, ⟨Or.inr rfl, ⟨Or.inr rfl, ⟨Or.inr rfl, ⟨Or.inr rfl, ⟨Or.inr rfl, ⟨Or.inl rfl, ⟨Or.inl rfl, True.intro⟩⟩⟩⟩⟩⟩⟩⟩⟩⟩
      · replace h := h.2 c
        refine x_st rfl ?_
        refine x_st rfl ?_
        refine x_kl ?_ h
        exact ⟨Or.inr rfl, ⟨Or.inr rfl, ⟨Or.inr rfl, ⟨Or.inr rfl, ⟨Or.inr rfl, ⟨Or.inr rfl, ⟨Or.inr rfl, ⟨Or.inr rfl, ⟨Or.inl rfl, ⟨Or.inl rfl, True.intro⟩⟩⟩⟩⟩⟩⟩⟩⟩⟩
theorem EX7_serve {D : Nat} {Q : Option Value → mI → mJ → Prop} {r r1 r2 r3 r4 : Nat} {k a : Nat} {v3 : Int32} {MI : mI} {ML : mJ} (h : VX7_serve_0 D Q r r1 r2 r3 r4 k a v3 MI ML) : ∃ v MI' ML', Q v MI' ML' ∧ mrc (D + 1) 98 [.ref r, .ref k, .ref 6, .int v3] MI ML v MI' ML' := by
  refine x_en (n := 6) (T := TX7_serve) rfl rfl ?_
  refine x_kl ?_ h
  exact ⟨Or.inr rfl, ⟨Or.inr rfl, ⟨Or.inr rfl, ⟨Or.inr rfl, ⟨Or.inl rfl, ⟨Or.inl rfl, ⟨Or.inl rfl, ⟨Or.inl rfl, ⟨Or.inl rfl, ⟨Or.inl rfl, True.intro⟩⟩⟩⟩⟩⟩⟩⟩⟩⟩
