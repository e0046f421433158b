/-! bodies by blocks -/
def VX11_above_0 (D : Nat) (Q : Option Value → mI → mJ → Prop)  (v0 : Int32) (MI : mI) (ML : mJ) : Prop := mEx D TX11_above (mqS Q) (0, [some (.int v0)], [], (W0, Sh0, MI, ML))
theorem BX11_above_0 {D : Nat} {Q : Option Value → mI → mJ → Prop}  {v0 : Int32} {MI : mI} {ML : mJ} 
    (h : (v0 = (nI 3) → Q (some (.int (nI 2))) MI ML) ∧ (¬ v0 = (nI 3) → (v0 = (nI 4) → Q (some (.int (nI 1))) MI ML) ∧ (¬ v0 = (nI 4) → (v0 = (nI 5) → Q (some (.int (nI 3))) MI ML) ∧ (¬ v0 = (nI 5) → (v0 = (nI 7) → Q (some (.int (nI 4))) MI ML) ∧ (¬ v0 = (nI 7) → Q (some (.int (nI 0))) MI ML))))) :
    VX11_above_0 D Q v0 MI ML := by
  show mEx D TX11_above (mqS Q) (0, [some (.int v0)], [], (W0, Sh0, MI, ML))
  refine x_st rfl ?_
  refine x_st rfl ?_
  refine x_br rfl (fun c => ?_) (fun c => ?_)
  · replace h := h.1 c
    refine x_st rfl ?_
    refine x_st rfl ?_
    refine x_ret rfl ?_
    exact ⟨_, _, rfl, h⟩
  · replace h := h.2 c
    refine x_st rfl ?_
    refine x_st rfl ?_
    refine x_br rfl (fun c => ?_) (fun c => ?_)
    · replace h := h.1 c
      refine x_st rfl ?_
      refine x_st rfl ?_
      refine x_ret rfl ?_
      exact ⟨_, _, rfl, h⟩
    · replace h := h.2 c
      refine x_st rfl ?_
      refine x_st rfl ?_
      refine x_br rfl (fun c => ?_) (fun c => ?_)
      · replace h := h.1 c
        refine x_st rfl ?_
        refine x_st rfl ?_
        refine x_ret rfl ?_
        exact ⟨_, _, rfl, h⟩
      · replace h := h.2 c
        refine x_st rfl ?_
        refine x_st rfl ?_
        refine x_br rfl (fun c => ?_) (fun c => ?_)
        · replace h := h.1 c
          refine x_st rfl ?_
          refine x_st rfl ?_
          refine x_ret rfl ?_
          exact ⟨_, _, rfl, h⟩
        · replace h := h.2 c
          refine x_st rfl ?_
          refine x_ret rfl ?_
          exact ⟨_, _, rfl, h⟩
theorem EX11_above {D : Nat} {Q : Option Value → mI → mJ → Prop}  {v0 : Int32} {MI : mI} {ML : mJ} (h : VX11_above_0 D Q v0 MI ML) : ∃ v MI' ML', Q v MI' ML' ∧ mrc (D + 1) 252 [.int v0] MI ML v MI' ML' := by
  refine x_en (n := 0) (T := TX11_above) rfl rfl ?_
  refine x_kl ?_ h
  exact ⟨Or.inr rfl, True.intro⟩
def VX11_runs_0 (D : Nat) (Q : Option Value → mI → mJ → Prop)  (v1 : Int32) (MI : mI) (ML : mJ) : Prop := mEx D TX11_runs (mqS Q) (0, [some (.ref 46), some (.int v1)], [], (W0, Sh0, MI, ML))
theorem BX11_runs_0 {D : Nat} {Q : Option Value → mI → mJ → Prop}  {v1 : Int32} {MI : mI} {ML : mJ} 
    (h : ((nI 24) ≤ (MI 46 44) → Q none (mup MI 46 (mput (MI 46) 44 ((MI 46 44) + (nI 1)))) ML) ∧ (¬ (nI 24) ≤ (MI 46 44) → ∃ i1 : Nat, (MI 46 44) = nI i1 ∧ i1 < 24 ∧ (Q none (mup (mup MI 75 (mput (MI 75) i1 v1)) 46 (mput ((mup MI 75 (mput (MI 75) i1 v1)) 46) 44 (((mup MI 75 (mput (MI 75) i1 v1)) 46 44) + (nI 1)))) ML))) :
    VX11_runs_0 D Q v1 MI ML := by
  show mEx D TX11_runs (mqS Q) (0, [some (.ref 46), some (.int v1)], [], (W0, Sh0, MI, ML))
  refine x_st rfl ?_
  refine x_gi (ci := 11) (k := 44) (nx := 4) rfl sh_46 rfl ?_
  refine x_st rfl ?_
  refine x_br rfl (fun c => ?_) (fun c => ?_)
  · replace h := h.1 c
    refine x_st rfl ?_
    refine x_st rfl ?_
    refine x_gi (ci := 11) (k := 44) (nx := 24) rfl sh_46 rfl ?_
    refine x_st rfl ?_
    refine x_st rfl ?_
    refine x_pi (ci := 11) (k := 44) (nx := 29) rfl sh_46 rfl ?_
    refine x_ret rfl ?_
    exact ⟨_, _, rfl, h⟩
  · replace h := h.2 c
    refine x_st rfl ?_
    refine x_gr (ci := 11) (k := 43) (nx := 13) rfl sh_46 rfl ?_
    refine x_st rfl ?_
    refine x_gi (ci := 11) (k := 44) (nx := 17) rfl sh_46 rfl ?_
    refine x_st rfl ?_
    obtain ⟨i1, hx, hi, h⟩ := h
    refine x_iast (i := i1) (nx := 19) rfl sh_75 hx hi (by decide) ?_
    refine x_st rfl ?_
    refine x_st rfl ?_
    refine x_gi (ci := 11) (k := 44) (nx := 24) rfl sh_46 rfl ?_
    refine x_st rfl ?_
    refine x_st rfl ?_
    refine x_pi (ci := 11) (k := 44) (nx := 29) rfl sh_46 rfl ?_
    refine x_ret rfl ?_
    exact ⟨_, _, rfl, h⟩
theorem EX11_runs {D : Nat} {Q : Option Value → mI → mJ → Prop}  {v1 : Int32} {MI : mI} {ML : mJ} (h : VX11_runs_0 D Q v1 MI ML) : ∃ v MI' ML', Q v MI' ML' ∧ mrc (D + 1) 253 [.ref 46, .int v1] MI ML v MI' ML' := by
  refine x_en (n := 0) (T := TX11_runs) rfl rfl ?_
  refine x_kl ?_ h
  exact ⟨Or.inr rfl, ⟨Or.inr rfl, True.intro⟩⟩
def VX11_weighsAs_0 (D : Nat) (Q : Option Value → mI → mJ → Prop)  (v1 : Int32) (v2 : Int32) (MI : mI) (ML : mJ) : Prop := mEx D TX11_weighsAs (mqS Q) (0, [some (.ref 46), some (.int v1), some (.int v2)], [], (W0, Sh0, MI, ML))
def VX11_weighsAs_16 (D : Nat) (Q : Option Value → mI → mJ → Prop)  (v2 : Int32) (MI : mI) (ML : mJ) : Prop := mEx D TX11_weighsAs (mqS Q) (16, [some (.ref 46), none, some (.int v2)], [], (W0, Sh0, MI, ML))
theorem BX11_weighsAs_0 {D : Nat} {Q : Option Value → mI → mJ → Prop}  {v1 : Int32} {v2 : Int32} {MI : mI} {ML : mJ} 
    (h : (v1 = (nI 1) → VX11_weighsAs_16 D Q v2 MI ML) ∧ (¬ v1 = (nI 1) → (v1 = (nI 4) → VX11_weighsAs_16 D Q v2 MI ML) ∧ (¬ v1 = (nI 4) → (v1 = (nI 7) → VX11_weighsAs_16 D Q v2 MI ML) ∧ (¬ v1 = (nI 7) → (v1 = (nI 6) → ∃ (M1 : mI) (N2 : mJ), mrc D 253 [.ref 46, .int (nI 70)] MI ML none M1 N2 ∧ (∃ (x5 : Int32) (M3 : mI) (N4 : mJ), mrc D 254 [.ref 46, .int (nI 0), .int v2] M1 N2 (some (.int x5)) M3 N4 ∧ (Q (some (.int (x5 * (nI 2)))) M3 N4))) ∧ (¬ v1 = (nI 6) → ∃ (M6 : mI) (N7 : mJ), mrc D 253 [.ref 46, .int (nI 1)] MI ML none M6 N7 ∧ (Q (some (.int (v2 + (M6 46 46)))) M6 N7)))))) :
    VX11_weighsAs_0 D Q v1 v2 MI ML := by
  show mEx D TX11_weighsAs (mqS Q) (0, [some (.ref 46), some (.int v1), some (.int v2)], [], (W0, Sh0, MI, ML))
  refine x_st rfl ?_
  refine x_st rfl ?_
  refine x_br rfl (fun c => ?_) (fun c => ?_)
  · replace h := h.1 c
    refine x_kl ?_ h
    exact ⟨Or.inr rfl, ⟨Or.inl rfl, ⟨Or.inr rfl, True.intro⟩⟩⟩
  · replace h := h.2 c
    refine x_st rfl ?_
    refine x_st rfl ?_
    refine x_br rfl (fun c => ?_) (fun c => ?_)
    · replace h := h.1 c
      refine x_kl ?_ h
      exact ⟨Or.inr rfl, ⟨Or.inl rfl, ⟨Or.inr rfl, True.intro⟩⟩⟩
    · replace h := h.2 c
      refine x_st rfl ?_
      refine x_st rfl ?_
      refine x_br rfl (fun c => ?_) (fun c => ?_)
      · replace h := h.1 c
        refine x_kl ?_ h
        exact ⟨Or.inr rfl, ⟨Or.inl rfl, ⟨Or.inr rfl, True.intro⟩⟩⟩
      · replace h := h.2 c
        refine x_st rfl ?_
        refine x_st rfl ?_
        refine x_br rfl (fun c => ?_) (fun c => ?_)
        · replace h := h.1 c
          refine x_st rfl ?_
          refine x_st rfl ?_
          obtain ⟨M1, N2, hc, h⟩ := h
          refine x_vv (y := 253) (n := 1) (ci := 11) (nx := 43) rfl (fun _ => rfl) sh_46 rfl hc ?_
          refine x_st rfl ?_
          refine x_st rfl ?_
          refine x_st rfl ?_
          obtain ⟨x5, M3, N4, hc, h⟩ := h
          refine x_vi (y := 254) (n := 2) (ci := 11) (nx := 49) rfl (fun _ => rfl) sh_46 rfl hc ?_
          refine x_st rfl ?_
          refine x_st rfl ?_
          refine x_ret rfl ?_
          exact ⟨_, _, rfl, h⟩
        · replace h := h.2 c
          refine x_st rfl ?_
          refine x_st rfl ?_
          obtain ⟨M6, N7, hc, h⟩ := h
          refine x_vv (y := 253) (n := 1) (ci := 11) (nx := 57) rfl (fun _ => rfl) sh_46 rfl hc ?_
          refine x_st rfl ?_
          refine x_st rfl ?_
          refine x_gi (ci := 11) (k := 46) (nx := 62) rfl sh_46 rfl ?_
          refine x_st rfl ?_
          refine x_ret rfl ?_
          exact ⟨_, _, rfl, h⟩
theorem BX11_weighsAs_16 {D : Nat} {Q : Option Value → mI → mJ → Prop}  {v2 : Int32} {MI : mI} {ML : mJ} 
    (h : ∃ (M1 : mI) (N2 : mJ), mrc D 253 [.ref 46, .int (nI 20)] MI ML none M1 N2 ∧ (∃ (x5 : Int32) (M3 : mI) (N4 : mJ), mrc D 254 [.ref 46, .int (nI 0), .int v2] M1 N2 (some (.int x5)) M3 N4 ∧ (Q (some (.int (x5 + (nI 3)))) M3 N4))) :
    VX11_weighsAs_16 D Q v2 MI ML := by
  show mEx D TX11_weighsAs (mqS Q) (16, [some (.ref 46), none, some (.int v2)], [], (W0, Sh0, MI, ML))
  refine x_st rfl ?_
  refine x_st rfl ?_
  obtain ⟨M1, N2, hc, h⟩ := h
  refine x_vv (y := 253) (n := 1) (ci := 11) (nx := 22) rfl (fun _ => rfl) sh_46 rfl hc ?_
  refine x_st rfl ?_
  refine x_st rfl ?_
  refine x_st rfl ?_
  obtain ⟨x5, M3, N4, hc, h⟩ := h
  refine x_vi (y := 254) (n := 2) (ci := 11) (nx := 28) rfl (fun _ => rfl) sh_46 rfl hc ?_
  refine x_st rfl ?_
  refine x_st rfl ?_
  refine x_ret rfl ?_
  exact ⟨_, _, rfl, h⟩
theorem EX11_weighsAs {D : Nat} {Q : Option Value → mI → mJ → Prop}  {v1 : Int32} {v2 : Int32} {MI : mI} {ML : mJ} (h : VX11_weighsAs_0 D Q v1 v2 MI ML) : ∃ v MI' ML', Q v MI' ML' ∧ mrc (D + 1) 254 [.ref 46, .int v1, .int v2] MI ML v MI' ML' := by
  refine x_en (n := 0) (T := TX11_weighsAs) rfl rfl ?_
  refine x_kl ?_ h
  exact ⟨Or.inr rfl, ⟨Or.inr rfl, ⟨Or.inr rfl, True.intro⟩⟩⟩
def VX11_hatesAs_0 (D : Nat) (Q : Option Value → mI → mJ → Prop)  (v1 : Int32) (v2 : Int32) (MI : mI) (ML : mJ) : Prop := mEx D TX11_hatesAs (mqS Q) (0, [some (.ref 46), some (.int v1), some (.int v2), none], [], (W0, Sh0, MI, ML))
def VX11_hatesAs_10 (D : Nat) (Q : Option Value → mI → mJ → Prop)  (v2 : Int32) (MI : mI) (ML : mJ) : Prop := mEx D TX11_hatesAs (mqS Q) (10, [some (.ref 46), none, some (.int v2), none], [], (W0, Sh0, MI, ML))
theorem BX11_hatesAs_0 {D : Nat} {Q : Option Value → mI → mJ → Prop}  {v1 : Int32} {v2 : Int32} {MI : mI} {ML : mJ} 
    (h : (v1 = (nI 3) → VX11_hatesAs_10 D Q v2 MI ML) ∧ (¬ v1 = (nI 3) → (v1 = (nI 5) → VX11_hatesAs_10 D Q v2 MI ML) ∧ (¬ v1 = (nI 5) → (v1 = (nI 2) → ∃ (M1 : mI) (N2 : mJ), mrc D 253 [.ref 46, .int (nI 30)] MI ML none M1 N2 ∧ (∃ (x5 : Int32) (M3 : mI) (N4 : mJ), mrc D 255 [.ref 46, .int (nI 0), .int v2] M1 N2 (some (.int x5)) M3 N4 ∧ (Q (some (.int (-x5))) M3 N4))) ∧ (¬ v1 = (nI 2) → (v1 = (nI 7) → ∃ (M6 : mI) (N7 : mJ), mrc D 253 [.ref 46, .int (nI 80)] MI ML none M6 N7 ∧ (∃ (x10 : Int32) (M8 : mI) (N9 : mJ), mrc D 255 [.ref 46, .int (nI 4), .int v2] M6 N7 (some (.int x10)) M8 N9 ∧ (∃ (x13 : Int32) (M11 : mI) (N12 : mJ), mrc D 256 [.ref 46, .int (M8 46 45), .int (nI 2)] M8 N9 (some (.int x13)) M11 N12 ∧ (Q (some (.int (x10 + x13))) M11 N12)))) ∧ (¬ v1 = (nI 7) → ∃ (M14 : mI) (N15 : mJ), mrc D 253 [.ref 46, .int (nI 10)] MI ML none M14 N15 ∧ (∃ (x18 : Int32) (M16 : mI) (N17 : mJ), mrc D 254 [.ref 46, .int (M14 46 45), .int v2] M14 N15 (some (.int x18)) M16 N17 ∧ (Q (some (.int (x18 * (nI 2)))) M16 N17))))))) :
    VX11_hatesAs_0 D Q v1 v2 MI ML := by
  show mEx D TX11_hatesAs (mqS Q) (0, [some (.ref 46), some (.int v1), some (.int v2), none], [], (W0, Sh0, MI, ML))
  refine x_st rfl ?_
  refine x_st rfl ?_
  refine x_br rfl (fun c => ?_) (fun c => ?_)
  · replace h := h.1 c
    refine x_kl ?_ h
    exact ⟨Or.inr rfl, ⟨Or.inl rfl, ⟨Or.inr rfl, ⟨Or.inl rfl, True.intro⟩⟩⟩⟩
  · replace h := h.2 c
    refine x_st rfl ?_
    refine x_st rfl ?_
    refine x_br rfl (fun c => ?_) (fun c => ?_)
    · replace h := h.1 c
      refine x_kl ?_ h
      exact ⟨Or.inr rfl, ⟨Or.inl rfl, ⟨Or.inr rfl, ⟨Or.inl rfl, True.intro⟩⟩⟩⟩
    · replace h := h.2 c
      refine x_st rfl ?_
      refine x_st rfl ?_
      refine x_br rfl (fun c => ?_) (fun c => ?_)
      · replace h := h.1 c
        refine x_st rfl ?_
        refine x_st rfl ?_
        obtain ⟨M1, N2, hc, h⟩ := h
        refine x_vv (y := 253) (n := 1) (ci := 11) (nx := 36) rfl (fun _ => rfl) sh_46 rfl hc ?_
        refine x_st rfl ?_
        refine x_st rfl ?_
        refine x_st rfl ?_
        obtain ⟨x5, M3, N4, hc, h⟩ := h
        refine x_vi (y := 255) (n := 2) (ci := 11) (nx := 42) rfl (fun _ => rfl) sh_46 rfl hc ?_
        refine x_st rfl ?_
        refine x_ret rfl ?_
        exact ⟨_, _, rfl, h⟩
      · replace h := h.2 c
        refine x_st rfl ?_
        refine x_st rfl ?_
        refine x_br rfl (fun c => ?_) (fun c => ?_)
        · replace h := h.1 c
          refine x_st rfl ?_
          refine x_st rfl ?_
          obtain ⟨M6, N7, hc, h⟩ := h
          refine x_vv (y := 253) (n := 1) (ci := 11) (nx := 56) rfl (fun _ => rfl) sh_46 rfl hc ?_
          refine x_st rfl ?_
          refine x_st rfl ?_
          refine x_st rfl ?_
          obtain ⟨x10, M8, N9, hc, h⟩ := h
          refine x_vi (y := 255) (n := 2) (ci := 11) (nx := 62) rfl (fun _ => rfl) sh_46 rfl hc ?_
          refine x_st rfl ?_
          refine x_st rfl ?_
          refine x_st rfl ?_
          refine x_st rfl ?_
          refine x_gi (ci := 11) (k := 45) (nx := 69) rfl sh_46 rfl ?_
          refine x_st rfl ?_
          obtain ⟨x13, M11, N12, hc, h⟩ := h
          refine x_vi (y := 256) (n := 2) (ci := 11) (nx := 73) rfl (fun _ => rfl) sh_46 rfl hc ?_
          refine x_st rfl ?_
          refine x_ret rfl ?_
          exact ⟨_, _, rfl, h⟩
        · replace h := h.2 c
          refine x_st rfl ?_
          refine x_st rfl ?_
          obtain ⟨M14, N15, hc, h⟩ := h
          refine x_vv (y := 253) (n := 1) (ci := 11) (nx := 81) rfl (fun _ => rfl) sh_46 rfl hc ?_
          refine x_st rfl ?_
          refine x_st rfl ?_
          refine x_gi (ci := 11) (k := 45) (nx := 86) rfl sh_46 rfl ?_
          refine x_st rfl ?_
          obtain ⟨x18, M16, N17, hc, h⟩ := h
          refine x_vi (y := 254) (n := 2) (ci := 11) (nx := 90) rfl (fun _ => rfl) sh_46 rfl hc ?_
          refine x_st rfl ?_
          refine x_st rfl ?_
          refine x_ret rfl ?_
          exact ⟨_, _, rfl, h⟩
theorem BX11_hatesAs_10 {D : Nat} {Q : Option Value → mI → mJ → Prop}  {v2 : Int32} {MI : mI} {ML : mJ} 
    (h : ∃ (M1 : mI) (N2 : mJ), mrc D 253 [.ref 46, .int (nI 41)] MI ML none M1 N2 ∧ (∃ (x5 : Int32) (M3 : mI) (N4 : mJ), mrc D 255 [.ref 46, .int (nI 2), .int (v2 + (nI 1))] M1 N2 (some (.int x5)) M3 N4 ∧ (Q (some (.int x5)) M3 N4))) :
    VX11_hatesAs_10 D Q v2 MI ML := by
  show mEx D TX11_hatesAs (mqS Q) (10, [some (.ref 46), none, some (.int v2), none], [], (W0, Sh0, MI, ML))
  refine x_st rfl ?_
  refine x_st rfl ?_
  obtain ⟨M1, N2, hc, h⟩ := h
  refine x_vv (y := 253) (n := 1) (ci := 11) (nx := 16) rfl (fun _ => rfl) sh_46 rfl hc ?_
  refine x_st rfl ?_
  refine x_st rfl ?_
  refine x_st rfl ?_
  refine x_st rfl ?_
  refine x_st rfl ?_
  obtain ⟨x5, M3, N4, hc, h⟩ := h
  refine x_vi (y := 255) (n := 2) (ci := 11) (nx := 24) rfl (fun _ => rfl) sh_46 rfl hc ?_
  refine x_ret rfl ?_
  exact ⟨_, _, rfl, h⟩
theorem EX11_hatesAs {D : Nat} {Q : Option Value → mI → mJ → Prop}  {v1 : Int32} {v2 : Int32} {MI : mI} {ML : mJ} (h : VX11_hatesAs_0 D Q v1 v2 MI ML) : ∃ v MI' ML', Q v MI' ML' ∧ mrc (D + 1) 255 [.ref 46, .int v1, .int v2] MI ML v MI' ML' := by
  refine x_en (n := 1) (T := TX11_hatesAs) rfl rfl ?_
  refine x_kl ?_ h
  exact ⟨Or.inr rfl, ⟨Or.inr rfl, ⟨Or.inr rfl, ⟨Or.inl rfl, True.intro⟩⟩⟩⟩
def VX11_standsAs_0 (D : Nat) (Q : Option Value → mI → mJ → Prop)  (v1 : Int32) (v2 : Int32) (MI : mI) (ML : mJ) : Prop := mEx D TX11_standsAs (mqS Q) (0, [some (.ref 46), some (.int v1), some (.int v2), none], [], (W0, Sh0, MI, ML))
def VX11_standsAs_10 (D : Nat) (Q : Option Value → mI → mJ → Prop)  (v2 : Int32) (MI : mI) (ML : mJ) : Prop := mEx D TX11_standsAs (mqS Q) (10, [some (.ref 46), none, some (.int v2), none], [], (W0, Sh0, MI, ML))
def VX11_standsAs_36 (D : Nat) (Q : Option Value → mI → mJ → Prop)  (v2 : Int32) (MI : mI) (ML : mJ) : Prop := mEx D TX11_standsAs (mqS Q) (36, [some (.ref 46), none, some (.int v2), none], [], (W0, Sh0, MI, ML))
theorem BX11_standsAs_0 {D : Nat} {Q : Option Value → mI → mJ → Prop}  {v1 : Int32} {v2 : Int32} {MI : mI} {ML : mJ} 
    (h : (v1 = (nI 3) → VX11_standsAs_10 D Q v2 MI ML) ∧ (¬ v1 = (nI 3) → (v1 = (nI 5) → VX11_standsAs_10 D Q v2 MI ML) ∧ (¬ v1 = (nI 5) → (v1 = (nI 4) → VX11_standsAs_36 D Q v2 MI ML) ∧ (¬ v1 = (nI 4) → (v1 = (nI 7) → VX11_standsAs_36 D Q v2 MI ML) ∧ (¬ v1 = (nI 7) → ∃ (M1 : mI) (N2 : mJ), mrc D 253 [.ref 46, .int (nI 11)] MI ML none M1 N2 ∧ (Q (some (.int (v2 ^^^ (M1 46 46)))) M1 N2)))))) :
    VX11_standsAs_0 D Q v1 v2 MI ML := by
  show mEx D TX11_standsAs (mqS Q) (0, [some (.ref 46), some (.int v1), some (.int v2), none], [], (W0, Sh0, MI, ML))
  refine x_st rfl ?_
  refine x_st rfl ?_
  refine x_br rfl (fun c => ?_) (fun c => ?_)
  · replace h := h.1 c
    refine x_kl ?_ h
    exact ⟨Or.inr rfl, ⟨Or.inl rfl, ⟨Or.inr rfl, ⟨Or.inl rfl, True.intro⟩⟩⟩⟩
  · replace h := h.2 c
    refine x_st rfl ?_
    refine x_st rfl ?_
    refine x_br rfl (fun c => ?_) (fun c => ?_)
    · replace h := h.1 c
      refine x_kl ?_ h
      exact ⟨Or.inr rfl, ⟨Or.inl rfl, ⟨Or.inr rfl, ⟨Or.inl rfl, True.intro⟩⟩⟩⟩
    · replace h := h.2 c
      refine x_st rfl ?_
      refine x_st rfl ?_
      refine x_br rfl (fun c => ?_) (fun c => ?_)
      · replace h := h.1 c
        refine x_kl ?_ h
        exact ⟨Or.inr rfl, ⟨Or.inl rfl, ⟨Or.inr rfl, ⟨Or.inl rfl, True.intro⟩⟩⟩⟩
      · replace h := h.2 c
        refine x_st rfl ?_
        refine x_st rfl ?_
        refine x_br rfl (fun c => ?_) (fun c => ?_)
        · replace h := h.1 c
          refine x_kl ?_ h
          exact ⟨Or.inr rfl, ⟨Or.inl rfl, ⟨Or.inr rfl, ⟨Or.inl rfl, True.intro⟩⟩⟩⟩
        · replace h := h.2 c
          refine x_st rfl ?_
          refine x_st rfl ?_
          obtain ⟨M1, N2, hc, h⟩ := h
          refine x_vv (y := 253) (n := 1) (ci := 11) (nx := 67) rfl (fun _ => rfl) sh_46 rfl hc ?_
          refine x_st rfl ?_
          refine x_st rfl ?_
          refine x_gi (ci := 11) (k := 46) (nx := 72) rfl sh_46 rfl ?_
          refine x_st rfl ?_
          refine x_ret rfl ?_
          exact ⟨_, _, rfl, h⟩
theorem BX11_standsAs_10 {D : Nat} {Q : Option Value → mI → mJ → Prop}  {v2 : Int32} {MI : mI} {ML : mJ} 
    (h : ∃ (M1 : mI) (N2 : mJ), mrc D 253 [.ref 46, .int (nI 40)] MI ML none M1 N2 ∧ (∃ (x5 : Int32) (M3 : mI) (N4 : mJ), mrc D 256 [.ref 46, .int (nI 2), .int v2] M1 N2 (some (.int x5)) M3 N4 ∧ (Q (some (.int (x5 * (nI 3)))) M3 N4))) :
    VX11_standsAs_10 D Q v2 MI ML := by
  show mEx D TX11_standsAs (mqS Q) (10, [some (.ref 46), none, some (.int v2), none], [], (W0, Sh0, MI, ML))
  refine x_st rfl ?_
  refine x_st rfl ?_
  obtain ⟨M1, N2, hc, h⟩ := h
  refine x_vv (y := 253) (n := 1) (ci := 11) (nx := 16) rfl (fun _ => rfl) sh_46 rfl hc ?_
  refine x_st rfl ?_
  refine x_st rfl ?_
  refine x_st rfl ?_
  obtain ⟨x5, M3, N4, hc, h⟩ := h
  refine x_vi (y := 256) (n := 2) (ci := 11) (nx := 22) rfl (fun _ => rfl) sh_46 rfl hc ?_
  refine x_st rfl ?_
  refine x_st rfl ?_
  refine x_ret rfl ?_
  exact ⟨_, _, rfl, h⟩
theorem BX11_standsAs_36 {D : Nat} {Q : Option Value → mI → mJ → Prop}  {v2 : Int32} {MI : mI} {ML : mJ} 
    (h : ∃ (M1 : mI) (N2 : mJ), mrc D 253 [.ref 46, .int (nI 50)] MI ML none M1 N2 ∧ (∃ (x5 : Int32) (M3 : mI) (N4 : mJ), mrc D 256 [.ref 46, .int (nI 1), .int v2] M1 N2 (some (.int x5)) M3 N4 ∧ (∃ (x8 : Int32) (M6 : mI) (N7 : mJ), mrc D 254 [.ref 46, .int (M3 46 45), .int (nI 2)] M3 N4 (some (.int x8)) M6 N7 ∧ (Q (some (.int (x5 - x8))) M6 N7)))) :
    VX11_standsAs_36 D Q v2 MI ML := by
  show mEx D TX11_standsAs (mqS Q) (36, [some (.ref 46), none, some (.int v2), none], [], (W0, Sh0, MI, ML))
  refine x_st rfl ?_
  refine x_st rfl ?_
  obtain ⟨M1, N2, hc, h⟩ := h
  refine x_vv (y := 253) (n := 1) (ci := 11) (nx := 42) rfl (fun _ => rfl) sh_46 rfl hc ?_
  refine x_st rfl ?_
  refine x_st rfl ?_
  refine x_st rfl ?_
  obtain ⟨x5, M3, N4, hc, h⟩ := h
  refine x_vi (y := 256) (n := 2) (ci := 11) (nx := 48) rfl (fun _ => rfl) sh_46 rfl hc ?_
  refine x_st rfl ?_
  refine x_st rfl ?_
  refine x_st rfl ?_
  refine x_st rfl ?_
  refine x_gi (ci := 11) (k := 45) (nx := 55) rfl sh_46 rfl ?_
  refine x_st rfl ?_
  obtain ⟨x8, M6, N7, hc, h⟩ := h
  refine x_vi (y := 254) (n := 2) (ci := 11) (nx := 59) rfl (fun _ => rfl) sh_46 rfl hc ?_
  refine x_st rfl ?_
  refine x_ret rfl ?_
  exact ⟨_, _, rfl, h⟩
theorem EX11_standsAs {D : Nat} {Q : Option Value → mI → mJ → Prop}  {v1 : Int32} {v2 : Int32} {MI : mI} {ML : mJ} (h : VX11_standsAs_0 D Q v1 v2 MI ML) : ∃ v MI' ML', Q v MI' ML' ∧ mrc (D + 1) 256 [.ref 46, .int v1, .int v2] MI ML v MI' ML' := by
  refine x_en (n := 1) (T := TX11_standsAs) rfl rfl ?_
  refine x_kl ?_ h
  exact ⟨Or.inr rfl, ⟨Or.inr rfl, ⟨Or.inr rfl, ⟨Or.inl rfl, True.intro⟩⟩⟩⟩
def VX11_tellsAs_0 (D : Nat) (Q : Option Value → mI → mJ → Prop)  (v1 : Int32) (v2 : Int32) (MI : mI) (ML : mJ) : Prop := mEx D TX11_tellsAs (mqS Q) (0, [some (.ref 46), some (.int v1), some (.int v2), none], [], (W0, Sh0, MI, ML))
theorem BX11_tellsAs_0 {D : Nat} {Q : Option Value → mI → mJ → Prop}  {v1 : Int32} {v2 : Int32} {MI : mI} {ML : mJ} 
    (h : (v1 = (nI 5) → ∃ (M1 : mI) (N2 : mJ), mrc D 253 [.ref 46, .int (nI 60)] MI ML none M1 N2 ∧ (∃ (x5 : Int32) (M3 : mI) (N4 : mJ), mrc D 257 [.ref 46, .int (nI 3), .int v2] M1 N2 (some (.int x5)) M3 N4 ∧ (Q (some (.int (x5 ^^^ (nI 5)))) M3 N4))) ∧ (¬ v1 = (nI 5) → (v1 = (nI 7) → ∃ (M6 : mI) (N7 : mJ), mrc D 253 [.ref 46, .int (nI 81)] MI ML none M6 N7 ∧ (∃ (x10 : Int32) (M8 : mI) (N9 : mJ), mrc D 257 [.ref 46, .int (nI 4), .int v2] M6 N7 (some (.int x10)) M8 N9 ∧ (Q (some (.int (x10 - (nI 1)))) M8 N9))) ∧ (¬ v1 = (nI 7) → ∃ (M11 : mI) (N12 : mJ), mrc D 253 [.ref 46, .int (nI 2)] MI ML none M11 N12 ∧ (∃ (x15 : Int32) (M13 : mI) (N14 : mJ), mrc D 255 [.ref 46, .int (M11 46 45), .int v2] M11 N12 (some (.int x15)) M13 N14 ∧ (∃ (x18 : Int32) (M16 : mI) (N17 : mJ), mrc D 256 [.ref 46, .int (M13 46 45), .int (nI 1)] M13 N14 (some (.int x18)) M16 N17 ∧ (Q (some (.int (x15 - x18))) M16 N17)))))) :
    VX11_tellsAs_0 D Q v1 v2 MI ML := by
  show mEx D TX11_tellsAs (mqS Q) (0, [some (.ref 46), some (.int v1), some (.int v2), none], [], (W0, Sh0, MI, ML))
  refine x_st rfl ?_
  refine x_st rfl ?_
  refine x_br rfl (fun c => ?_) (fun c => ?_)
  · replace h := h.1 c
    refine x_st rfl ?_
    refine x_st rfl ?_
    obtain ⟨M1, N2, hc, h⟩ := h
    refine x_vv (y := 253) (n := 1) (ci := 11) (nx := 11) rfl (fun _ => rfl) sh_46 rfl hc ?_
    refine x_st rfl ?_
    refine x_st rfl ?_
    refine x_st rfl ?_
    obtain ⟨x5, M3, N4, hc, h⟩ := h
    refine x_vi (y := 257) (n := 2) (ci := 11) (nx := 17) rfl (fun _ => rfl) sh_46 rfl hc ?_
    refine x_st rfl ?_
    refine x_st rfl ?_
    refine x_ret rfl ?_
    exact ⟨_, _, rfl, h⟩
  · replace h := h.2 c
    refine x_st rfl ?_
    refine x_st rfl ?_
    refine x_br rfl (fun c => ?_) (fun c => ?_)
    · replace h := h.1 c
      refine x_st rfl ?_
      refine x_st rfl ?_
      obtain ⟨M6, N7, hc, h⟩ := h
      refine x_vv (y := 253) (n := 1) (ci := 11) (nx := 32) rfl (fun _ => rfl) sh_46 rfl hc ?_
      refine x_st rfl ?_
      refine x_st rfl ?_
      refine x_st rfl ?_
      obtain ⟨x10, M8, N9, hc, h⟩ := h
      refine x_vi (y := 257) (n := 2) (ci := 11) (nx := 38) rfl (fun _ => rfl) sh_46 rfl hc ?_
      refine x_st rfl ?_
      refine x_st rfl ?_
      refine x_ret rfl ?_
      exact ⟨_, _, rfl, h⟩
    · replace h := h.2 c
      refine x_st rfl ?_
      refine x_st rfl ?_
      obtain ⟨M11, N12, hc, h⟩ := h
      refine x_vv (y := 253) (n := 1) (ci := 11) (nx := 46) rfl (fun _ => rfl) sh_46 rfl hc ?_
      refine x_st rfl ?_
      refine x_st rfl ?_
      refine x_gi (ci := 11) (k := 45) (nx := 51) rfl sh_46 rfl ?_
      refine x_st rfl ?_
      obtain ⟨x15, M13, N14, hc, h⟩ := h
      refine x_vi (y := 255) (n := 2) (ci := 11) (nx := 55) rfl (fun _ => rfl) sh_46 rfl hc ?_
      refine x_st rfl ?_
      refine x_st rfl ?_
      refine x_st rfl ?_
      refine x_st rfl ?_
      refine x_gi (ci := 11) (k := 45) (nx := 62) rfl sh_46 rfl ?_
      refine x_st rfl ?_
      obtain ⟨x18, M16, N17, hc, h⟩ := h
      refine x_vi (y := 256) (n := 2) (ci := 11) (nx := 66) rfl (fun _ => rfl) sh_46 rfl hc ?_
      refine x_st rfl ?_
      refine x_ret rfl ?_
      exact ⟨_, _, rfl, h⟩
theorem EX11_tellsAs {D : Nat} {Q : Option Value → mI → mJ → Prop}  {v1 : Int32} {v2 : Int32} {MI : mI} {ML : mJ} (h : VX11_tellsAs_0 D Q v1 v2 MI ML) : ∃ v MI' ML', Q v MI' ML' ∧ mrc (D + 1) 257 [.ref 46, .int v1, .int v2] MI ML v MI' ML' := by
  refine x_en (n := 1) (T := TX11_tellsAs) rfl rfl ?_
  refine x_kl ?_ h
  exact ⟨Or.inr rfl, ⟨Or.inr rfl, ⟨Or.inr rfl, ⟨Or.inl rfl, True.intro⟩⟩⟩⟩
def VX11_act_0 (D : Nat) (Q : Option Value → mI → mJ → Prop)  (v1 : Int32) (v2 : Int32) (v3 : Int32) (MI : mI) (ML : mJ) : Prop := mEx D TX11_act (mqS Q) (0, [some (.ref 46), some (.int v1), some (.int v2), some (.int v3)], [], (W0, Sh0, MI, ML))
theorem BX11_act_0 {D : Nat} {Q : Option Value → mI → mJ → Prop}  {v1 : Int32} {v2 : Int32} {v3 : Int32} {MI : mI} {ML : mJ} 
    (h : ∃ (x3 : Int32) (M1 : mI) (N2 : mJ), mrc D 249 [.ref 46, .int v1] (mup MI 46 (mput (MI 46) 44 (nI 0))) ML (some (.int x3)) M1 N2 ∧ ((x3 = nI 0 → Q (some (.int (nI 0))) M1 N2) ∧ (¬ x3 = nI 0 → ∃ i4 : Nat, v1 = nI i4 ∧ i4 < 50 ∧ ((v2 = (nI 0) → ∃ (x16 : Int32) (M14 : mI) (N15 : mJ), mrc D 254 [.ref 46, .int ((mup (mup M1 46 (mput (M1 46) 45 (M1 74 i4))) 46 (mput ((mup M1 46 (mput (M1 46) 45 (M1 74 i4))) 46) 46 v1)) 46 45), .int v3] (mup (mup M1 46 (mput (M1 46) 45 (M1 74 i4))) 46 (mput ((mup M1 46 (mput (M1 46) 45 (M1 74 i4))) 46) 46 v1)) N2 (some (.int x16)) M14 N15 ∧ (Q (some (.int x16)) M14 N15)) ∧ (¬ v2 = (nI 0) → (v2 = (nI 1) → ∃ (x13 : Int32) (M11 : mI) (N12 : mJ), mrc D 255 [.ref 46, .int ((mup (mup M1 46 (mput (M1 46) 45 (M1 74 i4))) 46 (mput ((mup M1 46 (mput (M1 46) 45 (M1 74 i4))) 46) 46 v1)) 46 45), .int v3] (mup (mup M1 46 (mput (M1 46) 45 (M1 74 i4))) 46 (mput ((mup M1 46 (mput (M1 46) 45 (M1 74 i4))) 46) 46 v1)) N2 (some (.int x13)) M11 N12 ∧ (Q (some (.int x13)) M11 N12)) ∧ (¬ v2 = (nI 1) → (v2 = (nI 2) → ∃ (x10 : Int32) (M8 : mI) (N9 : mJ), mrc D 256 [.ref 46, .int ((mup (mup M1 46 (mput (M1 46) 45 (M1 74 i4))) 46 (mput ((mup M1 46 (mput (M1 46) 45 (M1 74 i4))) 46) 46 v1)) 46 45), .int v3] (mup (mup M1 46 (mput (M1 46) 45 (M1 74 i4))) 46 (mput ((mup M1 46 (mput (M1 46) 45 (M1 74 i4))) 46) 46 v1)) N2 (some (.int x10)) M8 N9 ∧ (Q (some (.int x10)) M8 N9)) ∧ (¬ v2 = (nI 2) → (v2 = (nI 3) → ∃ (x7 : Int32) (M5 : mI) (N6 : mJ), mrc D 257 [.ref 46, .int ((mup (mup M1 46 (mput (M1 46) 45 (M1 74 i4))) 46 (mput ((mup M1 46 (mput (M1 46) 45 (M1 74 i4))) 46) 46 v1)) 46 45), .int v3] (mup (mup M1 46 (mput (M1 46) 45 (M1 74 i4))) 46 (mput ((mup M1 46 (mput (M1 46) 45 (M1 74 i4))) 46) 46 v1)) N2 (some (.int x7)) M5 N6 ∧ (Q (some (.int x7)) M5 N6)) ∧ (¬ v2 = (nI 3) → Q (some (.int (nI 0))) (mup (mup M1 46 (mput (M1 46) 45 (M1 74 i4))) 46 (mput ((mup M1 46 (mput (M1 46) 45 (M1 74 i4))) 46) 46 v1)) N2)))))))) :
    VX11_act_0 D Q v1 v2 v3 MI ML := by
  show mEx D TX11_act (mqS Q) (0, [some (.ref 46), some (.int v1), some (.int v2), some (.int v3)], [], (W0, Sh0, MI, ML))
  refine x_st rfl ?_
  refine x_st rfl ?_
  refine x_pi (ci := 11) (k := 44) (nx := 5) rfl sh_46 rfl ?_
  refine x_st rfl ?_
  refine x_st rfl ?_
  obtain ⟨x3, M1, N2, hc, h⟩ := h
  refine x_vi (y := 249) (n := 1) (ci := 11) (nx := 10) rfl (fun _ => rfl) sh_46 rfl hc ?_
  refine x_br rfl (fun c => ?_) (fun c => ?_)
  · replace h := h.1 c
    refine x_st rfl ?_
    refine x_ret rfl ?_
    exact ⟨_, _, rfl, h⟩
  · replace h := h.2 c
    refine x_st rfl ?_
    refine x_st rfl ?_
    refine x_gr (ci := 11) (k := 42) (nx := 20) rfl sh_46 rfl ?_
    refine x_st rfl ?_
    obtain ⟨i4, hx, hi, h⟩ := h
    refine x_ia (i := i4) (nx := 22) rfl sh_74 hx hi (by decide) ?_
    refine x_pi (ci := 11) (k := 45) (nx := 25) rfl sh_46 rfl ?_
    refine x_st rfl ?_
    refine x_st rfl ?_
    refine x_pi (ci := 11) (k := 46) (nx := 30) rfl sh_46 rfl ?_
    refine x_st rfl ?_
    refine x_sw rfl ?_
    refine ⟨fun c => ?_, fun c => ?_⟩
    · replace h := h.1 c
      refine x_st rfl ?_
      refine x_st rfl ?_
      refine x_gi (ci := 11) (k := 45) (nx := 65) rfl sh_46 rfl ?_
      refine x_st rfl ?_
      obtain ⟨x16, M14, N15, hc, h⟩ := h
      refine x_vi (y := 254) (n := 2) (ci := 11) (nx := 69) rfl (fun _ => rfl) sh_46 rfl hc ?_
      refine x_ret rfl ?_
      exact ⟨_, _, rfl, h⟩
    · replace h := h.2 c
      refine ⟨fun c => ?_, fun c => ?_⟩
      · replace h := h.1 c
        refine x_st rfl ?_
        refine x_st rfl ?_
        refine x_gi (ci := 11) (k := 45) (nx := 75) rfl sh_46 rfl ?_
        refine x_st rfl ?_
        obtain ⟨x13, M11, N12, hc, h⟩ := h
        refine x_vi (y := 255) (n := 2) (ci := 11) (nx := 79) rfl (fun _ => rfl) sh_46 rfl hc ?_
        refine x_ret rfl ?_
        exact ⟨_, _, rfl, h⟩
      · replace h := h.2 c
        refine ⟨fun c => ?_, fun c => ?_⟩
        · replace h := h.1 c
          refine x_st rfl ?_
          refine x_st rfl ?_
          refine x_gi (ci := 11) (k := 45) (nx := 85) rfl sh_46 rfl ?_
          refine x_st rfl ?_
          obtain ⟨x10, M8, N9, hc, h⟩ := h
          refine x_vi (y := 256) (n := 2) (ci := 11) (nx := 89) rfl (fun _ => rfl) sh_46 rfl hc ?_
          refine x_ret rfl ?_
          exact ⟨_, _, rfl, h⟩
        · replace h := h.2 c
          refine ⟨fun c => ?_, fun c => ?_⟩
          · replace h := h.1 c
            refine x_st rfl ?_
            refine x_st rfl ?_
            refine x_gi (ci := 11) (k := 45) (nx := 95) rfl sh_46 rfl ?_
            refine x_st rfl ?_
            obtain ⟨x7, M5, N6, hc, h⟩ := h
            refine x_vi (y := 257) (n := 2) (ci := 11) (nx := 99) rfl (fun _ => rfl) sh_46 rfl hc ?_
            refine x_ret rfl ?_
            exact ⟨_, _, rfl, h⟩
          · replace h := h.2 c
            refine x_st rfl ?_
            refine x_ret rfl ?_
            exact ⟨_, _, rfl, h⟩
theorem EX11_act {D : Nat} {Q : Option Value → mI → mJ → Prop}  {v1 : Int32} {v2 : Int32} {v3 : Int32} {MI : mI} {ML : mJ} (h : VX11_act_0 D Q v1 v2 v3 MI ML) : ∃ v MI' ML', Q v MI' ML' ∧ mrc (D + 1) 258 [.ref 46, .int v1, .int v2, .int v3] MI ML v MI' ML' := by
  refine x_en (n := 0) (T := TX11_act) rfl rfl ?_
  refine x_kl ?_ h
  exact ⟨Or.inr rfl, ⟨Or.inr rfl, ⟨Or.inr rfl, ⟨Or.inr rfl, True.intro⟩⟩⟩⟩
def VX11_trace_0 (D : Nat) (Q : Option Value → mI → mJ → Prop)  (v1 : Int32) (MI : mI) (ML : mJ) : Prop := mEx D TX11_trace (mqS Q) (0, [some (.ref 46), some (.int v1)], [], (W0, Sh0, MI, ML))
theorem BX11_trace_0 {D : Nat} {Q : Option Value → mI → mJ → Prop}  {v1 : Int32} {MI : mI} {ML : mJ} 
    (h : (v1 < nI 0 → Q (some (.int (-1 : Int32))) MI ML) ∧ (¬ v1 < nI 0 → ((MI 46 44) ≤ v1 → Q (some (.int (-1 : Int32))) MI ML) ∧ (¬ (MI 46 44) ≤ v1 → ((nI 24) ≤ v1 → Q (some (.int (-1 : Int32))) MI ML) ∧ (¬ (nI 24) ≤ v1 → ∃ i1 : Nat, v1 = nI i1 ∧ i1 < 24 ∧ (Q (some (.int (MI 75 i1))) MI ML))))) :
    VX11_trace_0 D Q v1 MI ML := by
  show mEx D TX11_trace (mqS Q) (0, [some (.ref 46), some (.int v1)], [], (W0, Sh0, MI, ML))
  refine x_st rfl ?_
  refine x_br rfl (fun c => ?_) (fun c => ?_)
  · replace h := h.1 c
    refine x_st rfl ?_
    refine x_ret rfl ?_
    exact ⟨_, _, rfl, h⟩
  · replace h := h.2 c
    refine x_st rfl ?_
    refine x_st rfl ?_
    refine x_gi (ci := 11) (k := 44) (nx := 9) rfl sh_46 rfl ?_
    refine x_br rfl (fun c => ?_) (fun c => ?_)
    · replace h := h.1 c
      refine x_st rfl ?_
      refine x_ret rfl ?_
      exact ⟨_, _, rfl, h⟩
    · replace h := h.2 c
      refine x_st rfl ?_
      refine x_st rfl ?_
      refine x_br rfl (fun c => ?_) (fun c => ?_)
      · replace h := h.1 c
        refine x_st rfl ?_
        refine x_ret rfl ?_
        exact ⟨_, _, rfl, h⟩
      · replace h := h.2 c
        refine x_st rfl ?_
        refine x_gr (ci := 11) (k := 43) (nx := 22) rfl sh_46 rfl ?_
        refine x_st rfl ?_
        obtain ⟨i1, hx, hi, h⟩ := h
        refine x_ia (i := i1) (nx := 24) rfl sh_75 hx hi (by decide) ?_
        refine x_st rfl ?_
        refine x_ret rfl ?_
        exact ⟨_, _, rfl, h⟩
theorem EX11_trace {D : Nat} {Q : Option Value → mI → mJ → Prop}  {v1 : Int32} {MI : mI} {ML : mJ} (h : VX11_trace_0 D Q v1 MI ML) : ∃ v MI' ML', Q v MI' ML' ∧ mrc (D + 1) 259 [.ref 46, .int v1] MI ML v MI' ML' := by
  refine x_en (n := 0) (T := TX11_trace) rfl rfl ?_
  refine x_kl ?_ h
  exact ⟨Or.inr rfl, ⟨Or.inr rfl, True.intro⟩⟩
def VX11_isShelf_0 (D : Nat) (Q : Option Value → mI → mJ → Prop)  (v0 : Int32) (MI : mI) (ML : mJ) : Prop := mEx D TX11_isShelf (mqS Q) (0, [some (.int v0)], [], (W0, Sh0, MI, ML))
theorem BX11_isShelf_0 {D : Nat} {Q : Option Value → mI → mJ → Prop}  {v0 : Int32} {MI : mI} {ML : mJ} 
    (h : ∃ (x3 : Int32) (M1 : mI) (N2 : mJ), mrc D 178 [.long (v0).toInt64, .long (0 : Int64), .long (5 : Int64)] MI ML (some (.int x3)) M1 N2 ∧ ((x3 = nI 0 ∨ x3 = nI 1) ∧ Q (some (.int x3)) M1 N2)) :
    VX11_isShelf_0 D Q v0 MI ML := by
  show mEx D TX11_isShelf (mqS Q) (0, [some (.int v0)], [], (W0, Sh0, MI, ML))
  refine x_st rfl ?_
  refine x_st rfl ?_
  refine x_st rfl ?_
  refine x_st rfl ?_
  obtain ⟨x3, M1, N2, hc, h⟩ := h
  refine x_ci rfl hc ?_
  refine x_retz rfl h.1 ?_
  exact ⟨_, _, rfl, h.2⟩
theorem EX11_isShelf {D : Nat} {Q : Option Value → mI → mJ → Prop}  {v0 : Int32} {MI : mI} {ML : mJ} (h : VX11_isShelf_0 D Q v0 MI ML) : ∃ v MI' ML', Q v MI' ML' ∧ mrc (D + 1) 260 [.int v0] MI ML v MI' ML' := by
  refine x_en (n := 0) (T := TX11_isShelf) rfl rfl ?_
  refine x_kl ?_ h
  exact ⟨Or.inr rfl, True.intro⟩
def VX11_keep_0 (D : Nat) (Q : Option Value → mI → mJ → Prop)  (v1 : Int32) (v2 : Int32) (MI : mI) (ML : mJ) : Prop := mEx D TX11_keep (mqS Q) (0, [some (.ref 46), some (.int v1), some (.int v2)], [], (W0, Sh0, MI, ML))
def VX11_keep_22 (D : Nat) (Q : Option Value → mI → mJ → Prop)  (v1 : Int32) (v2 : Int32) (MI : mI) (ML : mJ) : Prop := mEx D TX11_keep (mqS Q) (22, [some (.ref 46), some (.int v1), some (.int v2)], [], (W0, Sh0, MI, ML))
theorem BX11_keep_0 {D : Nat} {Q : Option Value → mI → mJ → Prop}  {v1 : Int32} {v2 : Int32} {MI : mI} {ML : mJ} 
    (h : ∃ (x3 : Int32) (M1 : mI) (N2 : mJ), mrc D 260 [.int v1] MI ML (some (.int x3)) M1 N2 ∧ ((x3 = nI 0 → Q (some (.int (-1 : Int32))) M1 N2) ∧ (¬ x3 = nI 0 → (v2 = (-1 : Int32) → VX11_keep_22 D Q v1 v2 M1 N2) ∧ (¬ v2 = (-1 : Int32) → ∃ (x6 : Int32) (M4 : mI) (N5 : mJ), mrc D 249 [.ref 46, .int v2] M1 N2 (some (.int x6)) M4 N5 ∧ ((x6 = nI 0 → Q (some (.int (-1 : Int32))) M4 N5) ∧ (¬ x6 = nI 0 → VX11_keep_22 D Q v1 v2 M4 N5)))))) :
    VX11_keep_0 D Q v1 v2 MI ML := by
  show mEx D TX11_keep (mqS Q) (0, [some (.ref 46), some (.int v1), some (.int v2)], [], (W0, Sh0, MI, ML))
  refine x_st rfl ?_
  obtain ⟨x3, M1, N2, hc, h⟩ := h
  refine x_ci rfl hc ?_
  refine x_br rfl (fun c => ?_) (fun c => ?_)
  · replace h := h.1 c
    refine x_st rfl ?_
    refine x_ret rfl ?_
    exact ⟨_, _, rfl, h⟩
  · replace h := h.2 c
    refine x_st rfl ?_
    refine x_st rfl ?_
    refine x_br rfl (fun c => ?_) (fun c => ?_)
    · replace h := h.1 c
      refine x_kl ?_ h
      exact ⟨Or.inr rfl, ⟨Or.inr rfl, ⟨Or.inr rfl, True.intro⟩⟩⟩
    · replace h := h.2 c
      refine x_st rfl ?_
      refine x_st rfl ?_
      obtain ⟨x6, M4, N5, hc, h⟩ := h
      refine x_vi (y := 249) (n := 1) (ci := 11) (nx := 17) rfl (fun _ => rfl) sh_46 rfl hc ?_
      refine x_br rfl (fun c => ?_) (fun c => ?_)
      · replace h := h.1 c
        refine x_st rfl ?_
        refine x_ret rfl ?_
        exact ⟨_, _, rfl, h⟩
      · replace h := h.2 c
        refine x_kl ?_ h
        exact ⟨Or.inr rfl, ⟨Or.inr rfl, ⟨Or.inr rfl, True.intro⟩⟩⟩
theorem BX11_keep_22 {D : Nat} {Q : Option Value → mI → mJ → Prop}  {v1 : Int32} {v2 : Int32} {MI : mI} {ML : mJ} 
    (h : ∃ i1 : Nat, v1 = nI i1 ∧ i1 < 6 ∧ (∃ i2 : Nat, v1 = nI i2 ∧ i2 < 6 ∧ (Q (some (.int (nI 1))) (mup (mup MI 76 (mput (MI 76) i1 v2)) 77 (mput ((mup MI 76 (mput (MI 76) i1 v2)) 77) i2 (nI 0))) ML))) :
    VX11_keep_22 D Q v1 v2 MI ML := by
  show mEx D TX11_keep (mqS Q) (22, [some (.ref 46), some (.int v1), some (.int v2)], [], (W0, Sh0, MI, ML))
  refine x_st rfl ?_
  refine x_gr (ci := 11) (k := 47) (nx := 26) rfl sh_46 rfl ?_
  refine x_st rfl ?_
  refine x_st rfl ?_
  obtain ⟨i1, hx, hi, h⟩ := h
  refine x_iast (i := i1) (nx := 29) rfl sh_76 hx hi (by decide) ?_
  refine x_st rfl ?_
  refine x_gr (ci := 11) (k := 48) (nx := 33) rfl sh_46 rfl ?_
  refine x_st rfl ?_
  refine x_st rfl ?_
  obtain ⟨i2, hx, hi, h⟩ := h
  refine x_iast (i := i2) (nx := 36) rfl sh_77 hx hi (by decide) ?_
  refine x_st rfl ?_
  refine x_ret rfl ?_
  exact ⟨_, _, rfl, h⟩
theorem EX11_keep {D : Nat} {Q : Option Value → mI → mJ → Prop}  {v1 : Int32} {v2 : Int32} {MI : mI} {ML : mJ} (h : VX11_keep_0 D Q v1 v2 MI ML) : ∃ v MI' ML', Q v MI' ML' ∧ mrc (D + 1) 261 [.ref 46, .int v1, .int v2] MI ML v MI' ML' := by
  refine x_en (n := 0) (T := TX11_keep) rfl rfl ?_
  refine x_kl ?_ h
  exact ⟨Or.inr rfl, ⟨Or.inr rfl, ⟨Or.inr rfl, True.intro⟩⟩⟩
def VX11_row_0 (D : Nat) (Q : Option Value → mI → mJ → Prop)  (v1 : Int32) (v2 : Int32) (v3 : Int32) (MI : mI) (ML : mJ) : Prop := mEx D TX11_row (mqS Q) (0, [some (.ref 46), some (.int v1), some (.int v2), some (.int v3), none], [], (W0, Sh0, MI, ML))
def VX11_row_57 (D : Nat) (Q : Option Value → mI → mJ → Prop)  (v1 : Int32) (v4 : Int32) (MI : mI) (ML : mJ) : Prop := mEx D TX11_row (mqS Q) (57, [some (.ref 46), some (.int v1), none, none, some (.int v4)], [], (W0, Sh0, MI, ML))
theorem BX11_row_0 {D : Nat} {Q : Option Value → mI → mJ → Prop}  {v1 : Int32} {v2 : Int32} {v3 : Int32} {MI : mI} {ML : mJ} 
    (h : ∃ (x3 : Int32) (M1 : mI) (N2 : mJ), mrc D 260 [.int v1] MI ML (some (.int x3)) M1 N2 ∧ ((x3 = nI 0 → Q (some (.int (-1 : Int32))) M1 N2) ∧ (¬ x3 = nI 0 → ∃ (x6 : Int32) (M4 : mI) (N5 : mJ), mrc D 178 [.long (v2).toInt64, .long (0 : Int64), .long (4 : Int64)] M1 N2 (some (.int x6)) M4 N5 ∧ ((x6 = nI 0 → Q (some (.int (-1 : Int32))) M4 N5) ∧ (¬ x6 = nI 0 → (v3 ≤ (nI 60) → (nI 0 ≤ v3 → ∃ i7 : Nat, v1 = nI i7 ∧ i7 < 6 ∧ (∃ i8 : Nat, v1 = nI i8 ∧ i8 < 6 ∧ (VX11_row_57 D Q v1 ((nI 60) * v1) (mup (mup M4 76 (mput (M4 76) i7 ((nI 50) + v2))) 77 (mput ((mup M4 76 (mput (M4 76) i7 ((nI 50) + v2))) 77) i8 v3)) N5))) ∧ (¬ nI 0 ≤ v3 → Q (some (.int (-14 : Int32))) M4 N5)) ∧ (¬ v3 ≤ (nI 60) → Q (some (.int (-1 : Int32))) M4 N5)))))) :
    VX11_row_0 D Q v1 v2 v3 MI ML := by
  show mEx D TX11_row (mqS Q) (0, [some (.ref 46), some (.int v1), some (.int v2), some (.int v3), none], [], (W0, Sh0, MI, ML))
  refine x_st rfl ?_
  obtain ⟨x3, M1, N2, hc, h⟩ := h
  refine x_ci rfl hc ?_
  refine x_br rfl (fun c => ?_) (fun c => ?_)
  · replace h := h.1 c
    refine x_st rfl ?_
    refine x_ret rfl ?_
    exact ⟨_, _, rfl, h⟩
  · replace h := h.2 c
    refine x_st rfl ?_
    refine x_st rfl ?_
    refine x_st rfl ?_
    refine x_st rfl ?_
    obtain ⟨x6, M4, N5, hc, h⟩ := h
    refine x_ci rfl hc ?_
    refine x_br rfl (fun c => ?_) (fun c => ?_)
    · replace h := h.1 c
      refine x_st rfl ?_
      refine x_ret rfl ?_
      exact ⟨_, _, rfl, h⟩
    · replace h := h.2 c
      refine x_st rfl ?_
      refine x_st rfl ?_
      refine x_br rfl (fun c => ?_) (fun c => ?_)
      · replace h := h.1 c
        refine x_st rfl ?_
        refine x_br rfl (fun c => ?_) (fun c => ?_)
        · replace h := h.1 c
          refine x_st rfl ?_
          refine x_gr (ci := 11) (k := 47) (nx := 38) rfl sh_46 rfl ?_
          refine x_st rfl ?_
          refine x_st rfl ?_
          refine x_st rfl ?_
          refine x_st rfl ?_
          obtain ⟨i7, hx, hi, h⟩ := h
          refine x_iast (i := i7) (nx := 44) rfl sh_76 hx hi (by decide) ?_
          refine x_st rfl ?_
          refine x_gr (ci := 11) (k := 48) (nx := 48) rfl sh_46 rfl ?_
          refine x_st rfl ?_
          refine x_st rfl ?_
          obtain ⟨i8, hx, hi, h⟩ := h
          refine x_iast (i := i8) (nx := 51) rfl sh_77 hx hi (by decide) ?_
          refine x_st rfl ?_
          refine x_st rfl ?_
          refine x_st rfl ?_
          refine x_st rfl ?_
          refine x_kl ?_ h
          exact ⟨Or.inr rfl, ⟨Or.inr rfl, ⟨Or.inl rfl, ⟨Or.inl rfl, ⟨Or.inr rfl, True.intro⟩⟩⟩⟩⟩
        · replace h := h.2 c
          refine x_st rfl ?_
          refine x_ret rfl ?_
          exact ⟨_, _, rfl, h⟩
      · replace h := h.2 c
        refine x_st rfl ?_
        refine x_ret rfl ?_
        exact ⟨_, _, rfl, h⟩
theorem BX11_row_57 {D : Nat} {Q : Option Value → mI → mJ → Prop}  {v1 : Int32} {v4 : Int32} {MI : mI} {ML : mJ} 
    (h : ((((nI 60) * v1) + (nI 60)) ≤ v4 → Q (some (.int (nI 1))) MI ML) ∧ (¬ (((nI 60) * v1) + (nI 60)) ≤ v4 → ∃ i1 : Nat, v4 = nI i1 ∧ i1 < 360 ∧ (VX11_row_57 D Q v1 (v4 + (nI 1)) MI (mup ML 78 (mput (ML 78) i1 (0 : Int64)))))) :
    VX11_row_57 D Q v1 v4 MI ML := by
  show mEx D TX11_row (mqS Q) (57, [some (.ref 46), some (.int v1), none, none, some (.int v4)], [], (W0, Sh0, MI, ML))
  refine x_st rfl ?_
  refine x_st rfl ?_
  refine x_st rfl ?_
  refine x_st rfl ?_
  refine x_st rfl ?_
  refine x_st rfl ?_
  refine x_br rfl (fun c => ?_) (fun c => ?_)
  · replace h := h.1 c
    refine x_st rfl ?_
    refine x_ret rfl ?_
    exact ⟨_, _, rfl, h⟩
  · replace h := h.2 c
    refine x_st rfl ?_
    refine x_gr (ci := 11) (k := 49) (nx := 73) rfl sh_46 rfl ?_
    refine x_st rfl ?_
    refine x_st rfl ?_
    obtain ⟨i1, hx, hi, h⟩ := h
    refine x_last (i := i1) (nx := 77) rfl sh_78 hx hi (by decide) ?_
    refine x_st rfl ?_
    refine x_st rfl ?_
    refine x_kl ?_ h
    exact ⟨Or.inr rfl, ⟨Or.inr rfl, ⟨Or.inl rfl, ⟨Or.inl rfl, ⟨Or.inr rfl, True.intro⟩⟩⟩⟩⟩
theorem EX11_row {D : Nat} {Q : Option Value → mI → mJ → Prop}  {v1 : Int32} {v2 : Int32} {v3 : Int32} {MI : mI} {ML : mJ} (h : VX11_row_0 D Q v1 v2 v3 MI ML) : ∃ v MI' ML', Q v MI' ML' ∧ mrc (D + 1) 262 [.ref 46, .int v1, .int v2, .int v3] MI ML v MI' ML' := by
  refine x_en (n := 1) (T := TX11_row) rfl rfl ?_
  refine x_kl ?_ h
  exact ⟨Or.inr rfl, ⟨Or.inr rfl, ⟨Or.inr rfl, ⟨Or.inr rfl, ⟨Or.inl rfl, True.intro⟩⟩⟩⟩⟩
def VX11_refusal_0 (D : Nat) (Q : Option Value → mI → mJ → Prop)  (v1 : Int32) (v2 : Int32) (MI : mI) (ML : mJ) : Prop := mEx D TX11_refusal (mqS Q) (0, [some (.ref 46), some (.int v1), some (.int v2)], [], (W0, Sh0, MI, ML))
theorem BX11_refusal_0 {D : Nat} {Q : Option Value → mI → mJ → Prop}  {v1 : Int32} {v2 : Int32} {MI : mI} {ML : mJ} 
    (h : ∃ (x3 : Int32) (M1 : mI) (N2 : mJ), mrc D 260 [.int v1] MI ML (some (.int x3)) M1 N2 ∧ ((x3 = nI 0 → Q (some (.int (-1 : Int32))) M1 N2) ∧ (¬ x3 = nI 0 → ∃ i4 : Nat, v1 = nI i4 ∧ i4 < 6 ∧ ((nI 0 ≤ (M1 76 i4) → ∃ i5 : Nat, v1 = nI i5 ∧ i5 < 6 ∧ (((nI 50) ≤ (M1 76 i5) → (v2 < nI 0 → Q (some (.int (-13 : Int32))) M1 N2) ∧ (¬ v2 < nI 0 → ∃ i6 : Nat, v1 = nI i6 ∧ i6 < 6 ∧ (((M1 77 i6) ≤ v2 → Q (some (.int (-13 : Int32))) M1 N2) ∧ (¬ (M1 77 i6) ≤ v2 → Q (some (.int (nI 0))) M1 N2)))) ∧ (¬ (nI 50) ≤ (M1 76 i5) → Q (some (.int (-12 : Int32))) M1 N2))) ∧ (¬ nI 0 ≤ (M1 76 i4) → Q (some (.int (-11 : Int32))) M1 N2))))) :
    VX11_refusal_0 D Q v1 v2 MI ML := by
  show mEx D TX11_refusal (mqS Q) (0, [some (.ref 46), some (.int v1), some (.int v2)], [], (W0, Sh0, MI, ML))
  refine x_st rfl ?_
  obtain ⟨x3, M1, N2, hc, h⟩ := h
  refine x_ci rfl hc ?_
  refine x_br rfl (fun c => ?_) (fun c => ?_)
  · replace h := h.1 c
    refine x_st rfl ?_
    refine x_ret rfl ?_
    exact ⟨_, _, rfl, h⟩
  · replace h := h.2 c
    refine x_st rfl ?_
    refine x_gr (ci := 11) (k := 47) (nx := 13) rfl sh_46 rfl ?_
    refine x_st rfl ?_
    obtain ⟨i4, hx, hi, h⟩ := h
    refine x_ia (i := i4) (nx := 15) rfl sh_76 hx hi (by decide) ?_
    refine x_br rfl (fun c => ?_) (fun c => ?_)
    · replace h := h.1 c
      refine x_st rfl ?_
      refine x_gr (ci := 11) (k := 47) (nx := 25) rfl sh_46 rfl ?_
      refine x_st rfl ?_
      obtain ⟨i5, hx, hi, h⟩ := h
      refine x_ia (i := i5) (nx := 27) rfl sh_76 hx hi (by decide) ?_
      refine x_st rfl ?_
      refine x_br rfl (fun c => ?_) (fun c => ?_)
      · replace h := h.1 c
        refine x_st rfl ?_
        refine x_br rfl (fun c => ?_) (fun c => ?_)
        · replace h := h.1 c
          refine x_st rfl ?_
          refine x_ret rfl ?_
          exact ⟨_, _, rfl, h⟩
        · replace h := h.2 c
          refine x_st rfl ?_
          refine x_st rfl ?_
          refine x_gr (ci := 11) (k := 48) (nx := 44) rfl sh_46 rfl ?_
          refine x_st rfl ?_
          obtain ⟨i6, hx, hi, h⟩ := h
          refine x_ia (i := i6) (nx := 46) rfl sh_77 hx hi (by decide) ?_
          refine x_br rfl (fun c => ?_) (fun c => ?_)
          · replace h := h.1 c
            refine x_st rfl ?_
            refine x_ret rfl ?_
            exact ⟨_, _, rfl, h⟩
          · replace h := h.2 c
            refine x_st rfl ?_
            refine x_st rfl ?_
            refine x_ret rfl ?_
            exact ⟨_, _, rfl, h⟩
      · replace h := h.2 c
        refine x_st rfl ?_
        refine x_ret rfl ?_
        exact ⟨_, _, rfl, h⟩
    · replace h := h.2 c
      refine x_st rfl ?_
      refine x_ret rfl ?_
      exact ⟨_, _, rfl, h⟩
theorem EX11_refusal {D : Nat} {Q : Option Value → mI → mJ → Prop}  {v1 : Int32} {v2 : Int32} {MI : mI} {ML : mJ} (h : VX11_refusal_0 D Q v1 v2 MI ML) : ∃ v MI' ML', Q v MI' ML' ∧ mrc (D + 1) 263 [.ref 46, .int v1, .int v2] MI ML v MI' ML' := by
  refine x_en (n := 0) (T := TX11_refusal) rfl rfl ?_
  refine x_kl ?_ h
  exact ⟨Or.inr rfl, ⟨Or.inr rfl, ⟨Or.inr rfl, True.intro⟩⟩⟩
def VX11_asSort_0 (D : Nat) (Q : Option Value → mI → mJ → Prop)  (v0 : Int32) (v1 : Int64) (MI : mI) (ML : mJ) : Prop := mEx D TX11_asSort (mqS Q) (0, [some (.int v0), some (.long v1), none], [], (W0, Sh0, MI, ML))
theorem BX11_asSort_0 {D : Nat} {Q : Option Value → mI → mJ → Prop}  {v0 : Int32} {v1 : Int64} {MI : mI} {ML : mJ} 
    (h : (v0 = nI 0 → Q (some (.long (((v1).toInt32).toInt8.toInt32).toInt64)) MI ML) ∧ (¬ v0 = nI 0 → (v0 = (nI 1) → Q (some (.long (((v1).toInt32).toInt16.toInt32).toInt64)) MI ML) ∧ (¬ v0 = (nI 1) → (v0 = (nI 2) → Q (some (.long ((v1).toInt32).toInt64)) MI ML) ∧ (¬ v0 = (nI 2) → (v0 = (nI 4) → ((lg_cmp v1 (0 : Int64)) = nI 0 → Q (some (.long (0 : Int64))) MI ML) ∧ (¬ (lg_cmp v1 (0 : Int64)) = nI 0 → Q (some (.long (1 : Int64))) MI ML)) ∧ (¬ v0 = (nI 4) → Q (some (.long v1)) MI ML))))) :
    VX11_asSort_0 D Q v0 v1 MI ML := by
  show mEx D TX11_asSort (mqS Q) (0, [some (.int v0), some (.long v1), none], [], (W0, Sh0, MI, ML))
  refine x_st rfl ?_
  refine x_br rfl (fun c => ?_) (fun c => ?_)
  · replace h := h.1 c
    refine x_st rfl ?_
    refine x_st rfl ?_
    refine x_st rfl ?_
    refine x_st rfl ?_
    refine x_st rfl ?_
    refine x_ret rfl ?_
    exact ⟨_, _, rfl, h⟩
  · replace h := h.2 c
    refine x_st rfl ?_
    refine x_st rfl ?_
    refine x_br rfl (fun c => ?_) (fun c => ?_)
    · replace h := h.1 c
      refine x_st rfl ?_
      refine x_st rfl ?_
      refine x_st rfl ?_
      refine x_st rfl ?_
      refine x_st rfl ?_
      refine x_ret rfl ?_
      exact ⟨_, _, rfl, h⟩
    · replace h := h.2 c
      refine x_st rfl ?_
      refine x_st rfl ?_
      refine x_br rfl (fun c => ?_) (fun c => ?_)
      · replace h := h.1 c
        refine x_st rfl ?_
        refine x_st rfl ?_
        refine x_st rfl ?_
        refine x_st rfl ?_
        refine x_ret rfl ?_
        exact ⟨_, _, rfl, h⟩
      · replace h := h.2 c
        refine x_st rfl ?_
        refine x_st rfl ?_
        refine x_br rfl (fun c => ?_) (fun c => ?_)
        · replace h := h.1 c
          refine x_st rfl ?_
          refine x_st rfl ?_
          refine x_st rfl ?_
          refine x_br rfl (fun c => ?_) (fun c => ?_)
          · replace h := h.1 c
            refine x_st rfl ?_
            refine x_st rfl ?_
            refine x_ret rfl ?_
            exact ⟨_, _, rfl, h⟩
          · replace h := h.2 c
            refine x_st rfl ?_
            refine x_st rfl ?_
            refine x_ret rfl ?_
            exact ⟨_, _, rfl, h⟩
        · replace h := h.2 c
          refine x_st rfl ?_
          refine x_ret rfl ?_
          exact ⟨_, _, rfl, h⟩
theorem EX11_asSort {D : Nat} {Q : Option Value → mI → mJ → Prop}  {v0 : Int32} {v1 : Int64} {MI : mI} {ML : mJ} (h : VX11_asSort_0 D Q v0 v1 MI ML) : ∃ v MI' ML', Q v MI' ML' ∧ mrc (D + 1) 264 [.int v0, .long v1] MI ML v MI' ML' := by
  refine x_en (n := 0) (T := TX11_asSort) rfl rfl ?_
  refine x_kl ?_ h
  exact ⟨Or.inr rfl, ⟨Or.inr rfl, ⟨Or.inl rfl, True.intro⟩⟩⟩
def VX11_put_0 (D : Nat) (Q : Option Value → mI → mJ → Prop)  (v1 : Int32) (v2 : Int32) (v3 : Int64) (MI : mI) (ML : mJ) : Prop := mEx D TX11_put (mqS Q) (0, [some (.ref 46), some (.int v1), some (.int v2), some (.long v3), none, none], [], (W0, Sh0, MI, ML))
theorem BX11_put_0 {D : Nat} {Q : Option Value → mI → mJ → Prop}  {v1 : Int32} {v2 : Int32} {v3 : Int64} {MI : mI} {ML : mJ} 
    (h : ∃ (x3 : Int32) (M1 : mI) (N2 : mJ), mrc D 263 [.ref 46, .int v1, .int v2] MI ML (some (.int x3)) M1 N2 ∧ ((x3 = nI 0 → ∃ i4 : Nat, v1 = nI i4 ∧ i4 < 6 ∧ (∃ (x7 : Int64) (M5 : mI) (N6 : mJ), mrc D 264 [.int ((M1 76 i4) - (nI 50)), .long v3] M1 N2 (some (.long x7)) M5 N6 ∧ (∃ i8 : Nat, (((nI 60) * v1) + v2) = nI i8 ∧ i8 < 360 ∧ ((x3 = nI 0 → Q (some (.int (nI 1))) M5 (mup N6 78 (mput (N6 78) i8 x7))) ∧ (¬ x3 = nI 0 → Q (some (.int x3)) M5 (mup N6 78 (mput (N6 78) i8 x7))))))) ∧ (¬ x3 = nI 0 → (x3 = nI 0 → Q (some (.int (nI 1))) M1 N2) ∧ (¬ x3 = nI 0 → Q (some (.int x3)) M1 N2)))) :
    VX11_put_0 D Q v1 v2 v3 MI ML := by
  show mEx D TX11_put (mqS Q) (0, [some (.ref 46), some (.int v1), some (.int v2), some (.long v3), none, none], [], (W0, Sh0, MI, ML))
  refine x_st rfl ?_
  refine x_st rfl ?_
  refine x_st rfl ?_
  obtain ⟨x3, M1, N2, hc, h⟩ := h
  refine x_vi (y := 263) (n := 2) (ci := 11) (nx := 6) rfl (fun _ => rfl) sh_46 rfl hc ?_
  refine x_st rfl ?_
  refine x_st rfl ?_
  refine x_br rfl (fun c => ?_) (fun c => ?_)
  · replace h := h.1 c
    refine x_st rfl ?_
    refine x_gr (ci := 11) (k := 49) (nx := 17) rfl sh_46 rfl ?_
    refine x_st rfl ?_
    refine x_st rfl ?_
    refine x_st rfl ?_
    refine x_st rfl ?_
    refine x_st rfl ?_
    refine x_st rfl ?_
    refine x_gr (ci := 11) (k := 47) (nx := 27) rfl sh_46 rfl ?_
    refine x_st rfl ?_
    obtain ⟨i4, hx, hi, h⟩ := h
    refine x_ia (i := i4) (nx := 29) rfl sh_76 hx hi (by decide) ?_
    refine x_st rfl ?_
    refine x_st rfl ?_
    refine x_st rfl ?_
    obtain ⟨x7, M5, N6, hc, h⟩ := h
    refine x_ci rfl hc ?_
    obtain ⟨i8, hx, hi, h⟩ := h
    refine x_last (i := i8) (nx := 37) rfl sh_78 hx hi (by decide) ?_
    refine x_st rfl ?_
    refine x_br rfl (fun c => ?_) (fun c => ?_)
    · replace h := h.1 c
      refine x_st rfl ?_
      refine x_st rfl ?_
      refine x_ret rfl ?_
      exact ⟨_, _, rfl, h⟩
    · replace h := h.2 c
      refine x_st rfl ?_
      refine x_ret rfl ?_
      exact ⟨_, _, rfl, h⟩
  · replace h := h.2 c
    refine x_st rfl ?_
    refine x_br rfl (fun c => ?_) (fun c => ?_)
    · replace h := h.1 c
      refine x_st rfl ?_
      refine x_st rfl ?_
      refine x_ret rfl ?_
      exact ⟨_, _, rfl, h⟩
    · replace h := h.2 c
      refine x_st rfl ?_
      refine x_ret rfl ?_
      exact ⟨_, _, rfl, h⟩
theorem EX11_put {D : Nat} {Q : Option Value → mI → mJ → Prop}  {v1 : Int32} {v2 : Int32} {v3 : Int64} {MI : mI} {ML : mJ} (h : VX11_put_0 D Q v1 v2 v3 MI ML) : ∃ v MI' ML', Q v MI' ML' ∧ mrc (D + 1) 265 [.ref 46, .int v1, .int v2, .long v3] MI ML v MI' ML' := by
  refine x_en (n := 1) (T := TX11_put) rfl rfl ?_
  refine x_kl ?_ h
  exact ⟨Or.inr rfl, ⟨Or.inr rfl, ⟨Or.inr rfl, ⟨Or.inr rfl, ⟨Or.inl rfl, ⟨Or.inl rfl, True.intro⟩⟩⟩⟩⟩⟩
def VX11_element_0 (D : Nat) (Q : Option Value → mI → mJ → Prop)  (v1 : Int32) (v2 : Int32) (MI : mI) (ML : mJ) : Prop := mEx D TX11_element (mqS Q) (0, [some (.ref 46), some (.int v1), some (.int v2)], [], (W0, Sh0, MI, ML))
theorem BX11_element_0 {D : Nat} {Q : Option Value → mI → mJ → Prop}  {v1 : Int32} {v2 : Int32} {MI : mI} {ML : mJ} 
    (h : ∃ (x3 : Int32) (M1 : mI) (N2 : mJ), mrc D 263 [.ref 46, .int v1, .int v2] MI ML (some (.int x3)) M1 N2 ∧ ((x3 = nI 0 → ∃ i4 : Nat, (((nI 60) * v1) + v2) = nI i4 ∧ i4 < 360 ∧ (Q (some (.long (N2 78 i4))) M1 N2)) ∧ (¬ x3 = nI 0 → Q (some (.long (-9223372036854775808 : Int64))) M1 N2))) :
    VX11_element_0 D Q v1 v2 MI ML := by
  show mEx D TX11_element (mqS Q) (0, [some (.ref 46), some (.int v1), some (.int v2)], [], (W0, Sh0, MI, ML))
  refine x_st rfl ?_
  refine x_st rfl ?_
  refine x_st rfl ?_
  obtain ⟨x3, M1, N2, hc, h⟩ := h
  refine x_vi (y := 263) (n := 2) (ci := 11) (nx := 6) rfl (fun _ => rfl) sh_46 rfl hc ?_
  refine x_br rfl (fun c => ?_) (fun c => ?_)
  · replace h := h.1 c
    refine x_st rfl ?_
    refine x_gr (ci := 11) (k := 49) (nx := 19) rfl sh_46 rfl ?_
    refine x_st rfl ?_
    refine x_st rfl ?_
    refine x_st rfl ?_
    refine x_st rfl ?_
    refine x_st rfl ?_
    obtain ⟨i4, hx, hi, h⟩ := h
    refine x_la (i := i4) (nx := 26) rfl sh_78 hx hi (by decide) ?_
    refine x_ret rfl ?_
    exact ⟨_, _, rfl, h⟩
  · replace h := h.2 c
    refine x_st rfl ?_
    refine x_st rfl ?_
    refine x_ret rfl ?_
    exact ⟨_, _, rfl, h⟩
theorem EX11_element {D : Nat} {Q : Option Value → mI → mJ → Prop}  {v1 : Int32} {v2 : Int32} {MI : mI} {ML : mJ} (h : VX11_element_0 D Q v1 v2 MI ML) : ∃ v MI' ML', Q v MI' ML' ∧ mrc (D + 1) 266 [.ref 46, .int v1, .int v2] MI ML v MI' ML' := by
  refine x_en (n := 0) (T := TX11_element) rfl rfl ?_
  refine x_kl ?_ h
  exact ⟨Or.inr rfl, ⟨Or.inr rfl, ⟨Or.inr rfl, True.intro⟩⟩⟩
def VX11_shift_0 (D : Nat) (Q : Option Value → mI → mJ → Prop)  (v1 : Int32) (v2 : Int32) (v3 : Int32) (v4 : Int32) (v5 : Int32) (MI : mI) (ML : mJ) : Prop := mEx D TX11_shift (mqS Q) (0, [some (.ref 46), some (.int v1), some (.int v2), some (.int v3), some (.int v4), some (.int v5), none], [], (W0, Sh0, MI, ML))
def VX11_shift_113 (D : Nat) (Q : Option Value → mI → mJ → Prop)  (v1 : Int32) (v2 : Int32) (v3 : Int32) (v4 : Int32) (v5 : Int32) (v6 : Int32) (MI : mI) (ML : mJ) : Prop := mEx D TX11_shift (mqS Q) (113, [some (.ref 46), some (.int v1), some (.int v2), some (.int v3), some (.int v4), some (.int v5), some (.int v6)], [], (W0, Sh0, MI, ML))
def VX11_shift_150 (D : Nat) (Q : Option Value → mI → mJ → Prop)  (v3 : Int32) (v4 : Int32) (v5 : Int32) (v6 : Int32) (MI : mI) (ML : mJ) : Prop := mEx D TX11_shift (mqS Q) (150, [some (.ref 46), none, none, some (.int v3), some (.int v4), some (.int v5), some (.int v6)], [], (W0, Sh0, MI, ML))
theorem BX11_shift_0 {D : Nat} {Q : Option Value → mI → mJ → Prop}  {v1 : Int32} {v2 : Int32} {v3 : Int32} {v4 : Int32} {v5 : Int32} {MI : mI} {ML : mJ} 
    (h : ∃ (x3 : Int32) (M1 : mI) (N2 : mJ), mrc D 260 [.int v1] MI ML (some (.int x3)) M1 N2 ∧ ((x3 = nI 0 → Q (some (.int (-1 : Int32))) M1 N2) ∧ (¬ x3 = nI 0 → ∃ (x6 : Int32) (M4 : mI) (N5 : mJ), mrc D 260 [.int v3] M1 N2 (some (.int x6)) M4 N5 ∧ ((x6 = nI 0 → Q (some (.int (-1 : Int32))) M4 N5) ∧ (¬ x6 = nI 0 → ∃ i7 : Nat, v1 = nI i7 ∧ i7 < 6 ∧ (((M4 76 i7) < nI 0 → Q (some (.int (-11 : Int32))) M4 N5) ∧ (¬ (M4 76 i7) < nI 0 → ∃ i8 : Nat, v3 = nI i8 ∧ i8 < 6 ∧ ((nI 0 ≤ (M4 76 i8) → ∃ i9 : Nat, v1 = nI i9 ∧ i9 < 6 ∧ (((M4 76 i9) < (nI 50) → Q (some (.int (-12 : Int32))) M4 N5) ∧ (¬ (M4 76 i9) < (nI 50) → ∃ i10 : Nat, v1 = nI i10 ∧ i10 < 6 ∧ (∃ i11 : Nat, v3 = nI i11 ∧ i11 < 6 ∧ (((M4 76 i10) = (M4 76 i11) → (v5 < nI 0 → Q (some (.int (-13 : Int32))) M4 N5) ∧ (¬ v5 < nI 0 → (v2 < nI 0 → Q (some (.int (-13 : Int32))) M4 N5) ∧ (¬ v2 < nI 0 → (v4 < nI 0 → Q (some (.int (-13 : Int32))) M4 N5) ∧ (¬ v4 < nI 0 → ∃ i12 : Nat, v1 = nI i12 ∧ i12 < 6 ∧ ((((M4 77 i12) - v5) < v2 → Q (some (.int (-13 : Int32))) M4 N5) ∧ (¬ ((M4 77 i12) - v5) < v2 → ∃ i13 : Nat, v3 = nI i13 ∧ i13 < 6 ∧ ((v4 ≤ ((M4 77 i13) - v5) → VX11_shift_113 D Q v1 v2 v3 v4 v5 (nI 0) M4 N5) ∧ (¬ v4 ≤ ((M4 77 i13) - v5) → Q (some (.int (-13 : Int32))) M4 N5)))))))) ∧ (¬ (M4 76 i10) = (M4 76 i11) → Q (some (.int (-12 : Int32))) M4 N5)))))) ∧ (¬ nI 0 ≤ (M4 76 i8) → Q (some (.int (-11 : Int32))) M4 N5))))))))) :
    VX11_shift_0 D Q v1 v2 v3 v4 v5 MI ML := by
  show mEx D TX11_shift (mqS Q) (0, [some (.ref 46), some (.int v1), some (.int v2), some (.int v3), some (.int v4), some (.int v5), none], [], (W0, Sh0, MI, ML))
  refine x_st rfl ?_
  obtain ⟨x3, M1, N2, hc, h⟩ := h
  refine x_ci rfl hc ?_
  refine x_br rfl (fun c => ?_) (fun c => ?_)
  · replace h := h.1 c
    refine x_st rfl ?_
    refine x_ret rfl ?_
    exact ⟨_, _, rfl, h⟩
  · replace h := h.2 c
    refine x_st rfl ?_
    obtain ⟨x6, M4, N5, hc, h⟩ := h
    refine x_ci rfl hc ?_
    refine x_br rfl (fun c => ?_) (fun c => ?_)
    · replace h := h.1 c
      refine x_st rfl ?_
      refine x_ret rfl ?_
      exact ⟨_, _, rfl, h⟩
    · replace h := h.2 c
      refine x_st rfl ?_
      refine x_gr (ci := 11) (k := 47) (nx := 20) rfl sh_46 rfl ?_
      refine x_st rfl ?_
      obtain ⟨i7, hx, hi, h⟩ := h
      refine x_ia (i := i7) (nx := 22) rfl sh_76 hx hi (by decide) ?_
      refine x_br rfl (fun c => ?_) (fun c => ?_)
      · replace h := h.1 c
        refine x_st rfl ?_
        refine x_ret rfl ?_
        exact ⟨_, _, rfl, h⟩
      · replace h := h.2 c
        refine x_st rfl ?_
        refine x_gr (ci := 11) (k := 47) (nx := 29) rfl sh_46 rfl ?_
        refine x_st rfl ?_
        obtain ⟨i8, hx, hi, h⟩ := h
        refine x_ia (i := i8) (nx := 31) rfl sh_76 hx hi (by decide) ?_
        refine x_br rfl (fun c => ?_) (fun c => ?_)
        · replace h := h.1 c
          refine x_st rfl ?_
          refine x_gr (ci := 11) (k := 47) (nx := 41) rfl sh_46 rfl ?_
          refine x_st rfl ?_
          obtain ⟨i9, hx, hi, h⟩ := h
          refine x_ia (i := i9) (nx := 43) rfl sh_76 hx hi (by decide) ?_
          refine x_st rfl ?_
          refine x_br rfl (fun c => ?_) (fun c => ?_)
          · replace h := h.1 c
            refine x_st rfl ?_
            refine x_ret rfl ?_
            exact ⟨_, _, rfl, h⟩
          · replace h := h.2 c
            refine x_st rfl ?_
            refine x_gr (ci := 11) (k := 47) (nx := 52) rfl sh_46 rfl ?_
            refine x_st rfl ?_
            obtain ⟨i10, hx, hi, h⟩ := h
            refine x_ia (i := i10) (nx := 54) rfl sh_76 hx hi (by decide) ?_
            refine x_st rfl ?_
            refine x_gr (ci := 11) (k := 47) (nx := 58) rfl sh_46 rfl ?_
            refine x_st rfl ?_
            obtain ⟨i11, hx, hi, h⟩ := h
            refine x_ia (i := i11) (nx := 60) rfl sh_76 hx hi (by decide) ?_
            refine x_br rfl (fun c => ?_) (fun c => ?_)
            · replace h := h.1 c
              refine x_st rfl ?_
              refine x_br rfl (fun c => ?_) (fun c => ?_)
              · replace h := h.1 c
                refine x_st rfl ?_
                refine x_ret rfl ?_
                exact ⟨_, _, rfl, h⟩
              · replace h := h.2 c
                refine x_st rfl ?_
                refine x_br rfl (fun c => ?_) (fun c => ?_)
                · replace h := h.1 c
                  refine x_st rfl ?_
                  refine x_ret rfl ?_
                  exact ⟨_, _, rfl, h⟩
                · replace h := h.2 c
                  refine x_st rfl ?_
                  refine x_br rfl (fun c => ?_) (fun c => ?_)
                  · replace h := h.1 c
                    refine x_st rfl ?_
                    refine x_ret rfl ?_
                    exact ⟨_, _, rfl, h⟩
                  · replace h := h.2 c
                    refine x_st rfl ?_
                    refine x_st rfl ?_
                    refine x_gr (ci := 11) (k := 48) (nx := 85) rfl sh_46 rfl ?_
                    refine x_st rfl ?_
                    obtain ⟨i12, hx, hi, h⟩ := h
                    refine x_ia (i := i12) (nx := 87) rfl sh_77 hx hi (by decide) ?_
                    refine x_st rfl ?_
                    refine x_st rfl ?_
                    refine x_br rfl (fun c => ?_) (fun c => ?_)
                    · replace h := h.1 c
                      refine x_st rfl ?_
                      refine x_ret rfl ?_
                      exact ⟨_, _, rfl, h⟩
                    · replace h := h.2 c
                      refine x_st rfl ?_
                      refine x_st rfl ?_
                      refine x_gr (ci := 11) (k := 48) (nx := 99) rfl sh_46 rfl ?_
                      refine x_st rfl ?_
                      obtain ⟨i13, hx, hi, h⟩ := h
                      refine x_ia (i := i13) (nx := 101) rfl sh_77 hx hi (by decide) ?_
                      refine x_st rfl ?_
                      refine x_st rfl ?_
                      refine x_br rfl (fun c => ?_) (fun c => ?_)
                      · replace h := h.1 c
                        refine x_st rfl ?_
                        refine x_st rfl ?_
                        refine x_kl ?_ h
                        exact ⟨Or.inr rfl, ⟨Or.inr rfl, ⟨Or.inr rfl, ⟨Or.inr rfl, ⟨Or.inr rfl, ⟨Or.inr rfl, ⟨Or.inr rfl, True.intro⟩⟩⟩⟩⟩⟩⟩
                      · replace h := h.2 c
                        refine x_st rfl ?_
                        refine x_ret rfl ?_
                        exact ⟨_, _, rfl, h⟩
            · replace h := h.2 c
              refine x_st rfl ?_
              refine x_ret rfl ?_
              exact ⟨_, _, rfl, h⟩
        · replace h := h.2 c
          refine x_st rfl ?_
          refine x_ret rfl ?_
          exact ⟨_, _, rfl, h⟩
theorem BX11_shift_113 {D : Nat} {Q : Option Value → mI → mJ → Prop}  {v1 : Int32} {v2 : Int32} {v3 : Int32} {v4 : Int32} {v5 : Int32} {v6 : Int32} {MI : mI} {ML : mJ} 
    (h : (v5 ≤ v6 → VX11_shift_150 D Q v3 v4 v5 (nI 0) MI ML) ∧ (¬ v5 ≤ v6 → ∃ i1 : Nat, ((((nI 60) * v1) + v2) + v6) = nI i1 ∧ i1 < 360 ∧ (∃ i2 : Nat, v6 = nI i2 ∧ i2 < 60 ∧ (VX11_shift_113 D Q v1 v2 v3 v4 v5 (v6 + (nI 1)) MI (mup ML 79 (mput (ML 79) i2 (ML 78 i1))))))) :
    VX11_shift_113 D Q v1 v2 v3 v4 v5 v6 MI ML := by
  show mEx D TX11_shift (mqS Q) (113, [some (.ref 46), some (.int v1), some (.int v2), some (.int v3), some (.int v4), some (.int v5), some (.int v6)], [], (W0, Sh0, MI, ML))
  refine x_st rfl ?_
  refine x_st rfl ?_
  refine x_br rfl (fun c => ?_) (fun c => ?_)
  · replace h := h.1 c
    refine x_st rfl ?_
    refine x_st rfl ?_
    refine x_kl ?_ h
    exact ⟨Or.inr rfl, ⟨Or.inl rfl, ⟨Or.inl rfl, ⟨Or.inr rfl, ⟨Or.inr rfl, ⟨Or.inr rfl, ⟨Or.inr rfl, True.intro⟩⟩⟩⟩⟩⟩⟩
  · replace h := h.2 c
    refine x_st rfl ?_
    refine x_gr (ci := 11) (k := 50) (nx := 124) rfl sh_46 rfl ?_
    refine x_st rfl ?_
    refine x_st rfl ?_
    refine x_gr (ci := 11) (k := 49) (nx := 130) rfl sh_46 rfl ?_
    refine x_st rfl ?_
    refine x_st rfl ?_
    refine x_st rfl ?_
    refine x_st rfl ?_
    refine x_st rfl ?_
    refine x_st rfl ?_
    refine x_st rfl ?_
    obtain ⟨i1, hx, hi, h⟩ := h
    refine x_la (i := i1) (nx := 140) rfl sh_78 hx hi (by decide) ?_
    obtain ⟨i2, hx, hi, h⟩ := h
    refine x_last (i := i2) (nx := 141) rfl sh_79 hx hi (by decide) ?_
    refine x_st rfl ?_
    refine x_st rfl ?_
    refine x_kl ?_ h
    exact ⟨Or.inr rfl, ⟨Or.inr rfl, ⟨Or.inr rfl, ⟨Or.inr rfl, ⟨Or.inr rfl, ⟨Or.inr rfl, ⟨Or.inr rfl, True.intro⟩⟩⟩⟩⟩⟩⟩
theorem BX11_shift_150 {D : Nat} {Q : Option Value → mI → mJ → Prop}  {v3 : Int32} {v4 : Int32} {v5 : Int32} {v6 : Int32} {MI : mI} {ML : mJ} 
    (h : (v5 ≤ v6 → Q (some (.int v5)) MI ML) ∧ (¬ v5 ≤ v6 → ∃ i1 : Nat, v6 = nI i1 ∧ i1 < 60 ∧ (∃ i2 : Nat, ((((nI 60) * v3) + v4) + v6) = nI i2 ∧ i2 < 360 ∧ (VX11_shift_150 D Q v3 v4 v5 (v6 + (nI 1)) MI (mup ML 78 (mput (ML 78) i2 (ML 79 i1))))))) :
    VX11_shift_150 D Q v3 v4 v5 v6 MI ML := by
  show mEx D TX11_shift (mqS Q) (150, [some (.ref 46), none, none, some (.int v3), some (.int v4), some (.int v5), some (.int v6)], [], (W0, Sh0, MI, ML))
  refine x_st rfl ?_
  refine x_st rfl ?_
  refine x_br rfl (fun c => ?_) (fun c => ?_)
  · replace h := h.1 c
    refine x_st rfl ?_
    refine x_ret rfl ?_
    exact ⟨_, _, rfl, h⟩
  · replace h := h.2 c
    refine x_st rfl ?_
    refine x_gr (ci := 11) (k := 49) (nx := 161) rfl sh_46 rfl ?_
    refine x_st rfl ?_
    refine x_st rfl ?_
    refine x_st rfl ?_
    refine x_st rfl ?_
    refine x_st rfl ?_
    refine x_st rfl ?_
    refine x_st rfl ?_
    refine x_st rfl ?_
    refine x_gr (ci := 11) (k := 50) (nx := 175) rfl sh_46 rfl ?_
    refine x_st rfl ?_
    obtain ⟨i1, hx, hi, h⟩ := h
    refine x_la (i := i1) (nx := 178) rfl sh_79 hx hi (by decide) ?_
    obtain ⟨i2, hx, hi, h⟩ := h
    refine x_last (i := i2) (nx := 179) rfl sh_78 hx hi (by decide) ?_
    refine x_st rfl ?_
    refine x_st rfl ?_
    refine x_kl ?_ h
    exact ⟨Or.inr rfl, ⟨Or.inl rfl, ⟨Or.inl rfl, ⟨Or.inr rfl, ⟨Or.inr rfl, ⟨Or.inr rfl, ⟨Or.inr rfl, True.intro⟩⟩⟩⟩⟩⟩⟩
theorem EX11_shift {D : Nat} {Q : Option Value → mI → mJ → Prop}  {v1 : Int32} {v2 : Int32} {v3 : Int32} {v4 : Int32} {v5 : Int32} {MI : mI} {ML : mJ} (h : VX11_shift_0 D Q v1 v2 v3 v4 v5 MI ML) : ∃ v MI' ML', Q v MI' ML' ∧ mrc (D + 1) 267 [.ref 46, .int v1, .int v2, .int v3, .int v4, .int v5] MI ML v MI' ML' := by
  refine x_en (n := 1) (T := TX11_shift) rfl rfl ?_
  refine x_kl ?_ h
  exact ⟨Or.inr rfl, ⟨Or.inr rfl, ⟨Or.inr rfl, ⟨Or.inr rfl, ⟨Or.inr rfl, ⟨Or.inr rfl, ⟨Or.inl rfl, True.intro⟩⟩⟩⟩⟩⟩⟩
def VX11_taken_0 (D : Nat) (Q : Option Value → mI → mJ → Prop)  (v1 : Int32) (v2 : Int32) (MI : mI) (ML : mJ) : Prop := mEx D TX11_taken (mqS Q) (0, [some (.ref 46), some (.int v1), some (.int v2), none], [], (W0, Sh0, MI, ML))
def VX11_taken_58 (D : Nat) (Q : Option Value → mI → mJ → Prop)  (v1 : Int32) (v2 : Int32) (v3 : Int32) (MI : mI) (ML : mJ) : Prop := mEx D TX11_taken (mqS Q) (58, [some (.ref 46), some (.int v1), some (.int v2), some (.int v3)], [], (W0, Sh0, MI, ML))
def VX11_taken_75 (D : Nat) (Q : Option Value → mI → mJ → Prop)  (v1 : Int32) (v2 : Int32) (v3 : Int32) (MI : mI) (ML : mJ) : Prop := mEx D TX11_taken (mqS Q) (75, [some (.ref 46), some (.int v1), some (.int v2), some (.int v3)], [], (W0, Sh0, MI, ML))
theorem BX11_taken_0 {D : Nat} {Q : Option Value → mI → mJ → Prop}  {v1 : Int32} {v2 : Int32} {MI : mI} {ML : mJ} 
    (h : ∃ (x3 : Int32) (M1 : mI) (N2 : mJ), mrc D 260 [.int v1] MI ML (some (.int x3)) M1 N2 ∧ ((x3 = nI 0 → Q (some (.int (-1 : Int32))) M1 N2) ∧ (¬ x3 = nI 0 → ∃ (x6 : Int32) (M4 : mI) (N5 : mJ), mrc D 178 [.long (v2).toInt64, .long (0 : Int64), .long (7 : Int64)] M1 N2 (some (.int x6)) M4 N5 ∧ ((x6 = nI 0 → Q (some (.int (-1 : Int32))) M4 N5) ∧ (¬ x6 = nI 0 → ∃ i7 : Nat, v1 = nI i7 ∧ i7 < 6 ∧ ((nI 0 ≤ (M4 76 i7) → ∃ i8 : Nat, v1 = nI i8 ∧ i8 < 6 ∧ (((M4 76 i8) < (nI 50) → ∃ i9 : Nat, v1 = nI i9 ∧ i9 < 6 ∧ (∃ (x12 : Int32) (M10 : mI) (N11 : mJ), mrc D 250 [.ref 46, .int (M4 76 i9)] M4 N5 (some (.int x12)) M10 N11 ∧ (VX11_taken_58 D Q v1 v2 x12 M10 N11))) ∧ (¬ (M4 76 i8) < (nI 50) → Q (some (.int (-12 : Int32))) M4 N5))) ∧ (¬ nI 0 ≤ (M4 76 i7) → Q (some (.int (-11 : Int32))) M4 N5))))))) :
    VX11_taken_0 D Q v1 v2 MI ML := by
  show mEx D TX11_taken (mqS Q) (0, [some (.ref 46), some (.int v1), some (.int v2), none], [], (W0, Sh0, MI, ML))
  refine x_st rfl ?_
  obtain ⟨x3, M1, N2, hc, h⟩ := h
  refine x_ci rfl hc ?_
  refine x_br rfl (fun c => ?_) (fun c => ?_)
  · replace h := h.1 c
    refine x_st rfl ?_
    refine x_ret rfl ?_
    exact ⟨_, _, rfl, h⟩
  · replace h := h.2 c
    refine x_st rfl ?_
    refine x_st rfl ?_
    refine x_st rfl ?_
    refine x_st rfl ?_
    obtain ⟨x6, M4, N5, hc, h⟩ := h
    refine x_ci rfl hc ?_
    refine x_br rfl (fun c => ?_) (fun c => ?_)
    · replace h := h.1 c
      refine x_st rfl ?_
      refine x_ret rfl ?_
      exact ⟨_, _, rfl, h⟩
    · replace h := h.2 c
      refine x_st rfl ?_
      refine x_gr (ci := 11) (k := 47) (nx := 25) rfl sh_46 rfl ?_
      refine x_st rfl ?_
      obtain ⟨i7, hx, hi, h⟩ := h
      refine x_ia (i := i7) (nx := 27) rfl sh_76 hx hi (by decide) ?_
      refine x_br rfl (fun c => ?_) (fun c => ?_)
      · replace h := h.1 c
        refine x_st rfl ?_
        refine x_gr (ci := 11) (k := 47) (nx := 37) rfl sh_46 rfl ?_
        refine x_st rfl ?_
        obtain ⟨i8, hx, hi, h⟩ := h
        refine x_ia (i := i8) (nx := 39) rfl sh_76 hx hi (by decide) ?_
        refine x_st rfl ?_
        refine x_br rfl (fun c => ?_) (fun c => ?_)
        · replace h := h.1 c
          refine x_st rfl ?_
          refine x_st rfl ?_
          refine x_gr (ci := 11) (k := 47) (nx := 52) rfl sh_46 rfl ?_
          refine x_st rfl ?_
          obtain ⟨i9, hx, hi, h⟩ := h
          refine x_ia (i := i9) (nx := 54) rfl sh_76 hx hi (by decide) ?_
          obtain ⟨x12, M10, N11, hc, h⟩ := h
          refine x_vi (y := 250) (n := 1) (ci := 11) (nx := 57) rfl (fun _ => rfl) sh_46 rfl hc ?_
          refine x_st rfl ?_
          refine x_kl ?_ h
          exact ⟨Or.inr rfl, ⟨Or.inr rfl, ⟨Or.inr rfl, ⟨Or.inr rfl, True.intro⟩⟩⟩⟩
        · replace h := h.2 c
          refine x_st rfl ?_
          refine x_ret rfl ?_
          exact ⟨_, _, rfl, h⟩
      · replace h := h.2 c
        refine x_st rfl ?_
        refine x_ret rfl ?_
        exact ⟨_, _, rfl, h⟩
theorem BX11_taken_58 {D : Nat} {Q : Option Value → mI → mJ → Prop}  {v1 : Int32} {v2 : Int32} {v3 : Int32} {MI : mI} {ML : mJ} 
    (h : (v3 = v2 → VX11_taken_75 D Q v1 v2 v3 MI ML) ∧ (¬ v3 = v2 → (v3 ≤ nI 0 → VX11_taken_75 D Q v1 v2 v3 MI ML) ∧ (¬ v3 ≤ nI 0 → ∃ (x3 : Int32) (M1 : mI) (N2 : mJ), mrc D 252 [.int v3] MI ML (some (.int x3)) M1 N2 ∧ (VX11_taken_58 D Q v1 v2 x3 M1 N2)))) :
    VX11_taken_58 D Q v1 v2 v3 MI ML := by
  show mEx D TX11_taken (mqS Q) (58, [some (.ref 46), some (.int v1), some (.int v2), some (.int v3)], [], (W0, Sh0, MI, ML))
  refine x_st rfl ?_
  refine x_st rfl ?_
  refine x_br rfl (fun c => ?_) (fun c => ?_)
  · replace h := h.1 c
    refine x_kl ?_ h
    exact ⟨Or.inr rfl, ⟨Or.inr rfl, ⟨Or.inr rfl, ⟨Or.inr rfl, True.intro⟩⟩⟩⟩
  · replace h := h.2 c
    refine x_st rfl ?_
    refine x_br rfl (fun c => ?_) (fun c => ?_)
    · replace h := h.1 c
      refine x_kl ?_ h
      exact ⟨Or.inr rfl, ⟨Or.inr rfl, ⟨Or.inr rfl, ⟨Or.inr rfl, True.intro⟩⟩⟩⟩
    · replace h := h.2 c
      refine x_st rfl ?_
      obtain ⟨x3, M1, N2, hc, h⟩ := h
      refine x_ci rfl hc ?_
      refine x_st rfl ?_
      refine x_st rfl ?_
      refine x_kl ?_ h
      exact ⟨Or.inr rfl, ⟨Or.inr rfl, ⟨Or.inr rfl, ⟨Or.inr rfl, True.intro⟩⟩⟩⟩
theorem BX11_taken_75 {D : Nat} {Q : Option Value → mI → mJ → Prop}  {v1 : Int32} {v2 : Int32} {v3 : Int32} {MI : mI} {ML : mJ} 
    (h : (v3 = v2 → ∃ i1 : Nat, v1 = nI i1 ∧ i1 < 6 ∧ (∃ (x4 : Int32) (M2 : mI) (N3 : mJ), mrc D 250 [.ref 46, .int (MI 76 i1)] MI ML (some (.int x4)) M2 N3 ∧ (Q (some (.int x4)) M2 N3))) ∧ (¬ v3 = v2 → Q (some (.int (-12 : Int32))) MI ML)) :
    VX11_taken_75 D Q v1 v2 v3 MI ML := by
  show mEx D TX11_taken (mqS Q) (75, [some (.ref 46), some (.int v1), some (.int v2), some (.int v3)], [], (W0, Sh0, MI, ML))
  refine x_st rfl ?_
  refine x_st rfl ?_
  refine x_br rfl (fun c => ?_) (fun c => ?_)
  · replace h := h.1 c
    refine x_st rfl ?_
    refine x_st rfl ?_
    refine x_gr (ci := 11) (k := 47) (nx := 85) rfl sh_46 rfl ?_
    refine x_st rfl ?_
    obtain ⟨i1, hx, hi, h⟩ := h
    refine x_ia (i := i1) (nx := 87) rfl sh_76 hx hi (by decide) ?_
    obtain ⟨x4, M2, N3, hc, h⟩ := h
    refine x_vi (y := 250) (n := 1) (ci := 11) (nx := 90) rfl (fun _ => rfl) sh_46 rfl hc ?_
    refine x_st rfl ?_
    refine x_ret rfl ?_
    exact ⟨_, _, rfl, h⟩
  · replace h := h.2 c
    refine x_st rfl ?_
    refine x_ret rfl ?_
    exact ⟨_, _, rfl, h⟩
theorem EX11_taken {D : Nat} {Q : Option Value → mI → mJ → Prop}  {v1 : Int32} {v2 : Int32} {MI : mI} {ML : mJ} (h : VX11_taken_0 D Q v1 v2 MI ML) : ∃ v MI' ML', Q v MI' ML' ∧ mrc (D + 1) 268 [.ref 46, .int v1, .int v2] MI ML v MI' ML' := by
  refine x_en (n := 1) (T := TX11_taken) rfl rfl ?_
  refine x_kl ?_ h
  exact ⟨Or.inr rfl, ⟨Or.inr rfl, ⟨Or.inr rfl, ⟨Or.inl rfl, True.intro⟩⟩⟩⟩
def VX11_count_0 (D : Nat) (Q : Option Value → mI → mJ → Prop)  (v1 : Int32) (MI : mI) (ML : mJ) : Prop := mEx D TX11_count (mqS Q) (0, [some (.ref 46), some (.int v1), none, none, none], [], (W0, Sh0, MI, ML))
def VX11_count_67 (D : Nat) (Q : Option Value → mI → mJ → Prop)  (v2 : Int32) (v3 : Int32) (MI : mI) (ML : mJ) : Prop := mEx D TX11_count (mqS Q) (67, [some (.ref 46), none, some (.int v2), some (.int v3), none], [], (W0, Sh0, MI, ML))
def VX11_count_78 (D : Nat) (Q : Option Value → mI → mJ → Prop)  (v2 : Int32) (v3 : Int32) (v4 : Int32) (MI : mI) (ML : mJ) : Prop := mEx D TX11_count (mqS Q) (78, [some (.ref 46), none, some (.int v2), some (.int v3), some (.int v4)], [], (W0, Sh0, MI, ML))
theorem BX11_count_0 {D : Nat} {Q : Option Value → mI → mJ → Prop}  {v1 : Int32} {MI : mI} {ML : mJ} 
    (h : (v1 = (nI 0) → Q (some (.int (MI 46 6))) MI ML) ∧ (¬ v1 = (nI 0) → (v1 = (nI 1) → Q (some (.int (MI 46 8))) MI ML) ∧ (¬ v1 = (nI 1) → (v1 = (nI 2) → Q (some (.int (MI 46 5))) MI ML) ∧ (¬ v1 = (nI 2) → (v1 = (nI 3) → Q (some (.int (MI 46 41))) MI ML) ∧ (¬ v1 = (nI 3) → (v1 = (nI 4) → Q (some (.int (MI 46 44))) MI ML) ∧ (¬ v1 = (nI 4) → (v1 = (nI 5) → VX11_count_67 D Q (nI 0) (nI 0) MI ML) ∧ (¬ v1 = (nI 5) → Q (some (.int (-1 : Int32))) MI ML))))))) :
    VX11_count_0 D Q v1 MI ML := by
  show mEx D TX11_count (mqS Q) (0, [some (.ref 46), some (.int v1), none, none, none], [], (W0, Sh0, MI, ML))
  refine x_st rfl ?_
  refine x_st rfl ?_
  refine x_st rfl ?_
  refine x_sw rfl ?_
  refine ⟨fun c => ?_, fun c => ?_⟩
  · replace h := h.1 c
    refine x_st rfl ?_
    refine x_gi (ci := 11) (k := 6) (nx := 44) rfl sh_46 rfl ?_
    refine x_ret rfl ?_
    exact ⟨_, _, rfl, h⟩
  · replace h := h.2 c
    refine ⟨fun c => ?_, fun c => ?_⟩
    · replace h := h.1 c
      refine x_st rfl ?_
      refine x_gi (ci := 11) (k := 8) (nx := 49) rfl sh_46 rfl ?_
      refine x_ret rfl ?_
      exact ⟨_, _, rfl, h⟩
    · replace h := h.2 c
      refine ⟨fun c => ?_, fun c => ?_⟩
      · replace h := h.1 c
        refine x_st rfl ?_
        refine x_gi (ci := 11) (k := 5) (nx := 54) rfl sh_46 rfl ?_
        refine x_ret rfl ?_
        exact ⟨_, _, rfl, h⟩
      · replace h := h.2 c
        refine ⟨fun c => ?_, fun c => ?_⟩
        · replace h := h.1 c
          refine x_st rfl ?_
          refine x_gi (ci := 11) (k := 41) (nx := 59) rfl sh_46 rfl ?_
          refine x_ret rfl ?_
          exact ⟨_, _, rfl, h⟩
        · replace h := h.2 c
          refine ⟨fun c => ?_, fun c => ?_⟩
          · replace h := h.1 c
            refine x_st rfl ?_
            refine x_gi (ci := 11) (k := 44) (nx := 64) rfl sh_46 rfl ?_
            refine x_ret rfl ?_
            exact ⟨_, _, rfl, h⟩
          · replace h := h.2 c
            refine ⟨fun c => ?_, fun c => ?_⟩
            · replace h := h.1 c
              refine x_st rfl ?_
              refine x_st rfl ?_
              refine x_kl ?_ h
              exact ⟨Or.inr rfl, ⟨Or.inl rfl, ⟨Or.inr rfl, ⟨Or.inr rfl, ⟨Or.inl rfl, True.intro⟩⟩⟩⟩⟩
            · replace h := h.2 c
              refine x_st rfl ?_
              refine x_ret rfl ?_
              exact ⟨_, _, rfl, h⟩
theorem BX11_count_67 {D : Nat} {Q : Option Value → mI → mJ → Prop}  {v2 : Int32} {v3 : Int32} {MI : mI} {ML : mJ} 
    (h : ((MI 46 6) ≤ v3 → Q (some (.int v2)) MI ML) ∧ (¬ (MI 46 6) ≤ v3 → VX11_count_78 D Q v2 v3 (nI 0) MI ML)) :
    VX11_count_67 D Q v2 v3 MI ML := by
  show mEx D TX11_count (mqS Q) (67, [some (.ref 46), none, some (.int v2), some (.int v3), none], [], (W0, Sh0, MI, ML))
  refine x_st rfl ?_
  refine x_st rfl ?_
  refine x_gi (ci := 11) (k := 6) (nx := 72) rfl sh_46 rfl ?_
  refine x_br rfl (fun c => ?_) (fun c => ?_)
  · replace h := h.1 c
    refine x_st rfl ?_
    refine x_ret rfl ?_
    exact ⟨_, _, rfl, h⟩
  · replace h := h.2 c
    refine x_st rfl ?_
    refine x_st rfl ?_
    refine x_kl ?_ h
    exact ⟨Or.inr rfl, ⟨Or.inl rfl, ⟨Or.inr rfl, ⟨Or.inr rfl, ⟨Or.inr rfl, True.intro⟩⟩⟩⟩⟩
theorem BX11_count_78 {D : Nat} {Q : Option Value → mI → mJ → Prop}  {v2 : Int32} {v3 : Int32} {v4 : Int32} {MI : mI} {ML : mJ} 
    (h : ((MI 46 6) ≤ v4 → VX11_count_67 D Q v2 (v3 + (nI 1)) MI ML) ∧ (¬ (MI 46 6) ≤ v4 → ∃ (x3 : Int32) (M1 : mI) (N2 : mJ), mrc D 184 [.int v3, .int v4] MI ML (some (.int x3)) M1 N2 ∧ (∃ i4 : Nat, x3 = nI i4 ∧ i4 < 84 ∧ ((nI 0 ≤ (M1 47 i4) → VX11_count_78 D Q (v2 + (nI 0)) v3 (v4 + (nI 1)) M1 N2) ∧ (¬ nI 0 ≤ (M1 47 i4) → VX11_count_78 D Q (v2 + (nI 1)) v3 (v4 + (nI 1)) M1 N2))))) :
    VX11_count_78 D Q v2 v3 v4 MI ML := by
  show mEx D TX11_count (mqS Q) (78, [some (.ref 46), none, some (.int v2), some (.int v3), some (.int v4)], [], (W0, Sh0, MI, ML))
  refine x_st rfl ?_
  refine x_st rfl ?_
  refine x_gi (ci := 11) (k := 6) (nx := 84) rfl sh_46 rfl ?_
  refine x_br rfl (fun c => ?_) (fun c => ?_)
  · replace h := h.1 c
    refine x_st rfl ?_
    refine x_st rfl ?_
    refine x_kl ?_ h
    exact ⟨Or.inr rfl, ⟨Or.inl rfl, ⟨Or.inr rfl, ⟨Or.inr rfl, ⟨Or.inl rfl, True.intro⟩⟩⟩⟩⟩
  · replace h := h.2 c
    refine x_st rfl ?_
    refine x_st rfl ?_
    refine x_gr (ci := 11) (k := 0) (nx := 92) rfl sh_46 rfl ?_
    refine x_st rfl ?_
    refine x_st rfl ?_
    obtain ⟨x3, M1, N2, hc, h⟩ := h
    refine x_ci rfl hc ?_
    obtain ⟨i4, hx, hi, h⟩ := h
    refine x_ia (i := i4) (nx := 99) rfl sh_47 hx hi (by decide) ?_
    refine x_br rfl (fun c => ?_) (fun c => ?_)
    · replace h := h.1 c
      refine x_st rfl ?_
      refine x_st rfl ?_
      refine x_st rfl ?_
      refine x_st rfl ?_
      refine x_st rfl ?_
      refine x_kl ?_ h
      exact ⟨Or.inr rfl, ⟨Or.inl rfl, ⟨Or.inr rfl, ⟨Or.inr rfl, ⟨Or.inr rfl, True.intro⟩⟩⟩⟩⟩
    · replace h := h.2 c
      refine x_st rfl ?_
      refine x_st rfl ?_
      refine x_st rfl ?_
      refine x_st rfl ?_
      refine x_st rfl ?_
      refine x_st rfl ?_
      refine x_kl ?_ h
      exact ⟨Or.inr rfl, ⟨Or.inl rfl, ⟨Or.inr rfl, ⟨Or.inr rfl, ⟨Or.inr rfl, True.intro⟩⟩⟩⟩⟩
theorem EX11_count {D : Nat} {Q : Option Value → mI → mJ → Prop}  {v1 : Int32} {MI : mI} {ML : mJ} (h : VX11_count_0 D Q v1 MI ML) : ∃ v MI' ML', Q v MI' ML' ∧ mrc (D + 1) 269 [.ref 46, .int v1] MI ML v MI' ML' := by
  refine x_en (n := 3) (T := TX11_count) rfl rfl ?_
  refine x_kl ?_ h
  exact ⟨Or.inr rfl, ⟨Or.inr rfl, ⟨Or.inl rfl, ⟨Or.inl rfl, ⟨Or.inl rfl, True.intro⟩⟩⟩⟩⟩
def VL_law_18 (D : Nat) (Q : Option Value → mI → mJ → Prop) (L : Nat) (xs : Nat → Int32) (v3 : Int32) (MI : mI) (ML : mJ) : Prop := mEx D (TL_law L xs) (mqS Q) (18, [some (.float 0), some (.ref 0), some (.ref 46), some (.int v3)], [], (W0, Sh0, MI, ML))
theorem BL_law_18 {D : Nat} {Q : Option Value → mI → mJ → Prop} {L : Nat} {xs : Nat → Int32} {v3 : Int32} {MI : mI} {ML : mJ} (hL : L < 10001)
    (h : (((nI L) - (nI 6)) < v3 → Q (some (.int (nI 1))) MI ML) ∧ (¬ ((nI L) - (nI 6)) < v3 → ∃ i1 : Nat, v3 = nI i1 ∧ i1 < L ∧ ((((xs i1) &&& (nI 63)) = (nI 0) → ∃ i380 : Nat, (v3 + (nI 1)) = nI i380 ∧ i380 < L ∧ (∃ i381 : Nat, (v3 + (nI 2)) = nI i381 ∧ i381 < L ∧ (∃ (x384 : Int32) (M382 : mI) (N383 : mJ), mrc D 135 [.ref 0, .int (xs i380), .int (xs i381)] MI ML (some (.int x384)) M382 N383 ∧ (∃ i385 : Nat, (v3 + (nI 1)) = nI i385 ∧ i385 < L ∧ (∃ i386 : Nat, (v3 + (nI 2)) = nI i386 ∧ i386 < L ∧ (∃ (x389 : Int32) (M387 : mI) (N388 : mJ), mrc D 187 [.ref 46, .int (xs i385), .int (xs i386)] M382 N383 (some (.int x389)) M387 N388 ∧ ((x384 = x389 → VL_law_18 D Q L xs (v3 + (nI 6)) M387 N388) ∧ (¬ x384 = x389 → Q (some (.int (nI 0))) M387 N388)))))))) ∧ (¬ ((xs i1) &&& (nI 63)) = (nI 0) → (((xs i1) &&& (nI 63)) = (nI 1) → ∃ i368 : Nat, (v3 + (nI 1)) = nI i368 ∧ i368 < L ∧ (∃ i369 : Nat, (v3 + (nI 2)) = nI i369 ∧ i369 < L ∧ (∃ i370 : Nat, (v3 + (nI 3)) = nI i370 ∧ i370 < L ∧ (∃ (x373 : Int32) (M371 : mI) (N372 : mJ), mrc D 136 [.ref 0, .int (xs i368), .int (xs i369), .int (xs i370)] MI ML (some (.int x373)) M371 N372 ∧ (∃ i374 : Nat, (v3 + (nI 1)) = nI i374 ∧ i374 < L ∧ (∃ i375 : Nat, (v3 + (nI 2)) = nI i375 ∧ i375 < L ∧ (∃ i376 : Nat, (v3 + (nI 3)) = nI i376 ∧ i376 < L ∧ (∃ (x379 : Int32) (M377 : mI) (N378 : mJ), mrc D 188 [.ref 46, .int (xs i374), .int (xs i375), .int (xs i376)] M371 N372 (some (.int x379)) M377 N378 ∧ ((x373 = x379 → VL_law_18 D Q L xs (v3 + (nI 6)) M377 N378) ∧ (¬ x373 = x379 → Q (some (.int (nI 0))) M377 N378)))))))))) ∧ (¬ ((xs i1) &&& (nI 63)) = (nI 1) → (((xs i1) &&& (nI 63)) = (nI 2) → ∃ i356 : Nat, (v3 + (nI 1)) = nI i356 ∧ i356 < L ∧ (∃ i357 : Nat, (v3 + (nI 2)) = nI i357 ∧ i357 < L ∧ (∃ i358 : Nat, (v3 + (nI 3)) = nI i358 ∧ i358 < L ∧ (∃ (x361 : Int32) (M359 : mI) (N360 : mJ), mrc D 137 [.ref 0, .int (xs i356), .int (xs i357), .int (xs i358)] MI ML (some (.int x361)) M359 N360 ∧ (∃ i362 : Nat, (v3 + (nI 1)) = nI i362 ∧ i362 < L ∧ (∃ i363 : Nat, (v3 + (nI 2)) = nI i363 ∧ i363 < L ∧ (∃ i364 : Nat, (v3 + (nI 3)) = nI i364 ∧ i364 < L ∧ (∃ (x367 : Int32) (M365 : mI) (N366 : mJ), mrc D 191 [.ref 46, .int (xs i362), .int (xs i363), .int (xs i364)] M359 N360 (some (.int x367)) M365 N366 ∧ ((x361 = x367 → VL_law_18 D Q L xs (v3 + (nI 6)) M365 N366) ∧ (¬ x361 = x367 → Q (some (.int (nI 0))) M365 N366)))))))))) ∧ (¬ ((xs i1) &&& (nI 63)) = (nI 2) → (((xs i1) &&& (nI 63)) = (nI 3) → ∃ i346 : Nat, (v3 + (nI 1)) = nI i346 ∧ i346 < L ∧ (∃ i347 : Nat, (v3 + (nI 2)) = nI i347 ∧ i347 < L ∧ (∃ (x350 : Int32) (M348 : mI) (N349 : mJ), mrc D 138 [.ref 0, .int (xs i346), .int (xs i347)] MI ML (some (.int x350)) M348 N349 ∧ (∃ i351 : Nat, (v3 + (nI 1)) = nI i351 ∧ i351 < L ∧ (∃ i352 : Nat, (v3 + (nI 2)) = nI i352 ∧ i352 < L ∧ (∃ (x355 : Int32) (M353 : mI) (N354 : mJ), mrc D 192 [.ref 46, .int (xs i351), .int (xs i352)] M348 N349 (some (.int x355)) M353 N354 ∧ ((x350 = x355 → VL_law_18 D Q L xs (v3 + (nI 6)) M353 N354) ∧ (¬ x350 = x355 → Q (some (.int (nI 0))) M353 N354)))))))) ∧ (¬ ((xs i1) &&& (nI 63)) = (nI 3) → (((xs i1) &&& (nI 63)) = (nI 4) → ∃ i336 : Nat, (v3 + (nI 1)) = nI i336 ∧ i336 < L ∧ (∃ i337 : Nat, (v3 + (nI 2)) = nI i337 ∧ i337 < L ∧ (∃ (x340 : Int32) (M338 : mI) (N339 : mJ), mrc D 139 [.ref 0, .int (xs i336), .int (xs i337)] MI ML (some (.int x340)) M338 N339 ∧ (∃ i341 : Nat, (v3 + (nI 1)) = nI i341 ∧ i341 < L ∧ (∃ i342 : Nat, (v3 + (nI 2)) = nI i342 ∧ i342 < L ∧ (∃ (x345 : Int32) (M343 : mI) (N344 : mJ), mrc D 193 [.ref 46, .int (xs i341), .int (xs i342)] M338 N339 (some (.int x345)) M343 N344 ∧ ((x340 = x345 → VL_law_18 D Q L xs (v3 + (nI 6)) M343 N344) ∧ (¬ x340 = x345 → Q (some (.int (nI 0))) M343 N344)))))))) ∧ (¬ ((xs i1) &&& (nI 63)) = (nI 4) → (((xs i1) &&& (nI 63)) = (nI 5) → ∃ i328 : Nat, (v3 + (nI 1)) = nI i328 ∧ i328 < L ∧ (∃ (x331 : Int32) (M329 : mI) (N330 : mJ), mrc D 140 [.ref 0, .int (xs i328)] MI ML (some (.int x331)) M329 N330 ∧ (∃ i332 : Nat, (v3 + (nI 1)) = nI i332 ∧ i332 < L ∧ (∃ (x335 : Int32) (M333 : mI) (N334 : mJ), mrc D 194 [.ref 46, .int (xs i332)] M329 N330 (some (.int x335)) M333 N334 ∧ ((x331 = x335 → VL_law_18 D Q L xs (v3 + (nI 6)) M333 N334) ∧ (¬ x331 = x335 → Q (some (.int (nI 0))) M333 N334)))))) ∧ (¬ ((xs i1) &&& (nI 63)) = (nI 5) → (((xs i1) &&& (nI 63)) = (nI 6) → ∃ i320 : Nat, (v3 + (nI 1)) = nI i320 ∧ i320 < L ∧ (∃ (x323 : Int32) (M321 : mI) (N322 : mJ), mrc D 141 [.ref 0, .int (xs i320)] MI ML (some (.int x323)) M321 N322 ∧ (∃ i324 : Nat, (v3 + (nI 1)) = nI i324 ∧ i324 < L ∧ (∃ (x327 : Int32) (M325 : mI) (N326 : mJ), mrc D 195 [.ref 46, .int (xs i324)] M321 N322 (some (.int x327)) M325 N326 ∧ ((x323 = x327 → VL_law_18 D Q L xs (v3 + (nI 6)) M325 N326) ∧ (¬ x323 = x327 → Q (some (.int (nI 0))) M325 N326)))))) ∧ (¬ ((xs i1) &&& (nI 63)) = (nI 6) → (((xs i1) &&& (nI 63)) = (nI 7) → ∃ (x316 : Int32) (M314 : mI) (N315 : mJ), mrc D 142 [.ref 0] MI ML (some (.int x316)) M314 N315 ∧ (∃ (x319 : Int32) (M317 : mI) (N318 : mJ), mrc D 207 [.ref 46] M314 N315 (some (.int x319)) M317 N318 ∧ ((x316 = x319 → VL_law_18 D Q L xs (v3 + (nI 6)) M317 N318) ∧ (¬ x316 = x319 → Q (some (.int (nI 0))) M317 N318)))) ∧ (¬ ((xs i1) &&& (nI 63)) = (nI 7) → (((xs i1) &&& (nI 63)) = (nI 8) → ∃ i306 : Nat, (v3 + (nI 1)) = nI i306 ∧ i306 < L ∧ (∃ (x309 : Int32) (M307 : mI) (N308 : mJ), mrc D 144 [.ref 0, .int (xs i306)] MI ML (some (.int x309)) M307 N308 ∧ (∃ i310 : Nat, (v3 + (nI 1)) = nI i310 ∧ i310 < L ∧ (∃ (x313 : Int32) (M311 : mI) (N312 : mJ), mrc D 220 [.ref 46, .int (xs i310)] M307 N308 (some (.int x313)) M311 N312 ∧ ((x309 = x313 → VL_law_18 D Q L xs (v3 + (nI 6)) M311 N312) ∧ (¬ x309 = x313 → Q (some (.int (nI 0))) M311 N312)))))) ∧ (¬ ((xs i1) &&& (nI 63)) = (nI 8) → (((xs i1) &&& (nI 63)) = (nI 9) → ∃ i298 : Nat, (v3 + (nI 1)) = nI i298 ∧ i298 < L ∧ (∃ (x301 : Int32) (M299 : mI) (N300 : mJ), mrc D 145 [.ref 0, .int (xs i298)] MI ML (some (.int x301)) M299 N300 ∧ (∃ i302 : Nat, (v3 + (nI 1)) = nI i302 ∧ i302 < L ∧ (∃ (x305 : Int32) (M303 : mI) (N304 : mJ), mrc D 221 [.ref 46, .int (xs i302)] M299 N300 (some (.int x305)) M303 N304 ∧ ((x301 = x305 → VL_law_18 D Q L xs (v3 + (nI 6)) M303 N304) ∧ (¬ x301 = x305 → Q (some (.int (nI 0))) M303 N304)))))) ∧ (¬ ((xs i1) &&& (nI 63)) = (nI 9) → (((xs i1) &&& (nI 63)) = (nI 10) → ∃ i288 : Nat, (v3 + (nI 1)) = nI i288 ∧ i288 < L ∧ (∃ i289 : Nat, (v3 + (nI 2)) = nI i289 ∧ i289 < L ∧ (∃ (x292 : Int32) (M290 : mI) (N291 : mJ), mrc D 146 [.ref 0, .int (xs i288), .int (xs i289)] MI ML (some (.int x292)) M290 N291 ∧ (∃ i293 : Nat, (v3 + (nI 1)) = nI i293 ∧ i293 < L ∧ (∃ i294 : Nat, (v3 + (nI 2)) = nI i294 ∧ i294 < L ∧ (∃ (x297 : Int32) (M295 : mI) (N296 : mJ), mrc D 223 [.ref 46, .int (xs i293), .int (xs i294)] M290 N291 (some (.int x297)) M295 N296 ∧ ((x292 = x297 → VL_law_18 D Q L xs (v3 + (nI 6)) M295 N296) ∧ (¬ x292 = x297 → Q (some (.int (nI 0))) M295 N296)))))))) ∧ (¬ ((xs i1) &&& (nI 63)) = (nI 10) → (((xs i1) &&& (nI 63)) = (nI 11) → ∃ i278 : Nat, (v3 + (nI 1)) = nI i278 ∧ i278 < L ∧ (∃ i279 : Nat, (v3 + (nI 2)) = nI i279 ∧ i279 < L ∧ (∃ (x282 : Int32) (M280 : mI) (N281 : mJ), mrc D 147 [.ref 0, .int (xs i278), .int (xs i279)] MI ML (some (.int x282)) M280 N281 ∧ (∃ i283 : Nat, (v3 + (nI 1)) = nI i283 ∧ i283 < L ∧ (∃ i284 : Nat, (v3 + (nI 2)) = nI i284 ∧ i284 < L ∧ (∃ (x287 : Int32) (M285 : mI) (N286 : mJ), mrc D 225 [.ref 46, .int (xs i283), .int (xs i284)] M280 N281 (some (.int x287)) M285 N286 ∧ ((x282 = x287 → VL_law_18 D Q L xs (v3 + (nI 6)) M285 N286) ∧ (¬ x282 = x287 → Q (some (.int (nI 0))) M285 N286)))))))) ∧ (¬ ((xs i1) &&& (nI 63)) = (nI 11) → (((xs i1) &&& (nI 63)) = (nI 12) → ∃ i268 : Nat, (v3 + (nI 1)) = nI i268 ∧ i268 < L ∧ (∃ i269 : Nat, (v3 + (nI 2)) = nI i269 ∧ i269 < L ∧ (∃ (x272 : Int32) (M270 : mI) (N271 : mJ), mrc D 148 [.ref 0, .int (xs i268), .int (xs i269)] MI ML (some (.int x272)) M270 N271 ∧ (∃ i273 : Nat, (v3 + (nI 1)) = nI i273 ∧ i273 < L ∧ (∃ i274 : Nat, (v3 + (nI 2)) = nI i274 ∧ i274 < L ∧ (∃ (x277 : Int32) (M275 : mI) (N276 : mJ), mrc D 226 [.ref 46, .int (xs i273), .int (xs i274)] M270 N271 (some (.int x277)) M275 N276 ∧ ((x272 = x277 → VL_law_18 D Q L xs (v3 + (nI 6)) M275 N276) ∧ (¬ x272 = x277 → Q (some (.int (nI 0))) M275 N276)))))))) ∧ (¬ ((xs i1) &&& (nI 63)) = (nI 12) → (((xs i1) &&& (nI 63)) = (nI 13) → ∃ i260 : Nat, (v3 + (nI 1)) = nI i260 ∧ i260 < L ∧ (∃ (x263 : Int32) (M261 : mI) (N262 : mJ), mrc D 149 [.ref 0, .int (xs i260)] MI ML (some (.int x263)) M261 N262 ∧ (∃ i264 : Nat, (v3 + (nI 1)) = nI i264 ∧ i264 < L ∧ (∃ (x267 : Int32) (M265 : mI) (N266 : mJ), mrc D 228 [.ref 46, .int (xs i264)] M261 N262 (some (.int x267)) M265 N266 ∧ ((x263 = x267 → VL_law_18 D Q L xs (v3 + (nI 6)) M265 N266) ∧ (¬ x263 = x267 → Q (some (.int (nI 0))) M265 N266)))))) ∧ (¬ ((xs i1) &&& (nI 63)) = (nI 13) → (((xs i1) &&& (nI 63)) = (nI 14) → ∃ i250 : Nat, (v3 + (nI 1)) = nI i250 ∧ i250 < L ∧ (∃ i251 : Nat, (v3 + (nI 2)) = nI i251 ∧ i251 < L ∧ (∃ (x254 : Int32) (M252 : mI) (N253 : mJ), mrc D 150 [.ref 0, .int (xs i250), .int (xs i251)] MI ML (some (.int x254)) M252 N253 ∧ (∃ i255 : Nat, (v3 + (nI 1)) = nI i255 ∧ i255 < L ∧ (∃ i256 : Nat, (v3 + (nI 2)) = nI i256 ∧ i256 < L ∧ (∃ (x259 : Int32) (M257 : mI) (N258 : mJ), mrc D 229 [.ref 46, .int (xs i255), .int (xs i256)] M252 N253 (some (.int x259)) M257 N258 ∧ ((x254 = x259 → VL_law_18 D Q L xs (v3 + (nI 6)) M257 N258) ∧ (¬ x254 = x259 → Q (some (.int (nI 0))) M257 N258)))))))) ∧ (¬ ((xs i1) &&& (nI 63)) = (nI 14) → (((xs i1) &&& (nI 63)) = (nI 15) → ∃ i238 : Nat, (v3 + (nI 1)) = nI i238 ∧ i238 < L ∧ (∃ i239 : Nat, (v3 + (nI 2)) = nI i239 ∧ i239 < L ∧ (∃ i240 : Nat, (v3 + (nI 3)) = nI i240 ∧ i240 < L ∧ (∃ (x243 : Int32) (M241 : mI) (N242 : mJ), mrc D 151 [.ref 0, .int (xs i238), .int (xs i239), .int (xs i240)] MI ML (some (.int x243)) M241 N242 ∧ (∃ i244 : Nat, (v3 + (nI 1)) = nI i244 ∧ i244 < L ∧ (∃ i245 : Nat, (v3 + (nI 2)) = nI i245 ∧ i245 < L ∧ (∃ i246 : Nat, (v3 + (nI 3)) = nI i246 ∧ i246 < L ∧ (∃ (x249 : Int32) (M247 : mI) (N248 : mJ), mrc D 230 [.ref 46, .int (xs i244), .int (xs i245), .int (xs i246)] M241 N242 (some (.int x249)) M247 N248 ∧ ((x243 = x249 → VL_law_18 D Q L xs (v3 + (nI 6)) M247 N248) ∧ (¬ x243 = x249 → Q (some (.int (nI 0))) M247 N248)))))))))) ∧ (¬ ((xs i1) &&& (nI 63)) = (nI 15) → (((xs i1) &&& (nI 63)) = (nI 16) → ∃ (x234 : Int32) (M232 : mI) (N233 : mJ), mrc D 152 [.ref 0] MI ML (some (.int x234)) M232 N233 ∧ (∃ (x237 : Int32) (M235 : mI) (N236 : mJ), mrc D 231 [.ref 46] M232 N233 (some (.int x237)) M235 N236 ∧ ((x234 = x237 → VL_law_18 D Q L xs (v3 + (nI 6)) M235 N236) ∧ (¬ x234 = x237 → Q (some (.int (nI 0))) M235 N236)))) ∧ (¬ ((xs i1) &&& (nI 63)) = (nI 16) → (((xs i1) &&& (nI 63)) = (nI 17) → ∃ i222 : Nat, (v3 + (nI 1)) = nI i222 ∧ i222 < L ∧ (∃ i223 : Nat, (v3 + (nI 2)) = nI i223 ∧ i223 < L ∧ (∃ (x226 : Int32) (M224 : mI) (N225 : mJ), mrc D 154 [.ref 0, .int (xs i222), .int (xs i223)] MI ML (some (.int x226)) M224 N225 ∧ (∃ i227 : Nat, (v3 + (nI 1)) = nI i227 ∧ i227 < L ∧ (∃ i228 : Nat, (v3 + (nI 2)) = nI i228 ∧ i228 < L ∧ (∃ (x231 : Int32) (M229 : mI) (N230 : mJ), mrc D 234 [.ref 46, .int (xs i227), .int (xs i228)] M224 N225 (some (.int x231)) M229 N230 ∧ ((x226 = x231 → VL_law_18 D Q L xs (v3 + (nI 6)) M229 N230) ∧ (¬ x226 = x231 → Q (some (.int (nI 0))) M229 N230)))))))) ∧ (¬ ((xs i1) &&& (nI 63)) = (nI 17) → (((xs i1) &&& (nI 63)) = (nI 18) → ∃ i210 : Nat, (v3 + (nI 1)) = nI i210 ∧ i210 < L ∧ (∃ i211 : Nat, (v3 + (nI 2)) = nI i211 ∧ i211 < L ∧ (∃ i212 : Nat, (v3 + (nI 3)) = nI i212 ∧ i212 < L ∧ (∃ (x215 : Int32) (M213 : mI) (N214 : mJ), mrc D 155 [.ref 0, .int (xs i210), .int (xs i211), .int (xs i212)] MI ML (some (.int x215)) M213 N214 ∧ (∃ i216 : Nat, (v3 + (nI 1)) = nI i216 ∧ i216 < L ∧ (∃ i217 : Nat, (v3 + (nI 2)) = nI i217 ∧ i217 < L ∧ (∃ i218 : Nat, (v3 + (nI 3)) = nI i218 ∧ i218 < L ∧ (∃ (x221 : Int32) (M219 : mI) (N220 : mJ), mrc D 235 [.ref 46, .int (xs i216), .int (xs i217), .int (xs i218)] M213 N214 (some (.int x221)) M219 N220 ∧ ((x215 = x221 → VL_law_18 D Q L xs (v3 + (nI 6)) M219 N220) ∧ (¬ x215 = x221 → Q (some (.int (nI 0))) M219 N220)))))))))) ∧ (¬ ((xs i1) &&& (nI 63)) = (nI 18) → (((xs i1) &&& (nI 63)) = (nI 19) → ∃ i198 : Nat, (v3 + (nI 1)) = nI i198 ∧ i198 < L ∧ (∃ i199 : Nat, (v3 + (nI 2)) = nI i199 ∧ i199 < L ∧ (∃ i200 : Nat, (v3 + (nI 3)) = nI i200 ∧ i200 < L ∧ (∃ (x203 : Int32) (M201 : mI) (N202 : mJ), mrc D 156 [.ref 0, .int (xs i198), .int (xs i199), .int (xs i200)] MI ML (some (.int x203)) M201 N202 ∧ (∃ i204 : Nat, (v3 + (nI 1)) = nI i204 ∧ i204 < L ∧ (∃ i205 : Nat, (v3 + (nI 2)) = nI i205 ∧ i205 < L ∧ (∃ i206 : Nat, (v3 + (nI 3)) = nI i206 ∧ i206 < L ∧ (∃ (x209 : Int32) (M207 : mI) (N208 : mJ), mrc D 237 [.ref 46, .int (xs i204), .int (xs i205), .int (xs i206)] M201 N202 (some (.int x209)) M207 N208 ∧ ((x203 = x209 → VL_law_18 D Q L xs (v3 + (nI 6)) M207 N208) ∧ (¬ x203 = x209 → Q (some (.int (nI 0))) M207 N208)))))))))) ∧ (¬ ((xs i1) &&& (nI 63)) = (nI 19) → (((xs i1) &&& (nI 63)) = (nI 20) → ∃ i186 : Nat, (v3 + (nI 1)) = nI i186 ∧ i186 < L ∧ (∃ i187 : Nat, (v3 + (nI 2)) = nI i187 ∧ i187 < L ∧ (∃ i188 : Nat, (v3 + (nI 3)) = nI i188 ∧ i188 < L ∧ (∃ (x191 : Int32) (M189 : mI) (N190 : mJ), mrc D 157 [.ref 0, .int (xs i186), .int (xs i187), .int (xs i188)] MI ML (some (.int x191)) M189 N190 ∧ (∃ i192 : Nat, (v3 + (nI 1)) = nI i192 ∧ i192 < L ∧ (∃ i193 : Nat, (v3 + (nI 2)) = nI i193 ∧ i193 < L ∧ (∃ i194 : Nat, (v3 + (nI 3)) = nI i194 ∧ i194 < L ∧ (∃ (x197 : Int32) (M195 : mI) (N196 : mJ), mrc D 238 [.ref 46, .int (xs i192), .int (xs i193), .int (xs i194)] M189 N190 (some (.int x197)) M195 N196 ∧ ((x191 = x197 → VL_law_18 D Q L xs (v3 + (nI 6)) M195 N196) ∧ (¬ x191 = x197 → Q (some (.int (nI 0))) M195 N196)))))))))) ∧ (¬ ((xs i1) &&& (nI 63)) = (nI 20) → (((xs i1) &&& (nI 63)) = (nI 21) → ∃ (x182 : Int32) (M180 : mI) (N181 : mJ), mrc D 158 [.ref 0] MI ML (some (.int x182)) M180 N181 ∧ (∃ (x185 : Int32) (M183 : mI) (N184 : mJ), mrc D 241 [.ref 46] M180 N181 (some (.int x185)) M183 N184 ∧ ((x182 = x185 → VL_law_18 D Q L xs (v3 + (nI 6)) M183 N184) ∧ (¬ x182 = x185 → Q (some (.int (nI 0))) M183 N184)))) ∧ (¬ ((xs i1) &&& (nI 63)) = (nI 21) → (((xs i1) &&& (nI 63)) = (nI 22) → ∃ i170 : Nat, (v3 + (nI 1)) = nI i170 ∧ i170 < L ∧ (∃ i171 : Nat, (v3 + (nI 2)) = nI i171 ∧ i171 < L ∧ (∃ (x174 : Int32) (M172 : mI) (N173 : mJ), mrc D 159 [.ref 0, .int (xs i170), .int (xs i171)] MI ML (some (.int x174)) M172 N173 ∧ (∃ i175 : Nat, (v3 + (nI 1)) = nI i175 ∧ i175 < L ∧ (∃ i176 : Nat, (v3 + (nI 2)) = nI i176 ∧ i176 < L ∧ (∃ (x179 : Int32) (M177 : mI) (N178 : mJ), mrc D 242 [.ref 46, .int (xs i175), .int (xs i176)] M172 N173 (some (.int x179)) M177 N178 ∧ ((x174 = x179 → VL_law_18 D Q L xs (v3 + (nI 6)) M177 N178) ∧ (¬ x174 = x179 → Q (some (.int (nI 0))) M177 N178)))))))) ∧ (¬ ((xs i1) &&& (nI 63)) = (nI 22) → (((xs i1) &&& (nI 63)) = (nI 23) → ∃ i160 : Nat, (v3 + (nI 1)) = nI i160 ∧ i160 < L ∧ (∃ i161 : Nat, (v3 + (nI 2)) = nI i161 ∧ i161 < L ∧ (∃ (x164 : Int32) (M162 : mI) (N163 : mJ), mrc D 160 [.ref 0, .int (xs i160), .int (xs i161)] MI ML (some (.int x164)) M162 N163 ∧ (∃ i165 : Nat, (v3 + (nI 1)) = nI i165 ∧ i165 < L ∧ (∃ i166 : Nat, (v3 + (nI 2)) = nI i166 ∧ i166 < L ∧ (∃ (x169 : Int32) (M167 : mI) (N168 : mJ), mrc D 243 [.ref 46, .int (xs i165), .int (xs i166)] M162 N163 (some (.int x169)) M167 N168 ∧ ((x164 = x169 → VL_law_18 D Q L xs (v3 + (nI 6)) M167 N168) ∧ (¬ x164 = x169 → Q (some (.int (nI 0))) M167 N168)))))))) ∧ (¬ ((xs i1) &&& (nI 63)) = (nI 23) → (((xs i1) &&& (nI 63)) = (nI 24) → ∃ i150 : Nat, (v3 + (nI 1)) = nI i150 ∧ i150 < L ∧ (∃ i151 : Nat, (v3 + (nI 2)) = nI i151 ∧ i151 < L ∧ (∃ (x154 : Int32) (M152 : mI) (N153 : mJ), mrc D 161 [.ref 0, .int (xs i150), .int (xs i151)] MI ML (some (.int x154)) M152 N153 ∧ (∃ i155 : Nat, (v3 + (nI 1)) = nI i155 ∧ i155 < L ∧ (∃ i156 : Nat, (v3 + (nI 2)) = nI i156 ∧ i156 < L ∧ (∃ (x159 : Int32) (M157 : mI) (N158 : mJ), mrc D 244 [.ref 46, .int (xs i155), .int (xs i156)] M152 N153 (some (.int x159)) M157 N158 ∧ ((x154 = x159 → VL_law_18 D Q L xs (v3 + (nI 6)) M157 N158) ∧ (¬ x154 = x159 → Q (some (.int (nI 0))) M157 N158)))))))) ∧ (¬ ((xs i1) &&& (nI 63)) = (nI 24) → (((xs i1) &&& (nI 63)) = (nI 25) → ∃ i142 : Nat, (v3 + (nI 1)) = nI i142 ∧ i142 < L ∧ (∃ (x145 : Int32) (M143 : mI) (N144 : mJ), mrc D 162 [.ref 0, .int (xs i142)] MI ML (some (.int x145)) M143 N144 ∧ (∃ i146 : Nat, (v3 + (nI 1)) = nI i146 ∧ i146 < L ∧ (∃ (x149 : Int32) (M147 : mI) (N148 : mJ), mrc D 245 [.ref 46, .int (xs i146)] M143 N144 (some (.int x149)) M147 N148 ∧ ((x145 = x149 → VL_law_18 D Q L xs (v3 + (nI 6)) M147 N148) ∧ (¬ x145 = x149 → Q (some (.int (nI 0))) M147 N148)))))) ∧ (¬ ((xs i1) &&& (nI 63)) = (nI 25) → (((xs i1) &&& (nI 63)) = (nI 26) → ∃ i134 : Nat, (v3 + (nI 1)) = nI i134 ∧ i134 < L ∧ (∃ (x137 : Int32) (M135 : mI) (N136 : mJ), mrc D 163 [.ref 0, .int (xs i134)] MI ML (some (.int x137)) M135 N136 ∧ (∃ i138 : Nat, (v3 + (nI 1)) = nI i138 ∧ i138 < L ∧ (∃ (x141 : Int32) (M139 : mI) (N140 : mJ), mrc D 246 [.ref 46, .int (xs i138)] M135 N136 (some (.int x141)) M139 N140 ∧ ((x137 = x141 → VL_law_18 D Q L xs (v3 + (nI 6)) M139 N140) ∧ (¬ x137 = x141 → Q (some (.int (nI 0))) M139 N140)))))) ∧ (¬ ((xs i1) &&& (nI 63)) = (nI 26) → (((xs i1) &&& (nI 63)) = (nI 27) → ∃ (x130 : Int32) (M128 : mI) (N129 : mJ), mrc D 164 [.ref 0] MI ML (some (.int x130)) M128 N129 ∧ (∃ (x133 : Int32) (M131 : mI) (N132 : mJ), mrc D 247 [.ref 46] M128 N129 (some (.int x133)) M131 N132 ∧ ((x130 = x133 → VL_law_18 D Q L xs (v3 + (nI 6)) M131 N132) ∧ (¬ x130 = x133 → Q (some (.int (nI 0))) M131 N132)))) ∧ (¬ ((xs i1) &&& (nI 63)) = (nI 27) → (((xs i1) &&& (nI 63)) = (nI 28) → ∃ (x124 : Int32) (M122 : mI) (N123 : mJ), mrc D 165 [.ref 0] MI ML (some (.int x124)) M122 N123 ∧ (∃ (x127 : Int32) (M125 : mI) (N126 : mJ), mrc D 248 [.ref 46] M122 N123 (some (.int x127)) M125 N126 ∧ ((x124 = x127 → VL_law_18 D Q L xs (v3 + (nI 6)) M125 N126) ∧ (¬ x124 = x127 → Q (some (.int (nI 0))) M125 N126)))) ∧ (¬ ((xs i1) &&& (nI 63)) = (nI 28) → (((xs i1) &&& (nI 63)) = (nI 29) → ∃ (x118 : Int32) (M116 : mI) (N117 : mJ), mrc D 166 [.ref 0] MI ML (some (.int x118)) M116 N117 ∧ (∃ (x121 : Int32) (M119 : mI) (N120 : mJ), mrc D 181 [.ref 46] M116 N117 (some (.int x121)) M119 N120 ∧ ((x118 = x121 → VL_law_18 D Q L xs (v3 + (nI 6)) M119 N120) ∧ (¬ x118 = x121 → Q (some (.int (nI 0))) M119 N120)))) ∧ (¬ ((xs i1) &&& (nI 63)) = (nI 29) → (((xs i1) &&& (nI 63)) = (nI 30) → ∃ (x112 : Int32) (M110 : mI) (N111 : mJ), mrc D 167 [.ref 0] MI ML (some (.int x112)) M110 N111 ∧ (∃ (x115 : Int32) (M113 : mI) (N114 : mJ), mrc D 182 [.ref 46] M110 N111 (some (.int x115)) M113 N114 ∧ ((x112 = x115 → VL_law_18 D Q L xs (v3 + (nI 6)) M113 N114) ∧ (¬ x112 = x115 → Q (some (.int (nI 0))) M113 N114)))) ∧ (¬ ((xs i1) &&& (nI 63)) = (nI 30) → (((xs i1) &&& (nI 63)) = (nI 31) → ∃ i102 : Nat, (v3 + (nI 1)) = nI i102 ∧ i102 < L ∧ (∃ (x105 : Int32) (M103 : mI) (N104 : mJ), mrc D 168 [.ref 0, .int (xs i102)] MI ML (some (.int x105)) M103 N104 ∧ (∃ i106 : Nat, (v3 + (nI 1)) = nI i106 ∧ i106 < L ∧ (∃ (x109 : Int32) (M107 : mI) (N108 : mJ), mrc D 251 [.ref 46, .int (xs i106)] M103 N104 (some (.int x109)) M107 N108 ∧ ((x105 = x109 → VL_law_18 D Q L xs (v3 + (nI 6)) M107 N108) ∧ (¬ x105 = x109 → Q (some (.int (nI 0))) M107 N108)))))) ∧ (¬ ((xs i1) &&& (nI 63)) = (nI 31) → (((xs i1) &&& (nI 63)) = (nI 32) → ∃ i90 : Nat, (v3 + (nI 1)) = nI i90 ∧ i90 < L ∧ (∃ i91 : Nat, (v3 + (nI 2)) = nI i91 ∧ i91 < L ∧ (∃ i92 : Nat, (v3 + (nI 3)) = nI i92 ∧ i92 < L ∧ (∃ (x95 : Int32) (M93 : mI) (N94 : mJ), mrc D 169 [.ref 0, .int (xs i90), .int (xs i91), .int (xs i92)] MI ML (some (.int x95)) M93 N94 ∧ (∃ i96 : Nat, (v3 + (nI 1)) = nI i96 ∧ i96 < L ∧ (∃ i97 : Nat, (v3 + (nI 2)) = nI i97 ∧ i97 < L ∧ (∃ i98 : Nat, (v3 + (nI 3)) = nI i98 ∧ i98 < L ∧ (∃ (x101 : Int32) (M99 : mI) (N100 : mJ), mrc D 258 [.ref 46, .int (xs i96), .int (xs i97), .int (xs i98)] M93 N94 (some (.int x101)) M99 N100 ∧ ((x95 = x101 → VL_law_18 D Q L xs (v3 + (nI 6)) M99 N100) ∧ (¬ x95 = x101 → Q (some (.int (nI 0))) M99 N100)))))))))) ∧ (¬ ((xs i1) &&& (nI 63)) = (nI 32) → (((xs i1) &&& (nI 63)) = (nI 33) → ∃ i82 : Nat, (v3 + (nI 1)) = nI i82 ∧ i82 < L ∧ (∃ (x85 : Int32) (M83 : mI) (N84 : mJ), mrc D 170 [.ref 0, .int (xs i82)] MI ML (some (.int x85)) M83 N84 ∧ (∃ i86 : Nat, (v3 + (nI 1)) = nI i86 ∧ i86 < L ∧ (∃ (x89 : Int32) (M87 : mI) (N88 : mJ), mrc D 259 [.ref 46, .int (xs i86)] M83 N84 (some (.int x89)) M87 N88 ∧ ((x85 = x89 → VL_law_18 D Q L xs (v3 + (nI 6)) M87 N88) ∧ (¬ x85 = x89 → Q (some (.int (nI 0))) M87 N88)))))) ∧ (¬ ((xs i1) &&& (nI 63)) = (nI 33) → (((xs i1) &&& (nI 63)) = (nI 34) → ∃ i72 : Nat, (v3 + (nI 1)) = nI i72 ∧ i72 < L ∧ (∃ i73 : Nat, (v3 + (nI 2)) = nI i73 ∧ i73 < L ∧ (∃ (x76 : Int32) (M74 : mI) (N75 : mJ), mrc D 171 [.ref 0, .int (xs i72), .int (xs i73)] MI ML (some (.int x76)) M74 N75 ∧ (∃ i77 : Nat, (v3 + (nI 1)) = nI i77 ∧ i77 < L ∧ (∃ i78 : Nat, (v3 + (nI 2)) = nI i78 ∧ i78 < L ∧ (∃ (x81 : Int32) (M79 : mI) (N80 : mJ), mrc D 261 [.ref 46, .int (xs i77), .int (xs i78)] M74 N75 (some (.int x81)) M79 N80 ∧ ((x76 = x81 → VL_law_18 D Q L xs (v3 + (nI 6)) M79 N80) ∧ (¬ x76 = x81 → Q (some (.int (nI 0))) M79 N80)))))))) ∧ (¬ ((xs i1) &&& (nI 63)) = (nI 34) → (((xs i1) &&& (nI 63)) = (nI 35) → ∃ i60 : Nat, (v3 + (nI 1)) = nI i60 ∧ i60 < L ∧ (∃ i61 : Nat, (v3 + (nI 2)) = nI i61 ∧ i61 < L ∧ (∃ i62 : Nat, (v3 + (nI 3)) = nI i62 ∧ i62 < L ∧ (∃ (x65 : Int32) (M63 : mI) (N64 : mJ), mrc D 172 [.ref 0, .int (xs i60), .int (xs i61), .int (xs i62)] MI ML (some (.int x65)) M63 N64 ∧ (∃ i66 : Nat, (v3 + (nI 1)) = nI i66 ∧ i66 < L ∧ (∃ i67 : Nat, (v3 + (nI 2)) = nI i67 ∧ i67 < L ∧ (∃ i68 : Nat, (v3 + (nI 3)) = nI i68 ∧ i68 < L ∧ (∃ (x71 : Int32) (M69 : mI) (N70 : mJ), mrc D 262 [.ref 46, .int (xs i66), .int (xs i67), .int (xs i68)] M63 N64 (some (.int x71)) M69 N70 ∧ ((x65 = x71 → VL_law_18 D Q L xs (v3 + (nI 6)) M69 N70) ∧ (¬ x65 = x71 → Q (some (.int (nI 0))) M69 N70)))))))))) ∧ (¬ ((xs i1) &&& (nI 63)) = (nI 35) → (((xs i1) &&& (nI 63)) = (nI 36) → ∃ i46 : Nat, (v3 + (nI 1)) = nI i46 ∧ i46 < L ∧ (∃ i47 : Nat, (v3 + (nI 2)) = nI i47 ∧ i47 < L ∧ (∃ i48 : Nat, (v3 + (nI 3)) = nI i48 ∧ i48 < L ∧ (∃ i49 : Nat, (v3 + (nI 4)) = nI i49 ∧ i49 < L ∧ (∃ (x52 : Int32) (M50 : mI) (N51 : mJ), mrc D 173 [.ref 0, .int (xs i46), .int (xs i47), .long ((((xs i48)).toInt64 <<< (((nI 32)).toInt64 &&& 63)) ||| (((xs i49)).toInt64 &&& (4294967295 : Int64)))] MI ML (some (.int x52)) M50 N51 ∧ (∃ i53 : Nat, (v3 + (nI 1)) = nI i53 ∧ i53 < L ∧ (∃ i54 : Nat, (v3 + (nI 2)) = nI i54 ∧ i54 < L ∧ (∃ i55 : Nat, (v3 + (nI 3)) = nI i55 ∧ i55 < L ∧ (∃ i56 : Nat, (v3 + (nI 4)) = nI i56 ∧ i56 < L ∧ (∃ (x59 : Int32) (M57 : mI) (N58 : mJ), mrc D 265 [.ref 46, .int (xs i53), .int (xs i54), .long ((((xs i55)).toInt64 <<< (((nI 32)).toInt64 &&& 63)) ||| (((xs i56)).toInt64 &&& (4294967295 : Int64)))] M50 N51 (some (.int x59)) M57 N58 ∧ ((x52 = x59 → VL_law_18 D Q L xs (v3 + (nI 6)) M57 N58) ∧ (¬ x52 = x59 → Q (some (.int (nI 0))) M57 N58)))))))))))) ∧ (¬ ((xs i1) &&& (nI 63)) = (nI 36) → (((xs i1) &&& (nI 63)) = (nI 37) → ∃ i36 : Nat, (v3 + (nI 1)) = nI i36 ∧ i36 < L ∧ (∃ i37 : Nat, (v3 + (nI 2)) = nI i37 ∧ i37 < L ∧ (∃ (x40 : Int64) (M38 : mI) (N39 : mJ), mrc D 174 [.ref 0, .int (xs i36), .int (xs i37)] MI ML (some (.long x40)) M38 N39 ∧ (∃ i41 : Nat, (v3 + (nI 1)) = nI i41 ∧ i41 < L ∧ (∃ i42 : Nat, (v3 + (nI 2)) = nI i42 ∧ i42 < L ∧ (∃ (x45 : Int64) (M43 : mI) (N44 : mJ), mrc D 266 [.ref 46, .int (xs i41), .int (xs i42)] M38 N39 (some (.long x45)) M43 N44 ∧ (((lg_cmp x40 x45) = nI 0 → VL_law_18 D Q L xs (v3 + (nI 6)) M43 N44) ∧ (¬ (lg_cmp x40 x45) = nI 0 → Q (some (.int (nI 0))) M43 N44)))))))) ∧ (¬ ((xs i1) &&& (nI 63)) = (nI 37) → (((xs i1) &&& (nI 63)) = (nI 38) → ∃ i20 : Nat, (v3 + (nI 1)) = nI i20 ∧ i20 < L ∧ (∃ i21 : Nat, (v3 + (nI 2)) = nI i21 ∧ i21 < L ∧ (∃ i22 : Nat, (v3 + (nI 3)) = nI i22 ∧ i22 < L ∧ (∃ i23 : Nat, (v3 + (nI 4)) = nI i23 ∧ i23 < L ∧ (∃ i24 : Nat, (v3 + (nI 5)) = nI i24 ∧ i24 < L ∧ (∃ (x27 : Int32) (M25 : mI) (N26 : mJ), mrc D 175 [.ref 0, .int (xs i20), .int (xs i21), .int (xs i22), .int (xs i23), .int (xs i24)] MI ML (some (.int x27)) M25 N26 ∧ (∃ i28 : Nat, (v3 + (nI 1)) = nI i28 ∧ i28 < L ∧ (∃ i29 : Nat, (v3 + (nI 2)) = nI i29 ∧ i29 < L ∧ (∃ i30 : Nat, (v3 + (nI 3)) = nI i30 ∧ i30 < L ∧ (∃ i31 : Nat, (v3 + (nI 4)) = nI i31 ∧ i31 < L ∧ (∃ i32 : Nat, (v3 + (nI 5)) = nI i32 ∧ i32 < L ∧ (∃ (x35 : Int32) (M33 : mI) (N34 : mJ), mrc D 267 [.ref 46, .int (xs i28), .int (xs i29), .int (xs i30), .int (xs i31), .int (xs i32)] M25 N26 (some (.int x35)) M33 N34 ∧ ((x27 = x35 → VL_law_18 D Q L xs (v3 + (nI 6)) M33 N34) ∧ (¬ x27 = x35 → Q (some (.int (nI 0))) M33 N34)))))))))))))) ∧ (¬ ((xs i1) &&& (nI 63)) = (nI 38) → (((xs i1) &&& (nI 63)) = (nI 39) → ∃ i10 : Nat, (v3 + (nI 1)) = nI i10 ∧ i10 < L ∧ (∃ i11 : Nat, (v3 + (nI 2)) = nI i11 ∧ i11 < L ∧ (∃ (x14 : Int32) (M12 : mI) (N13 : mJ), mrc D 176 [.ref 0, .int (xs i10), .int (xs i11)] MI ML (some (.int x14)) M12 N13 ∧ (∃ i15 : Nat, (v3 + (nI 1)) = nI i15 ∧ i15 < L ∧ (∃ i16 : Nat, (v3 + (nI 2)) = nI i16 ∧ i16 < L ∧ (∃ (x19 : Int32) (M17 : mI) (N18 : mJ), mrc D 268 [.ref 46, .int (xs i15), .int (xs i16)] M12 N13 (some (.int x19)) M17 N18 ∧ ((x14 = x19 → VL_law_18 D Q L xs (v3 + (nI 6)) M17 N18) ∧ (¬ x14 = x19 → Q (some (.int (nI 0))) M17 N18)))))))) ∧ (¬ ((xs i1) &&& (nI 63)) = (nI 39) → (((xs i1) &&& (nI 63)) = (nI 40) → ∃ i2 : Nat, (v3 + (nI 1)) = nI i2 ∧ i2 < L ∧ (∃ (x5 : Int32) (M3 : mI) (N4 : mJ), mrc D 177 [.ref 0, .int (xs i2)] MI ML (some (.int x5)) M3 N4 ∧ (∃ i6 : Nat, (v3 + (nI 1)) = nI i6 ∧ i6 < L ∧ (∃ (x9 : Int32) (M7 : mI) (N8 : mJ), mrc D 269 [.ref 46, .int (xs i6)] M3 N4 (some (.int x9)) M7 N8 ∧ ((x5 = x9 → VL_law_18 D Q L xs (v3 + (nI 6)) M7 N8) ∧ (¬ x5 = x9 → Q (some (.int (nI 0))) M7 N8)))))) ∧ (¬ ((xs i1) &&& (nI 63)) = (nI 40) → VL_law_18 D Q L xs (v3 + (nI 6)) MI ML)))))))))))))))))))))))))))))))))))))))))))) :
    VL_law_18 D Q L xs v3 MI ML := by
  show mEx D (TL_law L xs) (mqS Q) (18, [some (.float 0), some (.ref 0), some (.ref 46), some (.int v3)], [], (W0, Sh0, MI, ML))
  refine x_st rfl ?_
  refine x_st rfl ?_
  refine x_st rfl ?_
  refine x_st rfl ?_
  refine x_st rfl ?_
  refine x_br rfl (fun c => ?_) (fun c => ?_)
  · replace h := h.1 c
    refine x_st rfl ?_
    refine x_ret rfl ?_
    exact ⟨_, _, rfl, h⟩
  · replace h := h.2 c
    refine x_st rfl ?_
    refine x_st rfl ?_
    obtain ⟨i1, hx, hi, h⟩ := h
    refine x_tl (j := 0) (N := L) (f := xs) (nx := 30) (i := i1) rfl hx hi hL ?_
    refine x_st rfl ?_
    refine x_st rfl ?_
    refine x_sw rfl ?_
    refine ⟨fun c => ?_, fun c => ?_⟩
    · replace h := h.1 c
      refine x_st rfl ?_
      refine x_st rfl ?_
      refine x_st rfl ?_
      refine x_st rfl ?_
      refine x_st rfl ?_
      obtain ⟨i380, hx, hi, h⟩ := h
      refine x_tl (j := 0) (N := L) (f := xs) (nx := 218) (i := i380) rfl hx hi hL ?_
      refine x_st rfl ?_
      refine x_st rfl ?_
      refine x_st rfl ?_
      refine x_st rfl ?_
      obtain ⟨i381, hx, hi, h⟩ := h
      refine x_tl (j := 0) (N := L) (f := xs) (nx := 223) (i := i381) rfl hx hi hL ?_
      obtain ⟨x384, M382, N383, hc, h⟩ := h
      refine x_vi (y := 135) (n := 2) (ci := 10) (nx := 226) rfl (fun _ => rfl) sh_0 rfl hc ?_
      refine x_st rfl ?_
      refine x_st rfl ?_
      refine x_st rfl ?_
      refine x_st rfl ?_
      refine x_st rfl ?_
      obtain ⟨i385, hx, hi, h⟩ := h
      refine x_tl (j := 0) (N := L) (f := xs) (nx := 232) (i := i385) rfl hx hi hL ?_
      refine x_st rfl ?_
      refine x_st rfl ?_
      refine x_st rfl ?_
      refine x_st rfl ?_
      obtain ⟨i386, hx, hi, h⟩ := h
      refine x_tl (j := 0) (N := L) (f := xs) (nx := 237) (i := i386) rfl hx hi hL ?_
      obtain ⟨x389, M387, N388, hc, h⟩ := h
      refine x_vi (y := 187) (n := 2) (ci := 11) (nx := 240) rfl (fun _ => rfl) sh_46 rfl hc ?_
      refine x_br rfl (fun c => ?_) (fun c => ?_)
      · replace h := h.1 c
        refine x_st rfl ?_
        refine x_st rfl ?_
        refine x_kl ?_ h
        exact ⟨Or.inr rfl, ⟨Or.inr rfl, ⟨Or.inr rfl, ⟨Or.inr rfl, True.intro⟩⟩⟩⟩
      · replace h := h.2 c
        refine x_st rfl ?_
        refine x_ret rfl ?_
        exact ⟨_, _, rfl, h⟩
    · replace h := h.2 c
      refine ⟨fun c => ?_, fun c => ?_⟩
      · replace h := h.1 c
        refine x_st rfl ?_
        refine x_st rfl ?_
        refine x_st rfl ?_
        refine x_st rfl ?_
        refine x_st rfl ?_
        obtain ⟨i368, hx, hi, h⟩ := h
        refine x_tl (j := 0) (N := L) (f := xs) (nx := 251) (i := i368) rfl hx hi hL ?_
        refine x_st rfl ?_
        refine x_st rfl ?_
        refine x_st rfl ?_
        refine x_st rfl ?_
        obtain ⟨i369, hx, hi, h⟩ := h
        refine x_tl (j := 0) (N := L) (f := xs) (nx := 256) (i := i369) rfl hx hi hL ?_
        refine x_st rfl ?_
        refine x_st rfl ?_
        refine x_st rfl ?_
        refine x_st rfl ?_
        obtain ⟨i370, hx, hi, h⟩ := h
        refine x_tl (j := 0) (N := L) (f := xs) (nx := 261) (i := i370) rfl hx hi hL ?_
        obtain ⟨x373, M371, N372, hc, h⟩ := h
        refine x_vi (y := 136) (n := 3) (ci := 10) (nx := 264) rfl (fun _ => rfl) sh_0 rfl hc ?_
        refine x_st rfl ?_
        refine x_st rfl ?_
        refine x_st rfl ?_
        refine x_st rfl ?_
        refine x_st rfl ?_
        obtain ⟨i374, hx, hi, h⟩ := h
        refine x_tl (j := 0) (N := L) (f := xs) (nx := 270) (i := i374) rfl hx hi hL ?_
        refine x_st rfl ?_
        refine x_st rfl ?_
        refine x_st rfl ?_
        refine x_st rfl ?_
        obtain ⟨i375, hx, hi, h⟩ := h
        refine x_tl (j := 0) (N := L) (f := xs) (nx := 275) (i := i375) rfl hx hi hL ?_
        refine x_st rfl ?_
        refine x_st rfl ?_
        refine x_st rfl ?_
        refine x_st rfl ?_
        obtain ⟨i376, hx, hi, h⟩ := h
        refine x_tl (j := 0) (N := L) (f := xs) (nx := 280) (i := i376) rfl hx hi hL ?_
        obtain ⟨x379, M377, N378, hc, h⟩ := h
        refine x_vi (y := 188) (n := 3) (ci := 11) (nx := 283) rfl (fun _ => rfl) sh_46 rfl hc ?_
        refine x_br rfl (fun c => ?_) (fun c => ?_)
        · replace h := h.1 c
          refine x_st rfl ?_
          refine x_st rfl ?_
          refine x_kl ?_ h
          exact ⟨Or.inr rfl, ⟨Or.inr rfl, ⟨Or.inr rfl, ⟨Or.inr rfl, True.intro⟩⟩⟩⟩
        · replace h := h.2 c
          refine x_st rfl ?_
          refine x_ret rfl ?_
          exact ⟨_, _, rfl, h⟩
      · replace h := h.2 c
        refine ⟨fun c => ?_, fun c => ?_⟩
        · replace h := h.1 c
          refine x_st rfl ?_
          refine x_st rfl ?_
          refine x_st rfl ?_
          refine x_st rfl ?_
          refine x_st rfl ?_
          obtain ⟨i356, hx, hi, h⟩ := h
          refine x_tl (j := 0) (N := L) (f := xs) (nx := 294) (i := i356) rfl hx hi hL ?_
          refine x_st rfl ?_
          refine x_st rfl ?_
          refine x_st rfl ?_
          refine x_st rfl ?_
          obtain ⟨i357, hx, hi, h⟩ := h
          refine x_tl (j := 0) (N := L) (f := xs) (nx := 299) (i := i357) rfl hx hi hL ?_
          refine x_st rfl ?_
          refine x_st rfl ?_
          refine x_st rfl ?_
          refine x_st rfl ?_
          obtain ⟨i358, hx, hi, h⟩ := h
          refine x_tl (j := 0) (N := L) (f := xs) (nx := 304) (i := i358) rfl hx hi hL ?_
          obtain ⟨x361, M359, N360, hc, h⟩ := h
          refine x_vi (y := 137) (n := 3) (ci := 10) (nx := 307) rfl (fun _ => rfl) sh_0 rfl hc ?_
          refine x_st rfl ?_
          refine x_st rfl ?_
          refine x_st rfl ?_
          refine x_st rfl ?_
          refine x_st rfl ?_
          obtain ⟨i362, hx, hi, h⟩ := h
          refine x_tl (j := 0) (N := L) (f := xs) (nx := 313) (i := i362) rfl hx hi hL ?_
          refine x_st rfl ?_
          refine x_st rfl ?_
          refine x_st rfl ?_
          refine x_st rfl ?_
          obtain ⟨i363, hx, hi, h⟩ := h
          refine x_tl (j := 0) (N := L) (f := xs) (nx := 318) (i := i363) rfl hx hi hL ?_
          refine x_st rfl ?_
          refine x_st rfl ?_
          refine x_st rfl ?_
          refine x_st rfl ?_
          obtain ⟨i364, hx, hi, h⟩ := h
          refine x_tl (j := 0) (N := L) (f := xs) (nx := 323) (i := i364) rfl hx hi hL ?_
          obtain ⟨x367, M365, N366, hc, h⟩ := h
          refine x_vi (y := 191) (n := 3) (ci := 11) (nx := 326) rfl (fun _ => rfl) sh_46 rfl hc ?_
          refine x_br rfl (fun c => ?_) (fun c => ?_)
          · replace h := h.1 c
            refine x_st rfl ?_
            refine x_st rfl ?_
            refine x_kl ?_ h
            exact ⟨Or.inr rfl, ⟨Or.inr rfl, ⟨Or.inr rfl, ⟨Or.inr rfl, True.intro⟩⟩⟩⟩
          · replace h := h.2 c
            refine x_st rfl ?_
            refine x_ret rfl ?_
            exact ⟨_, _, rfl, h⟩
        · replace h := h.2 c
          refine ⟨fun c => ?_, fun c => ?_⟩
          · replace h := h.1 c
            refine x_st rfl ?_
            refine x_st rfl ?_
            refine x_st rfl ?_
            refine x_st rfl ?_
            refine x_st rfl ?_
            obtain ⟨i346, hx, hi, h⟩ := h
            refine x_tl (j := 0) (N := L) (f := xs) (nx := 337) (i := i346) rfl hx hi hL ?_
            refine x_st rfl ?_
            refine x_st rfl ?_
            refine x_st rfl ?_
            refine x_st rfl ?_
            obtain ⟨i347, hx, hi, h⟩ := h
            refine x_tl (j := 0) (N := L) (f := xs) (nx := 342) (i := i347) rfl hx hi hL ?_
            obtain ⟨x350, M348, N349, hc, h⟩ := h
            refine x_vi (y := 138) (n := 2) (ci := 10) (nx := 345) rfl (fun _ => rfl) sh_0 rfl hc ?_
            refine x_st rfl ?_
            refine x_st rfl ?_
            refine x_st rfl ?_
            refine x_st rfl ?_
            refine x_st rfl ?_
            obtain ⟨i351, hx, hi, h⟩ := h
            refine x_tl (j := 0) (N := L) (f := xs) (nx := 351) (i := i351) rfl hx hi hL ?_
            refine x_st rfl ?_
            refine x_st rfl ?_
            refine x_st rfl ?_
            refine x_st rfl ?_
            obtain ⟨i352, hx, hi, h⟩ := h
            refine x_tl (j := 0) (N := L) (f := xs) (nx := 356) (i := i352) rfl hx hi hL ?_
            obtain ⟨x355, M353, N354, hc, h⟩ := h
            refine x_vi (y := 192) (n := 2) (ci := 11) (nx := 359) rfl (fun _ => rfl) sh_46 rfl hc ?_
            refine x_br rfl (fun c => ?_) (fun c => ?_)
            · replace h := h.1 c
              refine x_st rfl ?_
              refine x_st rfl ?_
              refine x_kl ?_ h
              exact ⟨Or.inr rfl, ⟨Or.inr rfl, ⟨Or.inr rfl, ⟨Or.inr rfl, True.intro⟩⟩⟩⟩
            · replace h := h.2 c
              refine x_st rfl ?_
              refine x_ret rfl ?_
              exact ⟨_, _, rfl, h⟩
          · replace h := h.2 c
            refine ⟨fun c => ?_, fun c => ?_⟩
            · replace h := h.1 c
              refine x_st rfl ?_
              refine x_st rfl ?_
              refine x_st rfl ?_
              refine x_st rfl ?_
              refine x_st rfl ?_
              obtain ⟨i336, hx, hi, h⟩ := h
              refine x_tl (j := 0) (N := L) (f := xs) (nx := 370) (i := i336) rfl hx hi hL ?_
              refine x_st rfl ?_
              refine x_st rfl ?_
              refine x_st rfl ?_
              refine x_st rfl ?_
              obtain ⟨i337, hx, hi, h⟩ := h
              refine x_tl (j := 0) (N := L) (f := xs) (nx := 375) (i := i337) rfl hx hi hL ?_
              obtain ⟨x340, M338, N339, hc, h⟩ := h
              refine x_vi (y := 139) (n := 2) (ci := 10) (nx := 378) rfl (fun _ => rfl) sh_0 rfl hc ?_
              refine x_st rfl ?_
              refine x_st rfl ?_
              refine x_st rfl ?_
              refine x_st rfl ?_
              refine x_st rfl ?_
              obtain ⟨i341, hx, hi, h⟩ := h
              refine x_tl (j := 0) (N := L) (f := xs) (nx := 384) (i := i341) rfl hx hi hL ?_
              refine x_st rfl ?_
              refine x_st rfl ?_
              refine x_st rfl ?_
              refine x_st rfl ?_
              obtain ⟨i342, hx, hi, h⟩ := h
              refine x_tl (j := 0) (N := L) (f := xs) (nx := 389) (i := i342) rfl hx hi hL ?_
              obtain ⟨x345, M343, N344, hc, h⟩ := h
              refine x_vi (y := 193) (n := 2) (ci := 11) (nx := 392) rfl (fun _ => rfl) sh_46 rfl hc ?_
              refine x_br rfl (fun c => ?_) (fun c => ?_)
              · replace h := h.1 c
                refine x_st rfl ?_
                refine x_st rfl ?_
                refine x_kl ?_ h
                exact ⟨Or.inr rfl, ⟨Or.inr rfl, ⟨Or.inr rfl, ⟨Or.inr rfl, True.intro⟩⟩⟩⟩
              · replace h := h.2 c
                refine x_st rfl ?_
                refine x_ret rfl ?_
                exact ⟨_, _, rfl, h⟩
            · replace h := h.2 c
              refine ⟨fun c => ?_, fun c => ?_⟩
              · replace h := h.1 c
                refine x_st rfl ?_
                refine x_st rfl ?_
                refine x_st rfl ?_
                refine x_st rfl ?_
                refine x_st rfl ?_
                obtain ⟨i328, hx, hi, h⟩ := h
                refine x_tl (j := 0) (N := L) (f := xs) (nx := 403) (i := i328) rfl hx hi hL ?_
                obtain ⟨x331, M329, N330, hc, h⟩ := h
                refine x_vi (y := 140) (n := 1) (ci := 10) (nx := 406) rfl (fun _ => rfl) sh_0 rfl hc ?_
                refine x_st rfl ?_
                refine x_st rfl ?_
                refine x_st rfl ?_
                refine x_st rfl ?_
                refine x_st rfl ?_
                obtain ⟨i332, hx, hi, h⟩ := h
                refine x_tl (j := 0) (N := L) (f := xs) (nx := 412) (i := i332) rfl hx hi hL ?_
                obtain ⟨x335, M333, N334, hc, h⟩ := h
                refine x_vi (y := 194) (n := 1) (ci := 11) (nx := 415) rfl (fun _ => rfl) sh_46 rfl hc ?_
                refine x_br rfl (fun c => ?_) (fun c => ?_)
                · replace h := h.1 c
                  refine x_st rfl ?_
                  refine x_st rfl ?_
                  refine x_kl ?_ h
                  exact ⟨Or.inr rfl, ⟨Or.inr rfl, ⟨Or.inr rfl, ⟨Or.inr rfl, True.intro⟩⟩⟩⟩
                · replace h := h.2 c
                  refine x_st rfl ?_
                  refine x_ret rfl ?_
                  exact ⟨_, _, rfl, h⟩
              · replace h := h.2 c
                refine ⟨fun c => ?_, fun c => ?_⟩
                · replace h := h.1 c
                  refine x_st rfl ?_
                  refine x_st rfl ?_
                  refine x_st rfl ?_
                  refine x_st rfl ?_
                  refine x_st rfl ?_
                  obtain ⟨i320, hx, hi, h⟩ := h
                  refine x_tl (j := 0) (N := L) (f := xs) (nx := 426) (i := i320) rfl hx hi hL ?_
                  obtain ⟨x323, M321, N322, hc, h⟩ := h
                  refine x_vi (y := 141) (n := 1) (ci := 10) (nx := 429) rfl (fun _ => rfl) sh_0 rfl hc ?_
                  refine x_st rfl ?_
                  refine x_st rfl ?_
                  refine x_st rfl ?_
                  refine x_st rfl ?_
                  refine x_st rfl ?_
                  obtain ⟨i324, hx, hi, h⟩ := h
                  refine x_tl (j := 0) (N := L) (f := xs) (nx := 435) (i := i324) rfl hx hi hL ?_
                  obtain ⟨x327, M325, N326, hc, h⟩ := h
                  refine x_vi (y := 195) (n := 1) (ci := 11) (nx := 438) rfl (fun _ => rfl) sh_46 rfl hc ?_
                  refine x_br rfl (fun c => ?_) (fun c => ?_)
                  · replace h := h.1 c
                    refine x_st rfl ?_
                    refine x_st rfl ?_
                    refine x_kl ?_ h
                    exact ⟨Or.inr rfl, ⟨Or.inr rfl, ⟨Or.inr rfl, ⟨Or.inr rfl, True.intro⟩⟩⟩⟩
                  · replace h := h.2 c
                    refine x_st rfl ?_
                    refine x_ret rfl ?_
                    exact ⟨_, _, rfl, h⟩
                · replace h := h.2 c
                  refine ⟨fun c => ?_, fun c => ?_⟩
                  · replace h := h.1 c
                    refine x_st rfl ?_
                    obtain ⟨x316, M314, N315, hc, h⟩ := h
                    refine x_vi (y := 142) (n := 0) (ci := 10) (nx := 447) rfl (fun _ => rfl) sh_0 rfl hc ?_
                    refine x_st rfl ?_
                    obtain ⟨x319, M317, N318, hc, h⟩ := h
                    refine x_vi (y := 207) (n := 0) (ci := 11) (nx := 451) rfl (fun _ => rfl) sh_46 rfl hc ?_
                    refine x_br rfl (fun c => ?_) (fun c => ?_)
                    · replace h := h.1 c
                      refine x_st rfl ?_
                      refine x_st rfl ?_
                      refine x_kl ?_ h
                      exact ⟨Or.inr rfl, ⟨Or.inr rfl, ⟨Or.inr rfl, ⟨Or.inr rfl, True.intro⟩⟩⟩⟩
                    · replace h := h.2 c
                      refine x_st rfl ?_
                      refine x_ret rfl ?_
                      exact ⟨_, _, rfl, h⟩
                  · replace h := h.2 c
                    refine ⟨fun c => ?_, fun c => ?_⟩
                    · replace h := h.1 c
                      refine x_st rfl ?_
                      refine x_st rfl ?_
                      refine x_st rfl ?_
                      refine x_st rfl ?_
                      refine x_st rfl ?_
                      obtain ⟨i306, hx, hi, h⟩ := h
                      refine x_tl (j := 0) (N := L) (f := xs) (nx := 462) (i := i306) rfl hx hi hL ?_
                      obtain ⟨x309, M307, N308, hc, h⟩ := h
                      refine x_vi (y := 144) (n := 1) (ci := 10) (nx := 465) rfl (fun _ => rfl) sh_0 rfl hc ?_
                      refine x_st rfl ?_
                      refine x_st rfl ?_
                      refine x_st rfl ?_
                      refine x_st rfl ?_
                      refine x_st rfl ?_
                      obtain ⟨i310, hx, hi, h⟩ := h
                      refine x_tl (j := 0) (N := L) (f := xs) (nx := 471) (i := i310) rfl hx hi hL ?_
                      obtain ⟨x313, M311, N312, hc, h⟩ := h
                      refine x_vi (y := 220) (n := 1) (ci := 11) (nx := 474) rfl (fun _ => rfl) sh_46 rfl hc ?_
                      refine x_br rfl (fun c => ?_) (fun c => ?_)
                      · replace h := h.1 c
                        refine x_st rfl ?_
                        refine x_st rfl ?_
                        refine x_kl ?_ h
                        exact ⟨Or.inr rfl, ⟨Or.inr rfl, ⟨Or.inr rfl, ⟨Or.inr rfl, True.intro⟩⟩⟩⟩
                      · replace h := h.2 c
                        refine x_st rfl ?_
                        refine x_ret rfl ?_
                        exact ⟨_, _, rfl, h⟩
                    · replace h := h.2 c
                      refine ⟨fun c => ?_, fun c => ?_⟩
                      · replace h := h.1 c
                        refine x_st rfl ?_
                        refine x_st rfl ?_
                        refine x_st rfl ?_
                        refine x_st rfl ?_
                        refine x_st rfl ?_
                        obtain ⟨i298, hx, hi, h⟩ := h
                        refine x_tl (j := 0) (N := L) (f := xs) (nx := 485) (i := i298) rfl hx hi hL ?_
                        obtain ⟨x301, M299, N300, hc, h⟩ := h
                        refine x_vi (y := 145) (n := 1) (ci := 10) (nx := 488) rfl (fun _ => rfl) sh_0 rfl hc ?_
                        refine x_st rfl ?_
                        refine x_st rfl ?_
                        refine x_st rfl ?_
                        refine x_st rfl ?_
                        refine x_st rfl ?_
                        obtain ⟨i302, hx, hi, h⟩ := h
                        refine x_tl (j := 0) (N := L) (f := xs) (nx := 494) (i := i302) rfl hx hi hL ?_
                        obtain ⟨x305, M303, N304, hc, h⟩ := h
                        refine x_vi (y := 221) (n := 1) (ci := 11) (nx := 497) rfl (fun _ => rfl) sh_46 rfl hc ?_
                        refine x_br rfl (fun c => ?_) (fun c => ?_)
                        · replace h := h.1 c
                          refine x_st rfl ?_
                          refine x_st rfl ?_
                          refine x_kl ?_ h
                          exact ⟨Or.inr rfl, ⟨Or.inr rfl, ⟨Or.inr rfl, ⟨Or.inr rfl, True.intro⟩⟩⟩⟩
                        · replace h := h.2 c
                          refine x_st rfl ?_
                          refine x_ret rfl ?_
                          exact ⟨_, _, rfl, h⟩
                      · replace h := h.2 c
                        refine ⟨fun c => ?_, fun c => ?_⟩
                        · replace h := h.1 c
                          refine x_st rfl ?_
                          refine x_st rfl ?_
                          refine x_st rfl ?_
                          refine x_st rfl ?_
                          refine x_st rfl ?_
                          obtain ⟨i288, hx, hi, h⟩ := h
                          refine x_tl (j := 0) (N := L) (f := xs) (nx := 508) (i := i288) rfl hx hi hL ?_
                          refine x_st rfl ?_
                          refine x_st rfl ?_
                          refine x_st rfl ?_
                          refine x_st rfl ?_
                          obtain ⟨i289, hx, hi, h⟩ := h
                          refine x_tl (j := 0) (N := L) (f := xs) (nx := 513) (i := i289) rfl hx hi hL ?_
                          obtain ⟨x292, M290, N291, hc, h⟩ := h
                          refine x_vi (y := 146) (n := 2) (ci := 10) (nx := 516) rfl (fun _ => rfl) sh_0 rfl hc ?_
                          refine x_st rfl ?_
                          refine x_st rfl ?_
                          refine x_st rfl ?_
                          refine x_st rfl ?_
                          refine x_st rfl ?_
                          obtain ⟨i293, hx, hi, h⟩ := h
                          refine x_tl (j := 0) (N := L) (f := xs) (nx := 522) (i := i293) rfl hx hi hL ?_
                          refine x_st rfl ?_
                          refine x_st rfl ?_
                          refine x_st rfl ?_
                          refine x_st rfl ?_
                          obtain ⟨i294, hx, hi, h⟩ := h
                          refine x_tl (j := 0) (N := L) (f := xs) (nx := 527) (i := i294) rfl hx hi hL ?_
                          obtain ⟨x297, M295, N296, hc, h⟩ := h
                          refine x_vi (y := 223) (n := 2) (ci := 11) (nx := 530) rfl (fun _ => rfl) sh_46 rfl hc ?_
                          refine x_br rfl (fun c => ?_) (fun c => ?_)
                          · replace h := h.1 c
                            refine x_st rfl ?_
                            refine x_st rfl ?_
                            refine x_kl ?_ h
                            exact ⟨Or.inr rfl, ⟨Or.inr rfl, ⟨Or.inr rfl, ⟨Or.inr rfl, True.intro⟩⟩⟩⟩
                          · replace h := h.2 c
                            refine x_st rfl ?_
                            refine x_ret rfl ?_
                            exact ⟨_, _, rfl, h⟩
                        · replace h := h.2 c
                          refine ⟨fun c => ?_, fun c => ?_⟩
                          · replace h := h.1 c
                            refine x_st rfl ?_
                            refine x_st rfl ?_
                            refine x_st rfl ?_
                            refine x_st rfl ?_
                            refine x_st rfl ?_
                            obtain ⟨i278, hx, hi, h⟩ := h
                            refine x_tl (j := 0) (N := L) (f := xs) (nx := 541) (i := i278) rfl hx hi hL ?_
                            refine x_st rfl ?_
                            refine x_st rfl ?_
                            refine x_st rfl ?_
                            refine x_st rfl ?_
                            obtain ⟨i279, hx, hi, h⟩ := h
                            refine x_tl (j := 0) (N := L) (f := xs) (nx := 546) (i := i279) rfl hx hi hL ?_
                            obtain ⟨x282, M280, N281, hc, h⟩ := h
                            refine x_vi (y := 147) (n := 2) (ci := 10) (nx := 549) rfl (fun _ => rfl) sh_0 rfl hc ?_
                            refine x_st rfl ?_
                            refine x_st rfl ?_
                            refine x_st rfl ?_
                            refine x_st rfl ?_
                            refine x_st rfl ?_
                            obtain ⟨i283, hx, hi, h⟩ := h
                            refine x_tl (j := 0) (N := L) (f := xs) (nx := 555) (i := i283) rfl hx hi hL ?_
                            refine x_st rfl ?_
                            refine x_st rfl ?_
                            refine x_st rfl ?_
                            refine x_st rfl ?_
                            obtain ⟨i284, hx, hi, h⟩ := h
                            refine x_tl (j := 0) (N := L) (f := xs) (nx := 560) (i := i284) rfl hx hi hL ?_
                            obtain ⟨x287, M285, N286, hc, h⟩ := h
                            refine x_vi (y := 225) (n := 2) (ci := 11) (nx := 563) rfl (fun _ => rfl) sh_46 rfl hc ?_
                            refine x_br rfl (fun c => ?_) (fun c => ?_)
                            · replace h := h.1 c
                              refine x_st rfl ?_
                              refine x_st rfl ?_
                              refine x_kl ?_ h
                              exact ⟨Or.inr rfl, ⟨Or.inr rfl, ⟨Or.inr rfl, ⟨Or.inr rfl, True.intro⟩⟩⟩⟩
                            · replace h := h.2 c
                              refine x_st rfl ?_
                              refine x_ret rfl ?_
                              exact ⟨_, _, rfl, h⟩
                          · replace h := h.2 c
                            refine ⟨fun c => ?_, fun c => ?_⟩
                            · replace h := h.1 c
                              refine x_st rfl ?_
                              refine x_st rfl ?_
                              refine x_st rfl ?_
                              refine x_st rfl ?_
                              refine x_st rfl ?_
                              obtain ⟨i268, hx, hi, h⟩ := h
                              refine x_tl (j := 0) (N := L) (f := xs) (nx := 574) (i := i268) rfl hx hi hL ?_
                              refine x_st rfl ?_
                              refine x_st rfl ?_
                              refine x_st rfl ?_
                              refine x_st rfl ?_
                              obtain ⟨i269, hx, hi, h⟩ := h
                              refine x_tl (j := 0) (N := L) (f := xs) (nx := 579) (i := i269) rfl hx hi hL ?_
                              obtain ⟨x272, M270, N271, hc, h⟩ := h
                              refine x_vi (y := 148) (n := 2) (ci := 10) (nx := 582) rfl (fun _ => rfl) sh_0 rfl hc ?_
                              refine x_st rfl ?_
                              refine x_st rfl ?_
                              refine x_st rfl ?_
                              refine x_st rfl ?_
                              refine x_st rfl ?_
                              obtain ⟨i273, hx, hi, h⟩ := h
                              refine x_tl (j := 0) (N := L) (f := xs) (nx := 588) (i := i273) rfl hx hi hL ?_
                              refine x_st rfl ?_
                              refine x_st rfl ?_
                              refine x_st rfl ?_
                              refine x_st rfl ?_
                              obtain ⟨i274, hx, hi, h⟩ := h
                              refine x_tl (j := 0) (N := L) (f := xs) (nx := 593) (i := i274) rfl hx hi hL ?_
                              obtain ⟨x277, M275, N276, hc, h⟩ := h
                              refine x_vi (y := 226) (n := 2) (ci := 11) (nx := 596) rfl (fun _ => rfl) sh_46 rfl hc ?_
                              refine x_br rfl (fun c => ?_) (fun c => ?_)
                              · replace h := h.1 c
                                refine x_st rfl ?_
                                refine x_st rfl ?_
                                refine x_kl ?_ h
                                exact ⟨Or.inr rfl, ⟨Or.inr rfl, ⟨Or.inr rfl, ⟨Or.inr rfl, True.intro⟩⟩⟩⟩
                              · replace h := h.2 c
                                refine x_st rfl ?_
                                refine x_ret rfl ?_
                                exact ⟨_, _, rfl, h⟩
                            · replace h := h.2 c
                              refine ⟨fun c => ?_, fun c => ?_⟩
                              · replace h := h.1 c
                                refine x_st rfl ?_
                                refine x_st rfl ?_
                                refine x_st rfl ?_
                                refine x_st rfl ?_
                                refine x_st rfl ?_
                                obtain ⟨i260, hx, hi, h⟩ := h
                                refine x_tl (j := 0) (N := L) (f := xs) (nx := 607) (i := i260) rfl hx hi hL ?_
                                obtain ⟨x263, M261, N262, hc, h⟩ := h
                                refine x_vi (y := 149) (n := 1) (ci := 10) (nx := 610) rfl (fun _ => rfl) sh_0 rfl hc ?_
                                refine x_st rfl ?_
                                refine x_st rfl ?_
                                refine x_st rfl ?_
                                refine x_st rfl ?_
                                refine x_st rfl ?_
                                obtain ⟨i264, hx, hi, h⟩ := h
                                refine x_tl (j := 0) (N := L) (f := xs) (nx := 616) (i := i264) rfl hx hi hL ?_
                                obtain ⟨x267, M265, N266, hc, h⟩ := h
                                refine x_vi (y := 228) (n := 1) (ci := 11) (nx := 619) rfl (fun _ => rfl) sh_46 rfl hc ?_
                                refine x_br rfl (fun c => ?_) (fun c => ?_)
                                · replace h := h.1 c
                                  refine x_st rfl ?_
                                  refine x_st rfl ?_
                                  refine x_kl ?_ h
                                  exact ⟨Or.inr rfl, ⟨Or.inr rfl, ⟨Or.inr rfl, ⟨Or.inr rfl, True.intro⟩⟩⟩⟩
                                · replace h := h.2 c
                                  refine x_st rfl ?_
                                  refine x_ret rfl ?_
                                  exact ⟨_, _, rfl, h⟩
                              · replace h := h.2 c
                                refine ⟨fun c => ?_, fun c => ?_⟩
                                · replace h := h.1 c
                                  refine x_st rfl ?_
                                  refine x_st rfl ?_
                                  refine x_st rfl ?_
                                  refine x_st rfl ?_
                                  refine x_st rfl ?_
                                  obtain ⟨i250, hx, hi, h⟩ := h
                                  refine x_tl (j := 0) (N := L) (f := xs) (nx := 630) (i := i250) rfl hx hi hL ?_
                                  refine x_st rfl ?_
                                  refine x_st rfl ?_
                                  refine x_st rfl ?_
                                  refine x_st rfl ?_
                                  obtain ⟨i251, hx, hi, h⟩ := h
                                  refine x_tl (j := 0) (N := L) (f := xs) (nx := 635) (i := i251) rfl hx hi hL ?_
                                  obtain ⟨x254, M252, N253, hc, h⟩ := h
                                  refine x_vi (y := 150) (n := 2) (ci := 10) (nx := 638) rfl (fun _ => rfl) sh_0 rfl hc ?_
                                  refine x_st rfl ?_
                                  refine x_st rfl ?_
                                  refine x_st rfl ?_
                                  refine x_st rfl ?_
                                  refine x_st rfl ?_
                                  obtain ⟨i255, hx, hi, h⟩ := h
                                  refine x_tl (j := 0) (N := L) (f := xs) (nx := 644) (i := i255) rfl hx hi hL ?_
                                  refine x_st rfl ?_
                                  refine x_st rfl ?_
                                  refine x_st rfl ?_
                                  refine x_st rfl ?_
                                  obtain ⟨i256, hx, hi, h⟩ := h
                                  refine x_tl (j := 0) (N := L) (f := xs) (nx := 649) (i := i256) rfl hx hi hL ?_
                                  obtain ⟨x259, M257, N258, hc, h⟩ := h
                                  refine x_vi (y := 229) (n := 2) (ci := 11) (nx := 652) rfl (fun _ => rfl) sh_46 rfl hc ?_
                                  refine x_br rfl (fun c => ?_) (fun c => ?_)
                                  · replace h := h.1 c
                                    refine x_st rfl ?_
                                    refine x_st rfl ?_
                                    refine x_kl ?_ h
                                    exact ⟨Or.inr rfl, ⟨Or.inr rfl, ⟨Or.inr rfl, ⟨Or.inr rfl, True.intro⟩⟩⟩⟩
                                  · replace h := h.2 c
                                    refine x_st rfl ?_
                                    refine x_ret rfl ?_
                                    exact ⟨_, _, rfl, h⟩
                                · replace h := h.2 c
                                  refine ⟨fun c => ?_, fun c => ?_⟩
                                  · replace h := h.1 c
                                    refine x_st rfl ?_
                                    refine x_st rfl ?_
                                    refine x_st rfl ?_
                                    refine x_st rfl ?_
                                    refine x_st rfl ?_
                                    obtain ⟨i238, hx, hi, h⟩ := h
                                    refine x_tl (j := 0) (N := L) (f := xs) (nx := 663) (i := i238) rfl hx hi hL ?_
                                    refine x_st rfl ?_
                                    refine x_st rfl ?_
                                    refine x_st rfl ?_
                                    refine x_st rfl ?_
                                    obtain ⟨i239, hx, hi, h⟩ := h
                                    refine x_tl (j := 0) (N := L) (f := xs) (nx := 668) (i := i239) rfl hx hi hL ?_
                                    refine x_st rfl ?_
                                    refine x_st rfl ?_
                                    refine x_st rfl ?_
                                    refine x_st rfl ?_
                                    obtain ⟨i240, hx, hi, h⟩ := h
                                    refine x_tl (j := 0) (N := L) (f := xs) (nx := 673) (i := i240) rfl hx hi hL ?_
                                    obtain ⟨x243, M241, N242, hc, h⟩ := h
                                    refine x_vi (y := 151) (n := 3) (ci := 10) (nx := 676) rfl (fun _ => rfl) sh_0 rfl hc ?_
                                    refine x_st rfl ?_
                                    refine x_st rfl ?_
                                    refine x_st rfl ?_
                                    refine x_st rfl ?_
                                    refine x_st rfl ?_
                                    obtain ⟨i244, hx, hi, h⟩ := h
                                    refine x_tl (j := 0) (N := L) (f := xs) (nx := 682) (i := i244) rfl hx hi hL ?_
                                    refine x_st rfl ?_
                                    refine x_st rfl ?_
                                    refine x_st rfl ?_
                                    refine x_st rfl ?_
                                    obtain ⟨i245, hx, hi, h⟩ := h
                                    refine x_tl (j := 0) (N := L) (f := xs) (nx := 687) (i := i245) rfl hx hi hL ?_
                                    refine x_st rfl ?_
                                    refine x_st rfl ?_
                                    refine x_st rfl ?_
                                    refine x_st rfl ?_
                                    obtain ⟨i246, hx, hi, h⟩ := h
                                    refine x_tl (j := 0) (N := L) (f := xs) (nx := 692) (i := i246) rfl hx hi hL ?_
                                    obtain ⟨x249, M247, N248, hc, h⟩ := h
                                    refine x_vi (y := 230) (n := 3) (ci := 11) (nx := 695) rfl (fun _ => rfl) sh_46 rfl hc ?_
                                    refine x_br rfl (fun c => ?_) (fun c => ?_)
                                    · replace h := h.1 c
                                      refine x_st rfl ?_
                                      refine x_st rfl ?_
                                      refine x_kl ?_ h
                                      exact ⟨Or.inr rfl, ⟨Or.inr rfl, ⟨Or.inr rfl, ⟨Or.inr rfl, True.intro⟩⟩⟩⟩
                                    · replace h := h.2 c
                                      refine x_st rfl ?_
                                      refine x_ret rfl ?_
                                      exact ⟨_, _, rfl, h⟩
                                  · replace h := h.2 c
                                    refine ⟨fun c => ?_, fun c => ?_⟩
                                    · replace h := h.1 c
                                      refine x_st rfl ?_
                                      obtain ⟨x234, M232, N233, hc, h⟩ := h
                                      refine x_vi (y := 152) (n := 0) (ci := 10) (nx := 704) rfl (fun _ => rfl) sh_0 rfl hc ?_
                                      refine x_st rfl ?_
                                      obtain ⟨x237, M235, N236, hc, h⟩ := h
                                      refine x_vi (y := 231) (n := 0) (ci := 11) (nx := 708) rfl (fun _ => rfl) sh_46 rfl hc ?_
                                      refine x_br rfl (fun c => ?_) (fun c => ?_)
                                      · replace h := h.1 c
                                        refine x_st rfl ?_
                                        refine x_st rfl ?_
                                        refine x_kl ?_ h
                                        exact ⟨Or.inr rfl, ⟨Or.inr rfl, ⟨Or.inr rfl, ⟨Or.inr rfl, True.intro⟩⟩⟩⟩
                                      · replace h := h.2 c
                                        refine x_st rfl ?_
                                        refine x_ret rfl ?_
                                        exact ⟨_, _, rfl, h⟩
                                    · replace h := h.2 c
                                      refine ⟨fun c => ?_, fun c => ?_⟩
                                      · replace h := h.1 c
                                        refine x_st rfl ?_
                                        refine x_st rfl ?_
                                        refine x_st rfl ?_
                                        refine x_st rfl ?_
                                        refine x_st rfl ?_
                                        obtain ⟨i222, hx, hi, h⟩ := h
                                        refine x_tl (j := 0) (N := L) (f := xs) (nx := 719) (i := i222) rfl hx hi hL ?_
                                        refine x_st rfl ?_
                                        refine x_st rfl ?_
                                        refine x_st rfl ?_
                                        refine x_st rfl ?_
                                        obtain ⟨i223, hx, hi, h⟩ := h
                                        refine x_tl (j := 0) (N := L) (f := xs) (nx := 724) (i := i223) rfl hx hi hL ?_
                                        obtain ⟨x226, M224, N225, hc, h⟩ := h
                                        refine x_vi (y := 154) (n := 2) (ci := 10) (nx := 727) rfl (fun _ => rfl) sh_0 rfl hc ?_
                                        refine x_st rfl ?_
                                        refine x_st rfl ?_
                                        refine x_st rfl ?_
                                        refine x_st rfl ?_
                                        refine x_st rfl ?_
                                        obtain ⟨i227, hx, hi, h⟩ := h
                                        refine x_tl (j := 0) (N := L) (f := xs) (nx := 733) (i := i227) rfl hx hi hL ?_
                                        refine x_st rfl ?_
                                        refine x_st rfl ?_
                                        refine x_st rfl ?_
                                        refine x_st rfl ?_
                                        obtain ⟨i228, hx, hi, h⟩ := h
                                        refine x_tl (j := 0) (N := L) (f := xs) (nx := 738) (i := i228) rfl hx hi hL ?_
                                        obtain ⟨x231, M229, N230, hc, h⟩ := h
                                        refine x_vi (y := 234) (n := 2) (ci := 11) (nx := 741) rfl (fun _ => rfl) sh_46 rfl hc ?_
                                        refine x_br rfl (fun c => ?_) (fun c => ?_)
                                        · replace h := h.1 c
                                          refine x_st rfl ?_
                                          refine x_st rfl ?_
                                          refine x_kl ?_ h
                                          exact ⟨Or.inr rfl, ⟨Or.inr rfl, ⟨Or.inr rfl, ⟨Or.inr rfl, True.intro⟩⟩⟩⟩
                                        · replace h := h.2 c
                                          refine x_st rfl ?_
                                          refine x_ret rfl ?_
                                          exact ⟨_, _, rfl, h⟩
                                      · replace h := h.2 c
                                        refine ⟨fun c => ?_, fun c => ?_⟩
                                        · replace h := h.1 c
                                          refine x_st rfl ?_
                                          refine x_st rfl ?_
                                          refine x_st rfl ?_
                                          refine x_st rfl ?_
                                          refine x_st rfl ?_
                                          obtain ⟨i210, hx, hi, h⟩ := h
                                          refine x_tl (j := 0) (N := L) (f := xs) (nx := 752) (i := i210) rfl hx hi hL ?_
                                          refine x_st rfl ?_
                                          refine x_st rfl ?_
                                          refine x_st rfl ?_
                                          refine x_st rfl ?_
                                          obtain ⟨i211, hx, hi, h⟩ := h
                                          refine x_tl (j := 0) (N := L) (f := xs) (nx := 757) (i := i211) rfl hx hi hL ?_
                                          refine x_st rfl ?_
                                          refine x_st rfl ?_
                                          refine x_st rfl ?_
                                          refine x_st rfl ?_
                                          obtain ⟨i212, hx, hi, h⟩ := h
                                          refine x_tl (j := 0) (N := L) (f := xs) (nx := 762) (i := i212) rfl hx hi hL ?_
                                          obtain ⟨x215, M213, N214, hc, h⟩ := h
                                          refine x_vi (y := 155) (n := 3) (ci := 10) (nx := 765) rfl (fun _ => rfl) sh_0 rfl hc ?_
                                          refine x_st rfl ?_
                                          refine x_st rfl ?_
                                          refine x_st rfl ?_
                                          refine x_st rfl ?_
                                          refine x_st rfl ?_
                                          obtain ⟨i216, hx, hi, h⟩ := h
                                          refine x_tl (j := 0) (N := L) (f := xs) (nx := 771) (i := i216) rfl hx hi hL ?_
                                          refine x_st rfl ?_
                                          refine x_st rfl ?_
                                          refine x_st rfl ?_
                                          refine x_st rfl ?_
                                          obtain ⟨i217, hx, hi, h⟩ := h
                                          refine x_tl (j := 0) (N := L) (f := xs) (nx := 776) (i := i217) rfl hx hi hL ?_
                                          refine x_st rfl ?_
                                          refine x_st rfl ?_
                                          refine x_st rfl ?_
                                          refine x_st rfl ?_
                                          obtain ⟨i218, hx, hi, h⟩ := h
                                          refine x_tl (j := 0) (N := L) (f := xs) (nx := 781) (i := i218) rfl hx hi hL ?_
                                          obtain ⟨x221, M219, N220, hc, h⟩ := h
                                          refine x_vi (y := 235) (n := 3) (ci := 11) (nx := 784) rfl (fun _ => rfl) sh_46 rfl hc ?_
                                          refine x_br rfl (fun c => ?_) (fun c => ?_)
                                          · replace h := h.1 c
                                            refine x_st rfl ?_
                                            refine x_st rfl ?_
                                            refine x_kl ?_ h
                                            exact ⟨Or.inr rfl, ⟨Or.inr rfl, ⟨Or.inr rfl, ⟨Or.inr rfl, True.intro⟩⟩⟩⟩
                                          · replace h := h.2 c
                                            refine x_st rfl ?_
                                            refine x_ret rfl ?_
                                            exact ⟨_, _, rfl, h⟩
                                        · replace h := h.2 c
                                          refine ⟨fun c => ?_, fun c => ?_⟩
                                          · replace h := h.1 c
                                            refine x_st rfl ?_
                                            refine x_st rfl ?_
                                            refine x_st rfl ?_
                                            refine x_st rfl ?_
                                            refine x_st rfl ?_
                                            obtain ⟨i198, hx, hi, h⟩ := h
                                            refine x_tl (j := 0) (N := L) (f := xs) (nx := 795) (i := i198) rfl hx hi hL ?_
                                            refine x_st rfl ?_
                                            refine x_st rfl ?_
                                            refine x_st rfl ?_
                                            refine x_st rfl ?_
                                            obtain ⟨i199, hx, hi, h⟩ := h
                                            refine x_tl (j := 0) (N := L) (f := xs) (nx := 800) (i := i199) rfl hx hi hL ?_
                                            refine x_st rfl ?_
                                            refine x_st rfl ?_
                                            refine x_st rfl ?_
                                            refine x_st rfl ?_
                                            obtain ⟨i200, hx, hi, h⟩ := h
                                            refine x_tl (j := 0) (N := L) (f := xs) (nx := 805) (i := i200) rfl hx hi hL ?_
                                            obtain ⟨x203, M201, N202, hc, h⟩ := h
                                            refine x_vi (y := 156) (n := 3) (ci := 10) (nx := 808) rfl (fun _ => rfl) sh_0 rfl hc ?_
                                            refine x_st rfl ?_
                                            refine x_st rfl ?_
                                            refine x_st rfl ?_
                                            refine x_st rfl ?_
                                            refine x_st rfl ?_
                                            obtain ⟨i204, hx, hi, h⟩ := h
                                            refine x_tl (j := 0) (N := L) (f := xs) (nx := 814) (i := i204) rfl hx hi hL ?_
                                            refine x_st rfl ?_
                                            refine x_st rfl ?_
                                            refine x_st rfl ?_
                                            refine x_st rfl ?_
                                            obtain ⟨i205, hx, hi, h⟩ := h
                                            refine x_tl (j := 0) (N := L) (f := xs) (nx := 819) (i := i205) rfl hx hi hL ?_
                                            refine x_st rfl ?_
                                            refine x_st rfl ?_
                                            refine x_st rfl ?_
                                            refine x_st rfl ?_
                                            obtain ⟨i206, hx, hi, h⟩ := h
                                            refine x_tl (j := 0) (N := L) (f := xs) (nx := 824) (i := i206) rfl hx hi hL ?_
                                            obtain ⟨x209, M207, N208, hc, h⟩ := h
                                            refine x_vi (y := 237) (n := 3) (ci := 11) (nx := 827) rfl (fun _ => rfl) sh_46 rfl hc ?_
                                            refine x_br rfl (fun c => ?_) (fun c => ?_)
                                            · replace h := h.1 c
                                              refine x_st rfl ?_
                                              refine x_st rfl ?_
                                              refine x_kl ?_ h
                                              exact ⟨Or.inr rfl, ⟨Or.inr rfl, ⟨Or.inr rfl, ⟨Or.inr rfl, True.intro⟩⟩⟩⟩
                                            · replace h := h.2 c
                                              refine x_st rfl ?_
                                              refine x_ret rfl ?_
                                              exact ⟨_, _, rfl, h⟩
                                          · replace h := h.2 c
                                            refine ⟨fun c => ?_, fun c => ?_⟩
                                            · replace h := h.1 c
                                              refine x_st rfl ?_
                                              refine x_st rfl ?_
                                              refine x_st rfl ?_
                                              refine x_st rfl ?_
                                              refine x_st rfl ?_
                                              obtain ⟨i186, hx, hi, h⟩ := h
                                              refine x_tl (j := 0) (N := L) (f := xs) (nx := 838) (i := i186) rfl hx hi hL ?_
                                              refine x_st rfl ?_
                                              refine x_st rfl ?_
                                              refine x_st rfl ?_
                                              refine x_st rfl ?_
                                              obtain ⟨i187, hx, hi, h⟩ := h
                                              refine x_tl (j := 0) (N := L) (f := xs) (nx := 843) (i := i187) rfl hx hi hL ?_
                                              refine x_st rfl ?_
                                              refine x_st rfl ?_
                                              refine x_st rfl ?_
                                              refine x_st rfl ?_
                                              obtain ⟨i188, hx, hi, h⟩ := h
                                              refine x_tl (j := 0) (N := L) (f := xs) (nx := 848) (i := i188) rfl hx hi hL ?_
                                              obtain ⟨x191, M189, N190, hc, h⟩ := h
                                              refine x_vi (y := 157) (n := 3) (ci := 10) (nx := 851) rfl (fun _ => rfl) sh_0 rfl hc ?_
                                              refine x_st rfl ?_
                                              refine x_st rfl ?_
                                              refine x_st rfl ?_
                                              refine x_st rfl ?_
                                              refine x_st rfl ?_
                                              obtain ⟨i192, hx, hi, h⟩ := h
                                              refine x_tl (j := 0) (N := L) (f := xs) (nx := 857) (i := i192) rfl hx hi hL ?_
                                              refine x_st rfl ?_
                                              refine x_st rfl ?_
                                              refine x_st rfl ?_
                                              refine x_st rfl ?_
                                              obtain ⟨i193, hx, hi, h⟩ := h
                                              refine x_tl (j := 0) (N := L) (f := xs) (nx := 862) (i := i193) rfl hx hi hL ?_
                                              refine x_st rfl ?_
                                              refine x_st rfl ?_
                                              refine x_st rfl ?_
                                              refine x_st rfl ?_
                                              obtain ⟨i194, hx, hi, h⟩ := h
                                              refine x_tl (j := 0) (N := L) (f := xs) (nx := 867) (i := i194) rfl hx hi hL ?_
                                              obtain ⟨x197, M195, N196, hc, h⟩ := h
                                              refine x_vi (y := 238) (n := 3) (ci := 11) (nx := 870) rfl (fun _ => rfl) sh_46 rfl hc ?_
                                              refine x_br rfl (fun c => ?_) (fun c => ?_)
                                              · replace h := h.1 c
                                                refine x_st rfl ?_
                                                refine x_st rfl ?_
                                                refine x_kl ?_ h
                                                exact ⟨Or.inr rfl, ⟨Or.inr rfl, ⟨Or.inr rfl, ⟨Or.inr rfl, True.intro⟩⟩⟩⟩
                                              · replace h := h.2 c
                                                refine x_st rfl ?_
                                                refine x_ret rfl ?_
                                                exact ⟨_, _, rfl, h⟩
                                            · replace h := h.2 c
                                              refine ⟨fun c => ?_, fun c => ?_⟩
                                              · replace h := h.1 c
                                                refine x_st rfl ?_
                                                obtain ⟨x182, M180, N181, hc, h⟩ := h
                                                refine x_vi (y := 158) (n := 0) (ci := 10) (nx := 879) rfl (fun _ => rfl) sh_0 rfl hc ?_
                                                refine x_st rfl ?_
                                                obtain ⟨x185, M183, N184, hc, h⟩ := h
                                                refine x_vi (y := 241) (n := 0) (ci := 11) (nx := 883) rfl (fun _ => rfl) sh_46 rfl hc ?_
                                                refine x_br rfl (fun c => ?_) (fun c => ?_)
                                                · replace h := h.1 c
                                                  refine x_st rfl ?_
                                                  refine x_st rfl ?_
                                                  refine x_kl ?_ h
                                                  exact ⟨Or.inr rfl, ⟨Or.inr rfl, ⟨Or.inr rfl, ⟨Or.inr rfl, True.intro⟩⟩⟩⟩
                                                · replace h := h.2 c
                                                  refine x_st rfl ?_
                                                  refine x_ret rfl ?_
                                                  exact ⟨_, _, rfl, h⟩
                                              · replace h := h.2 c
                                                refine ⟨fun c => ?_, fun c => ?_⟩
                                                · replace h := h.1 c
                                                  refine x_st rfl ?_
                                                  refine x_st rfl ?_
                                                  refine x_st rfl ?_
                                                  refine x_st rfl ?_
                                                  refine x_st rfl ?_
                                                  obtain ⟨i170, hx, hi, h⟩ := h
                                                  refine x_tl (j := 0) (N := L) (f := xs) (nx := 894) (i := i170) rfl hx hi hL ?_
                                                  refine x_st rfl ?_
                                                  refine x_st rfl ?_
                                                  refine x_st rfl ?_
                                                  refine x_st rfl ?_
                                                  obtain ⟨i171, hx, hi, h⟩ := h
                                                  refine x_tl (j := 0) (N := L) (f := xs) (nx := 899) (i := i171) rfl hx hi hL ?_
                                                  obtain ⟨x174, M172, N173, hc, h⟩ := h
                                                  refine x_vi (y := 159) (n := 2) (ci := 10) (nx := 902) rfl (fun _ => rfl) sh_0 rfl hc ?_
                                                  refine x_st rfl ?_
                                                  refine x_st rfl ?_
                                                  refine x_st rfl ?_
                                                  refine x_st rfl ?_
                                                  refine x_st rfl ?_
                                                  obtain ⟨i175, hx, hi, h⟩ := h
                                                  refine x_tl (j := 0) (N := L) (f := xs) (nx := 908) (i := i175) rfl hx hi hL ?_
                                                  refine x_st rfl ?_
                                                  refine x_st rfl ?_
                                                  refine x_st rfl ?_
                                                  refine x_st rfl ?_
                                                  obtain ⟨i176, hx, hi, h⟩ := h
                                                  refine x_tl (j := 0) (N := L) (f := xs) (nx := 913) (i := i176) rfl hx hi hL ?_
                                                  obtain ⟨x179, M177, N178, hc, h⟩ := h
                                                  refine x_vi (y := 242) (n := 2) (ci := 11) (nx := 916) rfl (fun _ => rfl) sh_46 rfl hc ?_
                                                  refine x_br rfl (fun c => ?_) (fun c => ?_)
                                                  · replace h := h.1 c
                                                    refine x_st rfl ?_
                                                    refine x_st rfl ?_
                                                    refine x_kl ?_ h
                                                    exact ⟨Or.inr rfl, ⟨Or.inr rfl, ⟨Or.inr rfl, ⟨Or.inr rfl, True.intro⟩⟩⟩⟩
                                                  · replace h := h.2 c
                                                    refine x_st rfl ?_
                                                    refine x_ret rfl ?_
                                                    exact ⟨_, _, rfl, h⟩
                                                · replace h := h.2 c
                                                  refine ⟨fun c => ?_, fun c => ?_⟩
                                                  · replace h := h.1 c
                                                    refine x_st rfl ?_
                                                    refine x_st rfl ?_
                                                    refine x_st rfl ?_
                                                    refine x_st rfl ?_
                                                    refine x_st rfl ?_
                                                    obtain ⟨i160, hx, hi, h⟩ := h
                                                    refine x_tl (j := 0) (N := L) (f := xs) (nx := 927) (i := i160) rfl hx hi hL ?_
                                                    refine x_st rfl ?_
                                                    refine x_st rfl ?_
                                                    refine x_st rfl ?_
                                                    refine x_st rfl ?_
                                                    obtain ⟨i161, hx, hi, h⟩ := h
                                                    refine x_tl (j := 0) (N := L) (f := xs) (nx := 932) (i := i161) rfl hx hi hL ?_
                                                    obtain ⟨x164, M162, N163, hc, h⟩ := h
                                                    refine x_vi (y := 160) (n := 2) (ci := 10) (nx := 935) rfl (fun _ => rfl) sh_0 rfl hc ?_
                                                    refine x_st rfl ?_
                                                    refine x_st rfl ?_
                                                    refine x_st rfl ?_
                                                    refine x_st rfl ?_
                                                    refine x_st rfl ?_
                                                    obtain ⟨i165, hx, hi, h⟩ := h
                                                    refine x_tl (j := 0) (N := L) (f := xs) (nx := 941) (i := i165) rfl hx hi hL ?_
                                                    refine x_st rfl ?_
                                                    refine x_st rfl ?_
                                                    refine x_st rfl ?_
                                                    refine x_st rfl ?_
                                                    obtain ⟨i166, hx, hi, h⟩ := h
                                                    refine x_tl (j := 0) (N := L) (f := xs) (nx := 946) (i := i166) rfl hx hi hL ?_
                                                    obtain ⟨x169, M167, N168, hc, h⟩ := h
                                                    refine x_vi (y := 243) (n := 2) (ci := 11) (nx := 949) rfl (fun _ => rfl) sh_46 rfl hc ?_
                                                    refine x_br rfl (fun c => ?_) (fun c => ?_)
                                                    · replace h := h.1 c
                                                      refine x_st rfl ?_
                                                      refine x_st rfl ?_
                                                      refine x_kl ?_ h
                                                      exact ⟨Or.inr rfl, ⟨Or.inr rfl, ⟨Or.inr rfl, ⟨Or.inr rfl, True.intro⟩⟩⟩⟩
                                                    · replace h := h.2 c
                                                      refine x_st rfl ?_
                                                      refine x_ret rfl ?_
                                                      exact ⟨_, _, rfl, h⟩
                                                  · replace h := h.2 c
                                                    refine ⟨fun c => ?_, fun c => ?_⟩
                                                    · replace h := h.1 c
                                                      refine x_st rfl ?_
                                                      refine x_st rfl ?_
                                                      refine x_st rfl ?_
                                                      refine x_st rfl ?_
                                                      refine x_st rfl ?_
                                                      obtain ⟨i150, hx, hi, h⟩ := h
                                                      refine x_tl (j := 0) (N := L) (f := xs) (nx := 960) (i := i150) rfl hx hi hL ?_
                                                      refine x_st rfl ?_
                                                      refine x_st rfl ?_
                                                      refine x_st rfl ?_
                                                      refine x_st rfl ?_
                                                      obtain ⟨i151, hx, hi, h⟩ := h
                                                      refine x_tl (j := 0) (N := L) (f := xs) (nx := 965) (i := i151) rfl hx hi hL ?_
                                                      obtain ⟨x154, M152, N153, hc, h⟩ := h
                                                      refine x_vi (y := 161) (n := 2) (ci := 10) (nx := 968) rfl (fun _ => rfl) sh_0 rfl hc ?_
                                                      refine x_st rfl ?_
                                                      refine x_st rfl ?_
                                                      refine x_st rfl ?_
                                                      refine x_st rfl ?_
                                                      refine x_st rfl ?_
                                                      obtain ⟨i155, hx, hi, h⟩ := h
                                                      refine x_tl (j := 0) (N := L) (f := xs) (nx := 974) (i := i155) rfl hx hi hL ?_
                                                      refine x_st rfl ?_
                                                      refine x_st rfl ?_
                                                      refine x_st rfl ?_
                                                      refine x_st rfl ?_
                                                      obtain ⟨i156, hx, hi, h⟩ := h
                                                      refine x_tl (j := 0) (N := L) (f := xs) (nx := 979) (i := i156) rfl hx hi hL ?_
                                                      obtain ⟨x159, M157, N158, hc, h⟩ := h
                                                      refine x_vi (y := 244) (n := 2) (ci := 11) (nx := 982) rfl (fun _ => rfl) sh_46 rfl hc ?_
                                                      refine x_br rfl (fun c => ?_) (fun c => ?_)
                                                      · replace h := h.1 c
                                                        refine x_st rfl ?_
                                                        refine x_st rfl ?_
                                                        refine x_kl ?_ h
                                                        exact ⟨Or.inr rfl, ⟨Or.inr rfl, ⟨Or.inr rfl, ⟨Or.inr rfl, True.intro⟩⟩⟩⟩
                                                      · replace h := h.2 c
                                                        refine x_st rfl ?_
                                                        refine x_ret rfl ?_
                                                        exact ⟨_, _, rfl, h⟩
                                                    · replace h := h.2 c
                                                      refine ⟨fun c => ?_, fun c => ?_⟩
                                                      · replace h := h.1 c
                                                        refine x_st rfl ?_
                                                        refine x_st rfl ?_
                                                        refine x_st rfl ?_
                                                        refine x_st rfl ?_
                                                        refine x_st rfl ?_
                                                        obtain ⟨i142, hx, hi, h⟩ := h
                                                        refine x_tl (j := 0) (N := L) (f := xs) (nx := 993) (i := i142) rfl hx hi hL ?_
                                                        obtain ⟨x145, M143, N144, hc, h⟩ := h
                                                        refine x_vi (y := 162) (n := 1) (ci := 10) (nx := 996) rfl (fun _ => rfl) sh_0 rfl hc ?_
                                                        refine x_st rfl ?_
                                                        refine x_st rfl ?_
                                                        refine x_st rfl ?_
                                                        refine x_st rfl ?_
                                                        refine x_st rfl ?_
                                                        obtain ⟨i146, hx, hi, h⟩ := h
                                                        refine x_tl (j := 0) (N := L) (f := xs) (nx := 1002) (i := i146) rfl hx hi hL ?_
                                                        obtain ⟨x149, M147, N148, hc, h⟩ := h
                                                        refine x_vi (y := 245) (n := 1) (ci := 11) (nx := 1005) rfl (fun _ => rfl) sh_46 rfl hc ?_
                                                        refine x_br rfl (fun c => ?_) (fun c => ?_)
                                                        · replace h := h.1 c
                                                          refine x_st rfl ?_
                                                          refine x_st rfl ?_
                                                          refine x_kl ?_ h
                                                          exact ⟨Or.inr rfl, ⟨Or.inr rfl, ⟨Or.inr rfl, ⟨Or.inr rfl, True.intro⟩⟩⟩⟩
                                                        · replace h := h.2 c
                                                          refine x_st rfl ?_
                                                          refine x_ret rfl ?_
                                                          exact ⟨_, _, rfl, h⟩
                                                      · replace h := h.2 c
                                                        refine ⟨fun c => ?_, fun c => ?_⟩
                                                        · replace h := h.1 c
                                                          refine x_st rfl ?_
                                                          refine x_st rfl ?_
                                                          refine x_st rfl ?_
                                                          refine x_st rfl ?_
                                                          refine x_st rfl ?_
                                                          obtain ⟨i134, hx, hi, h⟩ := h
                                                          refine x_tl (j := 0) (N := L) (f := xs) (nx := 1016) (i := i134) rfl hx hi hL ?_
                                                          obtain ⟨x137, M135, N136, hc, h⟩ := h
                                                          refine x_vi (y := 163) (n := 1) (ci := 10) (nx := 1019) rfl (fun _ => rfl) sh_0 rfl hc ?_
                                                          refine x_st rfl ?_
                                                          refine x_st rfl ?_
                                                          refine x_st rfl ?_
                                                          refine x_st rfl ?_
                                                          refine x_st rfl ?_
                                                          obtain ⟨i138, hx, hi, h⟩ := h
                                                          refine x_tl (j := 0) (N := L) (f := xs) (nx := 1025) (i := i138) rfl hx hi hL ?_
                                                          obtain ⟨x141, M139, N140, hc, h⟩ := h
                                                          refine x_vi (y := 246) (n := 1) (ci := 11) (nx := 1028) rfl (fun _ => rfl) sh_46 rfl hc ?_
                                                          refine x_br rfl (fun c => ?_) (fun c => ?_)
                                                          · replace h := h.1 c
                                                            refine x_st rfl ?_
                                                            refine x_st rfl ?_
                                                            refine x_kl ?_ h
                                                            exact ⟨Or.inr rfl, ⟨Or.inr rfl, ⟨Or.inr rfl, ⟨Or.inr rfl, True.intro⟩⟩⟩⟩
                                                          · replace h := h.2 c
                                                            refine x_st rfl ?_
                                                            refine x_ret rfl ?_
                                                            exact ⟨_, _, rfl, h⟩
                                                        · replace h := h.2 c
                                                          refine ⟨fun c => ?_, fun c => ?_⟩
                                                          · replace h := h.1 c
                                                            refine x_st rfl ?_
                                                            obtain ⟨x130, M128, N129, hc, h⟩ := h
                                                            refine x_vi (y := 164) (n := 0) (ci := 10) (nx := 1037) rfl (fun _ => rfl) sh_0 rfl hc ?_
                                                            refine x_st rfl ?_
                                                            obtain ⟨x133, M131, N132, hc, h⟩ := h
                                                            refine x_vi (y := 247) (n := 0) (ci := 11) (nx := 1041) rfl (fun _ => rfl) sh_46 rfl hc ?_
                                                            refine x_br rfl (fun c => ?_) (fun c => ?_)
                                                            · replace h := h.1 c
                                                              refine x_st rfl ?_
                                                              refine x_st rfl ?_
                                                              refine x_kl ?_ h
                                                              exact ⟨Or.inr rfl, ⟨Or.inr rfl, ⟨Or.inr rfl, ⟨Or.inr rfl, True.intro⟩⟩⟩⟩
                                                            · replace h := h.2 c
                                                              refine x_st rfl ?_
                                                              refine x_ret rfl ?_
                                                              exact ⟨_, _, rfl, h⟩
                                                          · replace h := h.2 c
                                                            refine ⟨fun c => ?_, fun c => ?_⟩
                                                            · replace h := h.1 c
                                                              refine x_st rfl ?_
                                                              obtain ⟨x124, M122, N123, hc, h⟩ := h
                                                              refine x_vi (y := 165) (n := 0) (ci := 10) (nx := 1050) rfl (fun _ => rfl) sh_0 rfl hc ?_
                                                              refine x_st rfl ?_
                                                              obtain ⟨x127, M125, N126, hc, h⟩ := h
                                                              refine x_vi (y := 248) (n := 0) (ci := 11) (nx := 1054) rfl (fun _ => rfl) sh_46 rfl hc ?_
                                                              refine x_br rfl (fun c => ?_) (fun c => ?_)
                                                              · replace h := h.1 c
                                                                refine x_st rfl ?_
                                                                refine x_st rfl ?_
                                                                refine x_kl ?_ h
                                                                exact ⟨Or.inr rfl, ⟨Or.inr rfl, ⟨Or.inr rfl, ⟨Or.inr rfl, True.intro⟩⟩⟩⟩
                                                              · replace h := h.2 c
                                                                refine x_st rfl ?_
                                                                refine x_ret rfl ?_
                                                                exact ⟨_, _, rfl, h⟩
                                                            · replace h := h.2 c
                                                              refine ⟨fun c => ?_, fun c => ?_⟩
                                                              · replace h := h.1 c
                                                                refine x_st rfl ?_
                                                                obtain ⟨x118, M116, N117, hc, h⟩ := h
                                                                refine x_vi (y := 166) (n := 0) (ci := 10) (nx := 1063) rfl (fun _ => rfl) sh_0 rfl hc ?_
                                                                refine x_st rfl ?_
                                                                obtain ⟨x121, M119, N120, hc, h⟩ := h
                                                                refine x_vi (y := 181) (n := 0) (ci := 11) (nx := 1067) rfl (fun _ => rfl) sh_46 rfl hc ?_
                                                                refine x_br rfl (fun c => ?_) (fun c => ?_)
                                                                · replace h := h.1 c
                                                                  refine x_st rfl ?_
                                                                  refine x_st rfl ?_
                                                                  refine x_kl ?_ h
                                                                  exact ⟨Or.inr rfl, ⟨Or.inr rfl, ⟨Or.inr rfl, ⟨Or.inr rfl, True.intro⟩⟩⟩⟩
                                                                · replace h := h.2 c
                                                                  refine x_st rfl ?_
                                                                  refine x_ret rfl ?_
                                                                  exact ⟨_, _, rfl, h⟩
                                                              · replace h := h.2 c
                                                                refine ⟨fun c => ?_, fun c => ?_⟩
                                                                · replace h := h.1 c
                                                                  refine x_st rfl ?_
                                                                  obtain ⟨x112, M110, N111, hc, h⟩ := h
                                                                  refine x_vi (y := 167) (n := 0) (ci := 10) (nx := 1076) rfl (fun _ => rfl) sh_0 rfl hc ?_
                                                                  refine x_st rfl ?_
                                                                  obtain ⟨x115, M113, N114, hc, h⟩ := h
                                                                  refine x_vi (y := 182) (n := 0) (ci := 11) (nx := 1080) rfl (fun _ => rfl) sh_46 rfl hc ?_
                                                                  refine x_br rfl (fun c => ?_) (fun c => ?_)
                                                                  · replace h := h.1 c
                                                                    refine x_st rfl ?_
                                                                    refine x_st rfl ?_
                                                                    refine x_kl ?_ h
                                                                    exact ⟨Or.inr rfl, ⟨Or.inr rfl, ⟨Or.inr rfl, ⟨Or.inr rfl, True.intro⟩⟩⟩⟩
                                                                  · replace h := h.2 c
                                                                    refine x_st rfl ?_
                                                                    refine x_ret rfl ?_
                                                                    exact ⟨_, _, rfl, h⟩
                                                                · replace h := h.2 c
                                                                  refine ⟨fun c => ?_, fun c => ?_⟩
                                                                  · replace h := h.1 c
                                                                    refine x_st rfl ?_
                                                                    refine x_st rfl ?_
                                                                    refine x_st rfl ?_
                                                                    refine x_st rfl ?_
                                                                    refine x_st rfl ?_
                                                                    obtain ⟨i102, hx, hi, h⟩ := h
                                                                    refine x_tl (j := 0) (N := L) (f := xs) (nx := 1091) (i := i102) rfl hx hi hL ?_
                                                                    obtain ⟨x105, M103, N104, hc, h⟩ := h
                                                                    refine x_vi (y := 168) (n := 1) (ci := 10) (nx := 1094) rfl (fun _ => rfl) sh_0 rfl hc ?_
                                                                    refine x_st rfl ?_
                                                                    refine x_st rfl ?_
                                                                    refine x_st rfl ?_
                                                                    refine x_st rfl ?_
                                                                    refine x_st rfl ?_
                                                                    obtain ⟨i106, hx, hi, h⟩ := h
                                                                    refine x_tl (j := 0) (N := L) (f := xs) (nx := 1100) (i := i106) rfl hx hi hL ?_
                                                                    obtain ⟨x109, M107, N108, hc, h⟩ := h
                                                                    refine x_vi (y := 251) (n := 1) (ci := 11) (nx := 1103) rfl (fun _ => rfl) sh_46 rfl hc ?_
                                                                    refine x_br rfl (fun c => ?_) (fun c => ?_)
                                                                    · replace h := h.1 c
                                                                      refine x_st rfl ?_
                                                                      refine x_st rfl ?_
                                                                      refine x_kl ?_ h
                                                                      exact ⟨Or.inr rfl, ⟨Or.inr rfl, ⟨Or.inr rfl, ⟨Or.inr rfl, True.intro⟩⟩⟩⟩
                                                                    · replace h := h.2 c
                                                                      refine x_st rfl ?_
                                                                      refine x_ret rfl ?_
                                                                      exact ⟨_, _, rfl, h⟩
                                                                  · replace h := h.2 c
                                                                    refine ⟨fun c => ?_, fun c => ?_⟩
                                                                    · replace h := h.1 c
                                                                      refine x_st rfl ?_
                                                                      refine x_st rfl ?_
                                                                      refine x_st rfl ?_
                                                                      refine x_st rfl ?_
                                                                      refine x_st rfl ?_
                                                                      obtain ⟨i90, hx, hi, h⟩ := h
                                                                      refine x_tl (j := 0) (N := L) (f := xs) (nx := 1114) (i := i90) rfl hx hi hL ?_
                                                                      refine x_st rfl ?_
                                                                      refine x_st rfl ?_
                                                                      refine x_st rfl ?_
                                                                      refine x_st rfl ?_
                                                                      obtain ⟨i91, hx, hi, h⟩ := h
                                                                      refine x_tl (j := 0) (N := L) (f := xs) (nx := 1119) (i := i91) rfl hx hi hL ?_
                                                                      refine x_st rfl ?_
                                                                      refine x_st rfl ?_
                                                                      refine x_st rfl ?_
                                                                      refine x_st rfl ?_
                                                                      obtain ⟨i92, hx, hi, h⟩ := h
                                                                      refine x_tl (j := 0) (N := L) (f := xs) (nx := 1124) (i := i92) rfl hx hi hL ?_
                                                                      obtain ⟨x95, M93, N94, hc, h⟩ := h
                                                                      refine x_vi (y := 169) (n := 3) (ci := 10) (nx := 1127) rfl (fun _ => rfl) sh_0 rfl hc ?_
                                                                      refine x_st rfl ?_
                                                                      refine x_st rfl ?_
                                                                      refine x_st rfl ?_
                                                                      refine x_st rfl ?_
                                                                      refine x_st rfl ?_
                                                                      obtain ⟨i96, hx, hi, h⟩ := h
                                                                      refine x_tl (j := 0) (N := L) (f := xs) (nx := 1133) (i := i96) rfl hx hi hL ?_
                                                                      refine x_st rfl ?_
                                                                      refine x_st rfl ?_
                                                                      refine x_st rfl ?_
                                                                      refine x_st rfl ?_
                                                                      obtain ⟨i97, hx, hi, h⟩ := h
                                                                      refine x_tl (j := 0) (N := L) (f := xs) (nx := 1138) (i := i97) rfl hx hi hL ?_
                                                                      refine x_st rfl ?_
                                                                      refine x_st rfl ?_
                                                                      refine x_st rfl ?_
                                                                      refine x_st rfl ?_
                                                                      obtain ⟨i98, hx, hi, h⟩ := h
                                                                      refine x_tl (j := 0) (N := L) (f := xs) (nx := 1143) (i := i98) rfl hx hi hL ?_
                                                                      obtain ⟨x101, M99, N100, hc, h⟩ := h
                                                                      refine x_vi (y := 258) (n := 3) (ci := 11) (nx := 1146) rfl (fun _ => rfl) sh_46 rfl hc ?_
                                                                      refine x_br rfl (fun c => ?_) (fun c => ?_)
                                                                      · replace h := h.1 c
                                                                        refine x_st rfl ?_
                                                                        refine x_st rfl ?_
                                                                        refine x_kl ?_ h
                                                                        exact ⟨Or.inr rfl, ⟨Or.inr rfl, ⟨Or.inr rfl, ⟨Or.inr rfl, True.intro⟩⟩⟩⟩
                                                                      · replace h := h.2 c
                                                                        refine x_st rfl ?_
                                                                        refine x_ret rfl ?_
                                                                        exact ⟨_, _, rfl, h⟩
                                                                    · replace h := h.2 c
                                                                      refine ⟨fun c => ?_, fun c => ?_⟩
                                                                      · replace h := h.1 c
                                                                        refine x_st rfl ?_
                                                                        refine x_st rfl ?_
                                                                        refine x_st rfl ?_
                                                                        refine x_st rfl ?_
                                                                        refine x_st rfl ?_
                                                                        obtain ⟨i82, hx, hi, h⟩ := h
                                                                        refine x_tl (j := 0) (N := L) (f := xs) (nx := 1157) (i := i82) rfl hx hi hL ?_
                                                                        obtain ⟨x85, M83, N84, hc, h⟩ := h
                                                                        refine x_vi (y := 170) (n := 1) (ci := 10) (nx := 1160) rfl (fun _ => rfl) sh_0 rfl hc ?_
                                                                        refine x_st rfl ?_
                                                                        refine x_st rfl ?_
                                                                        refine x_st rfl ?_
                                                                        refine x_st rfl ?_
                                                                        refine x_st rfl ?_
                                                                        obtain ⟨i86, hx, hi, h⟩ := h
                                                                        refine x_tl (j := 0) (N := L) (f := xs) (nx := 1166) (i := i86) rfl hx hi hL ?_
                                                                        obtain ⟨x89, M87, N88, hc, h⟩ := h
                                                                        refine x_vi (y := 259) (n := 1) (ci := 11) (nx := 1169) rfl (fun _ => rfl) sh_46 rfl hc ?_
                                                                        refine x_br rfl (fun c => ?_) (fun c => ?_)
                                                                        · replace h := h.1 c
                                                                          refine x_st rfl ?_
                                                                          refine x_st rfl ?_
                                                                          refine x_kl ?_ h
                                                                          exact ⟨Or.inr rfl, ⟨Or.inr rfl, ⟨Or.inr rfl, ⟨Or.inr rfl, True.intro⟩⟩⟩⟩
                                                                        · replace h := h.2 c
                                                                          refine x_st rfl ?_
                                                                          refine x_ret rfl ?_
                                                                          exact ⟨_, _, rfl, h⟩
                                                                      · replace h := h.2 c
                                                                        refine ⟨fun c => ?_, fun c => ?_⟩
                                                                        · replace h := h.1 c
                                                                          refine x_st rfl ?_
                                                                          refine x_st rfl ?_
                                                                          refine x_st rfl ?_
                                                                          refine x_st rfl ?_
                                                                          refine x_st rfl ?_
                                                                          obtain ⟨i72, hx, hi, h⟩ := h
                                                                          refine x_tl (j := 0) (N := L) (f := xs) (nx := 1180) (i := i72) rfl hx hi hL ?_
                                                                          refine x_st rfl ?_
                                                                          refine x_st rfl ?_
                                                                          refine x_st rfl ?_
                                                                          refine x_st rfl ?_
                                                                          obtain ⟨i73, hx, hi, h⟩ := h
                                                                          refine x_tl (j := 0) (N := L) (f := xs) (nx := 1185) (i := i73) rfl hx hi hL ?_
                                                                          obtain ⟨x76, M74, N75, hc, h⟩ := h
                                                                          refine x_vi (y := 171) (n := 2) (ci := 10) (nx := 1188) rfl (fun _ => rfl) sh_0 rfl hc ?_
                                                                          refine x_st rfl ?_
                                                                          refine x_st rfl ?_
                                                                          refine x_st rfl ?_
                                                                          refine x_st rfl ?_
                                                                          refine x_st rfl ?_
                                                                          obtain ⟨i77, hx, hi, h⟩ := h
                                                                          refine x_tl (j := 0) (N := L) (f := xs) (nx := 1194) (i := i77) rfl hx hi hL ?_
                                                                          refine x_st rfl ?_
                                                                          refine x_st rfl ?_
                                                                          refine x_st rfl ?_
                                                                          refine x_st rfl ?_
                                                                          obtain ⟨i78, hx, hi, h⟩ := h
                                                                          refine x_tl (j := 0) (N := L) (f := xs) (nx := 1199) (i := i78) rfl hx hi hL ?_
                                                                          obtain ⟨x81, M79, N80, hc, h⟩ := h
                                                                          refine x_vi (y := 261) (n := 2) (ci := 11) (nx := 1202) rfl (fun _ => rfl) sh_46 rfl hc ?_
                                                                          refine x_br rfl (fun c => ?_) (fun c => ?_)
                                                                          · replace h := h.1 c
                                                                            refine x_st rfl ?_
                                                                            refine x_st rfl ?_
                                                                            refine x_kl ?_ h
                                                                            exact ⟨Or.inr rfl, ⟨Or.inr rfl, ⟨Or.inr rfl, ⟨Or.inr rfl, True.intro⟩⟩⟩⟩
                                                                          · replace h := h.2 c
                                                                            refine x_st rfl ?_
                                                                            refine x_ret rfl ?_
                                                                            exact ⟨_, _, rfl, h⟩
                                                                        · replace h := h.2 c
                                                                          refine ⟨fun c => ?_, fun c => ?_⟩
                                                                          · replace h := h.1 c
                                                                            refine x_st rfl ?_
                                                                            refine x_st rfl ?_
                                                                            refine x_st rfl ?_
                                                                            refine x_st rfl ?_
                                                                            refine x_st rfl ?_
                                                                            obtain ⟨i60, hx, hi, h⟩ := h
                                                                            refine x_tl (j := 0) (N := L) (f := xs) (nx := 1213) (i := i60) rfl hx hi hL ?_
                                                                            refine x_st rfl ?_
                                                                            refine x_st rfl ?_
                                                                            refine x_st rfl ?_
                                                                            refine x_st rfl ?_
                                                                            obtain ⟨i61, hx, hi, h⟩ := h
                                                                            refine x_tl (j := 0) (N := L) (f := xs) (nx := 1218) (i := i61) rfl hx hi hL ?_
                                                                            refine x_st rfl ?_
                                                                            refine x_st rfl ?_
                                                                            refine x_st rfl ?_
                                                                            refine x_st rfl ?_
                                                                            obtain ⟨i62, hx, hi, h⟩ := h
                                                                            refine x_tl (j := 0) (N := L) (f := xs) (nx := 1223) (i := i62) rfl hx hi hL ?_
                                                                            obtain ⟨x65, M63, N64, hc, h⟩ := h
                                                                            refine x_vi (y := 172) (n := 3) (ci := 10) (nx := 1226) rfl (fun _ => rfl) sh_0 rfl hc ?_
                                                                            refine x_st rfl ?_
                                                                            refine x_st rfl ?_
                                                                            refine x_st rfl ?_
                                                                            refine x_st rfl ?_
                                                                            refine x_st rfl ?_
                                                                            obtain ⟨i66, hx, hi, h⟩ := h
                                                                            refine x_tl (j := 0) (N := L) (f := xs) (nx := 1232) (i := i66) rfl hx hi hL ?_
                                                                            refine x_st rfl ?_
                                                                            refine x_st rfl ?_
                                                                            refine x_st rfl ?_
                                                                            refine x_st rfl ?_
                                                                            obtain ⟨i67, hx, hi, h⟩ := h
                                                                            refine x_tl (j := 0) (N := L) (f := xs) (nx := 1237) (i := i67) rfl hx hi hL ?_
                                                                            refine x_st rfl ?_
                                                                            refine x_st rfl ?_
                                                                            refine x_st rfl ?_
                                                                            refine x_st rfl ?_
                                                                            obtain ⟨i68, hx, hi, h⟩ := h
                                                                            refine x_tl (j := 0) (N := L) (f := xs) (nx := 1242) (i := i68) rfl hx hi hL ?_
                                                                            obtain ⟨x71, M69, N70, hc, h⟩ := h
                                                                            refine x_vi (y := 262) (n := 3) (ci := 11) (nx := 1245) rfl (fun _ => rfl) sh_46 rfl hc ?_
                                                                            refine x_br rfl (fun c => ?_) (fun c => ?_)
                                                                            · replace h := h.1 c
                                                                              refine x_st rfl ?_
                                                                              refine x_st rfl ?_
                                                                              refine x_kl ?_ h
                                                                              exact ⟨Or.inr rfl, ⟨Or.inr rfl, ⟨Or.inr rfl, ⟨Or.inr rfl, True.intro⟩⟩⟩⟩
                                                                            · replace h := h.2 c
                                                                              refine x_st rfl ?_
                                                                              refine x_ret rfl ?_
                                                                              exact ⟨_, _, rfl, h⟩
                                                                          · replace h := h.2 c
                                                                            refine ⟨fun c => ?_, fun c => ?_⟩
                                                                            · replace h := h.1 c
                                                                              refine x_st rfl ?_
                                                                              refine x_st rfl ?_
                                                                              refine x_st rfl ?_
                                                                              refine x_st rfl ?_
                                                                              refine x_st rfl ?_
                                                                              obtain ⟨i46, hx, hi, h⟩ := h
                                                                              refine x_tl (j := 0) (N := L) (f := xs) (nx := 1256) (i := i46) rfl hx hi hL ?_
                                                                              refine x_st rfl ?_
                                                                              refine x_st rfl ?_
                                                                              refine x_st rfl ?_
                                                                              refine x_st rfl ?_
                                                                              obtain ⟨i47, hx, hi, h⟩ := h
                                                                              refine x_tl (j := 0) (N := L) (f := xs) (nx := 1261) (i := i47) rfl hx hi hL ?_
                                                                              refine x_st rfl ?_
                                                                              refine x_st rfl ?_
                                                                              refine x_st rfl ?_
                                                                              refine x_st rfl ?_
                                                                              obtain ⟨i48, hx, hi, h⟩ := h
                                                                              refine x_tl (j := 0) (N := L) (f := xs) (nx := 1266) (i := i48) rfl hx hi hL ?_
                                                                              refine x_st rfl ?_
                                                                              refine x_st rfl ?_
                                                                              refine x_st rfl ?_
                                                                              refine x_st rfl ?_
                                                                              refine x_st rfl ?_
                                                                              refine x_st rfl ?_
                                                                              refine x_st rfl ?_
                                                                              obtain ⟨i49, hx, hi, h⟩ := h
                                                                              refine x_tl (j := 0) (N := L) (f := xs) (nx := 1275) (i := i49) rfl hx hi hL ?_
                                                                              refine x_st rfl ?_
                                                                              refine x_st rfl ?_
                                                                              refine x_st rfl ?_
                                                                              refine x_st rfl ?_
                                                                              obtain ⟨x52, M50, N51, hc, h⟩ := h
                                                                              refine x_vi (y := 173) (n := 3) (ci := 10) (nx := 1284) rfl (fun _ => rfl) sh_0 rfl hc ?_
                                                                              refine x_st rfl ?_
                                                                              refine x_st rfl ?_
                                                                              refine x_st rfl ?_
                                                                              refine x_st rfl ?_
                                                                              refine x_st rfl ?_
                                                                              obtain ⟨i53, hx, hi, h⟩ := h
                                                                              refine x_tl (j := 0) (N := L) (f := xs) (nx := 1290) (i := i53) rfl hx hi hL ?_
                                                                              refine x_st rfl ?_
                                                                              refine x_st rfl ?_
                                                                              refine x_st rfl ?_
                                                                              refine x_st rfl ?_
                                                                              obtain ⟨i54, hx, hi, h⟩ := h
                                                                              refine x_tl (j := 0) (N := L) (f := xs) (nx := 1295) (i := i54) rfl hx hi hL ?_
                                                                              refine x_st rfl ?_
                                                                              refine x_st rfl ?_
                                                                              refine x_st rfl ?_
                                                                              refine x_st rfl ?_
                                                                              obtain ⟨i55, hx, hi, h⟩ := h
                                                                              refine x_tl (j := 0) (N := L) (f := xs) (nx := 1300) (i := i55) rfl hx hi hL ?_
                                                                              refine x_st rfl ?_
                                                                              refine x_st rfl ?_
                                                                              refine x_st rfl ?_
                                                                              refine x_st rfl ?_
                                                                              refine x_st rfl ?_
                                                                              refine x_st rfl ?_
                                                                              refine x_st rfl ?_
                                                                              obtain ⟨i56, hx, hi, h⟩ := h
                                                                              refine x_tl (j := 0) (N := L) (f := xs) (nx := 1309) (i := i56) rfl hx hi hL ?_
                                                                              refine x_st rfl ?_
                                                                              refine x_st rfl ?_
                                                                              refine x_st rfl ?_
                                                                              refine x_st rfl ?_
                                                                              obtain ⟨x59, M57, N58, hc, h⟩ := h
                                                                              refine x_vi (y := 265) (n := 3) (ci := 11) (nx := 1318) rfl (fun _ => rfl) sh_46 rfl hc ?_
                                                                              refine x_br rfl (fun c => ?_) (fun c => ?_)
                                                                              · replace h := h.1 c
                                                                                refine x_st rfl ?_
                                                                                refine x_st rfl ?_
                                                                                refine x_kl ?_ h
                                                                                exact ⟨Or.inr rfl, ⟨Or.inr rfl, ⟨Or.inr rfl, ⟨Or.inr rfl, True.intro⟩⟩⟩⟩
                                                                              · replace h := h.2 c
                                                                                refine x_st rfl ?_
                                                                                refine x_ret rfl ?_
                                                                                exact ⟨_, _, rfl, h⟩
                                                                            · replace h := h.2 c
                                                                              refine ⟨fun c => ?_, fun c => ?_⟩
                                                                              · replace h := h.1 c
                                                                                refine x_st rfl ?_
                                                                                refine x_st rfl ?_
                                                                                refine x_st rfl ?_
                                                                                refine x_st rfl ?_
                                                                                refine x_st rfl ?_
                                                                                obtain ⟨i36, hx, hi, h⟩ := h
                                                                                refine x_tl (j := 0) (N := L) (f := xs) (nx := 1329) (i := i36) rfl hx hi hL ?_
                                                                                refine x_st rfl ?_
                                                                                refine x_st rfl ?_
                                                                                refine x_st rfl ?_
                                                                                refine x_st rfl ?_
                                                                                obtain ⟨i37, hx, hi, h⟩ := h
                                                                                refine x_tl (j := 0) (N := L) (f := xs) (nx := 1334) (i := i37) rfl hx hi hL ?_
                                                                                obtain ⟨x40, M38, N39, hc, h⟩ := h
                                                                                refine x_vi (y := 174) (n := 2) (ci := 10) (nx := 1337) rfl (fun _ => rfl) sh_0 rfl hc ?_
                                                                                refine x_st rfl ?_
                                                                                refine x_st rfl ?_
                                                                                refine x_st rfl ?_
                                                                                refine x_st rfl ?_
                                                                                refine x_st rfl ?_
                                                                                obtain ⟨i41, hx, hi, h⟩ := h
                                                                                refine x_tl (j := 0) (N := L) (f := xs) (nx := 1343) (i := i41) rfl hx hi hL ?_
                                                                                refine x_st rfl ?_
                                                                                refine x_st rfl ?_
                                                                                refine x_st rfl ?_
                                                                                refine x_st rfl ?_
                                                                                obtain ⟨i42, hx, hi, h⟩ := h
                                                                                refine x_tl (j := 0) (N := L) (f := xs) (nx := 1348) (i := i42) rfl hx hi hL ?_
                                                                                obtain ⟨x45, M43, N44, hc, h⟩ := h
                                                                                refine x_vi (y := 266) (n := 2) (ci := 11) (nx := 1351) rfl (fun _ => rfl) sh_46 rfl hc ?_
                                                                                refine x_st rfl ?_
                                                                                refine x_br rfl (fun c => ?_) (fun c => ?_)
                                                                                · replace h := h.1 c
                                                                                  refine x_st rfl ?_
                                                                                  refine x_st rfl ?_
                                                                                  refine x_kl ?_ h
                                                                                  exact ⟨Or.inr rfl, ⟨Or.inr rfl, ⟨Or.inr rfl, ⟨Or.inr rfl, True.intro⟩⟩⟩⟩
                                                                                · replace h := h.2 c
                                                                                  refine x_st rfl ?_
                                                                                  refine x_ret rfl ?_
                                                                                  exact ⟨_, _, rfl, h⟩
                                                                              · replace h := h.2 c
                                                                                refine ⟨fun c => ?_, fun c => ?_⟩
                                                                                · replace h := h.1 c
                                                                                  refine x_st rfl ?_
                                                                                  refine x_st rfl ?_
                                                                                  refine x_st rfl ?_
                                                                                  refine x_st rfl ?_
                                                                                  refine x_st rfl ?_
                                                                                  obtain ⟨i20, hx, hi, h⟩ := h
                                                                                  refine x_tl (j := 0) (N := L) (f := xs) (nx := 1363) (i := i20) rfl hx hi hL ?_
                                                                                  refine x_st rfl ?_
                                                                                  refine x_st rfl ?_
                                                                                  refine x_st rfl ?_
                                                                                  refine x_st rfl ?_
                                                                                  obtain ⟨i21, hx, hi, h⟩ := h
                                                                                  refine x_tl (j := 0) (N := L) (f := xs) (nx := 1368) (i := i21) rfl hx hi hL ?_
                                                                                  refine x_st rfl ?_
                                                                                  refine x_st rfl ?_
                                                                                  refine x_st rfl ?_
                                                                                  refine x_st rfl ?_
                                                                                  obtain ⟨i22, hx, hi, h⟩ := h
                                                                                  refine x_tl (j := 0) (N := L) (f := xs) (nx := 1373) (i := i22) rfl hx hi hL ?_
                                                                                  refine x_st rfl ?_
                                                                                  refine x_st rfl ?_
                                                                                  refine x_st rfl ?_
                                                                                  refine x_st rfl ?_
                                                                                  obtain ⟨i23, hx, hi, h⟩ := h
                                                                                  refine x_tl (j := 0) (N := L) (f := xs) (nx := 1378) (i := i23) rfl hx hi hL ?_
                                                                                  refine x_st rfl ?_
                                                                                  refine x_st rfl ?_
                                                                                  refine x_st rfl ?_
                                                                                  refine x_st rfl ?_
                                                                                  obtain ⟨i24, hx, hi, h⟩ := h
                                                                                  refine x_tl (j := 0) (N := L) (f := xs) (nx := 1383) (i := i24) rfl hx hi hL ?_
                                                                                  obtain ⟨x27, M25, N26, hc, h⟩ := h
                                                                                  refine x_vi (y := 175) (n := 5) (ci := 10) (nx := 1386) rfl (fun _ => rfl) sh_0 rfl hc ?_
                                                                                  refine x_st rfl ?_
                                                                                  refine x_st rfl ?_
                                                                                  refine x_st rfl ?_
                                                                                  refine x_st rfl ?_
                                                                                  refine x_st rfl ?_
                                                                                  obtain ⟨i28, hx, hi, h⟩ := h
                                                                                  refine x_tl (j := 0) (N := L) (f := xs) (nx := 1392) (i := i28) rfl hx hi hL ?_
                                                                                  refine x_st rfl ?_
                                                                                  refine x_st rfl ?_
                                                                                  refine x_st rfl ?_
                                                                                  refine x_st rfl ?_
                                                                                  obtain ⟨i29, hx, hi, h⟩ := h
                                                                                  refine x_tl (j := 0) (N := L) (f := xs) (nx := 1397) (i := i29) rfl hx hi hL ?_
                                                                                  refine x_st rfl ?_
                                                                                  refine x_st rfl ?_
                                                                                  refine x_st rfl ?_
                                                                                  refine x_st rfl ?_
                                                                                  obtain ⟨i30, hx, hi, h⟩ := h
                                                                                  refine x_tl (j := 0) (N := L) (f := xs) (nx := 1402) (i := i30) rfl hx hi hL ?_
                                                                                  refine x_st rfl ?_
                                                                                  refine x_st rfl ?_
                                                                                  refine x_st rfl ?_
                                                                                  refine x_st rfl ?_
                                                                                  obtain ⟨i31, hx, hi, h⟩ := h
                                                                                  refine x_tl (j := 0) (N := L) (f := xs) (nx := 1407) (i := i31) rfl hx hi hL ?_
                                                                                  refine x_st rfl ?_
                                                                                  refine x_st rfl ?_
                                                                                  refine x_st rfl ?_
                                                                                  refine x_st rfl ?_
                                                                                  obtain ⟨i32, hx, hi, h⟩ := h
                                                                                  refine x_tl (j := 0) (N := L) (f := xs) (nx := 1412) (i := i32) rfl hx hi hL ?_
                                                                                  obtain ⟨x35, M33, N34, hc, h⟩ := h
                                                                                  refine x_vi (y := 267) (n := 5) (ci := 11) (nx := 1415) rfl (fun _ => rfl) sh_46 rfl hc ?_
                                                                                  refine x_br rfl (fun c => ?_) (fun c => ?_)
                                                                                  · replace h := h.1 c
                                                                                    refine x_st rfl ?_
                                                                                    refine x_st rfl ?_
                                                                                    refine x_kl ?_ h
                                                                                    exact ⟨Or.inr rfl, ⟨Or.inr rfl, ⟨Or.inr rfl, ⟨Or.inr rfl, True.intro⟩⟩⟩⟩
                                                                                  · replace h := h.2 c
                                                                                    refine x_st rfl ?_
                                                                                    refine x_ret rfl ?_
                                                                                    exact ⟨_, _, rfl, h⟩
                                                                                · replace h := h.2 c
                                                                                  refine ⟨fun c => ?_, fun c => ?_⟩
                                                                                  · replace h := h.1 c
                                                                                    refine x_st rfl ?_
                                                                                    refine x_st rfl ?_
                                                                                    refine x_st rfl ?_
                                                                                    refine x_st rfl ?_
                                                                                    refine x_st rfl ?_
                                                                                    obtain ⟨i10, hx, hi, h⟩ := h
                                                                                    refine x_tl (j := 0) (N := L) (f := xs) (nx := 1426) (i := i10) rfl hx hi hL ?_
                                                                                    refine x_st rfl ?_
                                                                                    refine x_st rfl ?_
                                                                                    refine x_st rfl ?_
                                                                                    refine x_st rfl ?_
                                                                                    obtain ⟨i11, hx, hi, h⟩ := h
                                                                                    refine x_tl (j := 0) (N := L) (f := xs) (nx := 1431) (i := i11) rfl hx hi hL ?_
                                                                                    obtain ⟨x14, M12, N13, hc, h⟩ := h
                                                                                    refine x_vi (y := 176) (n := 2) (ci := 10) (nx := 1434) rfl (fun _ => rfl) sh_0 rfl hc ?_
                                                                                    refine x_st rfl ?_
                                                                                    refine x_st rfl ?_
                                                                                    refine x_st rfl ?_
                                                                                    refine x_st rfl ?_
                                                                                    refine x_st rfl ?_
                                                                                    obtain ⟨i15, hx, hi, h⟩ := h
                                                                                    refine x_tl (j := 0) (N := L) (f := xs) (nx := 1440) (i := i15) rfl hx hi hL ?_
                                                                                    refine x_st rfl ?_
                                                                                    refine x_st rfl ?_
                                                                                    refine x_st rfl ?_
                                                                                    refine x_st rfl ?_
                                                                                    obtain ⟨i16, hx, hi, h⟩ := h
                                                                                    refine x_tl (j := 0) (N := L) (f := xs) (nx := 1445) (i := i16) rfl hx hi hL ?_
                                                                                    obtain ⟨x19, M17, N18, hc, h⟩ := h
                                                                                    refine x_vi (y := 268) (n := 2) (ci := 11) (nx := 1448) rfl (fun _ => rfl) sh_46 rfl hc ?_
                                                                                    refine x_br rfl (fun c => ?_) (fun c => ?_)
                                                                                    · replace h := h.1 c
                                                                                      refine x_st rfl ?_
                                                                                      refine x_st rfl ?_
                                                                                      refine x_kl ?_ h
                                                                                      exact ⟨Or.inr rfl, ⟨Or.inr rfl, ⟨Or.inr rfl, ⟨Or.inr rfl, True.intro⟩⟩⟩⟩
                                                                                    · replace h := h.2 c
                                                                                      refine x_st rfl ?_
                                                                                      refine x_ret rfl ?_
                                                                                      exact ⟨_, _, rfl, h⟩
                                                                                  · replace h := h.2 c
                                                                                    refine ⟨fun c => ?_, fun c => ?_⟩
                                                                                    · replace h := h.1 c
                                                                                      refine x_st rfl ?_
                                                                                      refine x_st rfl ?_
                                                                                      refine x_st rfl ?_
                                                                                      refine x_st rfl ?_
                                                                                      refine x_st rfl ?_
                                                                                      obtain ⟨i2, hx, hi, h⟩ := h
                                                                                      refine x_tl (j := 0) (N := L) (f := xs) (nx := 1459) (i := i2) rfl hx hi hL ?_
                                                                                      obtain ⟨x5, M3, N4, hc, h⟩ := h
                                                                                      refine x_vi (y := 177) (n := 1) (ci := 10) (nx := 1462) rfl (fun _ => rfl) sh_0 rfl hc ?_
                                                                                      refine x_st rfl ?_
                                                                                      refine x_st rfl ?_
                                                                                      refine x_st rfl ?_
                                                                                      refine x_st rfl ?_
                                                                                      refine x_st rfl ?_
                                                                                      obtain ⟨i6, hx, hi, h⟩ := h
                                                                                      refine x_tl (j := 0) (N := L) (f := xs) (nx := 1468) (i := i6) rfl hx hi hL ?_
                                                                                      obtain ⟨x9, M7, N8, hc, h⟩ := h
                                                                                      refine x_vi (y := 269) (n := 1) (ci := 11) (nx := 1471) rfl (fun _ => rfl) sh_46 rfl hc ?_
                                                                                      refine x_br rfl (fun c => ?_) (fun c => ?_)
                                                                                      · replace h := h.1 c
                                                                                        refine x_st rfl ?_
                                                                                        refine x_st rfl ?_
                                                                                        refine x_kl ?_ h
                                                                                        exact ⟨Or.inr rfl, ⟨Or.inr rfl, ⟨Or.inr rfl, ⟨Or.inr rfl, True.intro⟩⟩⟩⟩
                                                                                      · replace h := h.2 c
                                                                                        refine x_st rfl ?_
                                                                                        refine x_ret rfl ?_
                                                                                        exact ⟨_, _, rfl, h⟩
                                                                                    · replace h := h.2 c
                                                                                      refine x_st rfl ?_
                                                                                      refine x_st rfl ?_
                                                                                      refine x_kl ?_ h
                                                                                      exact ⟨Or.inr rfl, ⟨Or.inr rfl, ⟨Or.inr rfl, ⟨Or.inr rfl, True.intro⟩⟩⟩⟩
