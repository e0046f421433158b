/-! bodies by blocks -/
def VX11_price_0 (D : Nat) (Q : Option Value → mI → mJ → Prop)  (v1 : Int32) (v2 : Int32) (v3 : Int32) (MI : mI) (ML : mJ) : Prop := mEx D TX11_price (mqS Q) (0, [some (.ref 46), some (.int v1), some (.int v2), some (.int v3), none], [], (W0, Sh0, MI, ML))
theorem BX11_price_0 {D : Nat} {Q : Option Value → mI → mJ → Prop}  {v1 : Int32} {v2 : Int32} {v3 : Int32} {MI : mI} {ML : mJ} 
    (h : (v1 = v2 → Q (some (.int (nI 1000000))) MI ML) ∧ (¬ v1 = v2 → ∃ (x3 : Int32) (M1 : mI) (N2 : mJ), mrc D 212 [.ref 46, .int v2, .int v1] MI ML (some (.int x3)) M1 N2 ∧ ((x3 = (-1 : Int32) → Q (some (.int (nI 1000000))) M1 N2) ∧ (¬ x3 = (-1 : Int32) → ∃ (x6 : Int32) (M4 : mI) (N5 : mJ), mrc D 184 [.int v1, .int v2] M1 N2 (some (.int x6)) M4 N5 ∧ (∃ i7 : Nat, x6 = nI i7 ∧ i7 < 84 ∧ ((nI 0 ≤ (M4 61 i7) → (v3 = nI 0 → Q (some (.int (nI 1000000))) M4 N5) ∧ (¬ v3 = nI 0 → Q (some (.int ((M4 61 i7) + (nI 1)))) M4 N5)) ∧ (¬ nI 0 ≤ (M4 61 i7) → Q (some (.int (nI 0))) M4 N5))))))) :
    VX11_price_0 D Q v1 v2 v3 MI ML := by
  show mEx D TX11_price (mqS Q) (0, [some (.ref 46), some (.int v1), some (.int v2), some (.int v3), none], [], (W0, Sh0, MI, ML))
  refine x_st rfl ?_
  refine x_st rfl ?_
  refine x_br rfl (fun c => ?_) (fun c => ?_)
  · replace h := h.1 c
    refine x_st rfl ?_
    refine x_ret rfl ?_
    exact ⟨_, _, rfl, h⟩
  · replace h := h.2 c
    refine x_st rfl ?_
    refine x_st rfl ?_
    refine x_st rfl ?_
    obtain ⟨x3, M1, N2, hc, h⟩ := h
    refine x_vi (y := 212) (n := 2) (ci := 11) (nx := 11) rfl (fun _ => rfl) sh_46 rfl hc ?_
    refine x_st rfl ?_
    refine x_br rfl (fun c => ?_) (fun c => ?_)
    · replace h := h.1 c
      refine x_st rfl ?_
      refine x_ret rfl ?_
      exact ⟨_, _, rfl, h⟩
    · replace h := h.2 c
      refine x_st rfl ?_
      refine x_gr (ci := 11) (k := 24) (nx := 23) rfl sh_46 rfl ?_
      refine x_st rfl ?_
      refine x_st rfl ?_
      obtain ⟨x6, M4, N5, hc, h⟩ := h
      refine x_ci rfl hc ?_
      obtain ⟨i7, hx, hi, h⟩ := h
      refine x_ia (i := i7) (nx := 29) rfl sh_61 hx hi (by decide) ?_
      refine x_st rfl ?_
      refine x_st rfl ?_
      refine x_br rfl (fun c => ?_) (fun c => ?_)
      · replace h := h.1 c
        refine x_st rfl ?_
        refine x_br rfl (fun c => ?_) (fun c => ?_)
        · replace h := h.1 c
          refine x_st rfl ?_
          refine x_ret rfl ?_
          exact ⟨_, _, rfl, h⟩
        · replace h := h.2 c
          refine x_st rfl ?_
          refine x_st rfl ?_
          refine x_st rfl ?_
          refine x_st rfl ?_
          refine x_ret rfl ?_
          exact ⟨_, _, rfl, h⟩
      · replace h := h.2 c
        refine x_st rfl ?_
        refine x_st rfl ?_
        refine x_ret rfl ?_
        exact ⟨_, _, rfl, h⟩
theorem EX11_price {D : Nat} {Q : Option Value → mI → mJ → Prop}  {v1 : Int32} {v2 : Int32} {v3 : Int32} {MI : mI} {ML : mJ} (h : VX11_price_0 D Q v1 v2 v3 MI ML) : ∃ v MI' ML', Q v MI' ML' ∧ mrc (D + 1) 217 [.ref 46, .int v1, .int v2, .int v3] MI ML v MI' ML' := by
  refine x_en (n := 1) (T := TX11_price) rfl rfl ?_
  refine x_kl ?_ h
  exact ⟨Or.inr rfl, ⟨Or.inr rfl, ⟨Or.inr rfl, ⟨Or.inr rfl, ⟨Or.inl rfl, True.intro⟩⟩⟩⟩⟩
def VX11_leastFrom_0 (D : Nat) (Q : Option Value → mI → mJ → Prop)  (v1 : Int32) (v2 : Int32) (v3 : Int32) (v4 : Int32) (MI : mI) (ML : mJ) : Prop := mEx D TX11_leastFrom (mqS Q) (0, [some (.ref 46), some (.int v1), some (.int v2), some (.int v3), some (.int v4), none, none, none], [], (W0, Sh0, MI, ML))
def VX11_leastFrom_55 (D : Nat) (Q : Option Value → mI → mJ → Prop)  (v1 : Int32) (v2 : Int32) (v3 : Int32) (v4 : Int32) (v5 : Int32) (v6 : Int32) (MI : mI) (ML : mJ) : Prop := mEx D TX11_leastFrom (mqS Q) (55, [some (.ref 46), some (.int v1), some (.int v2), some (.int v3), some (.int v4), some (.int v5), some (.int v6), none], [], (W0, Sh0, MI, ML))
theorem BX11_leastFrom_0 {D : Nat} {Q : Option Value → mI → mJ → Prop}  {v1 : Int32} {v2 : Int32} {v3 : Int32} {v4 : Int32} {MI : mI} {ML : mJ} 
    (h : (v1 = (MI 46 6) → Q (some (.int (nI 0))) MI ML) ∧ (¬ v1 = (MI 46 6) → ∃ i1 : Nat, ((v1 <<< ((nI 8) &&& 31)) + v2) = nI i1 ∧ i1 < 2048 ∧ (((MI 66 i1) = (-1 : Int32) → ∃ (x4 : Int32) (M2 : mI) (N3 : mJ), mrc D 218 [.ref 46, .int (v1 + (nI 1)), .int v2, .int v3, .int v4] MI ML (some (.int x4)) M2 N3 ∧ (VX11_leastFrom_55 D Q v1 v2 v3 v4 (v3 + x4) (nI 0) M2 N3)) ∧ (¬ (MI 66 i1) = (-1 : Int32) → ∃ i5 : Nat, ((v1 <<< ((nI 8) &&& 31)) + v2) = nI i5 ∧ i5 < 2048 ∧ (Q (some (.int (MI 66 i5))) MI ML))))) :
    VX11_leastFrom_0 D Q v1 v2 v3 v4 MI ML := by
  show mEx D TX11_leastFrom (mqS Q) (0, [some (.ref 46), some (.int v1), some (.int v2), some (.int v3), some (.int v4), none, none, none], [], (W0, Sh0, MI, ML))
  refine x_st rfl ?_
  refine x_st rfl ?_
  refine x_gi (ci := 11) (k := 6) (nx := 5) rfl sh_46 rfl ?_
  refine x_br rfl (fun c => ?_) (fun c => ?_)
  · replace h := h.1 c
    refine x_st rfl ?_
    refine x_ret rfl ?_
    exact ⟨_, _, rfl, h⟩
  · replace h := h.2 c
    refine x_st rfl ?_
    refine x_gr (ci := 11) (k := 31) (nx := 14) rfl sh_46 rfl ?_
    refine x_st rfl ?_
    refine x_st rfl ?_
    refine x_st rfl ?_
    refine x_st rfl ?_
    refine x_st rfl ?_
    obtain ⟨i1, hx, hi, h⟩ := h
    refine x_ia (i := i1) (nx := 21) rfl sh_66 hx hi (by decide) ?_
    refine x_st rfl ?_
    refine x_br rfl (fun c => ?_) (fun c => ?_)
    · replace h := h.1 c
      refine x_st rfl ?_
      refine x_st rfl ?_
      refine x_st rfl ?_
      refine x_st rfl ?_
      refine x_st rfl ?_
      refine x_st rfl ?_
      refine x_st rfl ?_
      refine x_st rfl ?_
      obtain ⟨x4, M2, N3, hc, h⟩ := h
      refine x_vi (y := 218) (n := 4) (ci := 11) (nx := 49) rfl (fun _ => rfl) sh_46 rfl hc ?_
      refine x_st rfl ?_
      refine x_st rfl ?_
      refine x_st rfl ?_
      refine x_st rfl ?_
      refine x_kl ?_ h
      exact ⟨Or.inr rfl, ⟨Or.inr rfl, ⟨Or.inr rfl, ⟨Or.inr rfl, ⟨Or.inr rfl, ⟨Or.inr rfl, ⟨Or.inr rfl, ⟨Or.inl rfl, True.intro⟩⟩⟩⟩⟩⟩⟩⟩
    · replace h := h.2 c
      refine x_st rfl ?_
      refine x_gr (ci := 11) (k := 31) (nx := 29) rfl sh_46 rfl ?_
      refine x_st rfl ?_
      refine x_st rfl ?_
      refine x_st rfl ?_
      refine x_st rfl ?_
      refine x_st rfl ?_
      obtain ⟨i5, hx, hi, h⟩ := h
      refine x_ia (i := i5) (nx := 36) rfl sh_66 hx hi (by decide) ?_
      refine x_ret rfl ?_
      exact ⟨_, _, rfl, h⟩
theorem BX11_leastFrom_55 {D : Nat} {Q : Option Value → mI → mJ → Prop}  {v1 : Int32} {v2 : Int32} {v3 : Int32} {v4 : Int32} {v5 : Int32} {v6 : Int32} {MI : mI} {ML : mJ} 
    (h : ((MI 46 6) ≤ v6 → ∃ i1 : Nat, ((v1 <<< ((nI 8) &&& 31)) + v2) = nI i1 ∧ i1 < 2048 ∧ (∃ i2 : Nat, ((v1 <<< ((nI 8) &&& 31)) + v2) = nI i2 ∧ i2 < 2048 ∧ (Q (some (.int ((mup MI 66 (mput (MI 66) i1 (if (nI 1000000) < v5 then (nI 1000000) else v5))) 66 i2))) (mup MI 66 (mput (MI 66) i1 (if (nI 1000000) < v5 then (nI 1000000) else v5))) ML))) ∧ (¬ (MI 46 6) ≤ v6 → ∃ (x5 : Int32) (M3 : mI) (N4 : mJ), mrc D 217 [.ref 46, .int v6, .int v1, .int v4] MI ML (some (.int x5)) M3 N4 ∧ ((((v2 >>> (v6 &&& 31)) &&& (nI 1)) = (nI 1) → ((nI 1000000) ≤ x5 → VX11_leastFrom_55 D Q v1 v2 v3 v4 v5 (v6 + (nI 1)) M3 N4) ∧ (¬ (nI 1000000) ≤ x5 → ∃ (x8 : Int32) (M6 : mI) (N7 : mJ), mrc D 218 [.ref 46, .int (v1 + (nI 1)), .int (v2 &&& (((nI 1) <<< (v6 &&& 31)) ^^^ (-1 : Int32))), .int v3, .int v4] M3 N4 (some (.int x8)) M6 N7 ∧ (VX11_leastFrom_55 D Q v1 v2 v3 v4 (if (x5 + x8) < v5 then (x5 + x8) else v5) (v6 + (nI 1)) M6 N7))) ∧ (¬ ((v2 >>> (v6 &&& 31)) &&& (nI 1)) = (nI 1) → VX11_leastFrom_55 D Q v1 v2 v3 v4 v5 (v6 + (nI 1)) M3 N4)))) :
    VX11_leastFrom_55 D Q v1 v2 v3 v4 v5 v6 MI ML := by
  show mEx D TX11_leastFrom (mqS Q) (55, [some (.ref 46), some (.int v1), some (.int v2), some (.int v3), some (.int v4), some (.int v5), some (.int v6), none], [], (W0, Sh0, MI, ML))
  refine x_st rfl ?_
  refine x_st rfl ?_
  refine x_gi (ci := 11) (k := 6) (nx := 61) rfl sh_46 rfl ?_
  refine x_br rfl (fun c => ?_) (fun c => ?_)
  · replace h := h.1 c
    refine x_st rfl ?_
    refine x_gr (ci := 11) (k := 31) (nx := 131) rfl sh_46 rfl ?_
    refine x_st rfl ?_
    refine x_st rfl ?_
    refine x_st rfl ?_
    refine x_st rfl ?_
    refine x_st rfl ?_
    refine x_st rfl ?_
    refine x_st rfl ?_
    refine x_st rfl ?_
    obtain ⟨i1, hx, hi, h⟩ := h
    refine x_iast (i := i1) (nx := 146) rfl sh_66 hx hi (by decide) ?_
    refine x_st rfl ?_
    refine x_gr (ci := 11) (k := 31) (nx := 150) rfl sh_46 rfl ?_
    refine x_st rfl ?_
    refine x_st rfl ?_
    refine x_st rfl ?_
    refine x_st rfl ?_
    refine x_st rfl ?_
    obtain ⟨i2, hx, hi, h⟩ := h
    refine x_ia (i := i2) (nx := 157) rfl sh_66 hx hi (by decide) ?_
    refine x_ret rfl ?_
    exact ⟨_, _, rfl, h⟩
  · replace h := h.2 c
    refine x_st rfl ?_
    refine x_st rfl ?_
    refine x_st rfl ?_
    refine x_st rfl ?_
    obtain ⟨x5, M3, N4, hc, h⟩ := h
    refine x_vi (y := 217) (n := 3) (ci := 11) (nx := 73) rfl (fun _ => rfl) sh_46 rfl hc ?_
    refine x_st rfl ?_
    refine x_st rfl ?_
    refine x_st rfl ?_
    refine x_st rfl ?_
    refine x_st rfl ?_
    refine x_st rfl ?_
    refine x_st rfl ?_
    refine x_br rfl (fun c => ?_) (fun c => ?_)
    · replace h := h.1 c
      refine x_st rfl ?_
      refine x_st rfl ?_
      refine x_br rfl (fun c => ?_) (fun c => ?_)
      · replace h := h.1 c
        refine x_st rfl ?_
        refine x_st rfl ?_
        refine x_kl ?_ h
        exact ⟨Or.inr rfl, ⟨Or.inr rfl, ⟨Or.inr rfl, ⟨Or.inr rfl, ⟨Or.inr rfl, ⟨Or.inr rfl, ⟨Or.inr rfl, ⟨Or.inl rfl, True.intro⟩⟩⟩⟩⟩⟩⟩⟩
      · replace h := h.2 c
        refine x_st rfl ?_
        refine x_st rfl ?_
        refine x_st rfl ?_
        refine x_st rfl ?_
        refine x_st rfl ?_
        refine x_st rfl ?_
        refine x_st rfl ?_
        refine x_st rfl ?_
        refine x_st rfl ?_
        refine x_st rfl ?_
        refine x_st rfl ?_
        refine x_st rfl ?_
        refine x_st rfl ?_
        refine x_st rfl ?_
        refine x_st rfl ?_
        obtain ⟨x8, M6, N7, hc, h⟩ := h
        refine x_vi (y := 218) (n := 4) (ci := 11) (nx := 115) rfl (fun _ => rfl) sh_46 rfl hc ?_
        refine x_st rfl ?_
        refine x_st rfl ?_
        refine x_st rfl ?_
        refine x_st rfl ?_
        refine x_st rfl ?_
        refine x_kl ?_ h
        exact ⟨Or.inr rfl, ⟨Or.inr rfl, ⟨Or.inr rfl, ⟨Or.inr rfl, ⟨Or.inr rfl, ⟨Or.inr rfl, ⟨Or.inr rfl, ⟨Or.inl rfl, True.intro⟩⟩⟩⟩⟩⟩⟩⟩
    · replace h := h.2 c
      refine x_st rfl ?_
      refine x_st rfl ?_
      refine x_kl ?_ h
      exact ⟨Or.inr rfl, ⟨Or.inr rfl, ⟨Or.inr rfl, ⟨Or.inr rfl, ⟨Or.inr rfl, ⟨Or.inr rfl, ⟨Or.inr rfl, ⟨Or.inl rfl, True.intro⟩⟩⟩⟩⟩⟩⟩⟩
theorem EX11_leastFrom {D : Nat} {Q : Option Value → mI → mJ → Prop}  {v1 : Int32} {v2 : Int32} {v3 : Int32} {v4 : Int32} {MI : mI} {ML : mJ} (h : VX11_leastFrom_0 D Q v1 v2 v3 v4 MI ML) : ∃ v MI' ML', Q v MI' ML' ∧ mrc (D + 1) 218 [.ref 46, .int v1, .int v2, .int v3, .int v4] MI ML v MI' ML' := by
  refine x_en (n := 3) (T := TX11_leastFrom) rfl rfl ?_
  refine x_kl ?_ h
  exact ⟨Or.inr rfl, ⟨Or.inr rfl, ⟨Or.inr rfl, ⟨Or.inr rfl, ⟨Or.inr rfl, ⟨Or.inl rfl, ⟨Or.inl rfl, ⟨Or.inl rfl, True.intro⟩⟩⟩⟩⟩⟩⟩⟩
def VX11_planned_0 (D : Nat) (Q : Option Value → mI → mJ → Prop)  (v1 : Int32) (v2 : Int32) (MI : mI) (ML : mJ) : Prop := mEx D TX11_planned (mqS Q) (0, [some (.ref 46), some (.int v1), some (.int v2), none, none, none, none, none, none], [], (W0, Sh0, MI, ML))
def VX11_planned_2 (D : Nat) (Q : Option Value → mI → mJ → Prop)  (v1 : Int32) (v2 : Int32) (v3 : Int32) (MI : mI) (ML : mJ) : Prop := mEx D TX11_planned (mqS Q) (2, [some (.ref 46), some (.int v1), some (.int v2), some (.int v3), none, none, none, none, none], [], (W0, Sh0, MI, ML))
def VX11_planned_50 (D : Nat) (Q : Option Value → mI → mJ → Prop)  (v1 : Int32) (v2 : Int32) (v3 : Int32) (v4 : Int32) (v5 : Int32) (v6 : Int32) (MI : mI) (ML : mJ) : Prop := mEx D TX11_planned (mqS Q) (50, [some (.ref 46), some (.int v1), some (.int v2), some (.int v3), some (.int v4), some (.int v5), some (.int v6), none, none], [], (W0, Sh0, MI, ML))
def VX11_planned_79 (D : Nat) (Q : Option Value → mI → mJ → Prop)  (v1 : Int32) (v2 : Int32) (v3 : Int32) (v4 : Int32) (v5 : Int32) (v6 : Int32) (v7 : Int32) (MI : mI) (ML : mJ) : Prop := mEx D TX11_planned (mqS Q) (79, [some (.ref 46), some (.int v1), some (.int v2), some (.int v3), some (.int v4), some (.int v5), some (.int v6), some (.int v7), none], [], (W0, Sh0, MI, ML))
def VX11_planned_186 (D : Nat) (Q : Option Value → mI → mJ → Prop)  (v1 : Int32) (v2 : Int32) (v3 : Int32) (v4 : Int32) (v5 : Int32) (v6 : Int32) (MI : mI) (ML : mJ) : Prop := mEx D TX11_planned (mqS Q) (186, [some (.ref 46), some (.int v1), some (.int v2), some (.int v3), some (.int v4), some (.int v5), some (.int v6), none, none], [], (W0, Sh0, MI, ML))
theorem BX11_planned_0 {D : Nat} {Q : Option Value → mI → mJ → Prop}  {v1 : Int32} {v2 : Int32} {MI : mI} {ML : mJ} 
    (h : VX11_planned_2 D Q v1 v2 (nI 0) MI ML) :
    VX11_planned_0 D Q v1 v2 MI ML := by
  show mEx D TX11_planned (mqS Q) (0, [some (.ref 46), some (.int v1), some (.int v2), none, none, none, none, none, none], [], (W0, Sh0, MI, ML))
  refine x_st rfl ?_
  refine x_st rfl ?_
  refine x_kl ?_ h
  exact ⟨Or.inr rfl, ⟨Or.inr rfl, ⟨Or.inr rfl, ⟨Or.inr rfl, ⟨Or.inl rfl, ⟨Or.inl rfl, ⟨Or.inl rfl, ⟨Or.inl rfl, ⟨Or.inl rfl, True.intro⟩⟩⟩⟩⟩⟩⟩⟩⟩
theorem BX11_planned_2 {D : Nat} {Q : Option Value → mI → mJ → Prop}  {v1 : Int32} {v2 : Int32} {v3 : Int32} {MI : mI} {ML : mJ} 
    (h : ((nI 2048) ≤ v3 → ∃ (x3 : Int32) (M1 : mI) (N2 : mJ), mrc D 218 [.ref 46, .int (nI 0), .int (((nI 1) <<< ((MI 46 6) &&& 31)) - (nI 1)), .int v1, .int v2] MI ML (some (.int x3)) M1 N2 ∧ (VX11_planned_50 D Q v1 v2 (((nI 1) <<< ((MI 46 6) &&& 31)) - (nI 1)) x3 x3 (nI 0) M1 N2)) ∧ (¬ (nI 2048) ≤ v3 → ∃ i4 : Nat, v3 = nI i4 ∧ i4 < 2048 ∧ (VX11_planned_2 D Q v1 v2 (v3 + (nI 1)) (mup MI 66 (mput (MI 66) i4 (-1 : Int32))) ML))) :
    VX11_planned_2 D Q v1 v2 v3 MI ML := by
  show mEx D TX11_planned (mqS Q) (2, [some (.ref 46), some (.int v1), some (.int v2), some (.int v3), none, none, none, none, none], [], (W0, Sh0, MI, ML))
  refine x_st rfl ?_
  refine x_st rfl ?_
  refine x_gr (ci := 11) (k := 31) (nx := 7) rfl sh_46 rfl ?_
  refine x_alen (nx := 8) rfl sh_66 ?_
  refine x_br rfl (fun c => ?_) (fun c => ?_)
  · replace h := h.1 c
    refine x_st rfl ?_
    refine x_st rfl ?_
    refine x_gi (ci := 11) (k := 6) (nx := 29) rfl sh_46 rfl ?_
    refine x_st rfl ?_
    refine x_st rfl ?_
    refine x_st rfl ?_
    refine x_st rfl ?_
    refine x_st rfl ?_
    refine x_st rfl ?_
    refine x_st rfl ?_
    refine x_st rfl ?_
    refine x_st rfl ?_
    obtain ⟨x3, M1, N2, hc, h⟩ := h
    refine x_vi (y := 218) (n := 4) (ci := 11) (nx := 41) rfl (fun _ => rfl) sh_46 rfl hc ?_
    refine x_st rfl ?_
    refine x_st rfl ?_
    refine x_st rfl ?_
    refine x_st rfl ?_
    refine x_st rfl ?_
    refine x_kl ?_ h
    exact ⟨Or.inr rfl, ⟨Or.inr rfl, ⟨Or.inr rfl, ⟨Or.inr rfl, ⟨Or.inr rfl, ⟨Or.inr rfl, ⟨Or.inr rfl, ⟨Or.inl rfl, ⟨Or.inl rfl, True.intro⟩⟩⟩⟩⟩⟩⟩⟩⟩
  · replace h := h.2 c
    refine x_st rfl ?_
    refine x_gr (ci := 11) (k := 31) (nx := 15) rfl sh_46 rfl ?_
    refine x_st rfl ?_
    refine x_st rfl ?_
    obtain ⟨i4, hx, hi, h⟩ := h
    refine x_iast (i := i4) (nx := 18) rfl sh_66 hx hi (by decide) ?_
    refine x_st rfl ?_
    refine x_st rfl ?_
    refine x_kl ?_ h
    exact ⟨Or.inr rfl, ⟨Or.inr rfl, ⟨Or.inr rfl, ⟨Or.inr rfl, ⟨Or.inl rfl, ⟨Or.inl rfl, ⟨Or.inl rfl, ⟨Or.inl rfl, ⟨Or.inl rfl, True.intro⟩⟩⟩⟩⟩⟩⟩⟩⟩
theorem BX11_planned_50 {D : Nat} {Q : Option Value → mI → mJ → Prop}  {v1 : Int32} {v2 : Int32} {v3 : Int32} {v4 : Int32} {v5 : Int32} {v6 : Int32} {MI : mI} {ML : mJ} 
    (h : ((MI 46 6) ≤ v6 → Q (some (.int v4)) MI ML) ∧ (¬ (MI 46 6) ≤ v6 → ((nI 1000000) ≤ v4 → Q (some (.int v4)) MI ML) ∧ (¬ (nI 1000000) ≤ v4 → ∃ i1 : Nat, v6 = nI i1 ∧ i1 < 8 ∧ (VX11_planned_79 D Q v1 v2 v3 v4 v5 v6 (nI 0) (mup MI 67 (mput (MI 67) i1 (nI 8))) ML)))) :
    VX11_planned_50 D Q v1 v2 v3 v4 v5 v6 MI ML := by
  show mEx D TX11_planned (mqS Q) (50, [some (.ref 46), some (.int v1), some (.int v2), some (.int v3), some (.int v4), some (.int v5), some (.int v6), none, none], [], (W0, Sh0, MI, ML))
  refine x_st rfl ?_
  refine x_st rfl ?_
  refine x_gi (ci := 11) (k := 6) (nx := 56) rfl sh_46 rfl ?_
  refine x_br rfl (fun c => ?_) (fun c => ?_)
  · replace h := h.1 c
    refine x_st rfl ?_
    refine x_ret rfl ?_
    exact ⟨_, _, rfl, h⟩
  · replace h := h.2 c
    refine x_st rfl ?_
    refine x_st rfl ?_
    refine x_br rfl (fun c => ?_) (fun c => ?_)
    · replace h := h.1 c
      refine x_st rfl ?_
      refine x_ret rfl ?_
      exact ⟨_, _, rfl, h⟩
    · replace h := h.2 c
      refine x_st rfl ?_
      refine x_gr (ci := 11) (k := 32) (nx := 71) rfl sh_46 rfl ?_
      refine x_st rfl ?_
      refine x_st rfl ?_
      obtain ⟨i1, hx, hi, h⟩ := h
      refine x_iast (i := i1) (nx := 76) rfl sh_67 hx hi (by decide) ?_
      refine x_st rfl ?_
      refine x_st rfl ?_
      refine x_kl ?_ h
      exact ⟨Or.inr rfl, ⟨Or.inr rfl, ⟨Or.inr rfl, ⟨Or.inr rfl, ⟨Or.inr rfl, ⟨Or.inr rfl, ⟨Or.inr rfl, ⟨Or.inr rfl, ⟨Or.inl rfl, True.intro⟩⟩⟩⟩⟩⟩⟩⟩⟩
theorem BX11_planned_79 {D : Nat} {Q : Option Value → mI → mJ → Prop}  {v1 : Int32} {v2 : Int32} {v3 : Int32} {v4 : Int32} {v5 : Int32} {v6 : Int32} {v7 : Int32} {MI : mI} {ML : mJ} 
    (h : ((MI 46 6) ≤ v7 → VX11_planned_186 D Q v1 v2 v3 v4 v5 v6 MI ML) ∧ (¬ (MI 46 6) ≤ v7 → ∃ i1 : Nat, v6 = nI i1 ∧ i1 < 8 ∧ (((MI 67 i1) = (nI 8) → ∃ (x4 : Int32) (M2 : mI) (N3 : mJ), mrc D 217 [.ref 46, .int v7, .int v6, .int v2] MI ML (some (.int x4)) M2 N3 ∧ ((((v3 >>> (v7 &&& 31)) &&& (nI 1)) = (nI 1) → ((nI 1000000) ≤ x4 → VX11_planned_79 D Q v1 v2 v3 v4 v5 v6 (v7 + (nI 1)) M2 N3) ∧ (¬ (nI 1000000) ≤ x4 → ∃ (x7 : Int32) (M5 : mI) (N6 : mJ), mrc D 218 [.ref 46, .int (v6 + (nI 1)), .int (v3 &&& (((nI 1) <<< (v7 &&& 31)) ^^^ (-1 : Int32))), .int v1, .int v2] M2 N3 (some (.int x7)) M5 N6 ∧ (((x4 + x7) = v5 → ∃ i8 : Nat, v6 = nI i8 ∧ i8 < 8 ∧ (VX11_planned_79 D Q v1 v2 (v3 &&& (((nI 1) <<< (v7 &&& 31)) ^^^ (-1 : Int32))) v4 (v5 - x4) v6 (v7 + (nI 1)) (mup M5 67 (mput (M5 67) i8 v7)) N6)) ∧ (¬ (x4 + x7) = v5 → VX11_planned_79 D Q v1 v2 v3 v4 v5 v6 (v7 + (nI 1)) M5 N6)))) ∧ (¬ ((v3 >>> (v7 &&& 31)) &&& (nI 1)) = (nI 1) → VX11_planned_79 D Q v1 v2 v3 v4 v5 v6 (v7 + (nI 1)) M2 N3))) ∧ (¬ (MI 67 i1) = (nI 8) → VX11_planned_186 D Q v1 v2 v3 v4 v5 v6 MI ML)))) :
    VX11_planned_79 D Q v1 v2 v3 v4 v5 v6 v7 MI ML := by
  show mEx D TX11_planned (mqS Q) (79, [some (.ref 46), some (.int v1), some (.int v2), some (.int v3), some (.int v4), some (.int v5), some (.int v6), some (.int v7), none], [], (W0, Sh0, MI, ML))
  refine x_st rfl ?_
  refine x_st rfl ?_
  refine x_gi (ci := 11) (k := 6) (nx := 85) rfl sh_46 rfl ?_
  refine x_br rfl (fun c => ?_) (fun c => ?_)
  · replace h := h.1 c
    refine x_kl ?_ h
    exact ⟨Or.inr rfl, ⟨Or.inr rfl, ⟨Or.inr rfl, ⟨Or.inr rfl, ⟨Or.inr rfl, ⟨Or.inr rfl, ⟨Or.inr rfl, ⟨Or.inl rfl, ⟨Or.inl rfl, True.intro⟩⟩⟩⟩⟩⟩⟩⟩⟩
  · replace h := h.2 c
    refine x_st rfl ?_
    refine x_gr (ci := 11) (k := 32) (nx := 92) rfl sh_46 rfl ?_
    refine x_st rfl ?_
    obtain ⟨i1, hx, hi, h⟩ := h
    refine x_ia (i := i1) (nx := 95) rfl sh_67 hx hi (by decide) ?_
    refine x_st rfl ?_
    refine x_br rfl (fun c => ?_) (fun c => ?_)
    · replace h := h.1 c
      refine x_st rfl ?_
      refine x_st rfl ?_
      refine x_st rfl ?_
      refine x_st rfl ?_
      obtain ⟨x4, M2, N3, hc, h⟩ := h
      refine x_vi (y := 217) (n := 3) (ci := 11) (nx := 109) rfl (fun _ => rfl) sh_46 rfl hc ?_
      refine x_st rfl ?_
      refine x_st rfl ?_
      refine x_st rfl ?_
      refine x_st rfl ?_
      refine x_st rfl ?_
      refine x_st rfl ?_
      refine x_st rfl ?_
      refine x_br rfl (fun c => ?_) (fun c => ?_)
      · replace h := h.1 c
        refine x_st rfl ?_
        refine x_st rfl ?_
        refine x_br rfl (fun c => ?_) (fun c => ?_)
        · replace h := h.1 c
          refine x_st rfl ?_
          refine x_st rfl ?_
          refine x_kl ?_ h
          exact ⟨Or.inr rfl, ⟨Or.inr rfl, ⟨Or.inr rfl, ⟨Or.inr rfl, ⟨Or.inr rfl, ⟨Or.inr rfl, ⟨Or.inr rfl, ⟨Or.inr rfl, ⟨Or.inl rfl, True.intro⟩⟩⟩⟩⟩⟩⟩⟩⟩
        · replace h := h.2 c
          refine x_st rfl ?_
          refine x_st rfl ?_
          refine x_st rfl ?_
          refine x_st rfl ?_
          refine x_st rfl ?_
          refine x_st rfl ?_
          refine x_st rfl ?_
          refine x_st rfl ?_
          refine x_st rfl ?_
          refine x_st rfl ?_
          refine x_st rfl ?_
          refine x_st rfl ?_
          refine x_st rfl ?_
          refine x_st rfl ?_
          obtain ⟨x7, M5, N6, hc, h⟩ := h
          refine x_vi (y := 218) (n := 4) (ci := 11) (nx := 149) rfl (fun _ => rfl) sh_46 rfl hc ?_
          refine x_st rfl ?_
          refine x_st rfl ?_
          refine x_br rfl (fun c => ?_) (fun c => ?_)
          · replace h := h.1 c
            refine x_st rfl ?_
            refine x_gr (ci := 11) (k := 32) (nx := 159) rfl sh_46 rfl ?_
            refine x_st rfl ?_
            refine x_st rfl ?_
            obtain ⟨i8, hx, hi, h⟩ := h
            refine x_iast (i := i8) (nx := 164) rfl sh_67 hx hi (by decide) ?_
            refine x_st rfl ?_
            refine x_st rfl ?_
            refine x_st rfl ?_
            refine x_st rfl ?_
            refine x_st rfl ?_
            refine x_st rfl ?_
            refine x_st rfl ?_
            refine x_st rfl ?_
            refine x_st rfl ?_
            refine x_st rfl ?_
            refine x_st rfl ?_
            refine x_st rfl ?_
            refine x_st rfl ?_
            refine x_st rfl ?_
            refine x_kl ?_ h
            exact ⟨Or.inr rfl, ⟨Or.inr rfl, ⟨Or.inr rfl, ⟨Or.inr rfl, ⟨Or.inr rfl, ⟨Or.inr rfl, ⟨Or.inr rfl, ⟨Or.inr rfl, ⟨Or.inl rfl, True.intro⟩⟩⟩⟩⟩⟩⟩⟩⟩
          · replace h := h.2 c
            refine x_st rfl ?_
            refine x_st rfl ?_
            refine x_kl ?_ h
            exact ⟨Or.inr rfl, ⟨Or.inr rfl, ⟨Or.inr rfl, ⟨Or.inr rfl, ⟨Or.inr rfl, ⟨Or.inr rfl, ⟨Or.inr rfl, ⟨Or.inr rfl, ⟨Or.inl rfl, True.intro⟩⟩⟩⟩⟩⟩⟩⟩⟩
      · replace h := h.2 c
        refine x_st rfl ?_
        refine x_st rfl ?_
        refine x_kl ?_ h
        exact ⟨Or.inr rfl, ⟨Or.inr rfl, ⟨Or.inr rfl, ⟨Or.inr rfl, ⟨Or.inr rfl, ⟨Or.inr rfl, ⟨Or.inr rfl, ⟨Or.inr rfl, ⟨Or.inl rfl, True.intro⟩⟩⟩⟩⟩⟩⟩⟩⟩
    · replace h := h.2 c
      refine x_kl ?_ h
      exact ⟨Or.inr rfl, ⟨Or.inr rfl, ⟨Or.inr rfl, ⟨Or.inr rfl, ⟨Or.inr rfl, ⟨Or.inr rfl, ⟨Or.inr rfl, ⟨Or.inl rfl, ⟨Or.inl rfl, True.intro⟩⟩⟩⟩⟩⟩⟩⟩⟩
theorem BX11_planned_186 {D : Nat} {Q : Option Value → mI → mJ → Prop}  {v1 : Int32} {v2 : Int32} {v3 : Int32} {v4 : Int32} {v5 : Int32} {v6 : Int32} {MI : mI} {ML : mJ} 
    (h : ∃ i1 : Nat, v6 = nI i1 ∧ i1 < 8 ∧ (((MI 67 i1) = (nI 8) → VX11_planned_50 D Q v1 v2 v3 v4 (v5 - v1) (v6 + (nI 1)) MI ML) ∧ (¬ (MI 67 i1) = (nI 8) → VX11_planned_50 D Q v1 v2 v3 v4 (v5 - (nI 0)) (v6 + (nI 1)) MI ML))) :
    VX11_planned_186 D Q v1 v2 v3 v4 v5 v6 MI ML := by
  show mEx D TX11_planned (mqS Q) (186, [some (.ref 46), some (.int v1), some (.int v2), some (.int v3), some (.int v4), some (.int v5), some (.int v6), none, none], [], (W0, Sh0, MI, ML))
  refine x_st rfl ?_
  refine x_st rfl ?_
  refine x_gr (ci := 11) (k := 32) (nx := 192) rfl sh_46 rfl ?_
  refine x_st rfl ?_
  obtain ⟨i1, hx, hi, h⟩ := h
  refine x_ia (i := i1) (nx := 195) rfl sh_67 hx hi (by decide) ?_
  refine x_st rfl ?_
  refine x_br rfl (fun c => ?_) (fun c => ?_)
  · replace h := h.1 c
    refine x_st rfl ?_
    refine x_st rfl ?_
    refine x_st rfl ?_
    refine x_st rfl ?_
    refine x_st rfl ?_
    refine x_st rfl ?_
    refine x_kl ?_ h
    exact ⟨Or.inr rfl, ⟨Or.inr rfl, ⟨Or.inr rfl, ⟨Or.inr rfl, ⟨Or.inr rfl, ⟨Or.inr rfl, ⟨Or.inr rfl, ⟨Or.inl rfl, ⟨Or.inl rfl, True.intro⟩⟩⟩⟩⟩⟩⟩⟩⟩
  · replace h := h.2 c
    refine x_st rfl ?_
    refine x_st rfl ?_
    refine x_st rfl ?_
    refine x_st rfl ?_
    refine x_st rfl ?_
    refine x_kl ?_ h
    exact ⟨Or.inr rfl, ⟨Or.inr rfl, ⟨Or.inr rfl, ⟨Or.inr rfl, ⟨Or.inr rfl, ⟨Or.inr rfl, ⟨Or.inr rfl, ⟨Or.inl rfl, ⟨Or.inl rfl, True.intro⟩⟩⟩⟩⟩⟩⟩⟩⟩
theorem EX11_planned {D : Nat} {Q : Option Value → mI → mJ → Prop}  {v1 : Int32} {v2 : Int32} {MI : mI} {ML : mJ} (h : VX11_planned_0 D Q v1 v2 MI ML) : ∃ v MI' ML', Q v MI' ML' ∧ mrc (D + 1) 219 [.ref 46, .int v1, .int v2] MI ML v MI' ML' := by
  refine x_en (n := 6) (T := TX11_planned) rfl rfl ?_
  refine x_kl ?_ h
  exact ⟨Or.inr rfl, ⟨Or.inr rfl, ⟨Or.inr rfl, ⟨Or.inl rfl, ⟨Or.inl rfl, ⟨Or.inl rfl, ⟨Or.inl rfl, ⟨Or.inl rfl, ⟨Or.inl rfl, True.intro⟩⟩⟩⟩⟩⟩⟩⟩⟩
def VX11_paired_0 (D : Nat) (Q : Option Value → mI → mJ → Prop)  (v1 : Int32) (MI : mI) (ML : mJ) : Prop := mEx D TX11_paired (mqS Q) (0, [some (.ref 46), some (.int v1), none], [], (W0, Sh0, MI, ML))
def VX11_paired_16 (D : Nat) (Q : Option Value → mI → mJ → Prop)  (v1 : Int32) (MI : mI) (ML : mJ) : Prop := mEx D TX11_paired (mqS Q) (16, [some (.ref 46), some (.int v1), none], [], (W0, Sh0, MI, ML))
theorem BX11_paired_0 {D : Nat} {Q : Option Value → mI → mJ → Prop}  {v1 : Int32} {MI : mI} {ML : mJ} 
    (h : (v1 = (-1 : Int32) → VX11_paired_16 D Q v1 MI ML) ∧ (¬ v1 = (-1 : Int32) → ∃ (x3 : Int32) (M1 : mI) (N2 : mJ), mrc D 183 [.ref 46, .long (v1).toInt64] MI ML (some (.int x3)) M1 N2 ∧ ((x3 = nI 0 → Q (some (.int (-1 : Int32))) M1 N2) ∧ (¬ x3 = nI 0 → VX11_paired_16 D Q v1 M1 N2)))) :
    VX11_paired_0 D Q v1 MI ML := by
  show mEx D TX11_paired (mqS Q) (0, [some (.ref 46), some (.int v1), none], [], (W0, Sh0, MI, ML))
  refine x_st rfl ?_
  refine x_st rfl ?_
  refine x_br rfl (fun c => ?_) (fun c => ?_)
  · replace h := h.1 c
    refine x_kl ?_ h
    exact ⟨Or.inr rfl, ⟨Or.inr rfl, ⟨Or.inl rfl, True.intro⟩⟩⟩
  · replace h := h.2 c
    refine x_st rfl ?_
    refine x_st rfl ?_
    refine x_st rfl ?_
    obtain ⟨x3, M1, N2, hc, h⟩ := h
    refine x_vi (y := 183) (n := 1) (ci := 11) (nx := 11) rfl (fun _ => rfl) sh_46 rfl hc ?_
    refine x_br rfl (fun c => ?_) (fun c => ?_)
    · replace h := h.1 c
      refine x_st rfl ?_
      refine x_ret rfl ?_
      exact ⟨_, _, rfl, h⟩
    · replace h := h.2 c
      refine x_kl ?_ h
      exact ⟨Or.inr rfl, ⟨Or.inr rfl, ⟨Or.inl rfl, True.intro⟩⟩⟩
theorem BX11_paired_16 {D : Nat} {Q : Option Value → mI → mJ → Prop}  {v1 : Int32} {MI : mI} {ML : mJ} 
    (h : ∃ (M1 : mI) (N2 : mJ), mrc D 211 [.ref 46] MI ML none M1 N2 ∧ (∃ (x5 : Int32) (M3 : mI) (N4 : mJ), mrc D 219 [.ref 46, .int (nI 1), .int (nI 0)] M1 N2 (some (.int x5)) M3 N4 ∧ ((v1 = (-1 : Int32) → Q (some (.int ((M3 46 6) - x5))) M3 N4) ∧ (¬ v1 = (-1 : Int32) → ∃ i6 : Nat, v1 = nI i6 ∧ i6 < 8 ∧ (Q (some (.int (M3 67 i6))) M3 N4))))) :
    VX11_paired_16 D Q v1 MI ML := by
  show mEx D TX11_paired (mqS Q) (16, [some (.ref 46), some (.int v1), none], [], (W0, Sh0, MI, ML))
  refine x_st rfl ?_
  obtain ⟨M1, N2, hc, h⟩ := h
  refine x_vv (y := 211) (n := 0) (ci := 11) (nx := 20) rfl (fun _ => rfl) sh_46 rfl hc ?_
  refine x_st rfl ?_
  refine x_st rfl ?_
  refine x_st rfl ?_
  obtain ⟨x5, M3, N4, hc, h⟩ := h
  refine x_vi (y := 219) (n := 2) (ci := 11) (nx := 26) rfl (fun _ => rfl) sh_46 rfl hc ?_
  refine x_st rfl ?_
  refine x_st rfl ?_
  refine x_st rfl ?_
  refine x_br rfl (fun c => ?_) (fun c => ?_)
  · replace h := h.1 c
    refine x_st rfl ?_
    refine x_gi (ci := 11) (k := 6) (nx := 36) rfl sh_46 rfl ?_
    refine x_st rfl ?_
    refine x_st rfl ?_
    refine x_st rfl ?_
    refine x_ret rfl ?_
    exact ⟨_, _, rfl, h⟩
  · replace h := h.2 c
    refine x_st rfl ?_
    refine x_gr (ci := 11) (k := 32) (nx := 45) rfl sh_46 rfl ?_
    refine x_st rfl ?_
    obtain ⟨i6, hx, hi, h⟩ := h
    refine x_ia (i := i6) (nx := 47) rfl sh_67 hx hi (by decide) ?_
    refine x_ret rfl ?_
    exact ⟨_, _, rfl, h⟩
theorem EX11_paired {D : Nat} {Q : Option Value → mI → mJ → Prop}  {v1 : Int32} {MI : mI} {ML : mJ} (h : VX11_paired_0 D Q v1 MI ML) : ∃ v MI' ML', Q v MI' ML' ∧ mrc (D + 1) 220 [.ref 46, .int v1] MI ML v MI' ML' := by
  refine x_en (n := 1) (T := TX11_paired) rfl rfl ?_
  refine x_kl ?_ h
  exact ⟨Or.inr rfl, ⟨Or.inr rfl, ⟨Or.inl rfl, True.intro⟩⟩⟩
def VX11_harm_0 (D : Nat) (Q : Option Value → mI → mJ → Prop)  (v1 : Int32) (MI : mI) (ML : mJ) : Prop := mEx D TX11_harm (mqS Q) (0, [some (.ref 46), some (.int v1), none], [], (W0, Sh0, MI, ML))
def VX11_harm_16 (D : Nat) (Q : Option Value → mI → mJ → Prop)  (v1 : Int32) (MI : mI) (ML : mJ) : Prop := mEx D TX11_harm (mqS Q) (16, [some (.ref 46), some (.int v1), none], [], (W0, Sh0, MI, ML))
theorem BX11_harm_0 {D : Nat} {Q : Option Value → mI → mJ → Prop}  {v1 : Int32} {MI : mI} {ML : mJ} 
    (h : (v1 = (-1 : Int32) → VX11_harm_16 D Q v1 MI ML) ∧ (¬ v1 = (-1 : Int32) → ∃ (x3 : Int32) (M1 : mI) (N2 : mJ), mrc D 183 [.ref 46, .long (v1).toInt64] MI ML (some (.int x3)) M1 N2 ∧ ((x3 = nI 0 → Q (some (.int (-1 : Int32))) M1 N2) ∧ (¬ x3 = nI 0 → VX11_harm_16 D Q v1 M1 N2)))) :
    VX11_harm_0 D Q v1 MI ML := by
  show mEx D TX11_harm (mqS Q) (0, [some (.ref 46), some (.int v1), none], [], (W0, Sh0, MI, ML))
  refine x_st rfl ?_
  refine x_st rfl ?_
  refine x_br rfl (fun c => ?_) (fun c => ?_)
  · replace h := h.1 c
    refine x_kl ?_ h
    exact ⟨Or.inr rfl, ⟨Or.inr rfl, ⟨Or.inl rfl, True.intro⟩⟩⟩
  · replace h := h.2 c
    refine x_st rfl ?_
    refine x_st rfl ?_
    refine x_st rfl ?_
    obtain ⟨x3, M1, N2, hc, h⟩ := h
    refine x_vi (y := 183) (n := 1) (ci := 11) (nx := 11) rfl (fun _ => rfl) sh_46 rfl hc ?_
    refine x_br rfl (fun c => ?_) (fun c => ?_)
    · replace h := h.1 c
      refine x_st rfl ?_
      refine x_ret rfl ?_
      exact ⟨_, _, rfl, h⟩
    · replace h := h.2 c
      refine x_kl ?_ h
      exact ⟨Or.inr rfl, ⟨Or.inr rfl, ⟨Or.inl rfl, True.intro⟩⟩⟩
theorem BX11_harm_16 {D : Nat} {Q : Option Value → mI → mJ → Prop}  {v1 : Int32} {MI : mI} {ML : mJ} 
    (h : ∃ (M1 : mI) (N2 : mJ), mrc D 211 [.ref 46] MI ML none M1 N2 ∧ (∃ (x5 : Int32) (M3 : mI) (N4 : mJ), mrc D 219 [.ref 46, .int (nI 1000000), .int (nI 1)] M1 N2 (some (.int x5)) M3 N4 ∧ ((x5 < (nI 1000000) → (v1 = (-1 : Int32) → Q (some (.int x5)) M3 N4) ∧ (¬ v1 = (-1 : Int32) → ∃ i6 : Nat, v1 = nI i6 ∧ i6 < 8 ∧ (Q (some (.int (M3 67 i6))) M3 N4))) ∧ (¬ x5 < (nI 1000000) → Q (some (.int (-2 : Int32))) M3 N4)))) :
    VX11_harm_16 D Q v1 MI ML := by
  show mEx D TX11_harm (mqS Q) (16, [some (.ref 46), some (.int v1), none], [], (W0, Sh0, MI, ML))
  refine x_st rfl ?_
  obtain ⟨M1, N2, hc, h⟩ := h
  refine x_vv (y := 211) (n := 0) (ci := 11) (nx := 20) rfl (fun _ => rfl) sh_46 rfl hc ?_
  refine x_st rfl ?_
  refine x_st rfl ?_
  refine x_st rfl ?_
  obtain ⟨x5, M3, N4, hc, h⟩ := h
  refine x_vi (y := 219) (n := 2) (ci := 11) (nx := 28) rfl (fun _ => rfl) sh_46 rfl hc ?_
  refine x_st rfl ?_
  refine x_st rfl ?_
  refine x_st rfl ?_
  refine x_br rfl (fun c => ?_) (fun c => ?_)
  · replace h := h.1 c
    refine x_st rfl ?_
    refine x_st rfl ?_
    refine x_br rfl (fun c => ?_) (fun c => ?_)
    · replace h := h.1 c
      refine x_st rfl ?_
      refine x_st rfl ?_
      refine x_ret rfl ?_
      exact ⟨_, _, rfl, h⟩
    · replace h := h.2 c
      refine x_st rfl ?_
      refine x_gr (ci := 11) (k := 32) (nx := 52) rfl sh_46 rfl ?_
      refine x_st rfl ?_
      obtain ⟨i6, hx, hi, h⟩ := h
      refine x_ia (i := i6) (nx := 54) rfl sh_67 hx hi (by decide) ?_
      refine x_ret rfl ?_
      exact ⟨_, _, rfl, h⟩
  · replace h := h.2 c
    refine x_st rfl ?_
    refine x_ret rfl ?_
    exact ⟨_, _, rfl, h⟩
theorem EX11_harm {D : Nat} {Q : Option Value → mI → mJ → Prop}  {v1 : Int32} {MI : mI} {ML : mJ} (h : VX11_harm_0 D Q v1 MI ML) : ∃ v MI' ML', Q v MI' ML' ∧ mrc (D + 1) 221 [.ref 46, .int v1] MI ML v MI' ML' := by
  refine x_en (n := 1) (T := TX11_harm) rfl rfl ?_
  refine x_kl ?_ h
  exact ⟨Or.inr rfl, ⟨Or.inr rfl, ⟨Or.inl rfl, True.intro⟩⟩⟩
def VX11_manyFor_0 (D : Nat) (Q : Option Value → mI → mJ → Prop)  (v1 : Int32) (v2 : Int32) (MI : mI) (ML : mJ) : Prop := mEx D TX11_manyFor (mqS Q) (0, [some (.ref 46), some (.int v1), some (.int v2), none, none], [], (W0, Sh0, MI, ML))
def VX11_manyFor_5 (D : Nat) (Q : Option Value → mI → mJ → Prop)  (v1 : Int32) (v2 : Int32) (v3 : Int32) (v4 : Int32) (MI : mI) (ML : mJ) : Prop := mEx D TX11_manyFor (mqS Q) (5, [some (.ref 46), some (.int v1), some (.int v2), some (.int v3), some (.int v4)], [], (W0, Sh0, MI, ML))
theorem BX11_manyFor_0 {D : Nat} {Q : Option Value → mI → mJ → Prop}  {v1 : Int32} {v2 : Int32} {MI : mI} {ML : mJ} 
    (h : VX11_manyFor_5 D Q v1 v2 (nI 0) (nI 0) MI ML) :
    VX11_manyFor_0 D Q v1 v2 MI ML := by
  show mEx D TX11_manyFor (mqS Q) (0, [some (.ref 46), some (.int v1), some (.int v2), none, none], [], (W0, Sh0, MI, ML))
  refine x_st rfl ?_
  refine x_st rfl ?_
  refine x_st rfl ?_
  refine x_st rfl ?_
  refine x_kl ?_ h
  exact ⟨Or.inr rfl, ⟨Or.inr rfl, ⟨Or.inr rfl, ⟨Or.inr rfl, ⟨Or.inr rfl, True.intro⟩⟩⟩⟩⟩
theorem BX11_manyFor_5 {D : Nat} {Q : Option Value → mI → mJ → Prop}  {v1 : Int32} {v2 : Int32} {v3 : Int32} {v4 : Int32} {MI : mI} {ML : mJ} 
    (h : ((MI 46 6) ≤ v4 → Q (some (.int v3)) MI ML) ∧ (¬ (MI 46 6) ≤ v4 → ∃ (x3 : Int32) (M1 : mI) (N2 : mJ), mrc D 184 [.int v4, .int v1] MI ML (some (.int x3)) M1 N2 ∧ (∃ i4 : Nat, x3 = nI i4 ∧ i4 < 84 ∧ (((v2 * (M1 47 i4)) ≤ nI 0 → VX11_manyFor_5 D Q v1 v2 (v3 + (nI 0)) (v4 + (nI 1)) M1 N2) ∧ (¬ (v2 * (M1 47 i4)) ≤ nI 0 → VX11_manyFor_5 D Q v1 v2 (v3 + (nI 1)) (v4 + (nI 1)) M1 N2))))) :
    VX11_manyFor_5 D Q v1 v2 v3 v4 MI ML := by
  show mEx D TX11_manyFor (mqS Q) (5, [some (.ref 46), some (.int v1), some (.int v2), some (.int v3), some (.int v4)], [], (W0, Sh0, MI, ML))
  refine x_st rfl ?_
  refine x_st rfl ?_
  refine x_gi (ci := 11) (k := 6) (nx := 11) rfl sh_46 rfl ?_
  refine x_br rfl (fun c => ?_) (fun c => ?_)
  · replace h := h.1 c
    refine x_st rfl ?_
    refine x_ret rfl ?_
    exact ⟨_, _, rfl, h⟩
  · replace h := h.2 c
    refine x_st rfl ?_
    refine x_st rfl ?_
    refine x_st rfl ?_
    refine x_gr (ci := 11) (k := 0) (nx := 20) rfl sh_46 rfl ?_
    refine x_st rfl ?_
    refine x_st rfl ?_
    obtain ⟨x3, M1, N2, hc, h⟩ := h
    refine x_ci rfl hc ?_
    obtain ⟨i4, hx, hi, h⟩ := h
    refine x_ia (i := i4) (nx := 27) rfl sh_47 hx hi (by decide) ?_
    refine x_st rfl ?_
    refine x_br rfl (fun c => ?_) (fun c => ?_)
    · replace h := h.1 c
      refine x_st rfl ?_
      refine x_st rfl ?_
      refine x_st rfl ?_
      refine x_st rfl ?_
      refine x_st rfl ?_
      refine x_kl ?_ h
      exact ⟨Or.inr rfl, ⟨Or.inr rfl, ⟨Or.inr rfl, ⟨Or.inr rfl, ⟨Or.inr rfl, True.intro⟩⟩⟩⟩⟩
    · replace h := h.2 c
      refine x_st rfl ?_
      refine x_st rfl ?_
      refine x_st rfl ?_
      refine x_st rfl ?_
      refine x_st rfl ?_
      refine x_st rfl ?_
      refine x_kl ?_ h
      exact ⟨Or.inr rfl, ⟨Or.inr rfl, ⟨Or.inr rfl, ⟨Or.inr rfl, ⟨Or.inr rfl, True.intro⟩⟩⟩⟩⟩
theorem EX11_manyFor {D : Nat} {Q : Option Value → mI → mJ → Prop}  {v1 : Int32} {v2 : Int32} {MI : mI} {ML : mJ} (h : VX11_manyFor_0 D Q v1 v2 MI ML) : ∃ v MI' ML', Q v MI' ML' ∧ mrc (D + 1) 222 [.ref 46, .int v1, .int v2] MI ML v MI' ML' := by
  refine x_en (n := 2) (T := TX11_manyFor) rfl rfl ?_
  refine x_kl ?_ h
  exact ⟨Or.inr rfl, ⟨Or.inr rfl, ⟨Or.inr rfl, ⟨Or.inl rfl, ⟨Or.inl rfl, True.intro⟩⟩⟩⟩⟩
def VX11_lacks_0 (D : Nat) (Q : Option Value → mI → mJ → Prop)  (v1 : Int32) (v2 : Int32) (MI : mI) (ML : mJ) : Prop := mEx D TX11_lacks (mqS Q) (0, [some (.ref 46), some (.int v1), some (.int v2), none, none], [], (W0, Sh0, MI, ML))
def VX11_lacks_13 (D : Nat) (Q : Option Value → mI → mJ → Prop)  (v3 : Int32) (v4 : Int32) (MI : mI) (ML : mJ) : Prop := mEx D TX11_lacks (mqS Q) (13, [some (.ref 46), none, none, some (.int v3), some (.int v4)], [], (W0, Sh0, MI, ML))
def VX11_lacks_51 (D : Nat) (Q : Option Value → mI → mJ → Prop)  (v1 : Int32) (v2 : Int32) (MI : mI) (ML : mJ) : Prop := mEx D TX11_lacks (mqS Q) (51, [some (.ref 46), some (.int v1), some (.int v2), none, none], [], (W0, Sh0, MI, ML))
theorem BX11_lacks_0 {D : Nat} {Q : Option Value → mI → mJ → Prop}  {v1 : Int32} {v2 : Int32} {MI : mI} {ML : mJ} 
    (h : (v2 = nI 0 → (v1 = nI 0 → VX11_lacks_13 D Q (nI 0) (nI 0) MI ML) ∧ (¬ v1 = nI 0 → VX11_lacks_51 D Q v1 v2 MI ML)) ∧ (¬ v2 = nI 0 → VX11_lacks_51 D Q v1 v2 MI ML)) :
    VX11_lacks_0 D Q v1 v2 MI ML := by
  show mEx D TX11_lacks (mqS Q) (0, [some (.ref 46), some (.int v1), some (.int v2), none, none], [], (W0, Sh0, MI, ML))
  refine x_st rfl ?_
  refine x_br rfl (fun c => ?_) (fun c => ?_)
  · replace h := h.1 c
    refine x_st rfl ?_
    refine x_br rfl (fun c => ?_) (fun c => ?_)
    · replace h := h.1 c
      refine x_st rfl ?_
      refine x_st rfl ?_
      refine x_st rfl ?_
      refine x_st rfl ?_
      refine x_kl ?_ h
      exact ⟨Or.inr rfl, ⟨Or.inl rfl, ⟨Or.inl rfl, ⟨Or.inr rfl, ⟨Or.inr rfl, True.intro⟩⟩⟩⟩⟩
    · replace h := h.2 c
      refine x_kl ?_ h
      exact ⟨Or.inr rfl, ⟨Or.inr rfl, ⟨Or.inr rfl, ⟨Or.inl rfl, ⟨Or.inl rfl, True.intro⟩⟩⟩⟩⟩
  · replace h := h.2 c
    refine x_kl ?_ h
    exact ⟨Or.inr rfl, ⟨Or.inr rfl, ⟨Or.inr rfl, ⟨Or.inl rfl, ⟨Or.inl rfl, True.intro⟩⟩⟩⟩⟩
theorem BX11_lacks_13 {D : Nat} {Q : Option Value → mI → mJ → Prop}  {v3 : Int32} {v4 : Int32} {MI : mI} {ML : mJ} 
    (h : ((MI 46 6) ≤ v4 → Q (some (.int v3)) MI ML) ∧ (¬ (MI 46 6) ≤ v4 → ∃ (x3 : Int32) (M1 : mI) (N2 : mJ), mrc D 222 [.ref 46, .int v4, .int (nI 1)] MI ML (some (.int x3)) M1 N2 ∧ ((x3 = nI 0 → VX11_lacks_13 D Q (v3 ||| ((nI 1) <<< (v4 &&& 31))) (v4 + (nI 1)) M1 N2) ∧ (¬ x3 = nI 0 → VX11_lacks_13 D Q (v3 ||| (nI 0)) (v4 + (nI 1)) M1 N2)))) :
    VX11_lacks_13 D Q v3 v4 MI ML := by
  show mEx D TX11_lacks (mqS Q) (13, [some (.ref 46), none, none, some (.int v3), some (.int v4)], [], (W0, Sh0, MI, ML))
  refine x_st rfl ?_
  refine x_st rfl ?_
  refine x_gi (ci := 11) (k := 6) (nx := 19) rfl sh_46 rfl ?_
  refine x_br rfl (fun c => ?_) (fun c => ?_)
  · replace h := h.1 c
    refine x_st rfl ?_
    refine x_ret rfl ?_
    exact ⟨_, _, rfl, h⟩
  · replace h := h.2 c
    refine x_st rfl ?_
    refine x_st rfl ?_
    refine x_st rfl ?_
    refine x_st rfl ?_
    obtain ⟨x3, M1, N2, hc, h⟩ := h
    refine x_vi (y := 222) (n := 2) (ci := 11) (nx := 30) rfl (fun _ => rfl) sh_46 rfl hc ?_
    refine x_br rfl (fun c => ?_) (fun c => ?_)
    · replace h := h.1 c
      refine x_st rfl ?_
      refine x_st rfl ?_
      refine x_st rfl ?_
      refine x_st rfl ?_
      refine x_st rfl ?_
      refine x_st rfl ?_
      refine x_st rfl ?_
      refine x_st rfl ?_
      refine x_kl ?_ h
      exact ⟨Or.inr rfl, ⟨Or.inl rfl, ⟨Or.inl rfl, ⟨Or.inr rfl, ⟨Or.inr rfl, True.intro⟩⟩⟩⟩⟩
    · replace h := h.2 c
      refine x_st rfl ?_
      refine x_st rfl ?_
      refine x_st rfl ?_
      refine x_st rfl ?_
      refine x_st rfl ?_
      refine x_kl ?_ h
      exact ⟨Or.inr rfl, ⟨Or.inl rfl, ⟨Or.inl rfl, ⟨Or.inr rfl, ⟨Or.inr rfl, True.intro⟩⟩⟩⟩⟩
theorem BX11_lacks_51 {D : Nat} {Q : Option Value → mI → mJ → Prop}  {v1 : Int32} {v2 : Int32} {MI : mI} {ML : mJ} 
    (h : ∃ (x3 : Int32) (M1 : mI) (N2 : mJ), mrc D 178 [.long (v2).toInt64, .long (1 : Int64), .long (2 : Int64)] MI ML (some (.int x3)) M1 N2 ∧ ((x3 = nI 0 → Q (some (.int (-1 : Int32))) M1 N2) ∧ (¬ x3 = nI 0 → ∃ (x6 : Int32) (M4 : mI) (N5 : mJ), mrc D 183 [.ref 46, .long (v1).toInt64] M1 N2 (some (.int x6)) M4 N5 ∧ ((x6 = nI 0 → Q (some (.int (-1 : Int32))) M4 N5) ∧ (¬ x6 = nI 0 → (v2 = (nI 1) → ∃ (x9 : Int32) (M7 : mI) (N8 : mJ), mrc D 222 [.ref 46, .int v1, .int (nI 1)] M4 N5 (some (.int x9)) M7 N8 ∧ (Q (some (.int x9)) M7 N8)) ∧ (¬ v2 = (nI 1) → ∃ (x12 : Int32) (M10 : mI) (N11 : mJ), mrc D 222 [.ref 46, .int v1, .int (-1 : Int32)] M4 N5 (some (.int x12)) M10 N11 ∧ (Q (some (.int x12)) M10 N11))))))) :
    VX11_lacks_51 D Q v1 v2 MI ML := by
  show mEx D TX11_lacks (mqS Q) (51, [some (.ref 46), some (.int v1), some (.int v2), none, none], [], (W0, Sh0, MI, ML))
  refine x_st rfl ?_
  refine x_st rfl ?_
  refine x_st rfl ?_
  refine x_st rfl ?_
  obtain ⟨x3, M1, N2, hc, h⟩ := h
  refine x_ci rfl hc ?_
  refine x_br rfl (fun c => ?_) (fun c => ?_)
  · replace h := h.1 c
    refine x_st rfl ?_
    refine x_ret rfl ?_
    exact ⟨_, _, rfl, h⟩
  · replace h := h.2 c
    refine x_st rfl ?_
    refine x_st rfl ?_
    refine x_st rfl ?_
    obtain ⟨x6, M4, N5, hc, h⟩ := h
    refine x_vi (y := 183) (n := 1) (ci := 11) (nx := 69) rfl (fun _ => rfl) sh_46 rfl hc ?_
    refine x_br rfl (fun c => ?_) (fun c => ?_)
    · replace h := h.1 c
      refine x_st rfl ?_
      refine x_ret rfl ?_
      exact ⟨_, _, rfl, h⟩
    · replace h := h.2 c
      refine x_st rfl ?_
      refine x_st rfl ?_
      refine x_st rfl ?_
      refine x_st rfl ?_
      refine x_br rfl (fun c => ?_) (fun c => ?_)
      · replace h := h.1 c
        refine x_st rfl ?_
        refine x_st rfl ?_
        obtain ⟨x9, M7, N8, hc, h⟩ := h
        refine x_vi (y := 222) (n := 2) (ci := 11) (nx := 87) rfl (fun _ => rfl) sh_46 rfl hc ?_
        refine x_st rfl ?_
        refine x_ret rfl ?_
        exact ⟨_, _, rfl, h⟩
      · replace h := h.2 c
        refine x_st rfl ?_
        obtain ⟨x12, M10, N11, hc, h⟩ := h
        refine x_vi (y := 222) (n := 2) (ci := 11) (nx := 87) rfl (fun _ => rfl) sh_46 rfl hc ?_
        refine x_st rfl ?_
        refine x_ret rfl ?_
        exact ⟨_, _, rfl, h⟩
theorem EX11_lacks {D : Nat} {Q : Option Value → mI → mJ → Prop}  {v1 : Int32} {v2 : Int32} {MI : mI} {ML : mJ} (h : VX11_lacks_0 D Q v1 v2 MI ML) : ∃ v MI' ML', Q v MI' ML' ∧ mrc (D + 1) 223 [.ref 46, .int v1, .int v2] MI ML v MI' ML' := by
  refine x_en (n := 2) (T := TX11_lacks) rfl rfl ?_
  refine x_kl ?_ h
  exact ⟨Or.inr rfl, ⟨Or.inr rfl, ⟨Or.inr rfl, ⟨Or.inl rfl, ⟨Or.inl rfl, True.intro⟩⟩⟩⟩⟩
def VX11_fedBehind_0 (D : Nat) (Q : Option Value → mI → mJ → Prop)  (v1 : Int32) (MI : mI) (ML : mJ) : Prop := mEx D TX11_fedBehind (mqS Q) (0, [some (.ref 46), some (.int v1), none, none], [], (W0, Sh0, MI, ML))
def VX11_fedBehind_4 (D : Nat) (Q : Option Value → mI → mJ → Prop)  (v1 : Int32) (v2 : Int32) (v3 : Int32) (MI : mI) (ML : mJ) : Prop := mEx D TX11_fedBehind (mqS Q) (4, [some (.ref 46), some (.int v1), some (.int v2), some (.int v3)], [], (W0, Sh0, MI, ML))
theorem BX11_fedBehind_0 {D : Nat} {Q : Option Value → mI → mJ → Prop}  {v1 : Int32} {MI : mI} {ML : mJ} 
    (h : VX11_fedBehind_4 D Q v1 (nI 0) (nI 0) MI ML) :
    VX11_fedBehind_0 D Q v1 MI ML := by
  show mEx D TX11_fedBehind (mqS Q) (0, [some (.ref 46), some (.int v1), none, none], [], (W0, Sh0, MI, ML))
  refine x_st rfl ?_
  refine x_st rfl ?_
  refine x_st rfl ?_
  refine x_st rfl ?_
  refine x_kl ?_ h
  exact ⟨Or.inr rfl, ⟨Or.inr rfl, ⟨Or.inr rfl, ⟨Or.inr rfl, True.intro⟩⟩⟩⟩
theorem BX11_fedBehind_4 {D : Nat} {Q : Option Value → mI → mJ → Prop}  {v1 : Int32} {v2 : Int32} {v3 : Int32} {MI : mI} {ML : mJ} 
    (h : (v1 ≤ v3 → Q (some (.int v2)) MI ML) ∧ (¬ v1 ≤ v3 → ∃ (M1 : mI) (N2 : mJ), mrc D 216 [.ref 46] MI ML none M1 N2 ∧ (VX11_fedBehind_4 D Q v1 (v2 + (M1 46 29)) (v3 + (nI 1)) M1 N2))) :
    VX11_fedBehind_4 D Q v1 v2 v3 MI ML := by
  show mEx D TX11_fedBehind (mqS Q) (4, [some (.ref 46), some (.int v1), some (.int v2), some (.int v3)], [], (W0, Sh0, MI, ML))
  refine x_st rfl ?_
  refine x_st rfl ?_
  refine x_br rfl (fun c => ?_) (fun c => ?_)
  · replace h := h.1 c
    refine x_st rfl ?_
    refine x_ret rfl ?_
    exact ⟨_, _, rfl, h⟩
  · replace h := h.2 c
    refine x_st rfl ?_
    obtain ⟨M1, N2, hc, h⟩ := h
    refine x_vv (y := 216) (n := 0) (ci := 11) (nx := 13) rfl (fun _ => rfl) sh_46 rfl hc ?_
    refine x_st rfl ?_
    refine x_st rfl ?_
    refine x_gi (ci := 11) (k := 29) (nx := 18) rfl sh_46 rfl ?_
    refine x_st rfl ?_
    refine x_st rfl ?_
    refine x_st rfl ?_
    refine x_st rfl ?_
    refine x_kl ?_ h
    exact ⟨Or.inr rfl, ⟨Or.inr rfl, ⟨Or.inr rfl, ⟨Or.inr rfl, True.intro⟩⟩⟩⟩
theorem EX11_fedBehind {D : Nat} {Q : Option Value → mI → mJ → Prop}  {v1 : Int32} {MI : mI} {ML : mJ} (h : VX11_fedBehind_0 D Q v1 MI ML) : ∃ v MI' ML', Q v MI' ML' ∧ mrc (D + 1) 224 [.ref 46, .int v1] MI ML v MI' ML' := by
  refine x_en (n := 2) (T := TX11_fedBehind) rfl rfl ?_
  refine x_kl ?_ h
  exact ⟨Or.inr rfl, ⟨Or.inr rfl, ⟨Or.inl rfl, ⟨Or.inl rfl, True.intro⟩⟩⟩⟩
def VX11_later_0 (D : Nat) (Q : Option Value → mI → mJ → Prop)  (v1 : Int32) (v2 : Int32) (MI : mI) (ML : mJ) : Prop := mEx D TX11_later (mqS Q) (0, [some (.ref 46), some (.int v1), some (.int v2), none], [], (W0, Sh0, MI, ML))
def VX11_later_28 (D : Nat) (Q : Option Value → mI → mJ → Prop)  (v1 : Int32) (v2 : Int32) (MI : mI) (ML : mJ) : Prop := mEx D TX11_later (mqS Q) (28, [some (.ref 46), some (.int v1), some (.int v2), none], [], (W0, Sh0, MI, ML))
theorem BX11_later_0 {D : Nat} {Q : Option Value → mI → mJ → Prop}  {v1 : Int32} {v2 : Int32} {MI : mI} {ML : mJ} 
    (h : ∃ (x3 : Int32) (M1 : mI) (N2 : mJ), mrc D 178 [.long (v1).toInt64, .long (0 : Int64), .long (40 : Int64)] MI ML (some (.int x3)) M1 N2 ∧ ((x3 = nI 0 → Q (some (.int (-1 : Int32))) M1 N2) ∧ (¬ x3 = nI 0 → (v2 = (-1 : Int32) → VX11_later_28 D Q v1 v2 M1 N2) ∧ (¬ v2 = (-1 : Int32) → ∃ (x6 : Int32) (M4 : mI) (N5 : mJ), mrc D 183 [.ref 46, .long (v2).toInt64] M1 N2 (some (.int x6)) M4 N5 ∧ ((x6 = nI 0 → Q (some (.int (-1 : Int32))) M4 N5) ∧ (¬ x6 = nI 0 → VX11_later_28 D Q v1 v2 M4 N5)))))) :
    VX11_later_0 D Q v1 v2 MI ML := by
  show mEx D TX11_later (mqS Q) (0, [some (.ref 46), some (.int v1), some (.int v2), none], [], (W0, Sh0, MI, ML))
  refine x_st rfl ?_
  refine x_st rfl ?_
  refine x_st rfl ?_
  refine x_st rfl ?_
  obtain ⟨x3, M1, N2, hc, h⟩ := h
  refine x_ci rfl hc ?_
  refine x_br rfl (fun c => ?_) (fun c => ?_)
  · replace h := h.1 c
    refine x_st rfl ?_
    refine x_ret rfl ?_
    exact ⟨_, _, rfl, h⟩
  · replace h := h.2 c
    refine x_st rfl ?_
    refine x_st rfl ?_
    refine x_br rfl (fun c => ?_) (fun c => ?_)
    · replace h := h.1 c
      refine x_kl ?_ h
      exact ⟨Or.inr rfl, ⟨Or.inr rfl, ⟨Or.inr rfl, ⟨Or.inl rfl, True.intro⟩⟩⟩⟩
    · replace h := h.2 c
      refine x_st rfl ?_
      refine x_st rfl ?_
      refine x_st rfl ?_
      obtain ⟨x6, M4, N5, hc, h⟩ := h
      refine x_vi (y := 183) (n := 1) (ci := 11) (nx := 23) rfl (fun _ => rfl) sh_46 rfl hc ?_
      refine x_br rfl (fun c => ?_) (fun c => ?_)
      · replace h := h.1 c
        refine x_st rfl ?_
        refine x_ret rfl ?_
        exact ⟨_, _, rfl, h⟩
      · replace h := h.2 c
        refine x_kl ?_ h
        exact ⟨Or.inr rfl, ⟨Or.inr rfl, ⟨Or.inr rfl, ⟨Or.inl rfl, True.intro⟩⟩⟩⟩
theorem BX11_later_28 {D : Nat} {Q : Option Value → mI → mJ → Prop}  {v1 : Int32} {v2 : Int32} {MI : mI} {ML : mJ} 
    (h : ∃ (M1 : mI) (N2 : mJ), mrc D 211 [.ref 46] MI ML none M1 N2 ∧ (∃ (x5 : Int32) (M3 : mI) (N4 : mJ), mrc D 224 [.ref 46, .int v1] M1 N2 (some (.int x5)) M3 N4 ∧ ((v2 = (-1 : Int32) → Q (some (.int x5)) M3 N4) ∧ (¬ v2 = (-1 : Int32) → ∃ i6 : Nat, v2 = nI i6 ∧ i6 < 84 ∧ (Q (some (.int (M3 61 i6))) M3 N4))))) :
    VX11_later_28 D Q v1 v2 MI ML := by
  show mEx D TX11_later (mqS Q) (28, [some (.ref 46), some (.int v1), some (.int v2), none], [], (W0, Sh0, MI, ML))
  refine x_st rfl ?_
  obtain ⟨M1, N2, hc, h⟩ := h
  refine x_vv (y := 211) (n := 0) (ci := 11) (nx := 32) rfl (fun _ => rfl) sh_46 rfl hc ?_
  refine x_st rfl ?_
  refine x_st rfl ?_
  obtain ⟨x5, M3, N4, hc, h⟩ := h
  refine x_vi (y := 224) (n := 1) (ci := 11) (nx := 37) rfl (fun _ => rfl) sh_46 rfl hc ?_
  refine x_st rfl ?_
  refine x_st rfl ?_
  refine x_st rfl ?_
  refine x_br rfl (fun c => ?_) (fun c => ?_)
  · replace h := h.1 c
    refine x_st rfl ?_
    refine x_st rfl ?_
    refine x_ret rfl ?_
    exact ⟨_, _, rfl, h⟩
  · replace h := h.2 c
    refine x_st rfl ?_
    refine x_gr (ci := 11) (k := 24) (nx := 51) rfl sh_46 rfl ?_
    refine x_st rfl ?_
    obtain ⟨i6, hx, hi, h⟩ := h
    refine x_ia (i := i6) (nx := 53) rfl sh_61 hx hi (by decide) ?_
    refine x_ret rfl ?_
    exact ⟨_, _, rfl, h⟩
theorem EX11_later {D : Nat} {Q : Option Value → mI → mJ → Prop}  {v1 : Int32} {v2 : Int32} {MI : mI} {ML : mJ} (h : VX11_later_0 D Q v1 v2 MI ML) : ∃ v MI' ML', Q v MI' ML' ∧ mrc (D + 1) 225 [.ref 46, .int v1, .int v2] MI ML v MI' ML' := by
  refine x_en (n := 1) (T := TX11_later) rfl rfl ?_
  refine x_kl ?_ h
  exact ⟨Or.inr rfl, ⟨Or.inr rfl, ⟨Or.inr rfl, ⟨Or.inl rfl, True.intro⟩⟩⟩⟩
def VX11_feltLater_0 (D : Nat) (Q : Option Value → mI → mJ → Prop)  (v1 : Int32) (v2 : Int32) (MI : mI) (ML : mJ) : Prop := mEx D TX11_feltLater (mqS Q) (0, [some (.ref 46), some (.int v1), some (.int v2)], [], (W0, Sh0, MI, ML))
theorem BX11_feltLater_0 {D : Nat} {Q : Option Value → mI → mJ → Prop}  {v1 : Int32} {v2 : Int32} {MI : mI} {ML : mJ} 
    (h : ∃ (x3 : Int32) (M1 : mI) (N2 : mJ), mrc D 178 [.long (v1).toInt64, .long (0 : Int64), .long (40 : Int64)] MI ML (some (.int x3)) M1 N2 ∧ ((x3 = nI 0 → Q (some (.int (-1 : Int32))) M1 N2) ∧ (¬ x3 = nI 0 → ∃ (x6 : Int32) (M4 : mI) (N5 : mJ), mrc D 185 [.ref 46, .int v2] M1 N2 (some (.int x6)) M4 N5 ∧ ((x6 = nI 0 → Q (some (.int (-1 : Int32))) M4 N5) ∧ (¬ x6 = nI 0 → ∃ (M7 : mI) (N8 : mJ), mrc D 211 [.ref 46] M4 N5 none M7 N8 ∧ (∃ (x11 : Int32) (M9 : mI) (N10 : mJ), mrc D 224 [.ref 46, .int v1] M7 N8 (some (.int x11)) M9 N10 ∧ (∃ (x14 : Int32) (M12 : mI) (N13 : mJ), mrc D 184 [.int (v2 / (nI 10)), .int (v2 - v2 / (nI 10) * (nI 10))] M9 N10 (some (.int x14)) M12 N13 ∧ (∃ i15 : Nat, x14 = nI i15 ∧ i15 < 84 ∧ (Q (some (.int ((M12 61 i15) + (nI 100)))) M12 N13))))))))) :
    VX11_feltLater_0 D Q v1 v2 MI ML := by
  show mEx D TX11_feltLater (mqS Q) (0, [some (.ref 46), some (.int v1), some (.int v2)], [], (W0, Sh0, MI, ML))
  refine x_st rfl ?_
  refine x_st rfl ?_
  refine x_st rfl ?_
  refine x_st rfl ?_
  obtain ⟨x3, M1, N2, hc, h⟩ := h
  refine x_ci rfl hc ?_
  refine x_br rfl (fun c => ?_) (fun c => ?_)
  · replace h := h.1 c
    refine x_st rfl ?_
    refine x_ret rfl ?_
    exact ⟨_, _, rfl, h⟩
  · replace h := h.2 c
    refine x_st rfl ?_
    refine x_st rfl ?_
    obtain ⟨x6, M4, N5, hc, h⟩ := h
    refine x_vi (y := 185) (n := 1) (ci := 11) (nx := 17) rfl (fun _ => rfl) sh_46 rfl hc ?_
    refine x_br rfl (fun c => ?_) (fun c => ?_)
    · replace h := h.1 c
      refine x_st rfl ?_
      refine x_ret rfl ?_
      exact ⟨_, _, rfl, h⟩
    · replace h := h.2 c
      refine x_st rfl ?_
      obtain ⟨M7, N8, hc, h⟩ := h
      refine x_vv (y := 211) (n := 0) (ci := 11) (nx := 26) rfl (fun _ => rfl) sh_46 rfl hc ?_
      refine x_st rfl ?_
      refine x_st rfl ?_
      obtain ⟨x11, M9, N10, hc, h⟩ := h
      refine x_vi (y := 224) (n := 1) (ci := 11) (nx := 31) rfl (fun _ => rfl) sh_46 rfl hc ?_
      refine x_st rfl ?_
      refine x_st rfl ?_
      refine x_gr (ci := 11) (k := 24) (nx := 36) rfl sh_46 rfl ?_
      refine x_st rfl ?_
      refine x_st rfl ?_
      refine x_st rfl ?_
      refine x_st rfl ?_
      refine x_st rfl ?_
      refine x_st rfl ?_
      obtain ⟨x14, M12, N13, hc, h⟩ := h
      refine x_ci rfl hc ?_
      obtain ⟨i15, hx, hi, h⟩ := h
      refine x_ia (i := i15) (nx := 48) rfl sh_61 hx hi (by decide) ?_
      refine x_st rfl ?_
      refine x_st rfl ?_
      refine x_ret rfl ?_
      exact ⟨_, _, rfl, h⟩
theorem EX11_feltLater {D : Nat} {Q : Option Value → mI → mJ → Prop}  {v1 : Int32} {v2 : Int32} {MI : mI} {ML : mJ} (h : VX11_feltLater_0 D Q v1 v2 MI ML) : ∃ v MI' ML', Q v MI' ML' ∧ mrc (D + 1) 226 [.ref 46, .int v1, .int v2] MI ML v MI' ML' := by
  refine x_en (n := 0) (T := TX11_feltLater) rfl rfl ?_
  refine x_kl ?_ h
  exact ⟨Or.inr rfl, ⟨Or.inr rfl, ⟨Or.inr rfl, True.intro⟩⟩⟩
def VX11_lastsThen_0 (D : Nat) (Q : Option Value → mI → mJ → Prop)  (v1 : Int32) (MI : mI) (ML : mJ) : Prop := mEx D TX11_lastsThen (mqS Q) (0, [some (.ref 46), some (.int v1), none], [], (W0, Sh0, MI, ML))
def VX11_lastsThen_2 (D : Nat) (Q : Option Value → mI → mJ → Prop)  (v1 : Int32) (v2 : Int32) (MI : mI) (ML : mJ) : Prop := mEx D TX11_lastsThen (mqS Q) (2, [some (.ref 46), some (.int v1), some (.int v2)], [], (W0, Sh0, MI, ML))
theorem BX11_lastsThen_0 {D : Nat} {Q : Option Value → mI → mJ → Prop}  {v1 : Int32} {MI : mI} {ML : mJ} 
    (h : VX11_lastsThen_2 D Q v1 (nI 0) MI ML) :
    VX11_lastsThen_0 D Q v1 MI ML := by
  show mEx D TX11_lastsThen (mqS Q) (0, [some (.ref 46), some (.int v1), none], [], (W0, Sh0, MI, ML))
  refine x_st rfl ?_
  refine x_st rfl ?_
  refine x_kl ?_ h
  exact ⟨Or.inr rfl, ⟨Or.inr rfl, ⟨Or.inr rfl, True.intro⟩⟩⟩
theorem BX11_lastsThen_2 {D : Nat} {Q : Option Value → mI → mJ → Prop}  {v1 : Int32} {v2 : Int32} {MI : mI} {ML : mJ} 
    (h : ((nI 40) ≤ v2 → Q (some (.int (nI 40))) MI ML) ∧ (¬ (nI 40) ≤ v2 → ∃ (M1 : mI) (N2 : mJ), mrc D 216 [.ref 46] MI ML none M1 N2 ∧ (∃ i3 : Nat, v1 = nI i3 ∧ i3 < 8 ∧ (((M1 62 i3) = nI 0 → Q (some (.int v2)) M1 N2) ∧ (¬ (M1 62 i3) = nI 0 → VX11_lastsThen_2 D Q v1 (v2 + (nI 1)) M1 N2))))) :
    VX11_lastsThen_2 D Q v1 v2 MI ML := by
  show mEx D TX11_lastsThen (mqS Q) (2, [some (.ref 46), some (.int v1), some (.int v2)], [], (W0, Sh0, MI, ML))
  refine x_st rfl ?_
  refine x_st rfl ?_
  refine x_br rfl (fun c => ?_) (fun c => ?_)
  · replace h := h.1 c
    refine x_st rfl ?_
    refine x_ret rfl ?_
    exact ⟨_, _, rfl, h⟩
  · replace h := h.2 c
    refine x_st rfl ?_
    obtain ⟨M1, N2, hc, h⟩ := h
    refine x_vv (y := 216) (n := 0) (ci := 11) (nx := 12) rfl (fun _ => rfl) sh_46 rfl hc ?_
    refine x_st rfl ?_
    refine x_gr (ci := 11) (k := 25) (nx := 16) rfl sh_46 rfl ?_
    refine x_st rfl ?_
    obtain ⟨i3, hx, hi, h⟩ := h
    refine x_za (i := i3) (nx := 18) rfl sh_62 hx hi (by decide) ?_
    refine x_br rfl (fun c => ?_) (fun c => ?_)
    · replace h := h.1 c
      refine x_st rfl ?_
      refine x_ret rfl ?_
      exact ⟨_, _, rfl, h⟩
    · replace h := h.2 c
      refine x_st rfl ?_
      refine x_st rfl ?_
      refine x_kl ?_ h
      exact ⟨Or.inr rfl, ⟨Or.inr rfl, ⟨Or.inr rfl, True.intro⟩⟩⟩
theorem EX11_lastsThen {D : Nat} {Q : Option Value → mI → mJ → Prop}  {v1 : Int32} {MI : mI} {ML : mJ} (h : VX11_lastsThen_0 D Q v1 MI ML) : ∃ v MI' ML', Q v MI' ML' ∧ mrc (D + 1) 227 [.ref 46, .int v1] MI ML v MI' ML' := by
  refine x_en (n := 1) (T := TX11_lastsThen) rfl rfl ?_
  refine x_kl ?_ h
  exact ⟨Or.inr rfl, ⟨Or.inr rfl, ⟨Or.inl rfl, True.intro⟩⟩⟩
def VX11_lasts_0 (D : Nat) (Q : Option Value → mI → mJ → Prop)  (v1 : Int32) (MI : mI) (ML : mJ) : Prop := mEx D TX11_lasts (mqS Q) (0, [some (.ref 46), some (.int v1)], [], (W0, Sh0, MI, ML))
theorem BX11_lasts_0 {D : Nat} {Q : Option Value → mI → mJ → Prop}  {v1 : Int32} {MI : mI} {ML : mJ} 
    (h : ∃ (x3 : Int32) (M1 : mI) (N2 : mJ), mrc D 183 [.ref 46, .long (v1).toInt64] MI ML (some (.int x3)) M1 N2 ∧ ((x3 = nI 0 → Q (some (.int (-1 : Int32))) M1 N2) ∧ (¬ x3 = nI 0 → ∃ (M4 : mI) (N5 : mJ), mrc D 211 [.ref 46] M1 N2 none M4 N5 ∧ (∃ (x8 : Int32) (M6 : mI) (N7 : mJ), mrc D 227 [.ref 46, .int v1] M4 N5 (some (.int x8)) M6 N7 ∧ (Q (some (.int x8)) M6 N7))))) :
    VX11_lasts_0 D Q v1 MI ML := by
  show mEx D TX11_lasts (mqS Q) (0, [some (.ref 46), some (.int v1)], [], (W0, Sh0, MI, ML))
  refine x_st rfl ?_
  refine x_st rfl ?_
  refine x_st rfl ?_
  obtain ⟨x3, M1, N2, hc, h⟩ := h
  refine x_vi (y := 183) (n := 1) (ci := 11) (nx := 6) rfl (fun _ => rfl) sh_46 rfl hc ?_
  refine x_br rfl (fun c => ?_) (fun c => ?_)
  · replace h := h.1 c
    refine x_st rfl ?_
    refine x_ret rfl ?_
    exact ⟨_, _, rfl, h⟩
  · replace h := h.2 c
    refine x_st rfl ?_
    obtain ⟨M4, N5, hc, h⟩ := h
    refine x_vv (y := 211) (n := 0) (ci := 11) (nx := 15) rfl (fun _ => rfl) sh_46 rfl hc ?_
    refine x_st rfl ?_
    refine x_st rfl ?_
    obtain ⟨x8, M6, N7, hc, h⟩ := h
    refine x_vi (y := 227) (n := 1) (ci := 11) (nx := 20) rfl (fun _ => rfl) sh_46 rfl hc ?_
    refine x_ret rfl ?_
    exact ⟨_, _, rfl, h⟩
theorem EX11_lasts {D : Nat} {Q : Option Value → mI → mJ → Prop}  {v1 : Int32} {MI : mI} {ML : mJ} (h : VX11_lasts_0 D Q v1 MI ML) : ∃ v MI' ML', Q v MI' ML' ∧ mrc (D + 1) 228 [.ref 46, .int v1] MI ML v MI' ML' := by
  refine x_en (n := 0) (T := TX11_lasts) rfl rfl ?_
  refine x_kl ?_ h
  exact ⟨Or.inr rfl, ⟨Or.inr rfl, True.intro⟩⟩
def VX11_renewed_0 (D : Nat) (Q : Option Value → mI → mJ → Prop)  (v1 : Int32) (v2 : Int32) (MI : mI) (ML : mJ) : Prop := mEx D TX11_renewed (mqS Q) (0, [some (.ref 46), some (.int v1), some (.int v2)], [], (W0, Sh0, MI, ML))
theorem BX11_renewed_0 {D : Nat} {Q : Option Value → mI → mJ → Prop}  {v1 : Int32} {v2 : Int32} {MI : mI} {ML : mJ} 
    (h : ∃ (x3 : Int32) (M1 : mI) (N2 : mJ), mrc D 185 [.ref 46, .int v1] MI ML (some (.int x3)) M1 N2 ∧ ((x3 = nI 0 → Q (some (.int (-1 : Int32))) M1 N2) ∧ (¬ x3 = nI 0 → ∃ (x6 : Int32) (M4 : mI) (N5 : mJ), mrc D 178 [.long (v2).toInt64, .long (-9 : Int64), .long (9 : Int64)] M1 N2 (some (.int x6)) M4 N5 ∧ ((x6 = nI 0 → Q (some (.int (-1 : Int32))) M4 N5) ∧ (¬ x6 = nI 0 → ∃ (M7 : mI) (N8 : mJ), mrc D 211 [.ref 46] M4 N5 none M7 N8 ∧ (∃ (x11 : Int32) (M9 : mI) (N10 : mJ), mrc D 184 [.int (v1 / (nI 10)), .int (v1 - v1 / (nI 10) * (nI 10))] M7 N8 (some (.int x11)) M9 N10 ∧ (∃ i12 : Nat, x11 = nI i12 ∧ i12 < 84 ∧ (∃ (x15 : Int32) (M13 : mI) (N14 : mJ), mrc D 227 [.ref 46, .int (v1 - v1 / (nI 10) * (nI 10))] (mup M9 61 (mput (M9 61) i12 v2)) N10 (some (.int x15)) M13 N14 ∧ (Q (some (.int x15)) M13 N14))))))))) :
    VX11_renewed_0 D Q v1 v2 MI ML := by
  show mEx D TX11_renewed (mqS Q) (0, [some (.ref 46), some (.int v1), some (.int v2)], [], (W0, Sh0, MI, ML))
  refine x_st rfl ?_
  refine x_st rfl ?_
  obtain ⟨x3, M1, N2, hc, h⟩ := h
  refine x_vi (y := 185) (n := 1) (ci := 11) (nx := 5) rfl (fun _ => rfl) sh_46 rfl hc ?_
  refine x_br rfl (fun c => ?_) (fun c => ?_)
  · replace h := h.1 c
    refine x_st rfl ?_
    refine x_ret rfl ?_
    exact ⟨_, _, rfl, h⟩
  · replace h := h.2 c
    refine x_st rfl ?_
    refine x_st rfl ?_
    refine x_st rfl ?_
    refine x_st rfl ?_
    obtain ⟨x6, M4, N5, hc, h⟩ := h
    refine x_ci rfl hc ?_
    refine x_br rfl (fun c => ?_) (fun c => ?_)
    · replace h := h.1 c
      refine x_st rfl ?_
      refine x_ret rfl ?_
      exact ⟨_, _, rfl, h⟩
    · replace h := h.2 c
      refine x_st rfl ?_
      obtain ⟨M7, N8, hc, h⟩ := h
      refine x_vv (y := 211) (n := 0) (ci := 11) (nx := 28) rfl (fun _ => rfl) sh_46 rfl hc ?_
      refine x_st rfl ?_
      refine x_gr (ci := 11) (k := 24) (nx := 32) rfl sh_46 rfl ?_
      refine x_st rfl ?_
      refine x_st rfl ?_
      refine x_st rfl ?_
      refine x_st rfl ?_
      refine x_st rfl ?_
      refine x_st rfl ?_
      obtain ⟨x11, M9, N10, hc, h⟩ := h
      refine x_ci rfl hc ?_
      refine x_st rfl ?_
      obtain ⟨i12, hx, hi, h⟩ := h
      refine x_iast (i := i12) (nx := 45) rfl sh_61 hx hi (by decide) ?_
      refine x_st rfl ?_
      refine x_st rfl ?_
      refine x_st rfl ?_
      refine x_st rfl ?_
      obtain ⟨x15, M13, N14, hc, h⟩ := h
      refine x_vi (y := 227) (n := 1) (ci := 11) (nx := 53) rfl (fun _ => rfl) sh_46 rfl hc ?_
      refine x_ret rfl ?_
      exact ⟨_, _, rfl, h⟩
theorem EX11_renewed {D : Nat} {Q : Option Value → mI → mJ → Prop}  {v1 : Int32} {v2 : Int32} {MI : mI} {ML : mJ} (h : VX11_renewed_0 D Q v1 v2 MI ML) : ∃ v MI' ML', Q v MI' ML' ∧ mrc (D + 1) 229 [.ref 46, .int v1, .int v2] MI ML v MI' ML' := by
  refine x_en (n := 0) (T := TX11_renewed) rfl rfl ?_
  refine x_kl ?_ h
  exact ⟨Or.inr rfl, ⟨Or.inr rfl, ⟨Or.inr rfl, True.intro⟩⟩⟩
def VX11_worth_0 (D : Nat) (Q : Option Value → mI → mJ → Prop)  (v1 : Int32) (v2 : Int32) (v3 : Int32) (MI : mI) (ML : mJ) : Prop := mEx D TX11_worth (mqS Q) (0, [some (.ref 46), some (.int v1), some (.int v2), some (.int v3), none, none, none], [], (W0, Sh0, MI, ML))
def VX11_worth_44 (D : Nat) (Q : Option Value → mI → mJ → Prop)  (v1 : Int32) (v2 : Int32) (v3 : Int32) (v4 : Int32) (v5 : Int32) (v6 : Int32) (MI : mI) (ML : mJ) : Prop := mEx D TX11_worth (mqS Q) (44, [some (.ref 46), some (.int v1), some (.int v2), some (.int v3), some (.int v4), some (.int v5), some (.int v6)], [], (W0, Sh0, MI, ML))
def VX11_worth_103 (D : Nat) (Q : Option Value → mI → mJ → Prop)  (v1 : Int32) (v2 : Int32) (v3 : Int32) (v6 : Int32) (MI : mI) (ML : mJ) : Prop := mEx D TX11_worth (mqS Q) (103, [some (.ref 46), some (.int v1), some (.int v2), some (.int v3), none, none, some (.int v6)], [], (W0, Sh0, MI, ML))
theorem BX11_worth_0 {D : Nat} {Q : Option Value → mI → mJ → Prop}  {v1 : Int32} {v2 : Int32} {v3 : Int32} {MI : mI} {ML : mJ} 
    (h : ∃ (x3 : Int32) (M1 : mI) (N2 : mJ), mrc D 183 [.ref 46, .long (v1).toInt64] MI ML (some (.int x3)) M1 N2 ∧ ((x3 = nI 0 → Q (some (.int (-1 : Int32))) M1 N2) ∧ (¬ x3 = nI 0 → ∃ (x6 : Int32) (M4 : mI) (N5 : mJ), mrc D 178 [.long (v2).toInt64, .long (0 : Int64), .long (40 : Int64)] M1 N2 (some (.int x6)) M4 N5 ∧ ((x6 = nI 0 → Q (some (.int (-1 : Int32))) M4 N5) ∧ (¬ x6 = nI 0 → ∃ (x9 : Int32) (M7 : mI) (N8 : mJ), mrc D 178 [.long (v3).toInt64, .long (0 : Int64), .long (1 : Int64)] M4 N5 (some (.int x9)) M7 N8 ∧ ((x9 = nI 0 → Q (some (.int (-1 : Int32))) M7 N8) ∧ (¬ x9 = nI 0 → VX11_worth_44 D Q v1 v2 v3 (-2 : Int32) (-2 : Int32) (nI 0) M7 N8))))))) :
    VX11_worth_0 D Q v1 v2 v3 MI ML := by
  show mEx D TX11_worth (mqS Q) (0, [some (.ref 46), some (.int v1), some (.int v2), some (.int v3), none, none, none], [], (W0, Sh0, MI, ML))
  refine x_st rfl ?_
  refine x_st rfl ?_
  refine x_st rfl ?_
  obtain ⟨x3, M1, N2, hc, h⟩ := h
  refine x_vi (y := 183) (n := 1) (ci := 11) (nx := 6) rfl (fun _ => rfl) sh_46 rfl hc ?_
  refine x_br rfl (fun c => ?_) (fun c => ?_)
  · replace h := h.1 c
    refine x_st rfl ?_
    refine x_ret rfl ?_
    exact ⟨_, _, rfl, h⟩
  · replace h := h.2 c
    refine x_st rfl ?_
    refine x_st rfl ?_
    refine x_st rfl ?_
    refine x_st rfl ?_
    obtain ⟨x6, M4, N5, hc, h⟩ := h
    refine x_ci rfl hc ?_
    refine x_br rfl (fun c => ?_) (fun c => ?_)
    · replace h := h.1 c
      refine x_st rfl ?_
      refine x_ret rfl ?_
      exact ⟨_, _, rfl, h⟩
    · replace h := h.2 c
      refine x_st rfl ?_
      refine x_st rfl ?_
      refine x_st rfl ?_
      refine x_st rfl ?_
      obtain ⟨x9, M7, N8, hc, h⟩ := h
      refine x_ci rfl hc ?_
      refine x_br rfl (fun c => ?_) (fun c => ?_)
      · replace h := h.1 c
        refine x_st rfl ?_
        refine x_ret rfl ?_
        exact ⟨_, _, rfl, h⟩
      · replace h := h.2 c
        refine x_st rfl ?_
        refine x_st rfl ?_
        refine x_st rfl ?_
        refine x_st rfl ?_
        refine x_st rfl ?_
        refine x_st rfl ?_
        refine x_kl ?_ h
        exact ⟨Or.inr rfl, ⟨Or.inr rfl, ⟨Or.inr rfl, ⟨Or.inr rfl, ⟨Or.inr rfl, ⟨Or.inr rfl, ⟨Or.inr rfl, True.intro⟩⟩⟩⟩⟩⟩⟩
theorem BX11_worth_44 {D : Nat} {Q : Option Value → mI → mJ → Prop}  {v1 : Int32} {v2 : Int32} {v3 : Int32} {v4 : Int32} {v5 : Int32} {v6 : Int32} {MI : mI} {ML : mJ} 
    (h : ((MI 46 6) ≤ v6 → (v3 = nI 0 → Q (some (.int v4)) MI ML) ∧ (¬ v3 = nI 0 → Q (some (.int v5)) MI ML)) ∧ (¬ (MI 46 6) ≤ v6 → (v6 = v1 → VX11_worth_44 D Q v1 v2 v3 v4 v5 (v6 + (nI 1)) MI ML) ∧ (¬ v6 = v1 → ∃ (M1 : mI) (N2 : mJ), mrc D 211 [.ref 46] MI ML none M1 N2 ∧ (∃ (x5 : Int32) (M3 : mI) (N4 : mJ), mrc D 184 [.int v6, .int v1] M1 N2 (some (.int x5)) M3 N4 ∧ (∃ i6 : Nat, x5 = nI i6 ∧ i6 < 84 ∧ (∃ (x9 : Int32) (M7 : mI) (N8 : mJ), mrc D 224 [.ref 46, .int v2] (mup M3 61 (mput (M3 61) i6 (-9 : Int32))) N4 (some (.int x9)) M7 N8 ∧ ((v4 = (-2 : Int32) → VX11_worth_103 D Q v1 v2 v3 v6 M7 N8) ∧ (¬ v4 = (-2 : Int32) → ∃ i10 : Nat, v1 = nI i10 ∧ i10 < 84 ∧ ((v5 ≤ (M7 61 i10) → VX11_worth_44 D Q v1 v2 v3 v4 v5 (v6 + (nI 1)) M7 N8) ∧ (¬ v5 ≤ (M7 61 i10) → VX11_worth_103 D Q v1 v2 v3 v6 M7 N8)))))))))) :
    VX11_worth_44 D Q v1 v2 v3 v4 v5 v6 MI ML := by
  show mEx D TX11_worth (mqS Q) (44, [some (.ref 46), some (.int v1), some (.int v2), some (.int v3), some (.int v4), some (.int v5), some (.int v6)], [], (W0, Sh0, MI, ML))
  refine x_st rfl ?_
  refine x_st rfl ?_
  refine x_gi (ci := 11) (k := 6) (nx := 50) rfl sh_46 rfl ?_
  refine x_br rfl (fun c => ?_) (fun c => ?_)
  · replace h := h.1 c
    refine x_st rfl ?_
    refine x_br rfl (fun c => ?_) (fun c => ?_)
    · replace h := h.1 c
      refine x_st rfl ?_
      refine x_st rfl ?_
      refine x_ret rfl ?_
      exact ⟨_, _, rfl, h⟩
    · replace h := h.2 c
      refine x_st rfl ?_
      refine x_ret rfl ?_
      exact ⟨_, _, rfl, h⟩
  · replace h := h.2 c
    refine x_st rfl ?_
    refine x_st rfl ?_
    refine x_br rfl (fun c => ?_) (fun c => ?_)
    · replace h := h.1 c
      refine x_st rfl ?_
      refine x_st rfl ?_
      refine x_st rfl ?_
      refine x_kl ?_ h
      exact ⟨Or.inr rfl, ⟨Or.inr rfl, ⟨Or.inr rfl, ⟨Or.inr rfl, ⟨Or.inr rfl, ⟨Or.inr rfl, ⟨Or.inr rfl, True.intro⟩⟩⟩⟩⟩⟩⟩
    · replace h := h.2 c
      refine x_st rfl ?_
      obtain ⟨M1, N2, hc, h⟩ := h
      refine x_vv (y := 211) (n := 0) (ci := 11) (nx := 66) rfl (fun _ => rfl) sh_46 rfl hc ?_
      refine x_st rfl ?_
      refine x_gr (ci := 11) (k := 24) (nx := 70) rfl sh_46 rfl ?_
      refine x_st rfl ?_
      refine x_st rfl ?_
      obtain ⟨x5, M3, N4, hc, h⟩ := h
      refine x_ci rfl hc ?_
      refine x_st rfl ?_
      obtain ⟨i6, hx, hi, h⟩ := h
      refine x_iast (i := i6) (nx := 79) rfl sh_61 hx hi (by decide) ?_
      refine x_st rfl ?_
      refine x_st rfl ?_
      obtain ⟨x9, M7, N8, hc, h⟩ := h
      refine x_vi (y := 224) (n := 1) (ci := 11) (nx := 84) rfl (fun _ => rfl) sh_46 rfl hc ?_
      refine x_st rfl ?_
      refine x_st rfl ?_
      refine x_st rfl ?_
      refine x_br rfl (fun c => ?_) (fun c => ?_)
      · replace h := h.1 c
        refine x_kl ?_ h
        exact ⟨Or.inr rfl, ⟨Or.inr rfl, ⟨Or.inr rfl, ⟨Or.inr rfl, ⟨Or.inl rfl, ⟨Or.inl rfl, ⟨Or.inr rfl, True.intro⟩⟩⟩⟩⟩⟩⟩
      · replace h := h.2 c
        refine x_st rfl ?_
        refine x_gr (ci := 11) (k := 24) (nx := 96) rfl sh_46 rfl ?_
        refine x_st rfl ?_
        obtain ⟨i10, hx, hi, h⟩ := h
        refine x_ia (i := i10) (nx := 98) rfl sh_61 hx hi (by decide) ?_
        refine x_st rfl ?_
        refine x_br rfl (fun c => ?_) (fun c => ?_)
        · replace h := h.1 c
          refine x_st rfl ?_
          refine x_st rfl ?_
          refine x_kl ?_ h
          exact ⟨Or.inr rfl, ⟨Or.inr rfl, ⟨Or.inr rfl, ⟨Or.inr rfl, ⟨Or.inr rfl, ⟨Or.inr rfl, ⟨Or.inr rfl, True.intro⟩⟩⟩⟩⟩⟩⟩
        · replace h := h.2 c
          refine x_kl ?_ h
          exact ⟨Or.inr rfl, ⟨Or.inr rfl, ⟨Or.inr rfl, ⟨Or.inr rfl, ⟨Or.inl rfl, ⟨Or.inl rfl, ⟨Or.inr rfl, True.intro⟩⟩⟩⟩⟩⟩⟩
theorem BX11_worth_103 {D : Nat} {Q : Option Value → mI → mJ → Prop}  {v1 : Int32} {v2 : Int32} {v3 : Int32} {v6 : Int32} {MI : mI} {ML : mJ} 
    (h : ∃ i1 : Nat, v1 = nI i1 ∧ i1 < 84 ∧ (VX11_worth_44 D Q v1 v2 v3 v6 (MI 61 i1) (v6 + (nI 1)) MI ML)) :
    VX11_worth_103 D Q v1 v2 v3 v6 MI ML := by
  show mEx D TX11_worth (mqS Q) (103, [some (.ref 46), some (.int v1), some (.int v2), some (.int v3), none, none, some (.int v6)], [], (W0, Sh0, MI, ML))
  refine x_st rfl ?_
  refine x_st rfl ?_
  refine x_st rfl ?_
  refine x_gr (ci := 11) (k := 24) (nx := 111) rfl sh_46 rfl ?_
  refine x_st rfl ?_
  obtain ⟨i1, hx, hi, h⟩ := h
  refine x_ia (i := i1) (nx := 113) rfl sh_61 hx hi (by decide) ?_
  refine x_st rfl ?_
  refine x_st rfl ?_
  refine x_st rfl ?_
  refine x_kl ?_ h
  exact ⟨Or.inr rfl, ⟨Or.inr rfl, ⟨Or.inr rfl, ⟨Or.inr rfl, ⟨Or.inr rfl, ⟨Or.inr rfl, ⟨Or.inr rfl, True.intro⟩⟩⟩⟩⟩⟩⟩
theorem EX11_worth {D : Nat} {Q : Option Value → mI → mJ → Prop}  {v1 : Int32} {v2 : Int32} {v3 : Int32} {MI : mI} {ML : mJ} (h : VX11_worth_0 D Q v1 v2 v3 MI ML) : ∃ v MI' ML', Q v MI' ML' ∧ mrc (D + 1) 230 [.ref 46, .int v1, .int v2, .int v3] MI ML v MI' ML' := by
  refine x_en (n := 3) (T := TX11_worth) rfl rfl ?_
  refine x_kl ?_ h
  exact ⟨Or.inr rfl, ⟨Or.inr rfl, ⟨Or.inr rfl, ⟨Or.inr rfl, ⟨Or.inl rfl, ⟨Or.inl rfl, ⟨Or.inl rfl, True.intro⟩⟩⟩⟩⟩⟩⟩
def VX11_ring_0 (D : Nat) (Q : Option Value → mI → mJ → Prop)  (MI : mI) (ML : mJ) : Prop := mEx D TX11_ring (mqS Q) (0, [some (.ref 46), none, none, none, none, none], [], (W0, Sh0, MI, ML))
def VX11_ring_5 (D : Nat) (Q : Option Value → mI → mJ → Prop)  (v1 : Int32) (v2 : Int32) (MI : mI) (ML : mJ) : Prop := mEx D TX11_ring (mqS Q) (5, [some (.ref 46), some (.int v1), some (.int v2), none, none, none], [], (W0, Sh0, MI, ML))
def VX11_ring_15 (D : Nat) (Q : Option Value → mI → mJ → Prop)  (v1 : Int32) (v2 : Int32) (v3 : Int32) (MI : mI) (ML : mJ) : Prop := mEx D TX11_ring (mqS Q) (15, [some (.ref 46), some (.int v1), some (.int v2), some (.int v3), none, none], [], (W0, Sh0, MI, ML))
def VX11_ring_47 (D : Nat) (Q : Option Value → mI → mJ → Prop)  (v1 : Int32) (v2 : Int32) (v3 : Int32) (MI : mI) (ML : mJ) : Prop := mEx D TX11_ring (mqS Q) (47, [some (.ref 46), some (.int v1), some (.int v2), some (.int v3), none, none], [], (W0, Sh0, MI, ML))
def VX11_ring_58 (D : Nat) (Q : Option Value → mI → mJ → Prop)  (v1 : Int32) (v2 : Int32) (v3 : Int32) (v4 : Int32) (MI : mI) (ML : mJ) : Prop := mEx D TX11_ring (mqS Q) (58, [some (.ref 46), some (.int v1), some (.int v2), some (.int v3), some (.int v4), none], [], (W0, Sh0, MI, ML))
def VX11_ring_78 (D : Nat) (Q : Option Value → mI → mJ → Prop)  (v1 : Int32) (v2 : Int32) (v3 : Int32) (v4 : Int32) (v5 : Int32) (MI : mI) (ML : mJ) : Prop := mEx D TX11_ring (mqS Q) (78, [some (.ref 46), some (.int v1), some (.int v2), some (.int v3), some (.int v4), some (.int v5)], [], (W0, Sh0, MI, ML))
def VX11_ring_149 (D : Nat) (Q : Option Value → mI → mJ → Prop)  (v1 : Int32) (v2 : Int32) (v3 : Int32) (v4 : Int32) (MI : mI) (ML : mJ) : Prop := mEx D TX11_ring (mqS Q) (149, [some (.ref 46), some (.int v1), some (.int v2), some (.int v3), some (.int v4), none], [], (W0, Sh0, MI, ML))
theorem BX11_ring_0 {D : Nat} {Q : Option Value → mI → mJ → Prop}  {MI : mI} {ML : mJ} 
    (h : VX11_ring_5 D Q (-2 : Int32) (nI 0) MI ML) :
    VX11_ring_0 D Q  MI ML := by
  show mEx D TX11_ring (mqS Q) (0, [some (.ref 46), none, none, none, none, none], [], (W0, Sh0, MI, ML))
  refine x_st rfl ?_
  refine x_st rfl ?_
  refine x_st rfl ?_
  refine x_st rfl ?_
  refine x_kl ?_ h
  exact ⟨Or.inr rfl, ⟨Or.inr rfl, ⟨Or.inr rfl, ⟨Or.inl rfl, ⟨Or.inl rfl, ⟨Or.inl rfl, True.intro⟩⟩⟩⟩⟩⟩
theorem BX11_ring_5 {D : Nat} {Q : Option Value → mI → mJ → Prop}  {v1 : Int32} {v2 : Int32} {MI : mI} {ML : mJ} 
    (h : ((MI 46 6) ≤ v2 → Q (some (.int v1)) MI ML) ∧ (¬ (MI 46 6) ≤ v2 → VX11_ring_15 D Q v1 v2 (nI 0) MI ML)) :
    VX11_ring_5 D Q v1 v2 MI ML := by
  show mEx D TX11_ring (mqS Q) (5, [some (.ref 46), some (.int v1), some (.int v2), none, none, none], [], (W0, Sh0, MI, ML))
  refine x_st rfl ?_
  refine x_st rfl ?_
  refine x_gi (ci := 11) (k := 6) (nx := 10) rfl sh_46 rfl ?_
  refine x_br rfl (fun c => ?_) (fun c => ?_)
  · replace h := h.1 c
    refine x_st rfl ?_
    refine x_ret rfl ?_
    exact ⟨_, _, rfl, h⟩
  · replace h := h.2 c
    refine x_st rfl ?_
    refine x_st rfl ?_
    refine x_kl ?_ h
    exact ⟨Or.inr rfl, ⟨Or.inr rfl, ⟨Or.inr rfl, ⟨Or.inr rfl, ⟨Or.inl rfl, ⟨Or.inl rfl, True.intro⟩⟩⟩⟩⟩⟩
theorem BX11_ring_15 {D : Nat} {Q : Option Value → mI → mJ → Prop}  {v1 : Int32} {v2 : Int32} {v3 : Int32} {MI : mI} {ML : mJ} 
    (h : ((MI 46 6) ≤ v3 → VX11_ring_47 D Q v1 v2 (nI 1) MI ML) ∧ (¬ (MI 46 6) ≤ v3 → (v3 = v2 → ∃ i1 : Nat, v3 = nI i1 ∧ i1 < 8 ∧ (VX11_ring_15 D Q v1 v2 (v3 + (nI 1)) (mup MI 68 (mput (MI 68) i1 ((nI 1) &&& 1))) ML)) ∧ (¬ v3 = v2 → ∃ i2 : Nat, v3 = nI i2 ∧ i2 < 8 ∧ (VX11_ring_15 D Q v1 v2 (v3 + (nI 1)) (mup MI 68 (mput (MI 68) i2 ((nI 0) &&& 1))) ML)))) :
    VX11_ring_15 D Q v1 v2 v3 MI ML := by
  show mEx D TX11_ring (mqS Q) (15, [some (.ref 46), some (.int v1), some (.int v2), some (.int v3), none, none], [], (W0, Sh0, MI, ML))
  refine x_st rfl ?_
  refine x_st rfl ?_
  refine x_gi (ci := 11) (k := 6) (nx := 20) rfl sh_46 rfl ?_
  refine x_br rfl (fun c => ?_) (fun c => ?_)
  · replace h := h.1 c
    refine x_st rfl ?_
    refine x_st rfl ?_
    refine x_kl ?_ h
    exact ⟨Or.inr rfl, ⟨Or.inr rfl, ⟨Or.inr rfl, ⟨Or.inr rfl, ⟨Or.inl rfl, ⟨Or.inl rfl, True.intro⟩⟩⟩⟩⟩⟩
  · replace h := h.2 c
    refine x_st rfl ?_
    refine x_gr (ci := 11) (k := 33) (nx := 27) rfl sh_46 rfl ?_
    refine x_st rfl ?_
    refine x_st rfl ?_
    refine x_st rfl ?_
    refine x_br rfl (fun c => ?_) (fun c => ?_)
    · replace h := h.1 c
      refine x_st rfl ?_
      refine x_st rfl ?_
      obtain ⟨i1, hx, hi, h⟩ := h
      refine x_zast (i := i1) (nx := 39) rfl sh_68 hx hi (by decide) ?_
      refine x_st rfl ?_
      refine x_st rfl ?_
      refine x_kl ?_ h
      exact ⟨Or.inr rfl, ⟨Or.inr rfl, ⟨Or.inr rfl, ⟨Or.inr rfl, ⟨Or.inl rfl, ⟨Or.inl rfl, True.intro⟩⟩⟩⟩⟩⟩
    · replace h := h.2 c
      refine x_st rfl ?_
      obtain ⟨i2, hx, hi, h⟩ := h
      refine x_zast (i := i2) (nx := 39) rfl sh_68 hx hi (by decide) ?_
      refine x_st rfl ?_
      refine x_st rfl ?_
      refine x_kl ?_ h
      exact ⟨Or.inr rfl, ⟨Or.inr rfl, ⟨Or.inr rfl, ⟨Or.inr rfl, ⟨Or.inl rfl, ⟨Or.inl rfl, True.intro⟩⟩⟩⟩⟩⟩
theorem BX11_ring_47 {D : Nat} {Q : Option Value → mI → mJ → Prop}  {v1 : Int32} {v2 : Int32} {v3 : Int32} {MI : mI} {ML : mJ} 
    (h : ((MI 46 6) < v3 → VX11_ring_5 D Q v1 (v2 + (nI 1)) MI ML) ∧ (¬ (MI 46 6) < v3 → VX11_ring_58 D Q v1 v2 v3 (nI 0) MI ML)) :
    VX11_ring_47 D Q v1 v2 v3 MI ML := by
  show mEx D TX11_ring (mqS Q) (47, [some (.ref 46), some (.int v1), some (.int v2), some (.int v3), none, none], [], (W0, Sh0, MI, ML))
  refine x_st rfl ?_
  refine x_st rfl ?_
  refine x_gi (ci := 11) (k := 6) (nx := 52) rfl sh_46 rfl ?_
  refine x_br rfl (fun c => ?_) (fun c => ?_)
  · replace h := h.1 c
    refine x_st rfl ?_
    refine x_st rfl ?_
    refine x_kl ?_ h
    exact ⟨Or.inr rfl, ⟨Or.inr rfl, ⟨Or.inr rfl, ⟨Or.inl rfl, ⟨Or.inl rfl, ⟨Or.inl rfl, True.intro⟩⟩⟩⟩⟩⟩
  · replace h := h.2 c
    refine x_st rfl ?_
    refine x_st rfl ?_
    refine x_kl ?_ h
    exact ⟨Or.inr rfl, ⟨Or.inr rfl, ⟨Or.inr rfl, ⟨Or.inr rfl, ⟨Or.inr rfl, ⟨Or.inl rfl, True.intro⟩⟩⟩⟩⟩⟩
theorem BX11_ring_58 {D : Nat} {Q : Option Value → mI → mJ → Prop}  {v1 : Int32} {v2 : Int32} {v3 : Int32} {v4 : Int32} {MI : mI} {ML : mJ} 
    (h : ((MI 46 6) ≤ v4 → VX11_ring_149 D Q v1 v2 v3 (nI 0) MI ML) ∧ (¬ (MI 46 6) ≤ v4 → ∃ i1 : Nat, v4 = nI i1 ∧ i1 < 8 ∧ (VX11_ring_78 D Q v1 v2 v3 v4 (nI 0) (mup MI 69 (mput (MI 69) i1 ((nI 0) &&& 1))) ML))) :
    VX11_ring_58 D Q v1 v2 v3 v4 MI ML := by
  show mEx D TX11_ring (mqS Q) (58, [some (.ref 46), some (.int v1), some (.int v2), some (.int v3), some (.int v4), none], [], (W0, Sh0, MI, ML))
  refine x_st rfl ?_
  refine x_st rfl ?_
  refine x_gi (ci := 11) (k := 6) (nx := 64) rfl sh_46 rfl ?_
  refine x_br rfl (fun c => ?_) (fun c => ?_)
  · replace h := h.1 c
    refine x_st rfl ?_
    refine x_st rfl ?_
    refine x_kl ?_ h
    exact ⟨Or.inr rfl, ⟨Or.inr rfl, ⟨Or.inr rfl, ⟨Or.inr rfl, ⟨Or.inr rfl, ⟨Or.inl rfl, True.intro⟩⟩⟩⟩⟩⟩
  · replace h := h.2 c
    refine x_st rfl ?_
    refine x_gr (ci := 11) (k := 34) (nx := 71) rfl sh_46 rfl ?_
    refine x_st rfl ?_
    refine x_st rfl ?_
    obtain ⟨i1, hx, hi, h⟩ := h
    refine x_zast (i := i1) (nx := 75) rfl sh_69 hx hi (by decide) ?_
    refine x_st rfl ?_
    refine x_st rfl ?_
    refine x_kl ?_ h
    exact ⟨Or.inr rfl, ⟨Or.inr rfl, ⟨Or.inr rfl, ⟨Or.inr rfl, ⟨Or.inr rfl, ⟨Or.inr rfl, True.intro⟩⟩⟩⟩⟩⟩
theorem BX11_ring_78 {D : Nat} {Q : Option Value → mI → mJ → Prop}  {v1 : Int32} {v2 : Int32} {v3 : Int32} {v4 : Int32} {v5 : Int32} {MI : mI} {ML : mJ} 
    (h : ((MI 46 6) ≤ v5 → VX11_ring_58 D Q v1 v2 v3 (v4 + (nI 1)) MI ML) ∧ (¬ (MI 46 6) ≤ v5 → ∃ i1 : Nat, v4 = nI i1 ∧ i1 < 8 ∧ (((MI 69 i1) = nI 0 → ∃ i2 : Nat, v5 = nI i2 ∧ i2 < 8 ∧ (((MI 68 i2) = nI 0 → ∃ i3 : Nat, v4 = nI i3 ∧ i3 < 8 ∧ (VX11_ring_78 D Q v1 v2 v3 v4 (v5 + (nI 1)) (mup MI 69 (mput (MI 69) i3 ((nI 0) &&& 1))) ML)) ∧ (¬ (MI 68 i2) = nI 0 → ∃ (x6 : Int32) (M4 : mI) (N5 : mJ), mrc D 184 [.int v5, .int v4] MI ML (some (.int x6)) M4 N5 ∧ (∃ i7 : Nat, x6 = nI i7 ∧ i7 < 84 ∧ ((nI 0 ≤ (M4 47 i7) → ∃ i8 : Nat, v4 = nI i8 ∧ i8 < 8 ∧ (VX11_ring_78 D Q v1 v2 v3 v4 (v5 + (nI 1)) (mup M4 69 (mput (M4 69) i8 ((nI 0) &&& 1))) N5)) ∧ (¬ nI 0 ≤ (M4 47 i7) → ∃ i9 : Nat, v4 = nI i9 ∧ i9 < 8 ∧ (VX11_ring_78 D Q v1 v2 v3 v4 (v5 + (nI 1)) (mup M4 69 (mput (M4 69) i9 ((nI 1) &&& 1))) N5))))))) ∧ (¬ (MI 69 i1) = nI 0 → ∃ i10 : Nat, v4 = nI i10 ∧ i10 < 8 ∧ (VX11_ring_78 D Q v1 v2 v3 v4 (v5 + (nI 1)) (mup MI 69 (mput (MI 69) i10 ((nI 1) &&& 1))) ML))))) :
    VX11_ring_78 D Q v1 v2 v3 v4 v5 MI ML := by
  show mEx D TX11_ring (mqS Q) (78, [some (.ref 46), some (.int v1), some (.int v2), some (.int v3), some (.int v4), some (.int v5)], [], (W0, Sh0, MI, ML))
  refine x_st rfl ?_
  refine x_st rfl ?_
  refine x_gi (ci := 11) (k := 6) (nx := 84) rfl sh_46 rfl ?_
  refine x_br rfl (fun c => ?_) (fun c => ?_)
  · replace h := h.1 c
    refine x_st rfl ?_
    refine x_st rfl ?_
    refine x_kl ?_ h
    exact ⟨Or.inr rfl, ⟨Or.inr rfl, ⟨Or.inr rfl, ⟨Or.inr rfl, ⟨Or.inr rfl, ⟨Or.inl rfl, True.intro⟩⟩⟩⟩⟩⟩
  · replace h := h.2 c
    refine x_st rfl ?_
    refine x_gr (ci := 11) (k := 34) (nx := 91) rfl sh_46 rfl ?_
    refine x_st rfl ?_
    refine x_st rfl ?_
    refine x_gr (ci := 11) (k := 34) (nx := 97) rfl sh_46 rfl ?_
    refine x_st rfl ?_
    obtain ⟨i1, hx, hi, h⟩ := h
    refine x_za (i := i1) (nx := 100) rfl sh_69 hx hi (by decide) ?_
    refine x_br rfl (fun c => ?_) (fun c => ?_)
    · replace h := h.1 c
      refine x_st rfl ?_
      refine x_gr (ci := 11) (k := 33) (nx := 107) rfl sh_46 rfl ?_
      refine x_st rfl ?_
      obtain ⟨i2, hx, hi, h⟩ := h
      refine x_za (i := i2) (nx := 110) rfl sh_68 hx hi (by decide) ?_
      refine x_br rfl (fun c => ?_) (fun c => ?_)
      · replace h := h.1 c
        refine x_st rfl ?_
        obtain ⟨i3, hx, hi, h⟩ := h
        refine x_zast (i := i3) (nx := 134) rfl sh_69 hx hi (by decide) ?_
        refine x_st rfl ?_
        refine x_st rfl ?_
        refine x_kl ?_ h
        exact ⟨Or.inr rfl, ⟨Or.inr rfl, ⟨Or.inr rfl, ⟨Or.inr rfl, ⟨Or.inr rfl, ⟨Or.inr rfl, True.intro⟩⟩⟩⟩⟩⟩
      · replace h := h.2 c
        refine x_st rfl ?_
        refine x_gr (ci := 11) (k := 0) (nx := 117) rfl sh_46 rfl ?_
        refine x_st rfl ?_
        refine x_st rfl ?_
        obtain ⟨x6, M4, N5, hc, h⟩ := h
        refine x_ci rfl hc ?_
        obtain ⟨i7, hx, hi, h⟩ := h
        refine x_ia (i := i7) (nx := 125) rfl sh_47 hx hi (by decide) ?_
        refine x_br rfl (fun c => ?_) (fun c => ?_)
        · replace h := h.1 c
          refine x_st rfl ?_
          obtain ⟨i8, hx, hi, h⟩ := h
          refine x_zast (i := i8) (nx := 134) rfl sh_69 hx hi (by decide) ?_
          refine x_st rfl ?_
          refine x_st rfl ?_
          refine x_kl ?_ h
          exact ⟨Or.inr rfl, ⟨Or.inr rfl, ⟨Or.inr rfl, ⟨Or.inr rfl, ⟨Or.inr rfl, ⟨Or.inr rfl, True.intro⟩⟩⟩⟩⟩⟩
        · replace h := h.2 c
          refine x_st rfl ?_
          refine x_st rfl ?_
          obtain ⟨i9, hx, hi, h⟩ := h
          refine x_zast (i := i9) (nx := 134) rfl sh_69 hx hi (by decide) ?_
          refine x_st rfl ?_
          refine x_st rfl ?_
          refine x_kl ?_ h
          exact ⟨Or.inr rfl, ⟨Or.inr rfl, ⟨Or.inr rfl, ⟨Or.inr rfl, ⟨Or.inr rfl, ⟨Or.inr rfl, True.intro⟩⟩⟩⟩⟩⟩
    · replace h := h.2 c
      refine x_st rfl ?_
      refine x_st rfl ?_
      obtain ⟨i10, hx, hi, h⟩ := h
      refine x_zast (i := i10) (nx := 134) rfl sh_69 hx hi (by decide) ?_
      refine x_st rfl ?_
      refine x_st rfl ?_
      refine x_kl ?_ h
      exact ⟨Or.inr rfl, ⟨Or.inr rfl, ⟨Or.inr rfl, ⟨Or.inr rfl, ⟨Or.inr rfl, ⟨Or.inr rfl, True.intro⟩⟩⟩⟩⟩⟩
theorem BX11_ring_149 {D : Nat} {Q : Option Value → mI → mJ → Prop}  {v1 : Int32} {v2 : Int32} {v3 : Int32} {v4 : Int32} {MI : mI} {ML : mJ} 
    (h : ((MI 46 6) ≤ v4 → ∃ i1 : Nat, v2 = nI i1 ∧ i1 < 8 ∧ (((MI 68 i1) = nI 0 → VX11_ring_47 D Q v1 v2 (v3 + (nI 1)) MI ML) ∧ (¬ (MI 68 i1) = nI 0 → (v1 = (-2 : Int32) → VX11_ring_47 D Q v3 v2 (v3 + (nI 1)) MI ML) ∧ (¬ v1 = (-2 : Int32) → (v1 ≤ v3 → VX11_ring_47 D Q v1 v2 (v3 + (nI 1)) MI ML) ∧ (¬ v1 ≤ v3 → VX11_ring_47 D Q v3 v2 (v3 + (nI 1)) MI ML))))) ∧ (¬ (MI 46 6) ≤ v4 → ∃ i2 : Nat, v4 = nI i2 ∧ i2 < 8 ∧ (∃ i3 : Nat, v4 = nI i3 ∧ i3 < 8 ∧ (VX11_ring_149 D Q v1 v2 v3 (v4 + (nI 1)) (mup MI 68 (mput (MI 68) i3 ((MI 69 i2) &&& 1))) ML)))) :
    VX11_ring_149 D Q v1 v2 v3 v4 MI ML := by
  show mEx D TX11_ring (mqS Q) (149, [some (.ref 46), some (.int v1), some (.int v2), some (.int v3), some (.int v4), none], [], (W0, Sh0, MI, ML))
  refine x_st rfl ?_
  refine x_st rfl ?_
  refine x_gi (ci := 11) (k := 6) (nx := 155) rfl sh_46 rfl ?_
  refine x_br rfl (fun c => ?_) (fun c => ?_)
  · replace h := h.1 c
    refine x_st rfl ?_
    refine x_gr (ci := 11) (k := 33) (nx := 182) rfl sh_46 rfl ?_
    refine x_st rfl ?_
    obtain ⟨i1, hx, hi, h⟩ := h
    refine x_za (i := i1) (nx := 184) rfl sh_68 hx hi (by decide) ?_
    refine x_br rfl (fun c => ?_) (fun c => ?_)
    · replace h := h.1 c
      refine x_st rfl ?_
      refine x_st rfl ?_
      refine x_kl ?_ h
      exact ⟨Or.inr rfl, ⟨Or.inr rfl, ⟨Or.inr rfl, ⟨Or.inr rfl, ⟨Or.inl rfl, ⟨Or.inl rfl, True.intro⟩⟩⟩⟩⟩⟩
    · replace h := h.2 c
      refine x_st rfl ?_
      refine x_st rfl ?_
      refine x_br rfl (fun c => ?_) (fun c => ?_)
      · replace h := h.1 c
        refine x_st rfl ?_
        refine x_st rfl ?_
        refine x_st rfl ?_
        refine x_st rfl ?_
        refine x_kl ?_ h
        exact ⟨Or.inr rfl, ⟨Or.inr rfl, ⟨Or.inr rfl, ⟨Or.inr rfl, ⟨Or.inl rfl, ⟨Or.inl rfl, True.intro⟩⟩⟩⟩⟩⟩
      · replace h := h.2 c
        refine x_st rfl ?_
        refine x_st rfl ?_
        refine x_br rfl (fun c => ?_) (fun c => ?_)
        · replace h := h.1 c
          refine x_st rfl ?_
          refine x_st rfl ?_
          refine x_kl ?_ h
          exact ⟨Or.inr rfl, ⟨Or.inr rfl, ⟨Or.inr rfl, ⟨Or.inr rfl, ⟨Or.inl rfl, ⟨Or.inl rfl, True.intro⟩⟩⟩⟩⟩⟩
        · replace h := h.2 c
          refine x_st rfl ?_
          refine x_st rfl ?_
          refine x_st rfl ?_
          refine x_st rfl ?_
          refine x_kl ?_ h
          exact ⟨Or.inr rfl, ⟨Or.inr rfl, ⟨Or.inr rfl, ⟨Or.inr rfl, ⟨Or.inl rfl, ⟨Or.inl rfl, True.intro⟩⟩⟩⟩⟩⟩
  · replace h := h.2 c
    refine x_st rfl ?_
    refine x_gr (ci := 11) (k := 33) (nx := 162) rfl sh_46 rfl ?_
    refine x_st rfl ?_
    refine x_st rfl ?_
    refine x_gr (ci := 11) (k := 34) (nx := 168) rfl sh_46 rfl ?_
    refine x_st rfl ?_
    obtain ⟨i2, hx, hi, h⟩ := h
    refine x_za (i := i2) (nx := 171) rfl sh_69 hx hi (by decide) ?_
    obtain ⟨i3, hx, hi, h⟩ := h
    refine x_zast (i := i3) (nx := 172) rfl sh_68 hx hi (by decide) ?_
    refine x_st rfl ?_
    refine x_st rfl ?_
    refine x_kl ?_ h
    exact ⟨Or.inr rfl, ⟨Or.inr rfl, ⟨Or.inr rfl, ⟨Or.inr rfl, ⟨Or.inr rfl, ⟨Or.inl rfl, True.intro⟩⟩⟩⟩⟩⟩
theorem EX11_ring {D : Nat} {Q : Option Value → mI → mJ → Prop}  {MI : mI} {ML : mJ} (h : VX11_ring_0 D Q  MI ML) : ∃ v MI' ML', Q v MI' ML' ∧ mrc (D + 1) 231 [.ref 46] MI ML v MI' ML' := by
  refine x_en (n := 5) (T := TX11_ring) rfl rfl ?_
  refine x_kl ?_ h
  exact ⟨Or.inr rfl, ⟨Or.inl rfl, ⟨Or.inl rfl, ⟨Or.inl rfl, ⟨Or.inl rfl, ⟨Or.inl rfl, True.intro⟩⟩⟩⟩⟩⟩
def VX11_lookAt_0 (D : Nat) (Q : Option Value → mI → mJ → Prop)  (v1 : Int32) (MI : mI) (ML : mJ) : Prop := mEx D TX11_lookAt (mqS Q) (0, [some (.ref 46), some (.int v1)], [], (W0, Sh0, MI, ML))
theorem BX11_lookAt_0 {D : Nat} {Q : Option Value → mI → mJ → Prop}  {v1 : Int32} {MI : mI} {ML : mJ} 
    (h : ∃ (x3 : Int32) (M1 : mI) (N2 : mJ), mrc D 260 [.int v1] MI ML (some (.int x3)) M1 N2 ∧ ((x3 = nI 0 → Q (some (.int (-1 : Int32))) M1 N2) ∧ (¬ x3 = nI 0 → ∃ i4 : Nat, v1 = nI i4 ∧ i4 < 6 ∧ ((nI 0 ≤ (M1 76 i4) → ∃ i5 : Nat, v1 = nI i5 ∧ i5 < 6 ∧ (((M1 76 i5) = (nI 50) → Q (some (.int (nI 0))) M1 N2) ∧ (¬ (M1 76 i5) = (nI 50) → Q (some (.int (-12 : Int32))) M1 N2))) ∧ (¬ nI 0 ≤ (M1 76 i4) → Q (some (.int (-11 : Int32))) M1 N2))))) :
    VX11_lookAt_0 D Q v1 MI ML := by
  show mEx D TX11_lookAt (mqS Q) (0, [some (.ref 46), some (.int v1)], [], (W0, Sh0, MI, ML))
  refine x_st rfl ?_
  obtain ⟨x3, M1, N2, hc, h⟩ := h
  refine x_ci rfl hc ?_
  refine x_br rfl (fun c => ?_) (fun c => ?_)
  · replace h := h.1 c
    refine x_st rfl ?_
    refine x_st rfl ?_
    refine x_ret rfl ?_
    exact ⟨_, _, rfl, h⟩
  · replace h := h.2 c
    refine x_st rfl ?_
    refine x_gr (ci := 11) (k := 47) (nx := 15) rfl sh_46 rfl ?_
    refine x_st rfl ?_
    obtain ⟨i4, hx, hi, h⟩ := h
    refine x_ia (i := i4) (nx := 17) rfl sh_76 hx hi (by decide) ?_
    refine x_br rfl (fun c => ?_) (fun c => ?_)
    · replace h := h.1 c
      refine x_st rfl ?_
      refine x_gr (ci := 11) (k := 47) (nx := 29) rfl sh_46 rfl ?_
      refine x_st rfl ?_
      obtain ⟨i5, hx, hi, h⟩ := h
      refine x_ia (i := i5) (nx := 31) rfl sh_76 hx hi (by decide) ?_
      refine x_st rfl ?_
      refine x_br rfl (fun c => ?_) (fun c => ?_)
      · replace h := h.1 c
        refine x_st rfl ?_
        refine x_st rfl ?_
        refine x_ret rfl ?_
        exact ⟨_, _, rfl, h⟩
      · replace h := h.2 c
        refine x_st rfl ?_
        refine x_ret rfl ?_
        exact ⟨_, _, rfl, h⟩
    · replace h := h.2 c
      refine x_st rfl ?_
      refine x_st rfl ?_
      refine x_ret rfl ?_
      exact ⟨_, _, rfl, h⟩
theorem EX11_lookAt {D : Nat} {Q : Option Value → mI → mJ → Prop}  {v1 : Int32} {MI : mI} {ML : mJ} (h : VX11_lookAt_0 D Q v1 MI ML) : ∃ v MI' ML', Q v MI' ML' ∧ mrc (D + 1) 232 [.ref 46, .int v1] MI ML v MI' ML' := by
  refine x_en (n := 0) (T := TX11_lookAt) rfl rfl ?_
  refine x_kl ?_ h
  exact ⟨Or.inr rfl, ⟨Or.inr rfl, True.intro⟩⟩
def VX11_wrongDay_0 (D : Nat) (Q : Option Value → mI → mJ → Prop)  (v1 : Int32) (v2 : Int32) (MI : mI) (ML : mJ) : Prop := mEx D TX11_wrongDay (mqS Q) (0, [some (.ref 46), some (.int v1), some (.int v2), none, none, none], [], (W0, Sh0, MI, ML))
def VX11_wrongDay_2 (D : Nat) (Q : Option Value → mI → mJ → Prop)  (v1 : Int32) (v2 : Int32) (v3 : Int32) (MI : mI) (ML : mJ) : Prop := mEx D TX11_wrongDay (mqS Q) (2, [some (.ref 46), some (.int v1), some (.int v2), some (.int v3), none, none], [], (W0, Sh0, MI, ML))
theorem BX11_wrongDay_0 {D : Nat} {Q : Option Value → mI → mJ → Prop}  {v1 : Int32} {v2 : Int32} {MI : mI} {ML : mJ} 
    (h : VX11_wrongDay_2 D Q v1 v2 (nI 0) MI ML) :
    VX11_wrongDay_0 D Q v1 v2 MI ML := by
  show mEx D TX11_wrongDay (mqS Q) (0, [some (.ref 46), some (.int v1), some (.int v2), none, none, none], [], (W0, Sh0, MI, ML))
  refine x_st rfl ?_
  refine x_st rfl ?_
  refine x_kl ?_ h
  exact ⟨Or.inr rfl, ⟨Or.inr rfl, ⟨Or.inr rfl, ⟨Or.inr rfl, ⟨Or.inl rfl, ⟨Or.inl rfl, True.intro⟩⟩⟩⟩⟩⟩
theorem BX11_wrongDay_2 {D : Nat} {Q : Option Value → mI → mJ → Prop}  {v1 : Int32} {v2 : Int32} {v3 : Int32} {MI : mI} {ML : mJ} 
    (h : ∃ i1 : Nat, v1 = nI i1 ∧ i1 < 6 ∧ (((MI 77 i1) ≤ v3 → Q (some (.int (-2 : Int32))) MI ML) ∧ (¬ (MI 77 i1) ≤ v3 → ((nI 40) ≤ v3 → Q (some (.int (-2 : Int32))) MI ML) ∧ (¬ (nI 40) ≤ v3 → ∃ (M2 : mI) (N3 : mJ), mrc D 216 [.ref 46] MI ML none M2 N3 ∧ (∃ i4 : Nat, (((nI 60) * v1) + v3) = nI i4 ∧ i4 < 360 ∧ (((lg_cmp (N3 78 i4) (9 : Int64)) = nI 0 → VX11_wrongDay_2 D Q v1 v2 (v3 + (nI 1)) M2 N3) ∧ (¬ (lg_cmp (N3 78 i4) (9 : Int64)) = nI 0 → ∃ i5 : Nat, v2 = nI i5 ∧ i5 < 8 ∧ (((lg_cmp (N3 78 i4) ((M2 65 i5)).toInt64) = nI 0 → VX11_wrongDay_2 D Q v1 v2 (v3 + (nI 1)) M2 N3) ∧ (¬ (lg_cmp (N3 78 i4) ((M2 65 i5)).toInt64) = nI 0 → Q (some (.int v3)) M2 N3))))))))) :
    VX11_wrongDay_2 D Q v1 v2 v3 MI ML := by
  show mEx D TX11_wrongDay (mqS Q) (2, [some (.ref 46), some (.int v1), some (.int v2), some (.int v3), none, none], [], (W0, Sh0, MI, ML))
  refine x_st rfl ?_
  refine x_st rfl ?_
  refine x_gr (ci := 11) (k := 48) (nx := 7) rfl sh_46 rfl ?_
  refine x_st rfl ?_
  obtain ⟨i1, hx, hi, h⟩ := h
  refine x_ia (i := i1) (nx := 9) rfl sh_77 hx hi (by decide) ?_
  refine x_br rfl (fun c => ?_) (fun c => ?_)
  · replace h := h.1 c
    refine x_st rfl ?_
    refine x_ret rfl ?_
    exact ⟨_, _, rfl, h⟩
  · replace h := h.2 c
    refine x_st rfl ?_
    refine x_st rfl ?_
    refine x_br rfl (fun c => ?_) (fun c => ?_)
    · replace h := h.1 c
      refine x_st rfl ?_
      refine x_ret rfl ?_
      exact ⟨_, _, rfl, h⟩
    · replace h := h.2 c
      refine x_st rfl ?_
      obtain ⟨M2, N3, hc, h⟩ := h
      refine x_vv (y := 216) (n := 0) (ci := 11) (nx := 22) rfl (fun _ => rfl) sh_46 rfl hc ?_
      refine x_st rfl ?_
      refine x_gr (ci := 11) (k := 49) (nx := 26) rfl sh_46 rfl ?_
      refine x_st rfl ?_
      refine x_st rfl ?_
      refine x_st rfl ?_
      refine x_st rfl ?_
      refine x_st rfl ?_
      obtain ⟨i4, hx, hi, h⟩ := h
      refine x_la (i := i4) (nx := 33) rfl sh_78 hx hi (by decide) ?_
      refine x_st rfl ?_
      refine x_st rfl ?_
      refine x_st rfl ?_
      refine x_st rfl ?_
      refine x_br rfl (fun c => ?_) (fun c => ?_)
      · replace h := h.1 c
        refine x_st rfl ?_
        refine x_st rfl ?_
        refine x_kl ?_ h
        exact ⟨Or.inr rfl, ⟨Or.inr rfl, ⟨Or.inr rfl, ⟨Or.inr rfl, ⟨Or.inl rfl, ⟨Or.inl rfl, True.intro⟩⟩⟩⟩⟩⟩
      · replace h := h.2 c
        refine x_st rfl ?_
        refine x_st rfl ?_
        refine x_gr (ci := 11) (k := 28) (nx := 50) rfl sh_46 rfl ?_
        refine x_st rfl ?_
        obtain ⟨i5, hx, hi, h⟩ := h
        refine x_ia (i := i5) (nx := 52) rfl sh_65 hx hi (by decide) ?_
        refine x_st rfl ?_
        refine x_st rfl ?_
        refine x_br rfl (fun c => ?_) (fun c => ?_)
        · replace h := h.1 c
          refine x_st rfl ?_
          refine x_st rfl ?_
          refine x_kl ?_ h
          exact ⟨Or.inr rfl, ⟨Or.inr rfl, ⟨Or.inr rfl, ⟨Or.inr rfl, ⟨Or.inl rfl, ⟨Or.inl rfl, True.intro⟩⟩⟩⟩⟩⟩
        · replace h := h.2 c
          refine x_st rfl ?_
          refine x_ret rfl ?_
          exact ⟨_, _, rfl, h⟩
theorem EX11_wrongDay {D : Nat} {Q : Option Value → mI → mJ → Prop}  {v1 : Int32} {v2 : Int32} {MI : mI} {ML : mJ} (h : VX11_wrongDay_0 D Q v1 v2 MI ML) : ∃ v MI' ML', Q v MI' ML' ∧ mrc (D + 1) 233 [.ref 46, .int v1, .int v2] MI ML v MI' ML' := by
  refine x_en (n := 3) (T := TX11_wrongDay) rfl rfl ?_
  refine x_kl ?_ h
  exact ⟨Or.inr rfl, ⟨Or.inr rfl, ⟨Or.inr rfl, ⟨Or.inl rfl, ⟨Or.inl rfl, ⟨Or.inl rfl, True.intro⟩⟩⟩⟩⟩⟩
def VX11_judge_0 (D : Nat) (Q : Option Value → mI → mJ → Prop)  (v1 : Int32) (v2 : Int32) (MI : mI) (ML : mJ) : Prop := mEx D TX11_judge (mqS Q) (0, [some (.ref 46), some (.int v1), some (.int v2)], [], (W0, Sh0, MI, ML))
theorem BX11_judge_0 {D : Nat} {Q : Option Value → mI → mJ → Prop}  {v1 : Int32} {v2 : Int32} {MI : mI} {ML : mJ} 
    (h : ∃ (x3 : Int32) (M1 : mI) (N2 : mJ), mrc D 260 [.int v1] MI ML (some (.int x3)) M1 N2 ∧ ((x3 = nI 0 → Q (some (.int (-1 : Int32))) M1 N2) ∧ (¬ x3 = nI 0 → ∃ (x6 : Int32) (M4 : mI) (N5 : mJ), mrc D 183 [.ref 46, .long (v2).toInt64] M1 N2 (some (.int x6)) M4 N5 ∧ ((x6 = nI 0 → Q (some (.int (-1 : Int32))) M4 N5) ∧ (¬ x6 = nI 0 → ∃ (x9 : Int32) (M7 : mI) (N8 : mJ), mrc D 232 [.ref 46, .int v1] M4 N5 (some (.int x9)) M7 N8 ∧ ((nI 0 ≤ x9 → ∃ (M10 : mI) (N11 : mJ), mrc D 211 [.ref 46] M7 N8 none M10 N11 ∧ (∃ (x14 : Int32) (M12 : mI) (N13 : mJ), mrc D 233 [.ref 46, .int v1, .int v2] M10 N11 (some (.int x14)) M12 N13 ∧ (Q (some (.int x14)) M12 N13))) ∧ (¬ nI 0 ≤ x9 → ∃ (x17 : Int32) (M15 : mI) (N16 : mJ), mrc D 232 [.ref 46, .int v1] M7 N8 (some (.int x17)) M15 N16 ∧ (Q (some (.int x17)) M15 N16)))))))) :
    VX11_judge_0 D Q v1 v2 MI ML := by
  show mEx D TX11_judge (mqS Q) (0, [some (.ref 46), some (.int v1), some (.int v2)], [], (W0, Sh0, MI, ML))
  refine x_st rfl ?_
  obtain ⟨x3, M1, N2, hc, h⟩ := h
  refine x_ci rfl hc ?_
  refine x_br rfl (fun c => ?_) (fun c => ?_)
  · replace h := h.1 c
    refine x_st rfl ?_
    refine x_ret rfl ?_
    exact ⟨_, _, rfl, h⟩
  · replace h := h.2 c
    refine x_st rfl ?_
    refine x_st rfl ?_
    refine x_st rfl ?_
    obtain ⟨x6, M4, N5, hc, h⟩ := h
    refine x_vi (y := 183) (n := 1) (ci := 11) (nx := 13) rfl (fun _ => rfl) sh_46 rfl hc ?_
    refine x_br rfl (fun c => ?_) (fun c => ?_)
    · replace h := h.1 c
      refine x_st rfl ?_
      refine x_ret rfl ?_
      exact ⟨_, _, rfl, h⟩
    · replace h := h.2 c
      refine x_st rfl ?_
      refine x_st rfl ?_
      obtain ⟨x9, M7, N8, hc, h⟩ := h
      refine x_vi (y := 232) (n := 1) (ci := 11) (nx := 23) rfl (fun _ => rfl) sh_46 rfl hc ?_
      refine x_br rfl (fun c => ?_) (fun c => ?_)
      · replace h := h.1 c
        refine x_st rfl ?_
        obtain ⟨M10, N11, hc, h⟩ := h
        refine x_vv (y := 211) (n := 0) (ci := 11) (nx := 36) rfl (fun _ => rfl) sh_46 rfl hc ?_
        refine x_st rfl ?_
        refine x_st rfl ?_
        refine x_st rfl ?_
        obtain ⟨x14, M12, N13, hc, h⟩ := h
        refine x_vi (y := 233) (n := 2) (ci := 11) (nx := 42) rfl (fun _ => rfl) sh_46 rfl hc ?_
        refine x_ret rfl ?_
        exact ⟨_, _, rfl, h⟩
      · replace h := h.2 c
        refine x_st rfl ?_
        refine x_st rfl ?_
        obtain ⟨x17, M15, N16, hc, h⟩ := h
        refine x_vi (y := 232) (n := 1) (ci := 11) (nx := 31) rfl (fun _ => rfl) sh_46 rfl hc ?_
        refine x_ret rfl ?_
        exact ⟨_, _, rfl, h⟩
theorem EX11_judge {D : Nat} {Q : Option Value → mI → mJ → Prop}  {v1 : Int32} {v2 : Int32} {MI : mI} {ML : mJ} (h : VX11_judge_0 D Q v1 v2 MI ML) : ∃ v MI' ML', Q v MI' ML' ∧ mrc (D + 1) 234 [.ref 46, .int v1, .int v2] MI ML v MI' ML' := by
  refine x_en (n := 0) (T := TX11_judge) rfl rfl ?_
  refine x_kl ?_ h
  exact ⟨Or.inr rfl, ⟨Or.inr rfl, ⟨Or.inr rfl, True.intro⟩⟩⟩
