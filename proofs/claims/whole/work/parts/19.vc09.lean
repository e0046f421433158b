/-! bodies by blocks -/
def VX11_fits_0 (D : Nat) (Q : Option Value → mI → mJ → Prop)  (v1 : Int32) (v2 : Int32) (v3 : Int32) (MI : mI) (ML : mJ) : Prop := mEx D TX11_fits (mqS Q) (0, [some (.ref 46), some (.int v1), some (.int v2), some (.int v3), none, none, none, none, none, none], [], (W0, Sh0, MI, ML))
def VX11_fits_67 (D : Nat) (Q : Option Value → mI → mJ → Prop)  (v1 : Int32) (v2 : Int32) (v3 : Int32) (v4 : Int32) (v5 : Int32) (v6 : Int32) (s0 : Int32) (MI : mI) (ML : mJ) : Prop := mEx D TX11_fits (mqS Q) (67, [some (.ref 46), some (.int v1), some (.int v2), some (.int v3), some (.int v4), some (.int v5), some (.int v6), none, none, none], [.int s0], (W0, Sh0, MI, ML))
def VX11_fits_87 (D : Nat) (Q : Option Value → mI → mJ → Prop)  (v1 : Int32) (v2 : Int32) (v3 : Int32) (v4 : Int32) (v5 : Int32) (v6 : Int32) (v8 : Int32) (v9 : Int32) (MI : mI) (ML : mJ) : Prop := mEx D TX11_fits (mqS Q) (87, [some (.ref 46), some (.int v1), some (.int v2), some (.int v3), some (.int v4), some (.int v5), some (.int v6), none, some (.int v8), some (.int v9)], [], (W0, Sh0, MI, ML))
def VX11_fits_121 (D : Nat) (Q : Option Value → mI → mJ → Prop)  (v1 : Int32) (v2 : Int32) (v3 : Int32) (v4 : Int32) (v5 : Int32) (v6 : Int32) (v8 : Int32) (v9 : Int32) (s1 : Int32) (MI : mI) (ML : mJ) : Prop := mEx D TX11_fits (mqS Q) (121, [some (.ref 46), some (.int v1), some (.int v2), some (.int v3), some (.int v4), some (.int v5), some (.int v6), none, some (.int v8), some (.int v9)], [.int s1, .ref 61], (W0, Sh0, MI, ML))
theorem BX11_fits_0 {D : Nat} {Q : Option Value → mI → mJ → Prop}  {v1 : Int32} {v2 : Int32} {v3 : Int32} {MI : mI} {ML : mJ} 
    (h : ∃ (x3 : Int32) (M1 : mI) (N2 : mJ), mrc D 260 [.int v1] MI ML (some (.int x3)) M1 N2 ∧ ((x3 = nI 0 → Q (some (.int (-1 : Int32))) M1 N2) ∧ (¬ x3 = nI 0 → ∃ (x6 : Int32) (M4 : mI) (N5 : mJ), mrc D 185 [.ref 46, .int v2] M1 N2 (some (.int x6)) M4 N5 ∧ ((x6 = nI 0 → Q (some (.int (-1 : Int32))) M4 N5) ∧ (¬ x6 = nI 0 → ∃ (x9 : Int32) (M7 : mI) (N8 : mJ), mrc D 178 [.long (v3).toInt64, .long (0 : Int64), .long (2 : Int64)] M4 N5 (some (.int x9)) M7 N8 ∧ ((x9 = nI 0 → Q (some (.int (-1 : Int32))) M7 N8) ∧ (¬ x9 = nI 0 → ∃ (x12 : Int32) (M10 : mI) (N11 : mJ), mrc D 232 [.ref 46, .int v1] M7 N8 (some (.int x12)) M10 N11 ∧ ((nI 0 ≤ x12 → (v3 = (nI 2) → VX11_fits_67 D Q v1 v2 v3 (v2 - v2 / (nI 10) * (nI 10)) (nI 0) (-2 : Int32) (nI 0) M10 N11) ∧ (¬ v3 = (nI 2) → VX11_fits_67 D Q v1 v2 v3 (v2 - v2 / (nI 10) * (nI 10)) (nI 0) (-2 : Int32) (-9 : Int32) M10 N11)) ∧ (¬ nI 0 ≤ x12 → ∃ (x15 : Int32) (M13 : mI) (N14 : mJ), mrc D 232 [.ref 46, .int v1] M10 N11 (some (.int x15)) M13 N14 ∧ (Q (some (.int x15)) M13 N14)))))))))) :
    VX11_fits_0 D Q v1 v2 v3 MI ML := by
  show mEx D TX11_fits (mqS Q) (0, [some (.ref 46), some (.int v1), some (.int v2), some (.int v3), none, none, none, none, none, none], [], (W0, Sh0, MI, ML))
  refine x_st rfl ?_
  obtain ⟨x3, M1, N2, hc, h⟩ := h
  refine x_ci rfl hc ?_
  refine x_br rfl (fun c => ?_) (fun c => ?_)
  · replace h := h.1 c
    refine x_st rfl ?_
    refine x_ret rfl ?_
    exact ⟨_, _, rfl, h⟩
  · replace h := h.2 c
    refine x_st rfl ?_
    refine x_st rfl ?_
    obtain ⟨x6, M4, N5, hc, h⟩ := h
    refine x_vi (y := 185) (n := 1) (ci := 11) (nx := 12) rfl (fun _ => rfl) sh_46 rfl hc ?_
    refine x_br rfl (fun c => ?_) (fun c => ?_)
    · replace h := h.1 c
      refine x_st rfl ?_
      refine x_ret rfl ?_
      exact ⟨_, _, rfl, h⟩
    · replace h := h.2 c
      refine x_st rfl ?_
      refine x_st rfl ?_
      refine x_st rfl ?_
      refine x_st rfl ?_
      obtain ⟨x9, M7, N8, hc, h⟩ := h
      refine x_ci rfl hc ?_
      refine x_br rfl (fun c => ?_) (fun c => ?_)
      · replace h := h.1 c
        refine x_st rfl ?_
        refine x_ret rfl ?_
        exact ⟨_, _, rfl, h⟩
      · replace h := h.2 c
        refine x_st rfl ?_
        refine x_st rfl ?_
        obtain ⟨x12, M10, N11, hc, h⟩ := h
        refine x_vi (y := 232) (n := 1) (ci := 11) (nx := 34) rfl (fun _ => rfl) sh_46 rfl hc ?_
        refine x_br rfl (fun c => ?_) (fun c => ?_)
        · replace h := h.1 c
          refine x_st rfl ?_
          refine x_st rfl ?_
          refine x_st rfl ?_
          refine x_st rfl ?_
          refine x_st rfl ?_
          refine x_st rfl ?_
          refine x_st rfl ?_
          refine x_st rfl ?_
          refine x_st rfl ?_
          refine x_st rfl ?_
          refine x_br rfl (fun c => ?_) (fun c => ?_)
          · replace h := h.1 c
            refine x_st rfl ?_
            refine x_st rfl ?_
            refine x_kl ?_ h
            exact ⟨Or.inr rfl, ⟨Or.inr rfl, ⟨Or.inr rfl, ⟨Or.inr rfl, ⟨Or.inr rfl, ⟨Or.inr rfl, ⟨Or.inr rfl, ⟨Or.inl rfl, ⟨Or.inl rfl, ⟨Or.inl rfl, True.intro⟩⟩⟩⟩⟩⟩⟩⟩⟩⟩
          · replace h := h.2 c
            refine x_st rfl ?_
            refine x_kl ?_ h
            exact ⟨Or.inr rfl, ⟨Or.inr rfl, ⟨Or.inr rfl, ⟨Or.inr rfl, ⟨Or.inr rfl, ⟨Or.inr rfl, ⟨Or.inr rfl, ⟨Or.inl rfl, ⟨Or.inl rfl, ⟨Or.inl rfl, True.intro⟩⟩⟩⟩⟩⟩⟩⟩⟩⟩
        · replace h := h.2 c
          refine x_st rfl ?_
          refine x_st rfl ?_
          obtain ⟨x15, M13, N14, hc, h⟩ := h
          refine x_vi (y := 232) (n := 1) (ci := 11) (nx := 42) rfl (fun _ => rfl) sh_46 rfl hc ?_
          refine x_ret rfl ?_
          exact ⟨_, _, rfl, h⟩
theorem BX11_fits_67 {D : Nat} {Q : Option Value → mI → mJ → Prop}  {v1 : Int32} {v2 : Int32} {v3 : Int32} {v4 : Int32} {v5 : Int32} {v6 : Int32} {s0 : Int32} {MI : mI} {ML : mJ} 
    (h : (v3 = (nI 2) → VX11_fits_87 D Q v1 v2 v3 v4 v5 v6 (nI 99) s0 MI ML) ∧ (¬ v3 = (nI 2) → VX11_fits_87 D Q v1 v2 v3 v4 v5 v6 (nI 9) s0 MI ML)) :
    VX11_fits_67 D Q v1 v2 v3 v4 v5 v6 s0 MI ML := by
  show mEx D TX11_fits (mqS Q) (67, [some (.ref 46), some (.int v1), some (.int v2), some (.int v3), some (.int v4), some (.int v5), some (.int v6), none, none, none], [.int s0], (W0, Sh0, MI, ML))
  refine x_st rfl ?_
  refine x_st rfl ?_
  refine x_st rfl ?_
  refine x_br rfl (fun c => ?_) (fun c => ?_)
  · replace h := h.1 c
    refine x_st rfl ?_
    refine x_st rfl ?_
    refine x_st rfl ?_
    refine x_st rfl ?_
    refine x_st rfl ?_
    refine x_kl ?_ h
    exact ⟨Or.inr rfl, ⟨Or.inr rfl, ⟨Or.inr rfl, ⟨Or.inr rfl, ⟨Or.inr rfl, ⟨Or.inr rfl, ⟨Or.inr rfl, ⟨Or.inl rfl, ⟨Or.inr rfl, ⟨Or.inr rfl, True.intro⟩⟩⟩⟩⟩⟩⟩⟩⟩⟩
  · replace h := h.2 c
    refine x_st rfl ?_
    refine x_st rfl ?_
    refine x_st rfl ?_
    refine x_st rfl ?_
    refine x_kl ?_ h
    exact ⟨Or.inr rfl, ⟨Or.inr rfl, ⟨Or.inr rfl, ⟨Or.inr rfl, ⟨Or.inr rfl, ⟨Or.inr rfl, ⟨Or.inr rfl, ⟨Or.inl rfl, ⟨Or.inr rfl, ⟨Or.inr rfl, True.intro⟩⟩⟩⟩⟩⟩⟩⟩⟩⟩
theorem BX11_fits_87 {D : Nat} {Q : Option Value → mI → mJ → Prop}  {v1 : Int32} {v2 : Int32} {v3 : Int32} {v4 : Int32} {v5 : Int32} {v6 : Int32} {v8 : Int32} {v9 : Int32} {MI : mI} {ML : mJ} 
    (h : (v8 < v9 → (v3 = (nI 1) → Q (some (.int v6)) MI ML) ∧ (¬ v3 = (nI 1) → Q (some (.int v5)) MI ML)) ∧ (¬ v8 < v9 → ∃ (M1 : mI) (N2 : mJ), mrc D 211 [.ref 46] MI ML none M1 N2 ∧ ((v3 = (nI 2) → VX11_fits_121 D Q v1 v2 v3 v4 v5 v6 v8 v9 v4 M1 N2) ∧ (¬ v3 = (nI 2) → ∃ (x5 : Int32) (M3 : mI) (N4 : mJ), mrc D 184 [.int (v2 / (nI 10)), .int v4] M1 N2 (some (.int x5)) M3 N4 ∧ (VX11_fits_121 D Q v1 v2 v3 v4 v5 v6 v8 v9 x5 M3 N4))))) :
    VX11_fits_87 D Q v1 v2 v3 v4 v5 v6 v8 v9 MI ML := by
  show mEx D TX11_fits (mqS Q) (87, [some (.ref 46), some (.int v1), some (.int v2), some (.int v3), some (.int v4), some (.int v5), some (.int v6), none, some (.int v8), some (.int v9)], [], (W0, Sh0, MI, ML))
  refine x_st rfl ?_
  refine x_st rfl ?_
  refine x_br rfl (fun c => ?_) (fun c => ?_)
  · replace h := h.1 c
    refine x_st rfl ?_
    refine x_st rfl ?_
    refine x_br rfl (fun c => ?_) (fun c => ?_)
    · replace h := h.1 c
      refine x_st rfl ?_
      refine x_st rfl ?_
      refine x_ret rfl ?_
      exact ⟨_, _, rfl, h⟩
    · replace h := h.2 c
      refine x_st rfl ?_
      refine x_ret rfl ?_
      exact ⟨_, _, rfl, h⟩
  · replace h := h.2 c
    refine x_st rfl ?_
    obtain ⟨M1, N2, hc, h⟩ := h
    refine x_vv (y := 211) (n := 0) (ci := 11) (nx := 98) rfl (fun _ => rfl) sh_46 rfl hc ?_
    refine x_st rfl ?_
    refine x_gr (ci := 11) (k := 24) (nx := 102) rfl sh_46 rfl ?_
    refine x_st rfl ?_
    refine x_st rfl ?_
    refine x_br rfl (fun c => ?_) (fun c => ?_)
    · replace h := h.1 c
      refine x_st rfl ?_
      refine x_st rfl ?_
      refine x_kl ?_ h
      exact ⟨Or.inr rfl, ⟨Or.inr rfl, ⟨Or.inr rfl, ⟨Or.inr rfl, ⟨Or.inr rfl, ⟨Or.inr rfl, ⟨Or.inr rfl, ⟨Or.inl rfl, ⟨Or.inr rfl, ⟨Or.inr rfl, True.intro⟩⟩⟩⟩⟩⟩⟩⟩⟩⟩
    · replace h := h.2 c
      refine x_st rfl ?_
      refine x_st rfl ?_
      refine x_st rfl ?_
      refine x_st rfl ?_
      obtain ⟨x5, M3, N4, hc, h⟩ := h
      refine x_ci rfl hc ?_
      refine x_kl ?_ h
      exact ⟨Or.inr rfl, ⟨Or.inr rfl, ⟨Or.inr rfl, ⟨Or.inr rfl, ⟨Or.inr rfl, ⟨Or.inr rfl, ⟨Or.inr rfl, ⟨Or.inl rfl, ⟨Or.inr rfl, ⟨Or.inr rfl, True.intro⟩⟩⟩⟩⟩⟩⟩⟩⟩⟩
theorem BX11_fits_121 {D : Nat} {Q : Option Value → mI → mJ → Prop}  {v1 : Int32} {v2 : Int32} {v3 : Int32} {v4 : Int32} {v5 : Int32} {v6 : Int32} {v8 : Int32} {v9 : Int32} {s1 : Int32} {MI : mI} {ML : mJ} 
    (h : ∃ i1 : Nat, s1 = nI i1 ∧ i1 < 84 ∧ (∃ (x4 : Int32) (M2 : mI) (N3 : mJ), mrc D 233 [.ref 46, .int v1, .int v4] (mup MI 61 (mput (MI 61) i1 v9)) ML (some (.int x4)) M2 N3 ∧ ((x4 = (-2 : Int32) → (v6 = (-2 : Int32) → VX11_fits_87 D Q v1 v2 v3 v4 (v5 + (nI 1)) (v9 + (nI 100)) v8 (v9 + (nI 1)) M2 N3) ∧ (¬ v6 = (-2 : Int32) → VX11_fits_87 D Q v1 v2 v3 v4 (v5 + (nI 1)) v6 v8 (v9 + (nI 1)) M2 N3)) ∧ (¬ x4 = (-2 : Int32) → VX11_fits_87 D Q v1 v2 v3 v4 v5 v6 v8 (v9 + (nI 1)) M2 N3)))) :
    VX11_fits_121 D Q v1 v2 v3 v4 v5 v6 v8 v9 s1 MI ML := by
  show mEx D TX11_fits (mqS Q) (121, [some (.ref 46), some (.int v1), some (.int v2), some (.int v3), some (.int v4), some (.int v5), some (.int v6), none, some (.int v8), some (.int v9)], [.int s1, .ref 61], (W0, Sh0, MI, ML))
  refine x_st rfl ?_
  obtain ⟨i1, hx, hi, h⟩ := h
  refine x_iast (i := i1) (nx := 124) rfl sh_61 hx hi (by decide) ?_
  refine x_st rfl ?_
  refine x_st rfl ?_
  refine x_st rfl ?_
  obtain ⟨x4, M2, N3, hc, h⟩ := h
  refine x_vi (y := 233) (n := 2) (ci := 11) (nx := 131) rfl (fun _ => rfl) sh_46 rfl hc ?_
  refine x_st rfl ?_
  refine x_br rfl (fun c => ?_) (fun c => ?_)
  · replace h := h.1 c
    refine x_st rfl ?_
    refine x_st rfl ?_
    refine x_st rfl ?_
    refine x_br rfl (fun c => ?_) (fun c => ?_)
    · replace h := h.1 c
      refine x_st rfl ?_
      refine x_st rfl ?_
      refine x_st rfl ?_
      refine x_st rfl ?_
      refine x_st rfl ?_
      refine x_st rfl ?_
      refine x_st rfl ?_
      refine x_kl ?_ h
      exact ⟨Or.inr rfl, ⟨Or.inr rfl, ⟨Or.inr rfl, ⟨Or.inr rfl, ⟨Or.inr rfl, ⟨Or.inr rfl, ⟨Or.inr rfl, ⟨Or.inl rfl, ⟨Or.inr rfl, ⟨Or.inr rfl, True.intro⟩⟩⟩⟩⟩⟩⟩⟩⟩⟩
    · replace h := h.2 c
      refine x_st rfl ?_
      refine x_st rfl ?_
      refine x_st rfl ?_
      refine x_st rfl ?_
      refine x_kl ?_ h
      exact ⟨Or.inr rfl, ⟨Or.inr rfl, ⟨Or.inr rfl, ⟨Or.inr rfl, ⟨Or.inr rfl, ⟨Or.inr rfl, ⟨Or.inr rfl, ⟨Or.inl rfl, ⟨Or.inr rfl, ⟨Or.inr rfl, True.intro⟩⟩⟩⟩⟩⟩⟩⟩⟩⟩
  · replace h := h.2 c
    refine x_st rfl ?_
    refine x_st rfl ?_
    refine x_kl ?_ h
    exact ⟨Or.inr rfl, ⟨Or.inr rfl, ⟨Or.inr rfl, ⟨Or.inr rfl, ⟨Or.inr rfl, ⟨Or.inr rfl, ⟨Or.inr rfl, ⟨Or.inl rfl, ⟨Or.inr rfl, ⟨Or.inr rfl, True.intro⟩⟩⟩⟩⟩⟩⟩⟩⟩⟩
theorem EX11_fits {D : Nat} {Q : Option Value → mI → mJ → Prop}  {v1 : Int32} {v2 : Int32} {v3 : Int32} {MI : mI} {ML : mJ} (h : VX11_fits_0 D Q v1 v2 v3 MI ML) : ∃ v MI' ML', Q v MI' ML' ∧ mrc (D + 1) 235 [.ref 46, .int v1, .int v2, .int v3] MI ML v MI' ML' := by
  refine x_en (n := 6) (T := TX11_fits) rfl rfl ?_
  refine x_kl ?_ h
  exact ⟨Or.inr rfl, ⟨Or.inr rfl, ⟨Or.inr rfl, ⟨Or.inr rfl, ⟨Or.inl rfl, ⟨Or.inl rfl, ⟨Or.inl rfl, ⟨Or.inl rfl, ⟨Or.inl rfl, ⟨Or.inl rfl, True.intro⟩⟩⟩⟩⟩⟩⟩⟩⟩⟩
def VX11_playedFrom_0 (D : Nat) (Q : Option Value → mI → mJ → Prop)  (v1 : Int32) (v2 : Int32) (v3 : Int32) (v4 : Int32) (v5 : Int32) (MI : mI) (ML : mJ) : Prop := mEx D TX11_playedFrom (mqS Q) (0, [some (.ref 46), some (.int v1), some (.int v2), some (.int v3), some (.int v4), some (.int v5), none, none], [], (W0, Sh0, MI, ML))
def VX11_playedFrom_83 (D : Nat) (Q : Option Value → mI → mJ → Prop)  (v3 : Int32) (v6 : Int32) (s1 : Int32) (s2 : Int32) (s3 : Int32) (s4 : Int32) (s5 : Int32) (MI : mI) (ML : mJ) : Prop := mEx D TX11_playedFrom (mqS Q) (83, [none, none, none, some (.int v3), none, none, some (.int v6), none], [.int s5, .int s4, .int s3, .int s2, .int s1, .ref 46], (W0, Sh0, MI, ML))
theorem BX11_playedFrom_0 {D : Nat} {Q : Option Value → mI → mJ → Prop}  {v1 : Int32} {v2 : Int32} {v3 : Int32} {v4 : Int32} {v5 : Int32} {MI : mI} {ML : mJ} 
    (h : (v3 = v4 → ∃ (M1 : mI) (N2 : mJ), mrc D 211 [.ref 46] MI ML none M1 N2 ∧ (∃ (x5 : Int32) (M3 : mI) (N4 : mJ), mrc D 184 [.int v2, .int v1] M1 N2 (some (.int x5)) M3 N4 ∧ (∃ i6 : Nat, x5 = nI i6 ∧ i6 < 84 ∧ (∃ (M7 : mI) (N8 : mJ), mrc D 216 [.ref 46] (mup M3 61 (mput (M3 61) i6 v5)) N4 none M7 N8 ∧ (∃ i9 : Nat, v1 = nI i9 ∧ i9 < 84 ∧ (Q (some (.int (M7 61 i9))) M7 N8)))))) ∧ (¬ v3 = v4 → ∃ (x12 : Int32) (M10 : mI) (N11 : mJ), mrc D 236 [.ref 46, .int v1, .int v2, .int (v3 + (nI 1)), .int v4, .int v5] MI ML (some (.int x12)) M10 N11 ∧ (((v3 - v3 / (nI 2) * (nI 2)) = nI 0 → VX11_playedFrom_83 D Q v3 x12 v1 v2 (v3 + (nI 1)) v4 (if (-9 : Int32) < (v5 - (nI 2)) then (v5 - (nI 2)) else (-9 : Int32)) M10 N11) ∧ (¬ (v3 - v3 / (nI 2) * (nI 2)) = nI 0 → VX11_playedFrom_83 D Q v3 x12 v1 v2 (v3 + (nI 1)) v4 (if (v5 + (nI 2)) < (nI 9) then (v5 + (nI 2)) else (nI 9)) M10 N11)))) :
    VX11_playedFrom_0 D Q v1 v2 v3 v4 v5 MI ML := by
  show mEx D TX11_playedFrom (mqS Q) (0, [some (.ref 46), some (.int v1), some (.int v2), some (.int v3), some (.int v4), some (.int v5), none, none], [], (W0, Sh0, MI, ML))
  refine x_st rfl ?_
  refine x_st rfl ?_
  refine x_br rfl (fun c => ?_) (fun c => ?_)
  · replace h := h.1 c
    refine x_st rfl ?_
    obtain ⟨M1, N2, hc, h⟩ := h
    refine x_vv (y := 211) (n := 0) (ci := 11) (nx := 10) rfl (fun _ => rfl) sh_46 rfl hc ?_
    refine x_st rfl ?_
    refine x_gr (ci := 11) (k := 24) (nx := 14) rfl sh_46 rfl ?_
    refine x_st rfl ?_
    refine x_st rfl ?_
    obtain ⟨x5, M3, N4, hc, h⟩ := h
    refine x_ci rfl hc ?_
    refine x_st rfl ?_
    obtain ⟨i6, hx, hi, h⟩ := h
    refine x_iast (i := i6) (nx := 22) rfl sh_61 hx hi (by decide) ?_
    refine x_st rfl ?_
    obtain ⟨M7, N8, hc, h⟩ := h
    refine x_vv (y := 216) (n := 0) (ci := 11) (nx := 26) rfl (fun _ => rfl) sh_46 rfl hc ?_
    refine x_st rfl ?_
    refine x_gr (ci := 11) (k := 24) (nx := 30) rfl sh_46 rfl ?_
    refine x_st rfl ?_
    obtain ⟨i9, hx, hi, h⟩ := h
    refine x_ia (i := i9) (nx := 32) rfl sh_61 hx hi (by decide) ?_
    refine x_ret rfl ?_
    exact ⟨_, _, rfl, h⟩
  · replace h := h.2 c
    refine x_st rfl ?_
    refine x_st rfl ?_
    refine x_st rfl ?_
    refine x_st rfl ?_
    refine x_st rfl ?_
    refine x_st rfl ?_
    refine x_st rfl ?_
    refine x_st rfl ?_
    obtain ⟨x12, M10, N11, hc, h⟩ := h
    refine x_vi (y := 236) (n := 5) (ci := 11) (nx := 46) rfl (fun _ => rfl) sh_46 rfl hc ?_
    refine x_st rfl ?_
    refine x_st rfl ?_
    refine x_st rfl ?_
    refine x_st rfl ?_
    refine x_st rfl ?_
    refine x_st rfl ?_
    refine x_st rfl ?_
    refine x_st rfl ?_
    refine x_st rfl ?_
    refine x_st rfl ?_
    refine x_st rfl ?_
    refine x_br rfl (fun c => ?_) (fun c => ?_)
    · replace h := h.1 c
      refine x_st rfl ?_
      refine x_st rfl ?_
      refine x_st rfl ?_
      refine x_st rfl ?_
      refine x_st rfl ?_
      refine x_st rfl ?_
      refine x_kl ?_ h
      exact ⟨Or.inl rfl, ⟨Or.inl rfl, ⟨Or.inl rfl, ⟨Or.inr rfl, ⟨Or.inl rfl, ⟨Or.inl rfl, ⟨Or.inr rfl, ⟨Or.inl rfl, True.intro⟩⟩⟩⟩⟩⟩⟩⟩
    · replace h := h.2 c
      refine x_st rfl ?_
      refine x_st rfl ?_
      refine x_st rfl ?_
      refine x_st rfl ?_
      refine x_st rfl ?_
      refine x_kl ?_ h
      exact ⟨Or.inl rfl, ⟨Or.inl rfl, ⟨Or.inl rfl, ⟨Or.inr rfl, ⟨Or.inl rfl, ⟨Or.inl rfl, ⟨Or.inr rfl, ⟨Or.inl rfl, True.intro⟩⟩⟩⟩⟩⟩⟩⟩
theorem BX11_playedFrom_83 {D : Nat} {Q : Option Value → mI → mJ → Prop}  {v3 : Int32} {v6 : Int32} {s1 : Int32} {s2 : Int32} {s3 : Int32} {s4 : Int32} {s5 : Int32} {MI : mI} {ML : mJ} 
    (h : ∃ (x3 : Int32) (M1 : mI) (N2 : mJ), mrc D 236 [.ref 46, .int s1, .int s2, .int s3, .int s4, .int s5] MI ML (some (.int x3)) M1 N2 ∧ (((v3 - v3 / (nI 2) * (nI 2)) = nI 0 → Q (some (.int (if x3 < v6 then x3 else v6))) M1 N2) ∧ (¬ (v3 - v3 / (nI 2) * (nI 2)) = nI 0 → Q (some (.int (if v6 < x3 then x3 else v6))) M1 N2))) :
    VX11_playedFrom_83 D Q v3 v6 s1 s2 s3 s4 s5 MI ML := by
  show mEx D TX11_playedFrom (mqS Q) (83, [none, none, none, some (.int v3), none, none, some (.int v6), none], [.int s5, .int s4, .int s3, .int s2, .int s1, .ref 46], (W0, Sh0, MI, ML))
  obtain ⟨x3, M1, N2, hc, h⟩ := h
  refine x_vi (y := 236) (n := 5) (ci := 11) (nx := 86) rfl (fun _ => rfl) sh_46 rfl hc ?_
  refine x_st rfl ?_
  refine x_st rfl ?_
  refine x_st rfl ?_
  refine x_st rfl ?_
  refine x_br rfl (fun c => ?_) (fun c => ?_)
  · replace h := h.1 c
    refine x_st rfl ?_
    refine x_st rfl ?_
    refine x_st rfl ?_
    refine x_st rfl ?_
    refine x_ret rfl ?_
    exact ⟨_, _, rfl, h⟩
  · replace h := h.2 c
    refine x_st rfl ?_
    refine x_st rfl ?_
    refine x_st rfl ?_
    refine x_ret rfl ?_
    exact ⟨_, _, rfl, h⟩
theorem EX11_playedFrom {D : Nat} {Q : Option Value → mI → mJ → Prop}  {v1 : Int32} {v2 : Int32} {v3 : Int32} {v4 : Int32} {v5 : Int32} {MI : mI} {ML : mJ} (h : VX11_playedFrom_0 D Q v1 v2 v3 v4 v5 MI ML) : ∃ v MI' ML', Q v MI' ML' ∧ mrc (D + 1) 236 [.ref 46, .int v1, .int v2, .int v3, .int v4, .int v5] MI ML v MI' ML' := by
  refine x_en (n := 2) (T := TX11_playedFrom) rfl rfl ?_
  refine x_kl ?_ h
  exact ⟨Or.inr rfl, ⟨Or.inr rfl, ⟨Or.inr rfl, ⟨Or.inr rfl, ⟨Or.inr rfl, ⟨Or.inr rfl, ⟨Or.inl rfl, ⟨Or.inl rfl, True.intro⟩⟩⟩⟩⟩⟩⟩⟩
def VX11_byTurns_0 (D : Nat) (Q : Option Value → mI → mJ → Prop)  (v1 : Int32) (v2 : Int32) (v3 : Int32) (MI : mI) (ML : mJ) : Prop := mEx D TX11_byTurns (mqS Q) (0, [some (.ref 46), some (.int v1), some (.int v2), some (.int v3), none, none, none, none], [], (W0, Sh0, MI, ML))
theorem BX11_byTurns_0 {D : Nat} {Q : Option Value → mI → mJ → Prop}  {v1 : Int32} {v2 : Int32} {v3 : Int32} {MI : mI} {ML : mJ} 
    (h : ∃ (x3 : Int32) (M1 : mI) (N2 : mJ), mrc D 185 [.ref 46, .int v1] MI ML (some (.int x3)) M1 N2 ∧ ((x3 = nI 0 → Q (some (.int (-1 : Int32))) M1 N2) ∧ (¬ x3 = nI 0 → ∃ (x6 : Int32) (M4 : mI) (N5 : mJ), mrc D 178 [.long (v2).toInt64, .long (1 : Int64), .long (5 : Int64)] M1 N2 (some (.int x6)) M4 N5 ∧ ((x6 = nI 0 → Q (some (.int (-1 : Int32))) M4 N5) ∧ (¬ x6 = nI 0 → ∃ (x9 : Int32) (M7 : mI) (N8 : mJ), mrc D 178 [.long (v3).toInt64, .long (0 : Int64), .long (1 : Int64)] M4 N5 (some (.int x9)) M7 N8 ∧ ((x9 = nI 0 → Q (some (.int (-1 : Int32))) M7 N8) ∧ (¬ x9 = nI 0 → ∃ (x12 : Int32) (M10 : mI) (N11 : mJ), mrc D 184 [.int (v1 - v1 / (nI 10) * (nI 10)), .int (v1 / (nI 10))] M7 N8 (some (.int x12)) M10 N11 ∧ (∃ i13 : Nat, x12 = nI i13 ∧ i13 < 84 ∧ (∃ (x16 : Int32) (M14 : mI) (N15 : mJ), mrc D 236 [.ref 46, .int (v1 / (nI 10)), .int (v1 - v1 / (nI 10) * (nI 10)), .int (nI 0), .int v2, .int (M10 47 i13)] M10 N11 (some (.int x16)) M14 N15 ∧ ((v3 = nI 0 → Q (some (.int x16)) M14 N15) ∧ (¬ v3 = nI 0 → ∃ (x19 : Int32) (M17 : mI) (N18 : mJ), mrc D 236 [.ref 46, .int (v1 / (nI 10)), .int (v1 - v1 / (nI 10) * (nI 10)), .int (nI 1), .int v2, .int (M10 47 i13)] M14 N15 (some (.int x19)) M17 N18 ∧ ((x19 = x16 → Q (some (.int (nI 0))) M17 N18) ∧ (¬ x19 = x16 → Q (some (.int (nI 1))) M17 N18))))))))))))) :
    VX11_byTurns_0 D Q v1 v2 v3 MI ML := by
  show mEx D TX11_byTurns (mqS Q) (0, [some (.ref 46), some (.int v1), some (.int v2), some (.int v3), none, none, none, none], [], (W0, Sh0, MI, ML))
  refine x_st rfl ?_
  refine x_st rfl ?_
  obtain ⟨x3, M1, N2, hc, h⟩ := h
  refine x_vi (y := 185) (n := 1) (ci := 11) (nx := 5) rfl (fun _ => rfl) sh_46 rfl hc ?_
  refine x_br rfl (fun c => ?_) (fun c => ?_)
  · replace h := h.1 c
    refine x_st rfl ?_
    refine x_ret rfl ?_
    exact ⟨_, _, rfl, h⟩
  · replace h := h.2 c
    refine x_st rfl ?_
    refine x_st rfl ?_
    refine x_st rfl ?_
    refine x_st rfl ?_
    obtain ⟨x6, M4, N5, hc, h⟩ := h
    refine x_ci rfl hc ?_
    refine x_br rfl (fun c => ?_) (fun c => ?_)
    · replace h := h.1 c
      refine x_st rfl ?_
      refine x_ret rfl ?_
      exact ⟨_, _, rfl, h⟩
    · replace h := h.2 c
      refine x_st rfl ?_
      refine x_st rfl ?_
      refine x_st rfl ?_
      refine x_st rfl ?_
      obtain ⟨x9, M7, N8, hc, h⟩ := h
      refine x_ci rfl hc ?_
      refine x_br rfl (fun c => ?_) (fun c => ?_)
      · replace h := h.1 c
        refine x_st rfl ?_
        refine x_ret rfl ?_
        exact ⟨_, _, rfl, h⟩
      · replace h := h.2 c
        refine x_st rfl ?_
        refine x_st rfl ?_
        refine x_st rfl ?_
        refine x_st rfl ?_
        refine x_st rfl ?_
        refine x_st rfl ?_
        refine x_st rfl ?_
        refine x_st rfl ?_
        refine x_st rfl ?_
        refine x_gr (ci := 11) (k := 0) (nx := 48) rfl sh_46 rfl ?_
        refine x_st rfl ?_
        refine x_st rfl ?_
        obtain ⟨x12, M10, N11, hc, h⟩ := h
        refine x_ci rfl hc ?_
        obtain ⟨i13, hx, hi, h⟩ := h
        refine x_ia (i := i13) (nx := 56) rfl sh_47 hx hi (by decide) ?_
        refine x_st rfl ?_
        refine x_st rfl ?_
        refine x_st rfl ?_
        refine x_st rfl ?_
        refine x_st rfl ?_
        refine x_st rfl ?_
        refine x_st rfl ?_
        obtain ⟨x16, M14, N15, hc, h⟩ := h
        refine x_vi (y := 236) (n := 5) (ci := 11) (nx := 70) rfl (fun _ => rfl) sh_46 rfl hc ?_
        refine x_st rfl ?_
        refine x_st rfl ?_
        refine x_br rfl (fun c => ?_) (fun c => ?_)
        · replace h := h.1 c
          refine x_st rfl ?_
          refine x_st rfl ?_
          refine x_ret rfl ?_
          exact ⟨_, _, rfl, h⟩
        · replace h := h.2 c
          refine x_st rfl ?_
          refine x_st rfl ?_
          refine x_st rfl ?_
          refine x_st rfl ?_
          refine x_st rfl ?_
          refine x_st rfl ?_
          obtain ⟨x19, M17, N18, hc, h⟩ := h
          refine x_vi (y := 236) (n := 5) (ci := 11) (nx := 93) rfl (fun _ => rfl) sh_46 rfl hc ?_
          refine x_st rfl ?_
          refine x_br rfl (fun c => ?_) (fun c => ?_)
          · replace h := h.1 c
            refine x_st rfl ?_
            refine x_st rfl ?_
            refine x_ret rfl ?_
            exact ⟨_, _, rfl, h⟩
          · replace h := h.2 c
            refine x_st rfl ?_
            refine x_ret rfl ?_
            exact ⟨_, _, rfl, h⟩
theorem EX11_byTurns {D : Nat} {Q : Option Value → mI → mJ → Prop}  {v1 : Int32} {v2 : Int32} {v3 : Int32} {MI : mI} {ML : mJ} (h : VX11_byTurns_0 D Q v1 v2 v3 MI ML) : ∃ v MI' ML', Q v MI' ML' ∧ mrc (D + 1) 237 [.ref 46, .int v1, .int v2, .int v3] MI ML v MI' ML' := by
  refine x_en (n := 4) (T := TX11_byTurns) rfl rfl ?_
  refine x_kl ?_ h
  exact ⟨Or.inr rfl, ⟨Or.inr rfl, ⟨Or.inr rfl, ⟨Or.inr rfl, ⟨Or.inl rfl, ⟨Or.inl rfl, ⟨Or.inl rfl, ⟨Or.inl rfl, True.intro⟩⟩⟩⟩⟩⟩⟩⟩
def VX11_drawn_0 (D : Nat) (Q : Option Value → mI → mJ → Prop)  (v1 : Int32) (v2 : Int32) (v3 : Int32) (MI : mI) (ML : mJ) : Prop := mEx D TX11_drawn (mqS Q) (0, [some (.ref 46), some (.int v1), some (.int v2), some (.int v3), none, none, none, none, none, none, none, none, none, none], [], (W0, Sh0, MI, ML))
def VX11_drawn_93 (D : Nat) (Q : Option Value → mI → mJ → Prop)  (v3 : Int32) (v4 : Int32) (v5 : Int32) (v6 : Int32) (v7 : Int32) (v8 : Int32) (v9 : Int32) (v10 : Int32) (MI : mI) (ML : mJ) : Prop := mEx D TX11_drawn (mqS Q) (93, [some (.ref 46), none, none, some (.int v3), some (.int v4), some (.int v5), some (.int v6), some (.int v7), some (.int v8), some (.int v9), some (.int v10), none, none, none], [], (W0, Sh0, MI, ML))
def VX11_drawn_107 (D : Nat) (Q : Option Value → mI → mJ → Prop)  (v3 : Int32) (v4 : Int32) (v5 : Int32) (v6 : Int32) (v7 : Int32) (v8 : Int32) (v9 : Int32) (v10 : Int32) (v11 : Int32) (MI : mI) (ML : mJ) : Prop := mEx D TX11_drawn (mqS Q) (107, [some (.ref 46), none, none, some (.int v3), some (.int v4), some (.int v5), some (.int v6), some (.int v7), some (.int v8), some (.int v9), some (.int v10), some (.int v11), none, none], [], (W0, Sh0, MI, ML))
def VX11_drawn_196 (D : Nat) (Q : Option Value → mI → mJ → Prop)  (v3 : Int32) (v4 : Int32) (v5 : Int32) (v6 : Int32) (v7 : Int32) (v8 : Int32) (v9 : Int32) (v10 : Int32) (v11 : Int32) (MI : mI) (ML : mJ) : Prop := mEx D TX11_drawn (mqS Q) (196, [some (.ref 46), none, none, some (.int v3), some (.int v4), some (.int v5), some (.int v6), some (.int v7), some (.int v8), some (.int v9), some (.int v10), some (.int v11), none, none], [], (W0, Sh0, MI, ML))
theorem BX11_drawn_0 {D : Nat} {Q : Option Value → mI → mJ → Prop}  {v1 : Int32} {v2 : Int32} {v3 : Int32} {MI : mI} {ML : mJ} 
    (h : (v2 < nI 0 → Q (some (.int (-1 : Int32))) MI ML) ∧ (¬ v2 < nI 0 → ∃ (x3 : Int32) (M1 : mI) (N2 : mJ), mrc D 178 [.long ((v2 / (nI 10000))).toInt64, .long (1 : Int64), .long (20 : Int64)] MI ML (some (.int x3)) M1 N2 ∧ ((x3 = nI 0 → Q (some (.int (-1 : Int32))) M1 N2) ∧ (¬ x3 = nI 0 → ∃ (x6 : Int32) (M4 : mI) (N5 : mJ), mrc D 178 [.long (((v2 / (nI 100)) - (v2 / (nI 100)) / (nI 100) * (nI 100))).toInt64, .long (1 : Int64), .long (20 : Int64)] M1 N2 (some (.int x6)) M4 N5 ∧ ((x6 = nI 0 → Q (some (.int (-1 : Int32))) M4 N5) ∧ (¬ x6 = nI 0 → ∃ (x9 : Int32) (M7 : mI) (N8 : mJ), mrc D 178 [.long ((v2 - v2 / (nI 100) * (nI 100))).toInt64, .long (0 : Int64), .long (12 : Int64)] M4 N5 (some (.int x9)) M7 N8 ∧ ((x9 = nI 0 → Q (some (.int (-1 : Int32))) M7 N8) ∧ (¬ x9 = nI 0 → (v3 = (-1 : Int32) → VX11_drawn_93 D Q v3 (v2 / (nI 10000)) ((v2 / (nI 100)) - (v2 / (nI 100)) / (nI 100) * (nI 100)) (v2 - v2 / (nI 100) * (nI 100)) v1 (nI 0) (nI 0) (nI 0) M7 N8) ∧ (¬ v3 = (-1 : Int32) → ∃ (x12 : Int32) (M10 : mI) (N11 : mJ), mrc D 183 [.ref 46, .long (v3).toInt64] M7 N8 (some (.int x12)) M10 N11 ∧ ((x12 = nI 0 → Q (some (.int (-1 : Int32))) M10 N11) ∧ (¬ x12 = nI 0 → VX11_drawn_93 D Q v3 (v2 / (nI 10000)) ((v2 / (nI 100)) - (v2 / (nI 100)) / (nI 100) * (nI 100)) (v2 - v2 / (nI 100) * (nI 100)) v1 (nI 0) (nI 0) (nI 0) M10 N11))))))))))) :
    VX11_drawn_0 D Q v1 v2 v3 MI ML := by
  show mEx D TX11_drawn (mqS Q) (0, [some (.ref 46), some (.int v1), some (.int v2), some (.int v3), none, none, none, none, none, none, none, none, none, none], [], (W0, Sh0, MI, ML))
  refine x_st rfl ?_
  refine x_st rfl ?_
  refine x_st rfl ?_
  refine x_st rfl ?_
  refine x_st rfl ?_
  refine x_st rfl ?_
  refine x_st rfl ?_
  refine x_st rfl ?_
  refine x_st rfl ?_
  refine x_st rfl ?_
  refine x_st rfl ?_
  refine x_st rfl ?_
  refine x_st rfl ?_
  refine x_st rfl ?_
  refine x_st rfl ?_
  refine x_br rfl (fun c => ?_) (fun c => ?_)
  · replace h := h.1 c
    refine x_st rfl ?_
    refine x_ret rfl ?_
    exact ⟨_, _, rfl, h⟩
  · replace h := h.2 c
    refine x_st rfl ?_
    refine x_st rfl ?_
    refine x_st rfl ?_
    refine x_st rfl ?_
    obtain ⟨x3, M1, N2, hc, h⟩ := h
    refine x_ci rfl hc ?_
    refine x_br rfl (fun c => ?_) (fun c => ?_)
    · replace h := h.1 c
      refine x_st rfl ?_
      refine x_ret rfl ?_
      exact ⟨_, _, rfl, h⟩
    · replace h := h.2 c
      refine x_st rfl ?_
      refine x_st rfl ?_
      refine x_st rfl ?_
      refine x_st rfl ?_
      obtain ⟨x6, M4, N5, hc, h⟩ := h
      refine x_ci rfl hc ?_
      refine x_br rfl (fun c => ?_) (fun c => ?_)
      · replace h := h.1 c
        refine x_st rfl ?_
        refine x_ret rfl ?_
        exact ⟨_, _, rfl, h⟩
      · replace h := h.2 c
        refine x_st rfl ?_
        refine x_st rfl ?_
        refine x_st rfl ?_
        refine x_st rfl ?_
        obtain ⟨x9, M7, N8, hc, h⟩ := h
        refine x_ci rfl hc ?_
        refine x_br rfl (fun c => ?_) (fun c => ?_)
        · replace h := h.1 c
          refine x_st rfl ?_
          refine x_ret rfl ?_
          exact ⟨_, _, rfl, h⟩
        · replace h := h.2 c
          refine x_st rfl ?_
          refine x_st rfl ?_
          refine x_br rfl (fun c => ?_) (fun c => ?_)
          · replace h := h.1 c
            refine x_st rfl ?_
            refine x_st rfl ?_
            refine x_st rfl ?_
            refine x_st rfl ?_
            refine x_st rfl ?_
            refine x_st rfl ?_
            refine x_st rfl ?_
            refine x_st rfl ?_
            refine x_kl ?_ h
            exact ⟨Or.inr rfl, ⟨Or.inl rfl, ⟨Or.inl rfl, ⟨Or.inr rfl, ⟨Or.inr rfl, ⟨Or.inr rfl, ⟨Or.inr rfl, ⟨Or.inr rfl, ⟨Or.inr rfl, ⟨Or.inr rfl, ⟨Or.inr rfl, ⟨Or.inl rfl, ⟨Or.inl rfl, ⟨Or.inl rfl, True.intro⟩⟩⟩⟩⟩⟩⟩⟩⟩⟩⟩⟩⟩⟩
          · replace h := h.2 c
            refine x_st rfl ?_
            refine x_st rfl ?_
            refine x_st rfl ?_
            obtain ⟨x12, M10, N11, hc, h⟩ := h
            refine x_vi (y := 183) (n := 1) (ci := 11) (nx := 76) rfl (fun _ => rfl) sh_46 rfl hc ?_
            refine x_br rfl (fun c => ?_) (fun c => ?_)
            · replace h := h.1 c
              refine x_st rfl ?_
              refine x_ret rfl ?_
              exact ⟨_, _, rfl, h⟩
            · replace h := h.2 c
              refine x_st rfl ?_
              refine x_st rfl ?_
              refine x_st rfl ?_
              refine x_st rfl ?_
              refine x_st rfl ?_
              refine x_st rfl ?_
              refine x_st rfl ?_
              refine x_st rfl ?_
              refine x_kl ?_ h
              exact ⟨Or.inr rfl, ⟨Or.inl rfl, ⟨Or.inl rfl, ⟨Or.inr rfl, ⟨Or.inr rfl, ⟨Or.inr rfl, ⟨Or.inr rfl, ⟨Or.inr rfl, ⟨Or.inr rfl, ⟨Or.inr rfl, ⟨Or.inr rfl, ⟨Or.inl rfl, ⟨Or.inl rfl, ⟨Or.inl rfl, True.intro⟩⟩⟩⟩⟩⟩⟩⟩⟩⟩⟩⟩⟩⟩
theorem BX11_drawn_93 {D : Nat} {Q : Option Value → mI → mJ → Prop}  {v3 : Int32} {v4 : Int32} {v5 : Int32} {v6 : Int32} {v7 : Int32} {v8 : Int32} {v9 : Int32} {v10 : Int32} {MI : mI} {ML : mJ} 
    (h : (v4 ≤ v10 → (v3 = (-1 : Int32) → Q (some (.int v9)) MI ML) ∧ (¬ v3 = (-1 : Int32) → Q (some (.int v8)) MI ML)) ∧ (¬ v4 ≤ v10 → ∃ (M1 : mI) (N2 : mJ), mrc D 211 [.ref 46] MI ML none M1 N2 ∧ (VX11_drawn_107 D Q v3 v4 v5 v6 v7 v8 v9 v10 (nI 0) M1 N2))) :
    VX11_drawn_93 D Q v3 v4 v5 v6 v7 v8 v9 v10 MI ML := by
  show mEx D TX11_drawn (mqS Q) (93, [some (.ref 46), none, none, some (.int v3), some (.int v4), some (.int v5), some (.int v6), some (.int v7), some (.int v8), some (.int v9), some (.int v10), none, none, none], [], (W0, Sh0, MI, ML))
  refine x_st rfl ?_
  refine x_st rfl ?_
  refine x_br rfl (fun c => ?_) (fun c => ?_)
  · replace h := h.1 c
    refine x_st rfl ?_
    refine x_st rfl ?_
    refine x_br rfl (fun c => ?_) (fun c => ?_)
    · replace h := h.1 c
      refine x_st rfl ?_
      refine x_st rfl ?_
      refine x_ret rfl ?_
      exact ⟨_, _, rfl, h⟩
    · replace h := h.2 c
      refine x_st rfl ?_
      refine x_ret rfl ?_
      exact ⟨_, _, rfl, h⟩
  · replace h := h.2 c
    refine x_st rfl ?_
    obtain ⟨M1, N2, hc, h⟩ := h
    refine x_vv (y := 211) (n := 0) (ci := 11) (nx := 104) rfl (fun _ => rfl) sh_46 rfl hc ?_
    refine x_st rfl ?_
    refine x_st rfl ?_
    refine x_kl ?_ h
    exact ⟨Or.inr rfl, ⟨Or.inl rfl, ⟨Or.inl rfl, ⟨Or.inr rfl, ⟨Or.inr rfl, ⟨Or.inr rfl, ⟨Or.inr rfl, ⟨Or.inr rfl, ⟨Or.inr rfl, ⟨Or.inr rfl, ⟨Or.inr rfl, ⟨Or.inr rfl, ⟨Or.inl rfl, ⟨Or.inl rfl, True.intro⟩⟩⟩⟩⟩⟩⟩⟩⟩⟩⟩⟩⟩⟩
theorem BX11_drawn_107 {D : Nat} {Q : Option Value → mI → mJ → Prop}  {v3 : Int32} {v4 : Int32} {v5 : Int32} {v6 : Int32} {v7 : Int32} {v8 : Int32} {v9 : Int32} {v10 : Int32} {v11 : Int32} {MI : mI} {ML : mJ} 
    (h : (v5 ≤ v11 → (v3 = (-1 : Int32) → VX11_drawn_93 D Q v3 v4 v5 v6 v7 (v8 + (nI 0)) v9 (v10 + (nI 1)) MI ML) ∧ (¬ v3 = (-1 : Int32) → ∃ i1 : Nat, v3 = nI i1 ∧ i1 < 84 ∧ (VX11_drawn_93 D Q v3 v4 v5 v6 v7 (v8 + (MI 61 i1)) v9 (v10 + (nI 1)) MI ML))) ∧ (¬ v5 ≤ v11 → ∀ z2 : Int32, z2 = v7 * (1103515245 : Int32) → (((MI 46 6) ≤ (nI 1) → VX11_drawn_196 D Q v3 v4 v5 v6 (z2 + (nI 12345)) v8 v9 v10 v11 MI ML) ∧ (¬ (MI 46 6) ≤ (nI 1) → (v6 ≤ (((((z2 + (nI 12345))).toUInt32 >>> (((nI 16)).toUInt32 &&& Int32.toUInt32 31)).toInt32) - ((((z2 + (nI 12345))).toUInt32 >>> (((nI 16)).toUInt32 &&& Int32.toUInt32 31)).toInt32) / (nI 12) * (nI 12)) → VX11_drawn_196 D Q v3 v4 v5 v6 (z2 + (nI 12345)) v8 v9 v10 v11 MI ML) ∧ (¬ v6 ≤ (((((z2 + (nI 12345))).toUInt32 >>> (((nI 16)).toUInt32 &&& Int32.toUInt32 31)).toInt32) - ((((z2 + (nI 12345))).toUInt32 >>> (((nI 16)).toUInt32 &&& Int32.toUInt32 31)).toInt32) / (nI 12) * (nI 12)) → ¬ (MI 46 6) = nI 0 ∧ (¬ ((MI 46 6) - (nI 1)) = nI 0 ∧ (¬ (MI 46 6) = nI 0 ∧ (∃ (x5 : Int32) (M3 : mI) (N4 : mJ), mrc D 184 [.int (((((z2 + (nI 12345))).toUInt32 >>> (((nI 8)).toUInt32 &&& Int32.toUInt32 31)).toInt32) - ((((z2 + (nI 12345))).toUInt32 >>> (((nI 8)).toUInt32 &&& Int32.toUInt32 31)).toInt32) / (MI 46 6) * (MI 46 6)), .int ((((((((z2 + (nI 12345))).toUInt32 >>> (((nI 8)).toUInt32 &&& Int32.toUInt32 31)).toInt32) - ((((z2 + (nI 12345))).toUInt32 >>> (((nI 8)).toUInt32 &&& Int32.toUInt32 31)).toInt32) / (MI 46 6) * (MI 46 6)) + (nI 1)) + (((((z2 + (nI 12345))).toUInt32 >>> (((nI 4)).toUInt32 &&& Int32.toUInt32 31)).toInt32) - ((((z2 + (nI 12345))).toUInt32 >>> (((nI 4)).toUInt32 &&& Int32.toUInt32 31)).toInt32) / ((MI 46 6) - (nI 1)) * ((MI 46 6) - (nI 1)))) - (((((((z2 + (nI 12345))).toUInt32 >>> (((nI 8)).toUInt32 &&& Int32.toUInt32 31)).toInt32) - ((((z2 + (nI 12345))).toUInt32 >>> (((nI 8)).toUInt32 &&& Int32.toUInt32 31)).toInt32) / (MI 46 6) * (MI 46 6)) + (nI 1)) + (((((z2 + (nI 12345))).toUInt32 >>> (((nI 4)).toUInt32 &&& Int32.toUInt32 31)).toInt32) - ((((z2 + (nI 12345))).toUInt32 >>> (((nI 4)).toUInt32 &&& Int32.toUInt32 31)).toInt32) / ((MI 46 6) - (nI 1)) * ((MI 46 6) - (nI 1)))) / (MI 46 6) * (MI 46 6))] MI ML (some (.int x5)) M3 N4 ∧ (∃ i6 : Nat, x5 = nI i6 ∧ i6 < 84 ∧ (VX11_drawn_196 D Q v3 v4 v5 v6 (z2 + (nI 12345)) v8 v9 v10 v11 (mup M3 61 (mput (M3 61) i6 (-5 : Int32))) N4)))))))))) :
    VX11_drawn_107 D Q v3 v4 v5 v6 v7 v8 v9 v10 v11 MI ML := by
  show mEx D TX11_drawn (mqS Q) (107, [some (.ref 46), none, none, some (.int v3), some (.int v4), some (.int v5), some (.int v6), some (.int v7), some (.int v8), some (.int v9), some (.int v10), some (.int v11), none, none], [], (W0, Sh0, MI, ML))
  refine x_st rfl ?_
  refine x_st rfl ?_
  refine x_br rfl (fun c => ?_) (fun c => ?_)
  · replace h := h.1 c
    refine x_st rfl ?_
    refine x_st rfl ?_
    refine x_st rfl ?_
    refine x_br rfl (fun c => ?_) (fun c => ?_)
    · replace h := h.1 c
      refine x_st rfl ?_
      refine x_st rfl ?_
      refine x_st rfl ?_
      refine x_st rfl ?_
      refine x_st rfl ?_
      refine x_st rfl ?_
      refine x_kl ?_ h
      exact ⟨Or.inr rfl, ⟨Or.inl rfl, ⟨Or.inl rfl, ⟨Or.inr rfl, ⟨Or.inr rfl, ⟨Or.inr rfl, ⟨Or.inr rfl, ⟨Or.inr rfl, ⟨Or.inr rfl, ⟨Or.inr rfl, ⟨Or.inr rfl, ⟨Or.inl rfl, ⟨Or.inl rfl, ⟨Or.inl rfl, True.intro⟩⟩⟩⟩⟩⟩⟩⟩⟩⟩⟩⟩⟩⟩
    · replace h := h.2 c
      refine x_st rfl ?_
      refine x_gr (ci := 11) (k := 24) (nx := 230) rfl sh_46 rfl ?_
      refine x_st rfl ?_
      obtain ⟨i1, hx, hi, h⟩ := h
      refine x_ia (i := i1) (nx := 232) rfl sh_61 hx hi (by decide) ?_
      refine x_st rfl ?_
      refine x_st rfl ?_
      refine x_st rfl ?_
      refine x_st rfl ?_
      refine x_kl ?_ h
      exact ⟨Or.inr rfl, ⟨Or.inl rfl, ⟨Or.inl rfl, ⟨Or.inr rfl, ⟨Or.inr rfl, ⟨Or.inr rfl, ⟨Or.inr rfl, ⟨Or.inr rfl, ⟨Or.inr rfl, ⟨Or.inr rfl, ⟨Or.inr rfl, ⟨Or.inl rfl, ⟨Or.inl rfl, ⟨Or.inl rfl, True.intro⟩⟩⟩⟩⟩⟩⟩⟩⟩⟩⟩⟩⟩⟩
  · replace h := h.2 c
    refine x_st rfl ?_
    refine x_st rfl ?_
    refine x_mulv (nx := 120) rfl (fun z2 hz => ?_)
    replace h := h z2 hz
    refine x_st rfl ?_
    refine x_st rfl ?_
    refine x_st rfl ?_
    refine x_st rfl ?_
    refine x_gi (ci := 11) (k := 6) (nx := 130) rfl sh_46 rfl ?_
    refine x_st rfl ?_
    refine x_br rfl (fun c => ?_) (fun c => ?_)
    · replace h := h.1 c
      refine x_kl ?_ h
      exact ⟨Or.inr rfl, ⟨Or.inl rfl, ⟨Or.inl rfl, ⟨Or.inr rfl, ⟨Or.inr rfl, ⟨Or.inr rfl, ⟨Or.inr rfl, ⟨Or.inr rfl, ⟨Or.inr rfl, ⟨Or.inr rfl, ⟨Or.inr rfl, ⟨Or.inr rfl, ⟨Or.inl rfl, ⟨Or.inl rfl, True.intro⟩⟩⟩⟩⟩⟩⟩⟩⟩⟩⟩⟩⟩⟩
    · replace h := h.2 c
      refine x_st rfl ?_
      refine x_st rfl ?_
      refine x_st rfl ?_
      refine x_st rfl ?_
      refine x_st rfl ?_
      refine x_st rfl ?_
      refine x_br rfl (fun c => ?_) (fun c => ?_)
      · replace h := h.1 c
        refine x_kl ?_ h
        exact ⟨Or.inr rfl, ⟨Or.inl rfl, ⟨Or.inl rfl, ⟨Or.inr rfl, ⟨Or.inr rfl, ⟨Or.inr rfl, ⟨Or.inr rfl, ⟨Or.inr rfl, ⟨Or.inr rfl, ⟨Or.inr rfl, ⟨Or.inr rfl, ⟨Or.inr rfl, ⟨Or.inl rfl, ⟨Or.inl rfl, True.intro⟩⟩⟩⟩⟩⟩⟩⟩⟩⟩⟩⟩⟩⟩
      · replace h := h.2 c
        refine x_st rfl ?_
        refine x_st rfl ?_
        refine x_st rfl ?_
        refine x_st rfl ?_
        refine x_gi (ci := 11) (k := 6) (nx := 156) rfl sh_46 rfl ?_
        refine x_ck rfl h.1 ?_
        have h := h.2
        refine x_st rfl ?_
        refine x_st rfl ?_
        refine x_st rfl ?_
        refine x_st rfl ?_
        refine x_st rfl ?_
        refine x_st rfl ?_
        refine x_st rfl ?_
        refine x_st rfl ?_
        refine x_gi (ci := 11) (k := 6) (nx := 171) rfl sh_46 rfl ?_
        refine x_st rfl ?_
        refine x_st rfl ?_
        refine x_ck rfl h.1 ?_
        have h := h.2
        refine x_st rfl ?_
        refine x_st rfl ?_
        refine x_gi (ci := 11) (k := 6) (nx := 179) rfl sh_46 rfl ?_
        refine x_ck rfl h.1 ?_
        have h := h.2
        refine x_st rfl ?_
        refine x_st rfl ?_
        refine x_gr (ci := 11) (k := 24) (nx := 186) rfl sh_46 rfl ?_
        refine x_st rfl ?_
        refine x_st rfl ?_
        obtain ⟨x5, M3, N4, hc, h⟩ := h
        refine x_ci rfl hc ?_
        refine x_st rfl ?_
        obtain ⟨i6, hx, hi, h⟩ := h
        refine x_iast (i := i6) (nx := 196) rfl sh_61 hx hi (by decide) ?_
        refine x_kl ?_ h
        exact ⟨Or.inr rfl, ⟨Or.inl rfl, ⟨Or.inl rfl, ⟨Or.inr rfl, ⟨Or.inr rfl, ⟨Or.inr rfl, ⟨Or.inr rfl, ⟨Or.inr rfl, ⟨Or.inr rfl, ⟨Or.inr rfl, ⟨Or.inr rfl, ⟨Or.inr rfl, ⟨Or.inl rfl, ⟨Or.inl rfl, True.intro⟩⟩⟩⟩⟩⟩⟩⟩⟩⟩⟩⟩⟩⟩
theorem BX11_drawn_196 {D : Nat} {Q : Option Value → mI → mJ → Prop}  {v3 : Int32} {v4 : Int32} {v5 : Int32} {v6 : Int32} {v7 : Int32} {v8 : Int32} {v9 : Int32} {v10 : Int32} {v11 : Int32} {MI : mI} {ML : mJ} 
    (h : ∃ (M1 : mI) (N2 : mJ), mrc D 216 [.ref 46] MI ML none M1 N2 ∧ (VX11_drawn_107 D Q v3 v4 v5 v6 v7 v8 (v9 + (M1 46 29)) v10 (v11 + (nI 1)) M1 N2)) :
    VX11_drawn_196 D Q v3 v4 v5 v6 v7 v8 v9 v10 v11 MI ML := by
  show mEx D TX11_drawn (mqS Q) (196, [some (.ref 46), none, none, some (.int v3), some (.int v4), some (.int v5), some (.int v6), some (.int v7), some (.int v8), some (.int v9), some (.int v10), some (.int v11), none, none], [], (W0, Sh0, MI, ML))
  refine x_st rfl ?_
  obtain ⟨M1, N2, hc, h⟩ := h
  refine x_vv (y := 216) (n := 0) (ci := 11) (nx := 200) rfl (fun _ => rfl) sh_46 rfl hc ?_
  refine x_st rfl ?_
  refine x_st rfl ?_
  refine x_gi (ci := 11) (k := 29) (nx := 206) rfl sh_46 rfl ?_
  refine x_st rfl ?_
  refine x_st rfl ?_
  refine x_st rfl ?_
  refine x_st rfl ?_
  refine x_kl ?_ h
  exact ⟨Or.inr rfl, ⟨Or.inl rfl, ⟨Or.inl rfl, ⟨Or.inr rfl, ⟨Or.inr rfl, ⟨Or.inr rfl, ⟨Or.inr rfl, ⟨Or.inr rfl, ⟨Or.inr rfl, ⟨Or.inr rfl, ⟨Or.inr rfl, ⟨Or.inr rfl, ⟨Or.inl rfl, ⟨Or.inl rfl, True.intro⟩⟩⟩⟩⟩⟩⟩⟩⟩⟩⟩⟩⟩⟩
theorem EX11_drawn {D : Nat} {Q : Option Value → mI → mJ → Prop}  {v1 : Int32} {v2 : Int32} {v3 : Int32} {MI : mI} {ML : mJ} (h : VX11_drawn_0 D Q v1 v2 v3 MI ML) : ∃ v MI' ML', Q v MI' ML' ∧ mrc (D + 1) 238 [.ref 46, .int v1, .int v2, .int v3] MI ML v MI' ML' := by
  refine x_en (n := 10) (T := TX11_drawn) rfl rfl ?_
  refine x_kl ?_ h
  exact ⟨Or.inr rfl, ⟨Or.inr rfl, ⟨Or.inr rfl, ⟨Or.inr rfl, ⟨Or.inl rfl, ⟨Or.inl rfl, ⟨Or.inl rfl, ⟨Or.inl rfl, ⟨Or.inl rfl, ⟨Or.inl rfl, ⟨Or.inl rfl, ⟨Or.inl rfl, ⟨Or.inl rfl, ⟨Or.inl rfl, True.intro⟩⟩⟩⟩⟩⟩⟩⟩⟩⟩⟩⟩⟩⟩
def VX11_writesTale_0 (D : Nat) (Q : Option Value → mI → mJ → Prop)  (v1 : Int32) (MI : mI) (ML : mJ) : Prop := mEx D TX11_writesTale (mqS Q) (0, [some (.ref 46), some (.int v1)], [], (W0, Sh0, MI, ML))
theorem BX11_writesTale_0 {D : Nat} {Q : Option Value → mI → mJ → Prop}  {v1 : Int32} {MI : mI} {ML : mJ} 
    (h : ∃ i1 : Nat, (MI 46 37) = nI i1 ∧ i1 < 72 ∧ (Q none (mup (mup MI 71 (mput (MI 71) i1 v1)) 46 (mput ((mup MI 71 (mput (MI 71) i1 v1)) 46) 37 (((mup MI 71 (mput (MI 71) i1 v1)) 46 37) + (nI 1)))) ML)) :
    VX11_writesTale_0 D Q v1 MI ML := by
  show mEx D TX11_writesTale (mqS Q) (0, [some (.ref 46), some (.int v1)], [], (W0, Sh0, MI, ML))
  refine x_st rfl ?_
  refine x_gr (ci := 11) (k := 36) (nx := 4) rfl sh_46 rfl ?_
  refine x_st rfl ?_
  refine x_gi (ci := 11) (k := 37) (nx := 8) rfl sh_46 rfl ?_
  refine x_st rfl ?_
  obtain ⟨i1, hx, hi, h⟩ := h
  refine x_iast (i := i1) (nx := 10) rfl sh_71 hx hi (by decide) ?_
  refine x_st rfl ?_
  refine x_st rfl ?_
  refine x_gi (ci := 11) (k := 37) (nx := 15) rfl sh_46 rfl ?_
  refine x_st rfl ?_
  refine x_st rfl ?_
  refine x_pi (ci := 11) (k := 37) (nx := 20) rfl sh_46 rfl ?_
  refine x_ret rfl ?_
  exact ⟨_, _, rfl, h⟩
theorem EX11_writesTale {D : Nat} {Q : Option Value → mI → mJ → Prop}  {v1 : Int32} {MI : mI} {ML : mJ} (h : VX11_writesTale_0 D Q v1 MI ML) : ∃ v MI' ML', Q v MI' ML' ∧ mrc (D + 1) 239 [.ref 46, .int v1] MI ML v MI' ML' := by
  refine x_en (n := 0) (T := TX11_writesTale) rfl rfl ?_
  refine x_kl ?_ h
  exact ⟨Or.inr rfl, ⟨Or.inr rfl, True.intro⟩⟩
def VX11_tells_0 (D : Nat) (Q : Option Value → mI → mJ → Prop)  (v1 : Int32) (v2 : Int32) (v3 : Int32) (v4 : Int32) (MI : mI) (ML : mJ) : Prop := mEx D TX11_tells (mqS Q) (0, [some (.ref 46), some (.int v1), some (.int v2), some (.int v3), some (.int v4)], [], (W0, Sh0, MI, ML))
def VX11_tells_61 (D : Nat) (Q : Option Value → mI → mJ → Prop)  (v4 : Int32) (MI : mI) (ML : mJ) : Prop := mEx D TX11_tells (mqS Q) (61, [some (.ref 46), none, none, none, some (.int v4)], [], (W0, Sh0, MI, ML))
theorem BX11_tells_0 {D : Nat} {Q : Option Value → mI → mJ → Prop}  {v1 : Int32} {v2 : Int32} {v3 : Int32} {v4 : Int32} {MI : mI} {ML : mJ} 
    (h : ∃ (M1 : mI) (N2 : mJ), mrc D 239 [.ref 46, .int ((nI 48) + v1)] MI ML none M1 N2 ∧ (∃ (M3 : mI) (N4 : mJ), mrc D 239 [.ref 46, .int (nI 60)] M1 N2 none M3 N4 ∧ (∃ (M5 : mI) (N6 : mJ), mrc D 239 [.ref 46, .int ((nI 48) + v2)] M3 N4 none M5 N6 ∧ (∃ (M7 : mI) (N8 : mJ), mrc D 239 [.ref 46, .int (nI 124)] M5 N6 none M7 N8 ∧ (∃ (M9 : mI) (N10 : mJ), mrc D 239 [.ref 46, .int ((nI 48) + v3)] M7 N8 none M9 N10 ∧ (∃ (M11 : mI) (N12 : mJ), mrc D 239 [.ref 46, .int (nI 58)] M9 N10 none M11 N12 ∧ ((v4 ≤ (nI 9) → VX11_tells_61 D Q v4 M11 N12) ∧ (¬ v4 ≤ (nI 9) → ∃ (M13 : mI) (N14 : mJ), mrc D 239 [.ref 46, .int ((nI 48) + (v4 / (nI 10)))] M11 N12 none M13 N14 ∧ (VX11_tells_61 D Q v4 M13 N14))))))))) :
    VX11_tells_0 D Q v1 v2 v3 v4 MI ML := by
  show mEx D TX11_tells (mqS Q) (0, [some (.ref 46), some (.int v1), some (.int v2), some (.int v3), some (.int v4)], [], (W0, Sh0, MI, ML))
  refine x_st rfl ?_
  refine x_st rfl ?_
  refine x_st rfl ?_
  refine x_st rfl ?_
  obtain ⟨M1, N2, hc, h⟩ := h
  refine x_vv (y := 239) (n := 1) (ci := 11) (nx := 8) rfl (fun _ => rfl) sh_46 rfl hc ?_
  refine x_st rfl ?_
  refine x_st rfl ?_
  obtain ⟨M3, N4, hc, h⟩ := h
  refine x_vv (y := 239) (n := 1) (ci := 11) (nx := 14) rfl (fun _ => rfl) sh_46 rfl hc ?_
  refine x_st rfl ?_
  refine x_st rfl ?_
  refine x_st rfl ?_
  refine x_st rfl ?_
  obtain ⟨M5, N6, hc, h⟩ := h
  refine x_vv (y := 239) (n := 1) (ci := 11) (nx := 22) rfl (fun _ => rfl) sh_46 rfl hc ?_
  refine x_st rfl ?_
  refine x_st rfl ?_
  obtain ⟨M7, N8, hc, h⟩ := h
  refine x_vv (y := 239) (n := 1) (ci := 11) (nx := 28) rfl (fun _ => rfl) sh_46 rfl hc ?_
  refine x_st rfl ?_
  refine x_st rfl ?_
  refine x_st rfl ?_
  refine x_st rfl ?_
  obtain ⟨M9, N10, hc, h⟩ := h
  refine x_vv (y := 239) (n := 1) (ci := 11) (nx := 36) rfl (fun _ => rfl) sh_46 rfl hc ?_
  refine x_st rfl ?_
  refine x_st rfl ?_
  obtain ⟨M11, N12, hc, h⟩ := h
  refine x_vv (y := 239) (n := 1) (ci := 11) (nx := 42) rfl (fun _ => rfl) sh_46 rfl hc ?_
  refine x_st rfl ?_
  refine x_st rfl ?_
  refine x_br rfl (fun c => ?_) (fun c => ?_)
  · replace h := h.1 c
    refine x_kl ?_ h
    exact ⟨Or.inr rfl, ⟨Or.inl rfl, ⟨Or.inl rfl, ⟨Or.inl rfl, ⟨Or.inr rfl, True.intro⟩⟩⟩⟩⟩
  · replace h := h.2 c
    refine x_st rfl ?_
    refine x_st rfl ?_
    refine x_st rfl ?_
    refine x_st rfl ?_
    refine x_st rfl ?_
    refine x_st rfl ?_
    obtain ⟨M13, N14, hc, h⟩ := h
    refine x_vv (y := 239) (n := 1) (ci := 11) (nx := 61) rfl (fun _ => rfl) sh_46 rfl hc ?_
    refine x_kl ?_ h
    exact ⟨Or.inr rfl, ⟨Or.inl rfl, ⟨Or.inl rfl, ⟨Or.inl rfl, ⟨Or.inr rfl, True.intro⟩⟩⟩⟩⟩
theorem BX11_tells_61 {D : Nat} {Q : Option Value → mI → mJ → Prop}  {v4 : Int32} {MI : mI} {ML : mJ} 
    (h : ∃ (M1 : mI) (N2 : mJ), mrc D 239 [.ref 46, .int ((nI 48) + (v4 - v4 / (nI 10) * (nI 10)))] MI ML none M1 N2 ∧ (∃ (M3 : mI) (N4 : mJ), mrc D 239 [.ref 46, .int (nI 59)] M1 N2 none M3 N4 ∧ (Q none M3 N4))) :
    VX11_tells_61 D Q v4 MI ML := by
  show mEx D TX11_tells (mqS Q) (61, [some (.ref 46), none, none, none, some (.int v4)], [], (W0, Sh0, MI, ML))
  refine x_st rfl ?_
  refine x_st rfl ?_
  refine x_st rfl ?_
  refine x_st rfl ?_
  refine x_st rfl ?_
  refine x_st rfl ?_
  obtain ⟨M1, N2, hc, h⟩ := h
  refine x_vv (y := 239) (n := 1) (ci := 11) (nx := 73) rfl (fun _ => rfl) sh_46 rfl hc ?_
  refine x_st rfl ?_
  refine x_st rfl ?_
  obtain ⟨M3, N4, hc, h⟩ := h
  refine x_vv (y := 239) (n := 1) (ci := 11) (nx := 79) rfl (fun _ => rfl) sh_46 rfl hc ?_
  refine x_ret rfl ?_
  exact ⟨_, _, rfl, h⟩
theorem EX11_tells {D : Nat} {Q : Option Value → mI → mJ → Prop}  {v1 : Int32} {v2 : Int32} {v3 : Int32} {v4 : Int32} {MI : mI} {ML : mJ} (h : VX11_tells_0 D Q v1 v2 v3 v4 MI ML) : ∃ v MI' ML', Q v MI' ML' ∧ mrc (D + 1) 240 [.ref 46, .int v1, .int v2, .int v3, .int v4] MI ML v MI' ML' := by
  refine x_en (n := 0) (T := TX11_tells) rfl rfl ?_
  refine x_kl ?_ h
  exact ⟨Or.inr rfl, ⟨Or.inr rfl, ⟨Or.inr rfl, ⟨Or.inr rfl, ⟨Or.inr rfl, True.intro⟩⟩⟩⟩⟩
def VX11_day_0 (D : Nat) (Q : Option Value → mI → mJ → Prop)  (MI : mI) (ML : mJ) : Prop := mEx D TX11_day (mqS Q) (0, [some (.ref 46), none], [], (W0, Sh0, MI, ML))
def VX11_day_25 (D : Nat) (Q : Option Value → mI → mJ → Prop)  (v1 : Int32) (MI : mI) (ML : mJ) : Prop := mEx D TX11_day (mqS Q) (25, [some (.ref 46), some (.int v1)], [], (W0, Sh0, MI, ML))
theorem BX11_day_0 {D : Nat} {Q : Option Value → mI → mJ → Prop}  {MI : mI} {ML : mJ} 
    (h : ∃ (M1 : mI) (N2 : mJ), mrc D 211 [.ref 46] MI ML none M1 N2 ∧ (∃ (M3 : mI) (N4 : mJ), mrc D 216 [.ref 46] (mup (mup M1 46 (mput (M1 46) 37 (nI 0))) 46 (mput ((mup M1 46 (mput (M1 46) 37 (nI 0))) 46) 30 (nI 1))) N2 none M3 N4 ∧ (VX11_day_25 D Q (nI 0) (mup M3 46 (mput (M3 46) 30 (nI 0))) N4))) :
    VX11_day_0 D Q  MI ML := by
  show mEx D TX11_day (mqS Q) (0, [some (.ref 46), none], [], (W0, Sh0, MI, ML))
  refine x_st rfl ?_
  obtain ⟨M1, N2, hc, h⟩ := h
  refine x_vv (y := 211) (n := 0) (ci := 11) (nx := 4) rfl (fun _ => rfl) sh_46 rfl hc ?_
  refine x_st rfl ?_
  refine x_st rfl ?_
  refine x_pi (ci := 11) (k := 37) (nx := 9) rfl sh_46 rfl ?_
  refine x_st rfl ?_
  refine x_st rfl ?_
  refine x_pz (ci := 11) (k := 30) (nx := 14) rfl sh_46 rfl (by decide) ?_
  refine x_st rfl ?_
  obtain ⟨M3, N4, hc, h⟩ := h
  refine x_vv (y := 216) (n := 0) (ci := 11) (nx := 18) rfl (fun _ => rfl) sh_46 rfl hc ?_
  refine x_st rfl ?_
  refine x_st rfl ?_
  refine x_pz (ci := 11) (k := 30) (nx := 23) rfl sh_46 rfl (by decide) ?_
  refine x_st rfl ?_
  refine x_st rfl ?_
  refine x_kl ?_ h
  exact ⟨Or.inr rfl, ⟨Or.inr rfl, True.intro⟩⟩
theorem BX11_day_25 {D : Nat} {Q : Option Value → mI → mJ → Prop}  {v1 : Int32} {MI : mI} {ML : mJ} 
    (h : ((nI 84) ≤ v1 → Q (some (.int ((mup (mup (mup MI 70 (mput (MI 70) 0 ((MI 70 0) + (nI 1)))) 70 (mput ((mup MI 70 (mput (MI 70) 0 ((MI 70 0) + (nI 1)))) 70) 1 (((mup MI 70 (mput (MI 70) 0 ((MI 70 0) + (nI 1)))) 70 1) + ((mup MI 70 (mput (MI 70) 0 ((MI 70 0) + (nI 1)))) 46 29)))) 70 (mput ((mup (mup MI 70 (mput (MI 70) 0 ((MI 70 0) + (nI 1)))) 70 (mput ((mup MI 70 (mput (MI 70) 0 ((MI 70 0) + (nI 1)))) 70) 1 (((mup MI 70 (mput (MI 70) 0 ((MI 70 0) + (nI 1)))) 70 1) + ((mup MI 70 (mput (MI 70) 0 ((MI 70 0) + (nI 1)))) 46 29)))) 70) 2 (((mup (mup MI 70 (mput (MI 70) 0 ((MI 70 0) + (nI 1)))) 70 (mput ((mup MI 70 (mput (MI 70) 0 ((MI 70 0) + (nI 1)))) 70) 1 (((mup MI 70 (mput (MI 70) 0 ((MI 70 0) + (nI 1)))) 70 1) + ((mup MI 70 (mput (MI 70) 0 ((MI 70 0) + (nI 1)))) 46 29)))) 70 2) + (((mup (mup MI 70 (mput (MI 70) 0 ((MI 70 0) + (nI 1)))) 70 (mput ((mup MI 70 (mput (MI 70) 0 ((MI 70 0) + (nI 1)))) 70) 1 (((mup MI 70 (mput (MI 70) 0 ((MI 70 0) + (nI 1)))) 70 1) + ((mup MI 70 (mput (MI 70) 0 ((MI 70 0) + (nI 1)))) 46 29)))) 46 6) - ((mup (mup MI 70 (mput (MI 70) 0 ((MI 70 0) + (nI 1)))) 70 (mput ((mup MI 70 (mput (MI 70) 0 ((MI 70 0) + (nI 1)))) 70) 1 (((mup MI 70 (mput (MI 70) 0 ((MI 70 0) + (nI 1)))) 70 1) + ((mup MI 70 (mput (MI 70) 0 ((MI 70 0) + (nI 1)))) 46 29)))) 46 29))))) 46 29))) (mup (mup (mup MI 70 (mput (MI 70) 0 ((MI 70 0) + (nI 1)))) 70 (mput ((mup MI 70 (mput (MI 70) 0 ((MI 70 0) + (nI 1)))) 70) 1 (((mup MI 70 (mput (MI 70) 0 ((MI 70 0) + (nI 1)))) 70 1) + ((mup MI 70 (mput (MI 70) 0 ((MI 70 0) + (nI 1)))) 46 29)))) 70 (mput ((mup (mup MI 70 (mput (MI 70) 0 ((MI 70 0) + (nI 1)))) 70 (mput ((mup MI 70 (mput (MI 70) 0 ((MI 70 0) + (nI 1)))) 70) 1 (((mup MI 70 (mput (MI 70) 0 ((MI 70 0) + (nI 1)))) 70 1) + ((mup MI 70 (mput (MI 70) 0 ((MI 70 0) + (nI 1)))) 46 29)))) 70) 2 (((mup (mup MI 70 (mput (MI 70) 0 ((MI 70 0) + (nI 1)))) 70 (mput ((mup MI 70 (mput (MI 70) 0 ((MI 70 0) + (nI 1)))) 70) 1 (((mup MI 70 (mput (MI 70) 0 ((MI 70 0) + (nI 1)))) 70 1) + ((mup MI 70 (mput (MI 70) 0 ((MI 70 0) + (nI 1)))) 46 29)))) 70 2) + (((mup (mup MI 70 (mput (MI 70) 0 ((MI 70 0) + (nI 1)))) 70 (mput ((mup MI 70 (mput (MI 70) 0 ((MI 70 0) + (nI 1)))) 70) 1 (((mup MI 70 (mput (MI 70) 0 ((MI 70 0) + (nI 1)))) 70 1) + ((mup MI 70 (mput (MI 70) 0 ((MI 70 0) + (nI 1)))) 46 29)))) 46 6) - ((mup (mup MI 70 (mput (MI 70) 0 ((MI 70 0) + (nI 1)))) 70 (mput ((mup MI 70 (mput (MI 70) 0 ((MI 70 0) + (nI 1)))) 70) 1 (((mup MI 70 (mput (MI 70) 0 ((MI 70 0) + (nI 1)))) 70 1) + ((mup MI 70 (mput (MI 70) 0 ((MI 70 0) + (nI 1)))) 46 29)))) 46 29))))) ML) ∧ (¬ (nI 84) ≤ v1 → ∃ i1 : Nat, v1 = nI i1 ∧ i1 < 84 ∧ (∃ i2 : Nat, v1 = nI i2 ∧ i2 < 84 ∧ (VX11_day_25 D Q (v1 + (nI 1)) (mup MI 47 (mput (MI 47) i2 (MI 61 i1))) ML)))) :
    VX11_day_25 D Q v1 MI ML := by
  show mEx D TX11_day (mqS Q) (25, [some (.ref 46), some (.int v1)], [], (W0, Sh0, MI, ML))
  refine x_st rfl ?_
  refine x_st rfl ?_
  refine x_br rfl (fun c => ?_) (fun c => ?_)
  · replace h := h.1 c
    refine x_st rfl ?_
    refine x_gr (ci := 11) (k := 35) (nx := 53) rfl sh_46 rfl ?_
    refine x_st rfl ?_
    refine x_st rfl ?_
    refine x_ia (i := 0) (nx := 56) rfl sh_70 rfl (by decide) (by decide) ?_
    refine x_st rfl ?_
    refine x_st rfl ?_
    refine x_iast (i := 0) (nx := 59) rfl sh_70 rfl (by decide) (by decide) ?_
    refine x_st rfl ?_
    refine x_gr (ci := 11) (k := 35) (nx := 63) rfl sh_46 rfl ?_
    refine x_st rfl ?_
    refine x_st rfl ?_
    refine x_ia (i := 1) (nx := 66) rfl sh_70 rfl (by decide) (by decide) ?_
    refine x_st rfl ?_
    refine x_gi (ci := 11) (k := 29) (nx := 70) rfl sh_46 rfl ?_
    refine x_st rfl ?_
    refine x_iast (i := 1) (nx := 72) rfl sh_70 rfl (by decide) (by decide) ?_
    refine x_st rfl ?_
    refine x_gr (ci := 11) (k := 35) (nx := 76) rfl sh_46 rfl ?_
    refine x_st rfl ?_
    refine x_st rfl ?_
    refine x_ia (i := 2) (nx := 79) rfl sh_70 rfl (by decide) (by decide) ?_
    refine x_st rfl ?_
    refine x_gi (ci := 11) (k := 6) (nx := 83) rfl sh_46 rfl ?_
    refine x_st rfl ?_
    refine x_gi (ci := 11) (k := 29) (nx := 87) rfl sh_46 rfl ?_
    refine x_st rfl ?_
    refine x_st rfl ?_
    refine x_iast (i := 2) (nx := 90) rfl sh_70 rfl (by decide) (by decide) ?_
    refine x_st rfl ?_
    refine x_gi (ci := 11) (k := 29) (nx := 94) rfl sh_46 rfl ?_
    refine x_ret rfl ?_
    exact ⟨_, _, rfl, h⟩
  · replace h := h.2 c
    refine x_st rfl ?_
    refine x_gr (ci := 11) (k := 0) (nx := 35) rfl sh_46 rfl ?_
    refine x_st rfl ?_
    refine x_st rfl ?_
    refine x_gr (ci := 11) (k := 24) (nx := 40) rfl sh_46 rfl ?_
    refine x_st rfl ?_
    obtain ⟨i1, hx, hi, h⟩ := h
    refine x_ia (i := i1) (nx := 42) rfl sh_61 hx hi (by decide) ?_
    obtain ⟨i2, hx, hi, h⟩ := h
    refine x_iast (i := i2) (nx := 43) rfl sh_47 hx hi (by decide) ?_
    refine x_st rfl ?_
    refine x_st rfl ?_
    refine x_kl ?_ h
    exact ⟨Or.inr rfl, ⟨Or.inr rfl, True.intro⟩⟩
theorem EX11_day {D : Nat} {Q : Option Value → mI → mJ → Prop}  {MI : mI} {ML : mJ} (h : VX11_day_0 D Q  MI ML) : ∃ v MI' ML', Q v MI' ML' ∧ mrc (D + 1) 241 [.ref 46] MI ML v MI' ML' := by
  refine x_en (n := 1) (T := TX11_day) rfl rfl ?_
  refine x_kl ?_ h
  exact ⟨Or.inr rfl, ⟨Or.inl rfl, True.intro⟩⟩
def VX11_wrong__0 (D : Nat) (Q : Option Value → mI → mJ → Prop)  (v1 : Int32) (v2 : Int32) (MI : mI) (ML : mJ) : Prop := mEx D TX11_wrong_ (mqS Q) (0, [some (.ref 46), some (.int v1), some (.int v2), none], [], (W0, Sh0, MI, ML))
theorem BX11_wrong__0 {D : Nat} {Q : Option Value → mI → mJ → Prop}  {v1 : Int32} {v2 : Int32} {MI : mI} {ML : mJ} 
    (h : ∃ (x3 : Int32) (M1 : mI) (N2 : mJ), mrc D 185 [.ref 46, .int v1] MI ML (some (.int x3)) M1 N2 ∧ ((x3 = nI 0 → Q (some (.int (-1 : Int32))) M1 N2) ∧ (¬ x3 = nI 0 → ∃ (x6 : Int32) (M4 : mI) (N5 : mJ), mrc D 178 [.long (v2).toInt64, .long (1 : Int64), .long (9 : Int64)] M1 N2 (some (.int x6)) M4 N5 ∧ ((x6 = nI 0 → Q (some (.int (-1 : Int32))) M4 N5) ∧ (¬ x6 = nI 0 → ∃ (x9 : Int32) (M7 : mI) (N8 : mJ), mrc D 184 [.int (v1 - v1 / (nI 10) * (nI 10)), .int (v1 / (nI 10))] M4 N5 (some (.int x9)) M7 N8 ∧ (∃ i10 : Nat, x9 = nI i10 ∧ i10 < 84 ∧ (∃ i11 : Nat, x9 = nI i11 ∧ i11 < 84 ∧ (∃ i12 : Nat, x9 = nI i12 ∧ i12 < 84 ∧ (Q (some (.int (((mup (mup M7 47 (mput (M7 47) i11 (if (-9 : Int32) < ((M7 47 i10) - v2) then ((M7 47 i10) - v2) else (-9 : Int32)))) 70 (mput ((mup M7 47 (mput (M7 47) i11 (if (-9 : Int32) < ((M7 47 i10) - v2) then ((M7 47 i10) - v2) else (-9 : Int32)))) 70) 3 (((mup M7 47 (mput (M7 47) i11 (if (-9 : Int32) < ((M7 47 i10) - v2) then ((M7 47 i10) - v2) else (-9 : Int32)))) 70 3) + (nI 1)))) 47 i12) + (nI 100)))) (mup (mup M7 47 (mput (M7 47) i11 (if (-9 : Int32) < ((M7 47 i10) - v2) then ((M7 47 i10) - v2) else (-9 : Int32)))) 70 (mput ((mup M7 47 (mput (M7 47) i11 (if (-9 : Int32) < ((M7 47 i10) - v2) then ((M7 47 i10) - v2) else (-9 : Int32)))) 70) 3 (((mup M7 47 (mput (M7 47) i11 (if (-9 : Int32) < ((M7 47 i10) - v2) then ((M7 47 i10) - v2) else (-9 : Int32)))) 70 3) + (nI 1)))) N8))))))))) :
    VX11_wrong__0 D Q v1 v2 MI ML := by
  show mEx D TX11_wrong_ (mqS Q) (0, [some (.ref 46), some (.int v1), some (.int v2), none], [], (W0, Sh0, MI, ML))
  refine x_st rfl ?_
  refine x_st rfl ?_
  obtain ⟨x3, M1, N2, hc, h⟩ := h
  refine x_vi (y := 185) (n := 1) (ci := 11) (nx := 5) rfl (fun _ => rfl) sh_46 rfl hc ?_
  refine x_br rfl (fun c => ?_) (fun c => ?_)
  · replace h := h.1 c
    refine x_st rfl ?_
    refine x_ret rfl ?_
    exact ⟨_, _, rfl, h⟩
  · replace h := h.2 c
    refine x_st rfl ?_
    refine x_st rfl ?_
    refine x_st rfl ?_
    refine x_st rfl ?_
    obtain ⟨x6, M4, N5, hc, h⟩ := h
    refine x_ci rfl hc ?_
    refine x_br rfl (fun c => ?_) (fun c => ?_)
    · replace h := h.1 c
      refine x_st rfl ?_
      refine x_ret rfl ?_
      exact ⟨_, _, rfl, h⟩
    · replace h := h.2 c
      refine x_st rfl ?_
      refine x_st rfl ?_
      refine x_st rfl ?_
      refine x_st rfl ?_
      refine x_st rfl ?_
      refine x_st rfl ?_
      obtain ⟨x9, M7, N8, hc, h⟩ := h
      refine x_ci rfl hc ?_
      refine x_st rfl ?_
      refine x_st rfl ?_
      refine x_gr (ci := 11) (k := 0) (nx := 38) rfl sh_46 rfl ?_
      refine x_st rfl ?_
      refine x_st rfl ?_
      refine x_st rfl ?_
      refine x_gr (ci := 11) (k := 0) (nx := 45) rfl sh_46 rfl ?_
      refine x_st rfl ?_
      obtain ⟨i10, hx, hi, h⟩ := h
      refine x_ia (i := i10) (nx := 47) rfl sh_47 hx hi (by decide) ?_
      refine x_st rfl ?_
      refine x_st rfl ?_
      refine x_st rfl ?_
      obtain ⟨i11, hx, hi, h⟩ := h
      refine x_iast (i := i11) (nx := 53) rfl sh_47 hx hi (by decide) ?_
      refine x_st rfl ?_
      refine x_gr (ci := 11) (k := 35) (nx := 57) rfl sh_46 rfl ?_
      refine x_st rfl ?_
      refine x_st rfl ?_
      refine x_ia (i := 3) (nx := 60) rfl sh_70 rfl (by decide) (by decide) ?_
      refine x_st rfl ?_
      refine x_st rfl ?_
      refine x_iast (i := 3) (nx := 63) rfl sh_70 rfl (by decide) (by decide) ?_
      refine x_st rfl ?_
      refine x_gr (ci := 11) (k := 0) (nx := 67) rfl sh_46 rfl ?_
      refine x_st rfl ?_
      obtain ⟨i12, hx, hi, h⟩ := h
      refine x_ia (i := i12) (nx := 69) rfl sh_47 hx hi (by decide) ?_
      refine x_st rfl ?_
      refine x_st rfl ?_
      refine x_ret rfl ?_
      exact ⟨_, _, rfl, h⟩
theorem EX11_wrong_ {D : Nat} {Q : Option Value → mI → mJ → Prop}  {v1 : Int32} {v2 : Int32} {MI : mI} {ML : mJ} (h : VX11_wrong__0 D Q v1 v2 MI ML) : ∃ v MI' ML', Q v MI' ML' ∧ mrc (D + 1) 242 [.ref 46, .int v1, .int v2] MI ML v MI' ML' := by
  refine x_en (n := 1) (T := TX11_wrong_) rfl rfl ?_
  refine x_kl ?_ h
  exact ⟨Or.inr rfl, ⟨Or.inr rfl, ⟨Or.inr rfl, ⟨Or.inl rfl, True.intro⟩⟩⟩⟩
def VX11_lease_0 (D : Nat) (Q : Option Value → mI → mJ → Prop)  (v1 : Int32) (v2 : Int32) (MI : mI) (ML : mJ) : Prop := mEx D TX11_lease (mqS Q) (0, [some (.ref 46), some (.int v1), some (.int v2), none, none], [], (W0, Sh0, MI, ML))
theorem BX11_lease_0 {D : Nat} {Q : Option Value → mI → mJ → Prop}  {v1 : Int32} {v2 : Int32} {MI : mI} {ML : mJ} 
    (h : ∃ (x3 : Int32) (M1 : mI) (N2 : mJ), mrc D 185 [.ref 46, .int v1] MI ML (some (.int x3)) M1 N2 ∧ ((x3 = nI 0 → Q (some (.int (-1 : Int32))) M1 N2) ∧ (¬ x3 = nI 0 → ∃ (x6 : Int32) (M4 : mI) (N5 : mJ), mrc D 183 [.ref 46, .long (v2).toInt64] M1 N2 (some (.int x6)) M4 N5 ∧ ((x6 = nI 0 → Q (some (.int (-1 : Int32))) M4 N5) ∧ (¬ x6 = nI 0 → (v2 = (v1 / (nI 10)) → Q (some (.int (-1 : Int32))) M4 N5) ∧ (¬ v2 = (v1 / (nI 10)) → (v2 = (v1 - v1 / (nI 10) * (nI 10)) → Q (some (.int (-1 : Int32))) M4 N5) ∧ (¬ v2 = (v1 - v1 / (nI 10) * (nI 10)) → ∃ (x9 : Int32) (M7 : mI) (N8 : mJ), mrc D 184 [.int (v1 - v1 / (nI 10) * (nI 10)), .int v2] M4 N5 (some (.int x9)) M7 N8 ∧ (∃ i10 : Nat, x9 = nI i10 ∧ i10 < 84 ∧ (((M7 47 i10) < nI 0 → ∃ (x13 : Int32) (M11 : mI) (N12 : mJ), mrc D 184 [.int (v1 / (nI 10)), .int v2] M7 N8 (some (.int x13)) M11 N12 ∧ (∃ i14 : Nat, x9 = nI i14 ∧ i14 < 84 ∧ (∃ i15 : Nat, x13 = nI i15 ∧ i15 < 84 ∧ (∃ i16 : Nat, x9 = nI i16 ∧ i16 < 84 ∧ (∃ i17 : Nat, x13 = nI i17 ∧ i17 < 84 ∧ (Q (some (.int (((mup (mup (mup M11 47 (mput (M11 47) i15 (M11 47 i14))) 47 (mput ((mup M11 47 (mput (M11 47) i15 (M11 47 i14))) 47) i16 (nI 0))) 70 (mput ((mup (mup M11 47 (mput (M11 47) i15 (M11 47 i14))) 47 (mput ((mup M11 47 (mput (M11 47) i15 (M11 47 i14))) 47) i16 (nI 0))) 70) 4 (((mup (mup M11 47 (mput (M11 47) i15 (M11 47 i14))) 47 (mput ((mup M11 47 (mput (M11 47) i15 (M11 47 i14))) 47) i16 (nI 0))) 70 4) + (nI 1)))) 47 i17) + (nI 100)))) (mup (mup (mup M11 47 (mput (M11 47) i15 (M11 47 i14))) 47 (mput ((mup M11 47 (mput (M11 47) i15 (M11 47 i14))) 47) i16 (nI 0))) 70 (mput ((mup (mup M11 47 (mput (M11 47) i15 (M11 47 i14))) 47 (mput ((mup M11 47 (mput (M11 47) i15 (M11 47 i14))) 47) i16 (nI 0))) 70) 4 (((mup (mup M11 47 (mput (M11 47) i15 (M11 47 i14))) 47 (mput ((mup M11 47 (mput (M11 47) i15 (M11 47 i14))) 47) i16 (nI 0))) 70 4) + (nI 1)))) N12)))))) ∧ (¬ (M7 47 i10) < nI 0 → Q (some (.int (-5 : Int32))) M7 N8)))))))))) :
    VX11_lease_0 D Q v1 v2 MI ML := by
  show mEx D TX11_lease (mqS Q) (0, [some (.ref 46), some (.int v1), some (.int v2), none, none], [], (W0, Sh0, MI, ML))
  refine x_st rfl ?_
  refine x_st rfl ?_
  obtain ⟨x3, M1, N2, hc, h⟩ := h
  refine x_vi (y := 185) (n := 1) (ci := 11) (nx := 5) rfl (fun _ => rfl) sh_46 rfl hc ?_
  refine x_br rfl (fun c => ?_) (fun c => ?_)
  · replace h := h.1 c
    refine x_st rfl ?_
    refine x_ret rfl ?_
    exact ⟨_, _, rfl, h⟩
  · replace h := h.2 c
    refine x_st rfl ?_
    refine x_st rfl ?_
    refine x_st rfl ?_
    obtain ⟨x6, M4, N5, hc, h⟩ := h
    refine x_vi (y := 183) (n := 1) (ci := 11) (nx := 14) rfl (fun _ => rfl) sh_46 rfl hc ?_
    refine x_br rfl (fun c => ?_) (fun c => ?_)
    · replace h := h.1 c
      refine x_st rfl ?_
      refine x_ret rfl ?_
      exact ⟨_, _, rfl, h⟩
    · replace h := h.2 c
      refine x_st rfl ?_
      refine x_st rfl ?_
      refine x_st rfl ?_
      refine x_st rfl ?_
      refine x_br rfl (fun c => ?_) (fun c => ?_)
      · replace h := h.1 c
        refine x_st rfl ?_
        refine x_ret rfl ?_
        exact ⟨_, _, rfl, h⟩
      · replace h := h.2 c
        refine x_st rfl ?_
        refine x_st rfl ?_
        refine x_st rfl ?_
        refine x_st rfl ?_
        refine x_br rfl (fun c => ?_) (fun c => ?_)
        · replace h := h.1 c
          refine x_st rfl ?_
          refine x_ret rfl ?_
          exact ⟨_, _, rfl, h⟩
        · replace h := h.2 c
          refine x_st rfl ?_
          refine x_st rfl ?_
          refine x_st rfl ?_
          refine x_st rfl ?_
          obtain ⟨x9, M7, N8, hc, h⟩ := h
          refine x_ci rfl hc ?_
          refine x_st rfl ?_
          refine x_st rfl ?_
          refine x_gr (ci := 11) (k := 0) (nx := 48) rfl sh_46 rfl ?_
          refine x_st rfl ?_
          obtain ⟨i10, hx, hi, h⟩ := h
          refine x_ia (i := i10) (nx := 50) rfl sh_47 hx hi (by decide) ?_
          refine x_br rfl (fun c => ?_) (fun c => ?_)
          · replace h := h.1 c
            refine x_st rfl ?_
            refine x_st rfl ?_
            refine x_st rfl ?_
            refine x_st rfl ?_
            obtain ⟨x13, M11, N12, hc, h⟩ := h
            refine x_ci rfl hc ?_
            refine x_st rfl ?_
            refine x_st rfl ?_
            refine x_gr (ci := 11) (k := 0) (nx := 70) rfl sh_46 rfl ?_
            refine x_st rfl ?_
            refine x_st rfl ?_
            refine x_gr (ci := 11) (k := 0) (nx := 76) rfl sh_46 rfl ?_
            refine x_st rfl ?_
            obtain ⟨i14, hx, hi, h⟩ := h
            refine x_ia (i := i14) (nx := 78) rfl sh_47 hx hi (by decide) ?_
            obtain ⟨i15, hx, hi, h⟩ := h
            refine x_iast (i := i15) (nx := 79) rfl sh_47 hx hi (by decide) ?_
            refine x_st rfl ?_
            refine x_gr (ci := 11) (k := 0) (nx := 83) rfl sh_46 rfl ?_
            refine x_st rfl ?_
            refine x_st rfl ?_
            obtain ⟨i16, hx, hi, h⟩ := h
            refine x_iast (i := i16) (nx := 86) rfl sh_47 hx hi (by decide) ?_
            refine x_st rfl ?_
            refine x_gr (ci := 11) (k := 35) (nx := 90) rfl sh_46 rfl ?_
            refine x_st rfl ?_
            refine x_st rfl ?_
            refine x_ia (i := 4) (nx := 93) rfl sh_70 rfl (by decide) (by decide) ?_
            refine x_st rfl ?_
            refine x_st rfl ?_
            refine x_iast (i := 4) (nx := 96) rfl sh_70 rfl (by decide) (by decide) ?_
            refine x_st rfl ?_
            refine x_gr (ci := 11) (k := 0) (nx := 100) rfl sh_46 rfl ?_
            refine x_st rfl ?_
            obtain ⟨i17, hx, hi, h⟩ := h
            refine x_ia (i := i17) (nx := 103) rfl sh_47 hx hi (by decide) ?_
            refine x_st rfl ?_
            refine x_st rfl ?_
            refine x_ret rfl ?_
            exact ⟨_, _, rfl, h⟩
          · replace h := h.2 c
            refine x_st rfl ?_
            refine x_ret rfl ?_
            exact ⟨_, _, rfl, h⟩
theorem EX11_lease {D : Nat} {Q : Option Value → mI → mJ → Prop}  {v1 : Int32} {v2 : Int32} {MI : mI} {ML : mJ} (h : VX11_lease_0 D Q v1 v2 MI ML) : ∃ v MI' ML', Q v MI' ML' ∧ mrc (D + 1) 243 [.ref 46, .int v1, .int v2] MI ML v MI' ML' := by
  refine x_en (n := 2) (T := TX11_lease) rfl rfl ?_
  refine x_kl ?_ h
  exact ⟨Or.inr rfl, ⟨Or.inr rfl, ⟨Or.inr rfl, ⟨Or.inl rfl, ⟨Or.inl rfl, True.intro⟩⟩⟩⟩⟩
def VX11_gift_0 (D : Nat) (Q : Option Value → mI → mJ → Prop)  (v1 : Int32) (v2 : Int32) (MI : mI) (ML : mJ) : Prop := mEx D TX11_gift (mqS Q) (0, [some (.ref 46), some (.int v1), some (.int v2), none, none], [], (W0, Sh0, MI, ML))
theorem BX11_gift_0 {D : Nat} {Q : Option Value → mI → mJ → Prop}  {v1 : Int32} {v2 : Int32} {MI : mI} {ML : mJ} 
    (h : ∃ (x3 : Int32) (M1 : mI) (N2 : mJ), mrc D 185 [.ref 46, .int v1] MI ML (some (.int x3)) M1 N2 ∧ ((x3 = nI 0 → Q (some (.int (-1 : Int32))) M1 N2) ∧ (¬ x3 = nI 0 → ∃ (x6 : Int32) (M4 : mI) (N5 : mJ), mrc D 178 [.long (v2).toInt64, .long (1 : Int64), .long (99 : Int64)] M1 N2 (some (.int x6)) M4 N5 ∧ ((x6 = nI 0 → Q (some (.int (-1 : Int32))) M4 N5) ∧ (¬ x6 = nI 0 → ∃ i7 : Nat, (v1 / (nI 10)) = nI i7 ∧ i7 < 84 ∧ (∃ i8 : Nat, (v1 / (nI 10)) = nI i8 ∧ i8 < 84 ∧ (∃ i9 : Nat, (v1 - v1 / (nI 10) * (nI 10)) = nI i9 ∧ i9 < 84 ∧ (∃ i10 : Nat, (v1 - v1 / (nI 10) * (nI 10)) = nI i10 ∧ i10 < 84 ∧ (∃ i11 : Nat, (v1 / (nI 10)) = nI i11 ∧ i11 < 84 ∧ (Q (some (.int ((mup (mup (mup M4 47 (mput (M4 47) i8 (if ((M4 47 i7) + v2) < (nI 99) then ((M4 47 i7) + v2) else (nI 99)))) 47 (mput ((mup M4 47 (mput (M4 47) i8 (if ((M4 47 i7) + v2) < (nI 99) then ((M4 47 i7) + v2) else (nI 99)))) 47) i10 (if (nI 0) < (((mup M4 47 (mput (M4 47) i8 (if ((M4 47 i7) + v2) < (nI 99) then ((M4 47 i7) + v2) else (nI 99)))) 47 i9) - v2) then (((mup M4 47 (mput (M4 47) i8 (if ((M4 47 i7) + v2) < (nI 99) then ((M4 47 i7) + v2) else (nI 99)))) 47 i9) - v2) else (nI 0)))) 70 (mput ((mup (mup M4 47 (mput (M4 47) i8 (if ((M4 47 i7) + v2) < (nI 99) then ((M4 47 i7) + v2) else (nI 99)))) 47 (mput ((mup M4 47 (mput (M4 47) i8 (if ((M4 47 i7) + v2) < (nI 99) then ((M4 47 i7) + v2) else (nI 99)))) 47) i10 (if (nI 0) < (((mup M4 47 (mput (M4 47) i8 (if ((M4 47 i7) + v2) < (nI 99) then ((M4 47 i7) + v2) else (nI 99)))) 47 i9) - v2) then (((mup M4 47 (mput (M4 47) i8 (if ((M4 47 i7) + v2) < (nI 99) then ((M4 47 i7) + v2) else (nI 99)))) 47 i9) - v2) else (nI 0)))) 70) 5 (((mup (mup M4 47 (mput (M4 47) i8 (if ((M4 47 i7) + v2) < (nI 99) then ((M4 47 i7) + v2) else (nI 99)))) 47 (mput ((mup M4 47 (mput (M4 47) i8 (if ((M4 47 i7) + v2) < (nI 99) then ((M4 47 i7) + v2) else (nI 99)))) 47) i10 (if (nI 0) < (((mup M4 47 (mput (M4 47) i8 (if ((M4 47 i7) + v2) < (nI 99) then ((M4 47 i7) + v2) else (nI 99)))) 47 i9) - v2) then (((mup M4 47 (mput (M4 47) i8 (if ((M4 47 i7) + v2) < (nI 99) then ((M4 47 i7) + v2) else (nI 99)))) 47 i9) - v2) else (nI 0)))) 70 5) + (nI 1)))) 47 i11))) (mup (mup (mup M4 47 (mput (M4 47) i8 (if ((M4 47 i7) + v2) < (nI 99) then ((M4 47 i7) + v2) else (nI 99)))) 47 (mput ((mup M4 47 (mput (M4 47) i8 (if ((M4 47 i7) + v2) < (nI 99) then ((M4 47 i7) + v2) else (nI 99)))) 47) i10 (if (nI 0) < (((mup M4 47 (mput (M4 47) i8 (if ((M4 47 i7) + v2) < (nI 99) then ((M4 47 i7) + v2) else (nI 99)))) 47 i9) - v2) then (((mup M4 47 (mput (M4 47) i8 (if ((M4 47 i7) + v2) < (nI 99) then ((M4 47 i7) + v2) else (nI 99)))) 47 i9) - v2) else (nI 0)))) 70 (mput ((mup (mup M4 47 (mput (M4 47) i8 (if ((M4 47 i7) + v2) < (nI 99) then ((M4 47 i7) + v2) else (nI 99)))) 47 (mput ((mup M4 47 (mput (M4 47) i8 (if ((M4 47 i7) + v2) < (nI 99) then ((M4 47 i7) + v2) else (nI 99)))) 47) i10 (if (nI 0) < (((mup M4 47 (mput (M4 47) i8 (if ((M4 47 i7) + v2) < (nI 99) then ((M4 47 i7) + v2) else (nI 99)))) 47 i9) - v2) then (((mup M4 47 (mput (M4 47) i8 (if ((M4 47 i7) + v2) < (nI 99) then ((M4 47 i7) + v2) else (nI 99)))) 47 i9) - v2) else (nI 0)))) 70) 5 (((mup (mup M4 47 (mput (M4 47) i8 (if ((M4 47 i7) + v2) < (nI 99) then ((M4 47 i7) + v2) else (nI 99)))) 47 (mput ((mup M4 47 (mput (M4 47) i8 (if ((M4 47 i7) + v2) < (nI 99) then ((M4 47 i7) + v2) else (nI 99)))) 47) i10 (if (nI 0) < (((mup M4 47 (mput (M4 47) i8 (if ((M4 47 i7) + v2) < (nI 99) then ((M4 47 i7) + v2) else (nI 99)))) 47 i9) - v2) then (((mup M4 47 (mput (M4 47) i8 (if ((M4 47 i7) + v2) < (nI 99) then ((M4 47 i7) + v2) else (nI 99)))) 47 i9) - v2) else (nI 0)))) 70 5) + (nI 1)))) N5)))))))))) :
    VX11_gift_0 D Q v1 v2 MI ML := by
  show mEx D TX11_gift (mqS Q) (0, [some (.ref 46), some (.int v1), some (.int v2), none, none], [], (W0, Sh0, MI, ML))
  refine x_st rfl ?_
  refine x_st rfl ?_
  obtain ⟨x3, M1, N2, hc, h⟩ := h
  refine x_vi (y := 185) (n := 1) (ci := 11) (nx := 5) rfl (fun _ => rfl) sh_46 rfl hc ?_
  refine x_br rfl (fun c => ?_) (fun c => ?_)
  · replace h := h.1 c
    refine x_st rfl ?_
    refine x_ret rfl ?_
    exact ⟨_, _, rfl, h⟩
  · replace h := h.2 c
    refine x_st rfl ?_
    refine x_st rfl ?_
    refine x_st rfl ?_
    refine x_st rfl ?_
    obtain ⟨x6, M4, N5, hc, h⟩ := h
    refine x_ci rfl hc ?_
    refine x_br rfl (fun c => ?_) (fun c => ?_)
    · replace h := h.1 c
      refine x_st rfl ?_
      refine x_ret rfl ?_
      exact ⟨_, _, rfl, h⟩
    · replace h := h.2 c
      refine x_st rfl ?_
      refine x_st rfl ?_
      refine x_st rfl ?_
      refine x_st rfl ?_
      refine x_st rfl ?_
      refine x_st rfl ?_
      refine x_st rfl ?_
      refine x_st rfl ?_
      refine x_st rfl ?_
      refine x_gr (ci := 11) (k := 0) (nx := 37) rfl sh_46 rfl ?_
      refine x_st rfl ?_
      refine x_st rfl ?_
      refine x_st rfl ?_
      refine x_gr (ci := 11) (k := 0) (nx := 44) rfl sh_46 rfl ?_
      refine x_st rfl ?_
      obtain ⟨i7, hx, hi, h⟩ := h
      refine x_ia (i := i7) (nx := 46) rfl sh_47 hx hi (by decide) ?_
      refine x_st rfl ?_
      refine x_st rfl ?_
      refine x_st rfl ?_
      obtain ⟨i8, hx, hi, h⟩ := h
      refine x_iast (i := i8) (nx := 52) rfl sh_47 hx hi (by decide) ?_
      refine x_st rfl ?_
      refine x_gr (ci := 11) (k := 0) (nx := 56) rfl sh_46 rfl ?_
      refine x_st rfl ?_
      refine x_st rfl ?_
      refine x_st rfl ?_
      refine x_gr (ci := 11) (k := 0) (nx := 63) rfl sh_46 rfl ?_
      refine x_st rfl ?_
      obtain ⟨i9, hx, hi, h⟩ := h
      refine x_ia (i := i9) (nx := 66) rfl sh_47 hx hi (by decide) ?_
      refine x_st rfl ?_
      refine x_st rfl ?_
      refine x_st rfl ?_
      obtain ⟨i10, hx, hi, h⟩ := h
      refine x_iast (i := i10) (nx := 72) rfl sh_47 hx hi (by decide) ?_
      refine x_st rfl ?_
      refine x_gr (ci := 11) (k := 35) (nx := 76) rfl sh_46 rfl ?_
      refine x_st rfl ?_
      refine x_st rfl ?_
      refine x_ia (i := 5) (nx := 79) rfl sh_70 rfl (by decide) (by decide) ?_
      refine x_st rfl ?_
      refine x_st rfl ?_
      refine x_iast (i := 5) (nx := 82) rfl sh_70 rfl (by decide) (by decide) ?_
      refine x_st rfl ?_
      refine x_gr (ci := 11) (k := 0) (nx := 86) rfl sh_46 rfl ?_
      refine x_st rfl ?_
      obtain ⟨i11, hx, hi, h⟩ := h
      refine x_ia (i := i11) (nx := 88) rfl sh_47 hx hi (by decide) ?_
      refine x_ret rfl ?_
      exact ⟨_, _, rfl, h⟩
theorem EX11_gift {D : Nat} {Q : Option Value → mI → mJ → Prop}  {v1 : Int32} {v2 : Int32} {MI : mI} {ML : mJ} (h : VX11_gift_0 D Q v1 v2 MI ML) : ∃ v MI' ML', Q v MI' ML' ∧ mrc (D + 1) 244 [.ref 46, .int v1, .int v2] MI ML v MI' ML' := by
  refine x_en (n := 2) (T := TX11_gift) rfl rfl ?_
  refine x_kl ?_ h
  exact ⟨Or.inr rfl, ⟨Or.inr rfl, ⟨Or.inr rfl, ⟨Or.inl rfl, ⟨Or.inl rfl, True.intro⟩⟩⟩⟩⟩
def VX11_tale_0 (D : Nat) (Q : Option Value → mI → mJ → Prop)  (v1 : Int32) (MI : mI) (ML : mJ) : Prop := mEx D TX11_tale (mqS Q) (0, [some (.ref 46), some (.int v1)], [], (W0, Sh0, MI, ML))
theorem BX11_tale_0 {D : Nat} {Q : Option Value → mI → mJ → Prop}  {v1 : Int32} {MI : mI} {ML : mJ} 
    (h : ((-1 : Int32) ≤ v1 → (v1 = (-1 : Int32) → Q (some (.int (MI 46 37))) MI ML) ∧ (¬ v1 = (-1 : Int32) → ((MI 46 37) ≤ v1 → Q (some (.int (-2 : Int32))) MI ML) ∧ (¬ (MI 46 37) ≤ v1 → ∃ i1 : Nat, v1 = nI i1 ∧ i1 < 72 ∧ (Q (some (.int (MI 71 i1))) MI ML)))) ∧ (¬ (-1 : Int32) ≤ v1 → Q (some (.int (-1 : Int32))) MI ML)) :
    VX11_tale_0 D Q v1 MI ML := by
  show mEx D TX11_tale (mqS Q) (0, [some (.ref 46), some (.int v1)], [], (W0, Sh0, MI, ML))
  refine x_st rfl ?_
  refine x_st rfl ?_
  refine x_br rfl (fun c => ?_) (fun c => ?_)
  · replace h := h.1 c
    refine x_st rfl ?_
    refine x_st rfl ?_
    refine x_br rfl (fun c => ?_) (fun c => ?_)
    · replace h := h.1 c
      refine x_st rfl ?_
      refine x_gi (ci := 11) (k := 37) (nx := 16) rfl sh_46 rfl ?_
      refine x_st rfl ?_
      refine x_ret rfl ?_
      exact ⟨_, _, rfl, h⟩
    · replace h := h.2 c
      refine x_st rfl ?_
      refine x_st rfl ?_
      refine x_gi (ci := 11) (k := 37) (nx := 24) rfl sh_46 rfl ?_
      refine x_br rfl (fun c => ?_) (fun c => ?_)
      · replace h := h.1 c
        refine x_st rfl ?_
        refine x_ret rfl ?_
        exact ⟨_, _, rfl, h⟩
      · replace h := h.2 c
        refine x_st rfl ?_
        refine x_gr (ci := 11) (k := 36) (nx := 31) rfl sh_46 rfl ?_
        refine x_st rfl ?_
        obtain ⟨i1, hx, hi, h⟩ := h
        refine x_ia (i := i1) (nx := 33) rfl sh_71 hx hi (by decide) ?_
        refine x_st rfl ?_
        refine x_ret rfl ?_
        exact ⟨_, _, rfl, h⟩
  · replace h := h.2 c
    refine x_st rfl ?_
    refine x_ret rfl ?_
    exact ⟨_, _, rfl, h⟩
theorem EX11_tale {D : Nat} {Q : Option Value → mI → mJ → Prop}  {v1 : Int32} {MI : mI} {ML : mJ} (h : VX11_tale_0 D Q v1 MI ML) : ∃ v MI' ML', Q v MI' ML' ∧ mrc (D + 1) 245 [.ref 46, .int v1] MI ML v MI' ML' := by
  refine x_en (n := 0) (T := TX11_tale) rfl rfl ?_
  refine x_kl ?_ h
  exact ⟨Or.inr rfl, ⟨Or.inr rfl, True.intro⟩⟩
def VX11_led_0 (D : Nat) (Q : Option Value → mI → mJ → Prop)  (v1 : Int32) (MI : mI) (ML : mJ) : Prop := mEx D TX11_led (mqS Q) (0, [some (.ref 46), some (.int v1)], [], (W0, Sh0, MI, ML))
theorem BX11_led_0 {D : Nat} {Q : Option Value → mI → mJ → Prop}  {v1 : Int32} {MI : mI} {ML : mJ} 
    (h : ∃ (x3 : Int32) (M1 : mI) (N2 : mJ), mrc D 178 [.long (v1).toInt64, .long (0 : Int64), .long (5 : Int64)] MI ML (some (.int x3)) M1 N2 ∧ ((x3 = nI 0 → Q (some (.int (-1 : Int32))) M1 N2) ∧ (¬ x3 = nI 0 → ∃ i4 : Nat, v1 = nI i4 ∧ i4 < 6 ∧ (Q (some (.int (M1 70 i4))) M1 N2)))) :
    VX11_led_0 D Q v1 MI ML := by
  show mEx D TX11_led (mqS Q) (0, [some (.ref 46), some (.int v1)], [], (W0, Sh0, MI, ML))
  refine x_st rfl ?_
  refine x_st rfl ?_
  refine x_st rfl ?_
  refine x_st rfl ?_
  obtain ⟨x3, M1, N2, hc, h⟩ := h
  refine x_ci rfl hc ?_
  refine x_br rfl (fun c => ?_) (fun c => ?_)
  · replace h := h.1 c
    refine x_st rfl ?_
    refine x_ret rfl ?_
    exact ⟨_, _, rfl, h⟩
  · replace h := h.2 c
    refine x_st rfl ?_
    refine x_gr (ci := 11) (k := 35) (nx := 16) rfl sh_46 rfl ?_
    refine x_st rfl ?_
    obtain ⟨i4, hx, hi, h⟩ := h
    refine x_ia (i := i4) (nx := 18) rfl sh_70 hx hi (by decide) ?_
    refine x_st rfl ?_
    refine x_ret rfl ?_
    exact ⟨_, _, rfl, h⟩
theorem EX11_led {D : Nat} {Q : Option Value → mI → mJ → Prop}  {v1 : Int32} {MI : mI} {ML : mJ} (h : VX11_led_0 D Q v1 MI ML) : ∃ v MI' ML', Q v MI' ML' ∧ mrc (D + 1) 246 [.ref 46, .int v1] MI ML v MI' ML' := by
  refine x_en (n := 0) (T := TX11_led) rfl rfl ?_
  refine x_kl ?_ h
  exact ⟨Or.inr rfl, ⟨Or.inr rfl, True.intro⟩⟩
def VX11_image_0 (D : Nat) (Q : Option Value → mI → mJ → Prop)  (MI : mI) (ML : mJ) : Prop := mEx D TX11_image (mqS Q) (0, [some (.ref 46), none], [], (W0, Sh0, MI, ML))
def VX11_image_10 (D : Nat) (Q : Option Value → mI → mJ → Prop)  (v1 : Int32) (MI : mI) (ML : mJ) : Prop := mEx D TX11_image (mqS Q) (10, [some (.ref 46), some (.int v1)], [], (W0, Sh0, MI, ML))
def VX11_image_36 (D : Nat) (Q : Option Value → mI → mJ → Prop)  (v1 : Int32) (MI : mI) (ML : mJ) : Prop := mEx D TX11_image (mqS Q) (36, [some (.ref 46), some (.int v1)], [], (W0, Sh0, MI, ML))
theorem BX11_image_0 {D : Nat} {Q : Option Value → mI → mJ → Prop}  {MI : mI} {ML : mJ} 
    (h : VX11_image_10 D Q (nI 0) (mup MI 46 (mput (MI 46) 40 (MI 46 6))) ML) :
    VX11_image_0 D Q  MI ML := by
  show mEx D TX11_image (mqS Q) (0, [some (.ref 46), none], [], (W0, Sh0, MI, ML))
  refine x_st rfl ?_
  refine x_st rfl ?_
  refine x_gi (ci := 11) (k := 6) (nx := 5) rfl sh_46 rfl ?_
  refine x_pi (ci := 11) (k := 40) (nx := 8) rfl sh_46 rfl ?_
  refine x_st rfl ?_
  refine x_st rfl ?_
  refine x_kl ?_ h
  exact ⟨Or.inr rfl, ⟨Or.inr rfl, True.intro⟩⟩
theorem BX11_image_10 {D : Nat} {Q : Option Value → mI → mJ → Prop}  {v1 : Int32} {MI : mI} {ML : mJ} 
    (h : ((nI 84) ≤ v1 → VX11_image_36 D Q (nI 0) MI ML) ∧ (¬ (nI 84) ≤ v1 → ∃ i1 : Nat, v1 = nI i1 ∧ i1 < 84 ∧ (∃ i2 : Nat, v1 = nI i2 ∧ i2 < 84 ∧ (VX11_image_10 D Q (v1 + (nI 1)) (mup MI 72 (mput (MI 72) i2 (MI 47 i1))) ML)))) :
    VX11_image_10 D Q v1 MI ML := by
  show mEx D TX11_image (mqS Q) (10, [some (.ref 46), some (.int v1)], [], (W0, Sh0, MI, ML))
  refine x_st rfl ?_
  refine x_st rfl ?_
  refine x_br rfl (fun c => ?_) (fun c => ?_)
  · replace h := h.1 c
    refine x_st rfl ?_
    refine x_st rfl ?_
    refine x_kl ?_ h
    exact ⟨Or.inr rfl, ⟨Or.inr rfl, True.intro⟩⟩
  · replace h := h.2 c
    refine x_st rfl ?_
    refine x_gr (ci := 11) (k := 38) (nx := 20) rfl sh_46 rfl ?_
    refine x_st rfl ?_
    refine x_st rfl ?_
    refine x_gr (ci := 11) (k := 0) (nx := 25) rfl sh_46 rfl ?_
    refine x_st rfl ?_
    obtain ⟨i1, hx, hi, h⟩ := h
    refine x_ia (i := i1) (nx := 27) rfl sh_47 hx hi (by decide) ?_
    obtain ⟨i2, hx, hi, h⟩ := h
    refine x_iast (i := i2) (nx := 28) rfl sh_72 hx hi (by decide) ?_
    refine x_st rfl ?_
    refine x_st rfl ?_
    refine x_kl ?_ h
    exact ⟨Or.inr rfl, ⟨Or.inr rfl, True.intro⟩⟩
theorem BX11_image_36 {D : Nat} {Q : Option Value → mI → mJ → Prop}  {v1 : Int32} {MI : mI} {ML : mJ} 
    (h : ((nI 6) ≤ v1 → Q (some (.int (MI 70 0))) MI ML) ∧ (¬ (nI 6) ≤ v1 → ∃ i1 : Nat, v1 = nI i1 ∧ i1 < 6 ∧ (∃ i2 : Nat, v1 = nI i2 ∧ i2 < 6 ∧ (VX11_image_36 D Q (v1 + (nI 1)) (mup MI 73 (mput (MI 73) i2 (MI 70 i1))) ML)))) :
    VX11_image_36 D Q v1 MI ML := by
  show mEx D TX11_image (mqS Q) (36, [some (.ref 46), some (.int v1)], [], (W0, Sh0, MI, ML))
  refine x_st rfl ?_
  refine x_st rfl ?_
  refine x_br rfl (fun c => ?_) (fun c => ?_)
  · replace h := h.1 c
    refine x_st rfl ?_
    refine x_gr (ci := 11) (k := 35) (nx := 64) rfl sh_46 rfl ?_
    refine x_st rfl ?_
    refine x_ia (i := 0) (nx := 66) rfl sh_70 rfl (by decide) (by decide) ?_
    refine x_ret rfl ?_
    exact ⟨_, _, rfl, h⟩
  · replace h := h.2 c
    refine x_st rfl ?_
    refine x_gr (ci := 11) (k := 39) (nx := 46) rfl sh_46 rfl ?_
    refine x_st rfl ?_
    refine x_st rfl ?_
    refine x_gr (ci := 11) (k := 35) (nx := 51) rfl sh_46 rfl ?_
    refine x_st rfl ?_
    obtain ⟨i1, hx, hi, h⟩ := h
    refine x_ia (i := i1) (nx := 53) rfl sh_70 hx hi (by decide) ?_
    obtain ⟨i2, hx, hi, h⟩ := h
    refine x_iast (i := i2) (nx := 54) rfl sh_73 hx hi (by decide) ?_
    refine x_st rfl ?_
    refine x_st rfl ?_
    refine x_kl ?_ h
    exact ⟨Or.inr rfl, ⟨Or.inr rfl, True.intro⟩⟩
theorem EX11_image {D : Nat} {Q : Option Value → mI → mJ → Prop}  {MI : mI} {ML : mJ} (h : VX11_image_0 D Q  MI ML) : ∃ v MI' ML', Q v MI' ML' ∧ mrc (D + 1) 247 [.ref 46] MI ML v MI' ML' := by
  refine x_en (n := 1) (T := TX11_image) rfl rfl ?_
  refine x_kl ?_ h
  exact ⟨Or.inr rfl, ⟨Or.inl rfl, True.intro⟩⟩
def VX11_back_0 (D : Nat) (Q : Option Value → mI → mJ → Prop)  (MI : mI) (ML : mJ) : Prop := mEx D TX11_back (mqS Q) (0, [some (.ref 46), none, none], [], (W0, Sh0, MI, ML))
def VX11_back_13 (D : Nat) (Q : Option Value → mI → mJ → Prop)  (v1 : Int32) (MI : mI) (ML : mJ) : Prop := mEx D TX11_back (mqS Q) (13, [some (.ref 46), some (.int v1), none], [], (W0, Sh0, MI, ML))
def VX11_back_35 (D : Nat) (Q : Option Value → mI → mJ → Prop)  (v1 : Int32) (v2 : Int32) (MI : mI) (ML : mJ) : Prop := mEx D TX11_back (mqS Q) (35, [some (.ref 46), some (.int v1), some (.int v2)], [], (W0, Sh0, MI, ML))
def VX11_back_91 (D : Nat) (Q : Option Value → mI → mJ → Prop)  (v1 : Int32) (MI : mI) (ML : mJ) : Prop := mEx D TX11_back (mqS Q) (91, [some (.ref 46), some (.int v1), none], [], (W0, Sh0, MI, ML))
theorem BX11_back_0 {D : Nat} {Q : Option Value → mI → mJ → Prop}  {MI : mI} {ML : mJ} 
    (h : ((MI 46 40) = (-1 : Int32) → Q (some (.int (-5 : Int32))) MI ML) ∧ (¬ (MI 46 40) = (-1 : Int32) → VX11_back_13 D Q (nI 0) MI ML)) :
    VX11_back_0 D Q  MI ML := by
  show mEx D TX11_back (mqS Q) (0, [some (.ref 46), none, none], [], (W0, Sh0, MI, ML))
  refine x_st rfl ?_
  refine x_gi (ci := 11) (k := 40) (nx := 4) rfl sh_46 rfl ?_
  refine x_st rfl ?_
  refine x_br rfl (fun c => ?_) (fun c => ?_)
  · replace h := h.1 c
    refine x_st rfl ?_
    refine x_ret rfl ?_
    exact ⟨_, _, rfl, h⟩
  · replace h := h.2 c
    refine x_st rfl ?_
    refine x_st rfl ?_
    refine x_kl ?_ h
    exact ⟨Or.inr rfl, ⟨Or.inr rfl, ⟨Or.inl rfl, True.intro⟩⟩⟩
theorem BX11_back_13 {D : Nat} {Q : Option Value → mI → mJ → Prop}  {v1 : Int32} {MI : mI} {ML : mJ} 
    (h : ((MI 46 40) ≤ v1 → VX11_back_91 D Q (nI 0) (mup MI 47 (mput (MI 47) 19 (MI 72 19))) ML) ∧ (¬ (MI 46 40) ≤ v1 → ∃ i1 : Nat, v1 = nI i1 ∧ i1 < 84 ∧ (∃ i2 : Nat, v1 = nI i2 ∧ i2 < 84 ∧ (VX11_back_35 D Q v1 (nI 0) (mup MI 47 (mput (MI 47) i2 (MI 72 i1))) ML)))) :
    VX11_back_13 D Q v1 MI ML := by
  show mEx D TX11_back (mqS Q) (13, [some (.ref 46), some (.int v1), none], [], (W0, Sh0, MI, ML))
  refine x_st rfl ?_
  refine x_st rfl ?_
  refine x_gi (ci := 11) (k := 40) (nx := 18) rfl sh_46 rfl ?_
  refine x_br rfl (fun c => ?_) (fun c => ?_)
  · replace h := h.1 c
    refine x_st rfl ?_
    refine x_gr (ci := 11) (k := 0) (nx := 79) rfl sh_46 rfl ?_
    refine x_st rfl ?_
    refine x_st rfl ?_
    refine x_gr (ci := 11) (k := 38) (nx := 85) rfl sh_46 rfl ?_
    refine x_st rfl ?_
    refine x_ia (i := 19) (nx := 88) rfl sh_72 rfl (by decide) (by decide) ?_
    refine x_iast (i := 19) (nx := 89) rfl sh_47 rfl (by decide) (by decide) ?_
    refine x_st rfl ?_
    refine x_st rfl ?_
    refine x_kl ?_ h
    exact ⟨Or.inr rfl, ⟨Or.inr rfl, ⟨Or.inl rfl, True.intro⟩⟩⟩
  · replace h := h.2 c
    refine x_st rfl ?_
    refine x_gr (ci := 11) (k := 0) (nx := 25) rfl sh_46 rfl ?_
    refine x_st rfl ?_
    refine x_st rfl ?_
    refine x_gr (ci := 11) (k := 38) (nx := 30) rfl sh_46 rfl ?_
    refine x_st rfl ?_
    obtain ⟨i1, hx, hi, h⟩ := h
    refine x_ia (i := i1) (nx := 32) rfl sh_72 hx hi (by decide) ?_
    obtain ⟨i2, hx, hi, h⟩ := h
    refine x_iast (i := i2) (nx := 33) rfl sh_47 hx hi (by decide) ?_
    refine x_st rfl ?_
    refine x_st rfl ?_
    refine x_kl ?_ h
    exact ⟨Or.inr rfl, ⟨Or.inr rfl, ⟨Or.inr rfl, True.intro⟩⟩⟩
theorem BX11_back_35 {D : Nat} {Q : Option Value → mI → mJ → Prop}  {v1 : Int32} {v2 : Int32} {MI : mI} {ML : mJ} 
    (h : ((MI 46 40) ≤ v2 → VX11_back_13 D Q (v1 + (nI 1)) MI ML) ∧ (¬ (MI 46 40) ≤ v2 → ∃ (x3 : Int32) (M1 : mI) (N2 : mJ), mrc D 184 [.int v1, .int v2] MI ML (some (.int x3)) M1 N2 ∧ (∃ (x6 : Int32) (M4 : mI) (N5 : mJ), mrc D 184 [.int v1, .int v2] M1 N2 (some (.int x6)) M4 N5 ∧ (∃ i7 : Nat, x6 = nI i7 ∧ i7 < 84 ∧ (∃ i8 : Nat, x3 = nI i8 ∧ i8 < 84 ∧ (VX11_back_35 D Q v1 (v2 + (nI 1)) (mup M4 47 (mput (M4 47) i8 (M4 72 i7))) N5)))))) :
    VX11_back_35 D Q v1 v2 MI ML := by
  show mEx D TX11_back (mqS Q) (35, [some (.ref 46), some (.int v1), some (.int v2)], [], (W0, Sh0, MI, ML))
  refine x_st rfl ?_
  refine x_st rfl ?_
  refine x_gi (ci := 11) (k := 40) (nx := 40) rfl sh_46 rfl ?_
  refine x_br rfl (fun c => ?_) (fun c => ?_)
  · replace h := h.1 c
    refine x_st rfl ?_
    refine x_st rfl ?_
    refine x_kl ?_ h
    exact ⟨Or.inr rfl, ⟨Or.inr rfl, ⟨Or.inl rfl, True.intro⟩⟩⟩
  · replace h := h.2 c
    refine x_st rfl ?_
    refine x_gr (ci := 11) (k := 0) (nx := 47) rfl sh_46 rfl ?_
    refine x_st rfl ?_
    refine x_st rfl ?_
    obtain ⟨x3, M1, N2, hc, h⟩ := h
    refine x_ci rfl hc ?_
    refine x_st rfl ?_
    refine x_gr (ci := 11) (k := 38) (nx := 56) rfl sh_46 rfl ?_
    refine x_st rfl ?_
    refine x_st rfl ?_
    obtain ⟨x6, M4, N5, hc, h⟩ := h
    refine x_ci rfl hc ?_
    obtain ⟨i7, hx, hi, h⟩ := h
    refine x_ia (i := i7) (nx := 62) rfl sh_72 hx hi (by decide) ?_
    obtain ⟨i8, hx, hi, h⟩ := h
    refine x_iast (i := i8) (nx := 63) rfl sh_47 hx hi (by decide) ?_
    refine x_st rfl ?_
    refine x_st rfl ?_
    refine x_kl ?_ h
    exact ⟨Or.inr rfl, ⟨Or.inr rfl, ⟨Or.inr rfl, True.intro⟩⟩⟩
theorem BX11_back_91 {D : Nat} {Q : Option Value → mI → mJ → Prop}  {v1 : Int32} {MI : mI} {ML : mJ} 
    (h : ((nI 6) ≤ v1 → Q (some (.int (MI 70 0))) MI ML) ∧ (¬ (nI 6) ≤ v1 → ∃ i1 : Nat, v1 = nI i1 ∧ i1 < 6 ∧ (∃ i2 : Nat, v1 = nI i2 ∧ i2 < 6 ∧ (VX11_back_91 D Q (v1 + (nI 1)) (mup MI 70 (mput (MI 70) i2 (MI 73 i1))) ML)))) :
    VX11_back_91 D Q v1 MI ML := by
  show mEx D TX11_back (mqS Q) (91, [some (.ref 46), some (.int v1), none], [], (W0, Sh0, MI, ML))
  refine x_st rfl ?_
  refine x_st rfl ?_
  refine x_br rfl (fun c => ?_) (fun c => ?_)
  · replace h := h.1 c
    refine x_st rfl ?_
    refine x_gr (ci := 11) (k := 35) (nx := 119) rfl sh_46 rfl ?_
    refine x_st rfl ?_
    refine x_ia (i := 0) (nx := 121) rfl sh_70 rfl (by decide) (by decide) ?_
    refine x_ret rfl ?_
    exact ⟨_, _, rfl, h⟩
  · replace h := h.2 c
    refine x_st rfl ?_
    refine x_gr (ci := 11) (k := 35) (nx := 101) rfl sh_46 rfl ?_
    refine x_st rfl ?_
    refine x_st rfl ?_
    refine x_gr (ci := 11) (k := 39) (nx := 106) rfl sh_46 rfl ?_
    refine x_st rfl ?_
    obtain ⟨i1, hx, hi, h⟩ := h
    refine x_ia (i := i1) (nx := 108) rfl sh_73 hx hi (by decide) ?_
    obtain ⟨i2, hx, hi, h⟩ := h
    refine x_iast (i := i2) (nx := 109) rfl sh_70 hx hi (by decide) ?_
    refine x_st rfl ?_
    refine x_st rfl ?_
    refine x_kl ?_ h
    exact ⟨Or.inr rfl, ⟨Or.inr rfl, ⟨Or.inl rfl, True.intro⟩⟩⟩
theorem EX11_back {D : Nat} {Q : Option Value → mI → mJ → Prop}  {MI : mI} {ML : mJ} (h : VX11_back_0 D Q  MI ML) : ∃ v MI' ML', Q v MI' ML' ∧ mrc (D + 1) 248 [.ref 46] MI ML v MI' ML' := by
  refine x_en (n := 2) (T := TX11_back) rfl rfl ?_
  refine x_kl ?_ h
  exact ⟨Or.inr rfl, ⟨Or.inl rfl, ⟨Or.inl rfl, True.intro⟩⟩⟩
def VX11_isBody_0 (D : Nat) (Q : Option Value → mI → mJ → Prop)  (v1 : Int32) (MI : mI) (ML : mJ) : Prop := mEx D TX11_isBody (mqS Q) (0, [some (.ref 46), some (.int v1)], [], (W0, Sh0, MI, ML))
theorem BX11_isBody_0 {D : Nat} {Q : Option Value → mI → mJ → Prop}  {v1 : Int32} {MI : mI} {ML : mJ} 
    (h : ∃ (x3 : Int32) (M1 : mI) (N2 : mJ), mrc D 178 [.long (v1).toInt64, .long (0 : Int64), .long (((MI 46 41) - (nI 1))).toInt64] MI ML (some (.int x3)) M1 N2 ∧ ((x3 = nI 0 ∨ x3 = nI 1) ∧ Q (some (.int x3)) M1 N2)) :
    VX11_isBody_0 D Q v1 MI ML := by
  show mEx D TX11_isBody (mqS Q) (0, [some (.ref 46), some (.int v1)], [], (W0, Sh0, MI, ML))
  refine x_st rfl ?_
  refine x_st rfl ?_
  refine x_st rfl ?_
  refine x_st rfl ?_
  refine x_gi (ci := 11) (k := 41) (nx := 7) rfl sh_46 rfl ?_
  refine x_st rfl ?_
  refine x_st rfl ?_
  refine x_st rfl ?_
  obtain ⟨x3, M1, N2, hc, h⟩ := h
  refine x_ci rfl hc ?_
  refine x_retz rfl h.1 ?_
  exact ⟨_, _, rfl, h.2⟩
theorem EX11_isBody {D : Nat} {Q : Option Value → mI → mJ → Prop}  {v1 : Int32} {MI : mI} {ML : mJ} (h : VX11_isBody_0 D Q v1 MI ML) : ∃ v MI' ML', Q v MI' ML' ∧ mrc (D + 1) 249 [.ref 46, .int v1] MI ML v MI' ML' := by
  refine x_en (n := 0) (T := TX11_isBody) rfl rfl ?_
  refine x_kl ?_ h
  exact ⟨Or.inr rfl, ⟨Or.inr rfl, True.intro⟩⟩
def VX11_kindOf_0 (D : Nat) (Q : Option Value → mI → mJ → Prop)  (v1 : Int32) (MI : mI) (ML : mJ) : Prop := mEx D TX11_kindOf (mqS Q) (0, [some (.ref 46), some (.int v1)], [], (W0, Sh0, MI, ML))
theorem BX11_kindOf_0 {D : Nat} {Q : Option Value → mI → mJ → Prop}  {v1 : Int32} {MI : mI} {ML : mJ} 
    (h : ∃ i1 : Nat, v1 = nI i1 ∧ i1 < 50 ∧ (Q (some (.int (MI 74 i1))) MI ML)) :
    VX11_kindOf_0 D Q v1 MI ML := by
  show mEx D TX11_kindOf (mqS Q) (0, [some (.ref 46), some (.int v1)], [], (W0, Sh0, MI, ML))
  refine x_st rfl ?_
  refine x_gr (ci := 11) (k := 42) (nx := 4) rfl sh_46 rfl ?_
  refine x_st rfl ?_
  obtain ⟨i1, hx, hi, h⟩ := h
  refine x_ia (i := i1) (nx := 6) rfl sh_74 hx hi (by decide) ?_
  refine x_ret rfl ?_
  exact ⟨_, _, rfl, h⟩
theorem EX11_kindOf {D : Nat} {Q : Option Value → mI → mJ → Prop}  {v1 : Int32} {MI : mI} {ML : mJ} (h : VX11_kindOf_0 D Q v1 MI ML) : ∃ v MI' ML', Q v MI' ML' ∧ mrc (D + 1) 250 [.ref 46, .int v1] MI ML v MI' ML' := by
  refine x_en (n := 0) (T := TX11_kindOf) rfl rfl ?_
  refine x_kl ?_ h
  exact ⟨Or.inr rfl, ⟨Or.inr rfl, True.intro⟩⟩
def VX11_body_0 (D : Nat) (Q : Option Value → mI → mJ → Prop)  (v1 : Int32) (MI : mI) (ML : mJ) : Prop := mEx D TX11_body (mqS Q) (0, [some (.ref 46), some (.int v1)], [], (W0, Sh0, MI, ML))
theorem BX11_body_0 {D : Nat} {Q : Option Value → mI → mJ → Prop}  {v1 : Int32} {MI : mI} {ML : mJ} 
    (h : ∃ (x3 : Int32) (M1 : mI) (N2 : mJ), mrc D 178 [.long (v1).toInt64, .long (0 : Int64), .long (7 : Int64)] MI ML (some (.int x3)) M1 N2 ∧ ((x3 = nI 0 → Q (some (.int (-1 : Int32))) M1 N2) ∧ (¬ x3 = nI 0 → ((M1 46 41) = (nI 50) → Q (some (.int (-3 : Int32))) M1 N2) ∧ (¬ (M1 46 41) = (nI 50) → ∃ i4 : Nat, (M1 46 41) = nI i4 ∧ i4 < 50 ∧ (Q (some (.int (((mup (mup M1 74 (mput (M1 74) i4 v1)) 46 (mput ((mup M1 74 (mput (M1 74) i4 v1)) 46) 41 (((mup M1 74 (mput (M1 74) i4 v1)) 46 41) + (nI 1)))) 46 41) - (nI 1)))) (mup (mup M1 74 (mput (M1 74) i4 v1)) 46 (mput ((mup M1 74 (mput (M1 74) i4 v1)) 46) 41 (((mup M1 74 (mput (M1 74) i4 v1)) 46 41) + (nI 1)))) N2))))) :
    VX11_body_0 D Q v1 MI ML := by
  show mEx D TX11_body (mqS Q) (0, [some (.ref 46), some (.int v1)], [], (W0, Sh0, MI, ML))
  refine x_st rfl ?_
  refine x_st rfl ?_
  refine x_st rfl ?_
  refine x_st rfl ?_
  obtain ⟨x3, M1, N2, hc, h⟩ := h
  refine x_ci rfl hc ?_
  refine x_br rfl (fun c => ?_) (fun c => ?_)
  · replace h := h.1 c
    refine x_st rfl ?_
    refine x_ret rfl ?_
    exact ⟨_, _, rfl, h⟩
  · replace h := h.2 c
    refine x_st rfl ?_
    refine x_gi (ci := 11) (k := 41) (nx := 18) rfl sh_46 rfl ?_
    refine x_st rfl ?_
    refine x_br rfl (fun c => ?_) (fun c => ?_)
    · replace h := h.1 c
      refine x_st rfl ?_
      refine x_ret rfl ?_
      exact ⟨_, _, rfl, h⟩
    · replace h := h.2 c
      refine x_st rfl ?_
      refine x_gr (ci := 11) (k := 42) (nx := 30) rfl sh_46 rfl ?_
      refine x_st rfl ?_
      refine x_gi (ci := 11) (k := 41) (nx := 34) rfl sh_46 rfl ?_
      refine x_st rfl ?_
      obtain ⟨i4, hx, hi, h⟩ := h
      refine x_iast (i := i4) (nx := 36) rfl sh_74 hx hi (by decide) ?_
      refine x_st rfl ?_
      refine x_st rfl ?_
      refine x_gi (ci := 11) (k := 41) (nx := 41) rfl sh_46 rfl ?_
      refine x_st rfl ?_
      refine x_st rfl ?_
      refine x_pi (ci := 11) (k := 41) (nx := 46) rfl sh_46 rfl ?_
      refine x_st rfl ?_
      refine x_gi (ci := 11) (k := 41) (nx := 50) rfl sh_46 rfl ?_
      refine x_st rfl ?_
      refine x_st rfl ?_
      refine x_ret rfl ?_
      exact ⟨_, _, rfl, h⟩
theorem EX11_body {D : Nat} {Q : Option Value → mI → mJ → Prop}  {v1 : Int32} {MI : mI} {ML : mJ} (h : VX11_body_0 D Q v1 MI ML) : ∃ v MI' ML', Q v MI' ML' ∧ mrc (D + 1) 251 [.ref 46, .int v1] MI ML v MI' ML' := by
  refine x_en (n := 0) (T := TX11_body) rfl rfl ?_
  refine x_kl ?_ h
  exact ⟨Or.inr rfl, ⟨Or.inr rfl, True.intro⟩⟩
