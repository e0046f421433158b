/-! bodies by blocks -/
def VX11_law_0 (D : Nat) (Q : Option Value → mI → mJ → Prop)  (MI : mI) (ML : mJ) : Prop := mEx D TX11_law (mqS Q) (0, [some (.ref 46), none, none, none], [], (W0, Sh0, MI, ML))
def VX11_law_27 (D : Nat) (Q : Option Value → mI → mJ → Prop)  (v1 : Int32) (MI : mI) (ML : mJ) : Prop := mEx D TX11_law (mqS Q) (27, [some (.ref 46), some (.int v1), none, none], [], (W0, Sh0, MI, ML))
def VX11_law_67 (D : Nat) (Q : Option Value → mI → mJ → Prop)  (v3 : Int32) (s1 : Int32) (s2 : Int32) (MI : mI) (ML : mJ) : Prop := mEx D TX11_law (mqS Q) (67, [some (.ref 46), none, none, some (.int v3)], [.int s2, .int s1, .ref 54], (W0, Sh0, MI, ML))
def VX11_law_76 (D : Nat) (Q : Option Value → mI → mJ → Prop)  (MI : mI) (ML : mJ) : Prop := mEx D TX11_law (mqS Q) (76, [some (.ref 46), none, none, none], [], (W0, Sh0, MI, ML))
def VX11_law_124 (D : Nat) (Q : Option Value → mI → mJ → Prop)  (MI : mI) (ML : mJ) : Prop := mEx D TX11_law (mqS Q) (124, [some (.ref 46), none, none, none], [], (W0, Sh0, MI, ML))
def VX11_law_154 (D : Nat) (Q : Option Value → mI → mJ → Prop)  (v2 : Int32) (MI : mI) (ML : mJ) : Prop := mEx D TX11_law (mqS Q) (154, [some (.ref 46), none, some (.int v2), none], [], (W0, Sh0, MI, ML))
def VX11_law_194 (D : Nat) (Q : Option Value → mI → mJ → Prop)  (v2 : Int32) (MI : mI) (ML : mJ) : Prop := mEx D TX11_law (mqS Q) (194, [some (.ref 46), none, some (.int v2), none], [], (W0, Sh0, MI, ML))
theorem BX11_law_0 {D : Nat} {Q : Option Value → mI → mJ → Prop}  {MI : mI} {ML : mJ} 
    (h : VX11_law_27 D Q (nI 1) (mup (mup (mup (mup (mup MI 46 (mput (MI 46) 18 (nI 0))) 46 (mput ((mup MI 46 (mput (MI 46) 18 (nI 0))) 46) 19 (-1 : Int32))) 46 (mput ((mup (mup MI 46 (mput (MI 46) 18 (nI 0))) 46 (mput ((mup MI 46 (mput (MI 46) 18 (nI 0))) 46) 19 (-1 : Int32))) 46) 20 (nI 0))) 46 (mput ((mup (mup (mup MI 46 (mput (MI 46) 18 (nI 0))) 46 (mput ((mup MI 46 (mput (MI 46) 18 (nI 0))) 46) 19 (-1 : Int32))) 46 (mput ((mup (mup MI 46 (mput (MI 46) 18 (nI 0))) 46 (mput ((mup MI 46 (mput (MI 46) 18 (nI 0))) 46) 19 (-1 : Int32))) 46) 20 (nI 0))) 46) 10 (nI 0))) 46 (mput ((mup (mup (mup (mup MI 46 (mput (MI 46) 18 (nI 0))) 46 (mput ((mup MI 46 (mput (MI 46) 18 (nI 0))) 46) 19 (-1 : Int32))) 46 (mput ((mup (mup MI 46 (mput (MI 46) 18 (nI 0))) 46 (mput ((mup MI 46 (mput (MI 46) 18 (nI 0))) 46) 19 (-1 : Int32))) 46) 20 (nI 0))) 46 (mput ((mup (mup (mup MI 46 (mput (MI 46) 18 (nI 0))) 46 (mput ((mup MI 46 (mput (MI 46) 18 (nI 0))) 46) 19 (-1 : Int32))) 46 (mput ((mup (mup MI 46 (mput (MI 46) 18 (nI 0))) 46 (mput ((mup MI 46 (mput (MI 46) 18 (nI 0))) 46) 19 (-1 : Int32))) 46) 20 (nI 0))) 46) 10 (nI 0))) 46) 14 (nI 0))) ML) :
    VX11_law_0 D Q  MI ML := by
  show mEx D TX11_law (mqS Q) (0, [some (.ref 46), none, none, none], [], (W0, Sh0, MI, ML))
  refine x_st rfl ?_
  refine x_st rfl ?_
  refine x_pi (ci := 11) (k := 18) (nx := 5) rfl sh_46 rfl ?_
  refine x_st rfl ?_
  refine x_st rfl ?_
  refine x_pi (ci := 11) (k := 19) (nx := 10) rfl sh_46 rfl ?_
  refine x_st rfl ?_
  refine x_st rfl ?_
  refine x_pi (ci := 11) (k := 20) (nx := 15) rfl sh_46 rfl ?_
  refine x_st rfl ?_
  refine x_st rfl ?_
  refine x_pi (ci := 11) (k := 10) (nx := 20) rfl sh_46 rfl ?_
  refine x_st rfl ?_
  refine x_st rfl ?_
  refine x_pi (ci := 11) (k := 14) (nx := 25) rfl sh_46 rfl ?_
  refine x_st rfl ?_
  refine x_st rfl ?_
  refine x_kl ?_ h
  exact ⟨Or.inr rfl, ⟨Or.inr rfl, ⟨Or.inl rfl, ⟨Or.inl rfl, True.intro⟩⟩⟩⟩
theorem BX11_law_27 {D : Nat} {Q : Option Value → mI → mJ → Prop}  {v1 : Int32} {MI : mI} {ML : mJ} 
    (h : (v1 = nI 0 → ((MI 46 8) ≤ (MI 46 18) → VX11_law_124 D Q  MI ML) ∧ (¬ (MI 46 8) ≤ (MI 46 18) → ∃ (M1 : mI) (N2 : mJ), mrc D 197 [.ref 46] MI ML none M1 N2 ∧ (VX11_law_124 D Q  M1 N2))) ∧ (¬ v1 = nI 0 → ∃ (M3 : mI) (N4 : mJ), mrc D 200 [.ref 46] MI ML none M3 N4 ∧ (∃ (x7 : Int32) (M5 : mI) (N6 : mJ), mrc D 198 [.ref 46, .int (nI 63)] M3 N4 (some (.int x7)) M5 N6 ∧ ((x7 = nI 0 → VX11_law_67 D Q x7 (M5 46 14) (MI 46 10) M5 N6) ∧ (¬ x7 = nI 0 → VX11_law_67 D Q x7 (M5 46 14) (M5 46 10) M5 N6))))) :
    VX11_law_27 D Q v1 MI ML := by
  show mEx D TX11_law (mqS Q) (27, [some (.ref 46), some (.int v1), none, none], [], (W0, Sh0, MI, ML))
  refine x_st rfl ?_
  refine x_br rfl (fun c => ?_) (fun c => ?_)
  · replace h := h.1 c
    refine x_st rfl ?_
    refine x_gi (ci := 11) (k := 18) (nx := 113) rfl sh_46 rfl ?_
    refine x_st rfl ?_
    refine x_gi (ci := 11) (k := 8) (nx := 117) rfl sh_46 rfl ?_
    refine x_br rfl (fun c => ?_) (fun c => ?_)
    · replace h := h.1 c
      refine x_kl ?_ h
      exact ⟨Or.inr rfl, ⟨Or.inl rfl, ⟨Or.inl rfl, ⟨Or.inl rfl, True.intro⟩⟩⟩⟩
    · replace h := h.2 c
      refine x_st rfl ?_
      obtain ⟨M1, N2, hc, h⟩ := h
      refine x_vv (y := 197) (n := 0) (ci := 11) (nx := 124) rfl (fun _ => rfl) sh_46 rfl hc ?_
      refine x_kl ?_ h
      exact ⟨Or.inr rfl, ⟨Or.inl rfl, ⟨Or.inl rfl, ⟨Or.inl rfl, True.intro⟩⟩⟩⟩
  · replace h := h.2 c
    refine x_st rfl ?_
    refine x_gi (ci := 11) (k := 10) (nx := 35) rfl sh_46 rfl ?_
    refine x_st rfl ?_
    refine x_st rfl ?_
    obtain ⟨M3, N4, hc, h⟩ := h
    refine x_vv (y := 200) (n := 0) (ci := 11) (nx := 40) rfl (fun _ => rfl) sh_46 rfl hc ?_
    refine x_st rfl ?_
    refine x_st rfl ?_
    obtain ⟨x7, M5, N6, hc, h⟩ := h
    refine x_vi (y := 198) (n := 1) (ci := 11) (nx := 46) rfl (fun _ => rfl) sh_46 rfl hc ?_
    refine x_st rfl ?_
    refine x_st rfl ?_
    refine x_gr (ci := 11) (k := 12) (nx := 51) rfl sh_46 rfl ?_
    refine x_st rfl ?_
    refine x_gi (ci := 11) (k := 14) (nx := 55) rfl sh_46 rfl ?_
    refine x_st rfl ?_
    refine x_br rfl (fun c => ?_) (fun c => ?_)
    · replace h := h.1 c
      refine x_st rfl ?_
      refine x_kl ?_ h
      exact ⟨Or.inr rfl, ⟨Or.inl rfl, ⟨Or.inl rfl, ⟨Or.inr rfl, True.intro⟩⟩⟩⟩
    · replace h := h.2 c
      refine x_st rfl ?_
      refine x_gi (ci := 11) (k := 10) (nx := 63) rfl sh_46 rfl ?_
      refine x_st rfl ?_
      refine x_kl ?_ h
      exact ⟨Or.inr rfl, ⟨Or.inl rfl, ⟨Or.inl rfl, ⟨Or.inr rfl, True.intro⟩⟩⟩⟩
theorem BX11_law_67 {D : Nat} {Q : Option Value → mI → mJ → Prop}  {v3 : Int32} {s1 : Int32} {s2 : Int32} {MI : mI} {ML : mJ} 
    (h : ∃ i1 : Nat, s1 = nI i1 ∧ i1 < 160 ∧ ((v3 = nI 0 → VX11_law_76 D Q  (mup MI 54 (mput (MI 54) i1 s2)) ML) ∧ (¬ v3 = nI 0 → ∃ (M2 : mI) (N3 : mJ), mrc D 200 [.ref 46] (mup MI 54 (mput (MI 54) i1 s2)) ML none M2 N3 ∧ (VX11_law_76 D Q  M2 N3)))) :
    VX11_law_67 D Q v3 s1 s2 MI ML := by
  show mEx D TX11_law (mqS Q) (67, [some (.ref 46), none, none, some (.int v3)], [.int s2, .int s1, .ref 54], (W0, Sh0, MI, ML))
  obtain ⟨i1, hx, hi, h⟩ := h
  refine x_iast (i := i1) (nx := 68) rfl sh_54 hx hi (by decide) ?_
  refine x_st rfl ?_
  refine x_br rfl (fun c => ?_) (fun c => ?_)
  · replace h := h.1 c
    refine x_kl ?_ h
    exact ⟨Or.inr rfl, ⟨Or.inl rfl, ⟨Or.inl rfl, ⟨Or.inl rfl, True.intro⟩⟩⟩⟩
  · replace h := h.2 c
    refine x_st rfl ?_
    obtain ⟨M2, N3, hc, h⟩ := h
    refine x_vv (y := 200) (n := 0) (ci := 11) (nx := 76) rfl (fun _ => rfl) sh_46 rfl hc ?_
    refine x_kl ?_ h
    exact ⟨Or.inr rfl, ⟨Or.inl rfl, ⟨Or.inl rfl, ⟨Or.inl rfl, True.intro⟩⟩⟩⟩
theorem BX11_law_76 {D : Nat} {Q : Option Value → mI → mJ → Prop}  {MI : mI} {ML : mJ} 
    (h : ∃ i1 : Nat, (MI 46 14) = nI i1 ∧ i1 < 160 ∧ (∃ (x4 : Int32) (M2 : mI) (N3 : mJ), mrc D 198 [.ref 46, .int (nI 59)] (mup (mup MI 55 (mput (MI 55) i1 (MI 46 10))) 46 (mput ((mup MI 55 (mput (MI 55) i1 (MI 46 10))) 46) 14 (((mup MI 55 (mput (MI 55) i1 (MI 46 10))) 46 14) + (nI 1)))) ML (some (.int x4)) M2 N3 ∧ (VX11_law_27 D Q x4 M2 N3))) :
    VX11_law_76 D Q  MI ML := by
  show mEx D TX11_law (mqS Q) (76, [some (.ref 46), none, none, none], [], (W0, Sh0, MI, ML))
  refine x_st rfl ?_
  refine x_gr (ci := 11) (k := 13) (nx := 80) rfl sh_46 rfl ?_
  refine x_st rfl ?_
  refine x_gi (ci := 11) (k := 14) (nx := 84) rfl sh_46 rfl ?_
  refine x_st rfl ?_
  refine x_gi (ci := 11) (k := 10) (nx := 88) rfl sh_46 rfl ?_
  obtain ⟨i1, hx, hi, h⟩ := h
  refine x_iast (i := i1) (nx := 89) rfl sh_55 hx hi (by decide) ?_
  refine x_st rfl ?_
  refine x_st rfl ?_
  refine x_gi (ci := 11) (k := 14) (nx := 94) rfl sh_46 rfl ?_
  refine x_st rfl ?_
  refine x_st rfl ?_
  refine x_pi (ci := 11) (k := 14) (nx := 99) rfl sh_46 rfl ?_
  refine x_st rfl ?_
  refine x_st rfl ?_
  obtain ⟨x4, M2, N3, hc, h⟩ := h
  refine x_vi (y := 198) (n := 1) (ci := 11) (nx := 105) rfl (fun _ => rfl) sh_46 rfl hc ?_
  refine x_st rfl ?_
  refine x_st rfl ?_
  refine x_kl ?_ h
  exact ⟨Or.inr rfl, ⟨Or.inr rfl, ⟨Or.inl rfl, ⟨Or.inl rfl, True.intro⟩⟩⟩⟩
theorem BX11_law_124 {D : Nat} {Q : Option Value → mI → mJ → Prop}  {MI : mI} {ML : mJ} 
    (h : (((mup MI 46 (mput (MI 46) 8 (nI 0))) 46 19) < nI 0 → VX11_law_154 D Q (nI 0) (mup (mup MI 46 (mput (MI 46) 8 (nI 0))) 46 (mput ((mup MI 46 (mput (MI 46) 8 (nI 0))) 46) 17 ((mup MI 46 (mput (MI 46) 8 (nI 0))) 46 14))) ML) ∧ (¬ ((mup MI 46 (mput (MI 46) 8 (nI 0))) 46 19) < nI 0 → Q (some (.int ((-100 : Int32) - ((mup MI 46 (mput (MI 46) 8 (nI 0))) 46 19)))) (mup MI 46 (mput (MI 46) 8 (nI 0))) ML)) :
    VX11_law_124 D Q  MI ML := by
  show mEx D TX11_law (mqS Q) (124, [some (.ref 46), none, none, none], [], (W0, Sh0, MI, ML))
  refine x_st rfl ?_
  refine x_st rfl ?_
  refine x_pi (ci := 11) (k := 8) (nx := 129) rfl sh_46 rfl ?_
  refine x_st rfl ?_
  refine x_gi (ci := 11) (k := 19) (nx := 133) rfl sh_46 rfl ?_
  refine x_br rfl (fun c => ?_) (fun c => ?_)
  · replace h := h.1 c
    refine x_st rfl ?_
    refine x_st rfl ?_
    refine x_gi (ci := 11) (k := 14) (nx := 149) rfl sh_46 rfl ?_
    refine x_pi (ci := 11) (k := 17) (nx := 152) rfl sh_46 rfl ?_
    refine x_st rfl ?_
    refine x_st rfl ?_
    refine x_kl ?_ h
    exact ⟨Or.inr rfl, ⟨Or.inl rfl, ⟨Or.inr rfl, ⟨Or.inl rfl, True.intro⟩⟩⟩⟩
  · replace h := h.2 c
    refine x_st rfl ?_
    refine x_st rfl ?_
    refine x_gi (ci := 11) (k := 19) (nx := 142) rfl sh_46 rfl ?_
    refine x_st rfl ?_
    refine x_ret rfl ?_
    exact ⟨_, _, rfl, h⟩
theorem BX11_law_154 {D : Nat} {Q : Option Value → mI → mJ → Prop}  {v2 : Int32} {MI : mI} {ML : mJ} 
    (h : ((MI 46 17) ≤ v2 → VX11_law_194 D Q (nI 0) MI ML) ∧ (¬ (MI 46 17) ≤ v2 → ∃ i1 : Nat, v2 = nI i1 ∧ i1 < 160 ∧ (∃ i2 : Nat, v2 = nI i2 ∧ i2 < 160 ∧ (∃ i3 : Nat, v2 = nI i3 ∧ i3 < 160 ∧ (∃ i4 : Nat, v2 = nI i4 ∧ i4 < 160 ∧ (VX11_law_154 D Q (v2 + (nI 1)) (mup (mup MI 56 (mput (MI 56) i2 (MI 54 i1))) 57 (mput ((mup MI 56 (mput (MI 56) i2 (MI 54 i1))) 57) i4 ((mup MI 56 (mput (MI 56) i2 (MI 54 i1))) 55 i3))) ML)))))) :
    VX11_law_154 D Q v2 MI ML := by
  show mEx D TX11_law (mqS Q) (154, [some (.ref 46), none, some (.int v2), none], [], (W0, Sh0, MI, ML))
  refine x_st rfl ?_
  refine x_st rfl ?_
  refine x_gi (ci := 11) (k := 17) (nx := 159) rfl sh_46 rfl ?_
  refine x_br rfl (fun c => ?_) (fun c => ?_)
  · replace h := h.1 c
    refine x_st rfl ?_
    refine x_st rfl ?_
    refine x_kl ?_ h
    exact ⟨Or.inr rfl, ⟨Or.inl rfl, ⟨Or.inr rfl, ⟨Or.inl rfl, True.intro⟩⟩⟩⟩
  · replace h := h.2 c
    refine x_st rfl ?_
    refine x_gr (ci := 11) (k := 15) (nx := 166) rfl sh_46 rfl ?_
    refine x_st rfl ?_
    refine x_st rfl ?_
    refine x_gr (ci := 11) (k := 12) (nx := 171) rfl sh_46 rfl ?_
    refine x_st rfl ?_
    obtain ⟨i1, hx, hi, h⟩ := h
    refine x_ia (i := i1) (nx := 173) rfl sh_54 hx hi (by decide) ?_
    obtain ⟨i2, hx, hi, h⟩ := h
    refine x_iast (i := i2) (nx := 174) rfl sh_56 hx hi (by decide) ?_
    refine x_st rfl ?_
    refine x_gr (ci := 11) (k := 16) (nx := 178) rfl sh_46 rfl ?_
    refine x_st rfl ?_
    refine x_st rfl ?_
    refine x_gr (ci := 11) (k := 13) (nx := 183) rfl sh_46 rfl ?_
    refine x_st rfl ?_
    obtain ⟨i3, hx, hi, h⟩ := h
    refine x_ia (i := i3) (nx := 185) rfl sh_55 hx hi (by decide) ?_
    obtain ⟨i4, hx, hi, h⟩ := h
    refine x_iast (i := i4) (nx := 186) rfl sh_57 hx hi (by decide) ?_
    refine x_st rfl ?_
    refine x_st rfl ?_
    refine x_kl ?_ h
    exact ⟨Or.inr rfl, ⟨Or.inl rfl, ⟨Or.inr rfl, ⟨Or.inl rfl, True.intro⟩⟩⟩⟩
theorem BX11_law_194 {D : Nat} {Q : Option Value → mI → mJ → Prop}  {v2 : Int32} {MI : mI} {ML : mJ} 
    (h : ((MI 46 10) ≤ v2 → Q (some (.int (nI 1))) MI ML) ∧ (¬ (MI 46 10) ≤ v2 → ∃ i1 : Nat, v2 = nI i1 ∧ i1 < 160 ∧ (∃ i2 : Nat, v2 = nI i2 ∧ i2 < 160 ∧ (VX11_law_194 D Q (v2 + (nI 1)) (mup MI 53 (mput (MI 53) i2 (MI 52 i1))) ML)))) :
    VX11_law_194 D Q v2 MI ML := by
  show mEx D TX11_law (mqS Q) (194, [some (.ref 46), none, some (.int v2), none], [], (W0, Sh0, MI, ML))
  refine x_st rfl ?_
  refine x_st rfl ?_
  refine x_gi (ci := 11) (k := 10) (nx := 199) rfl sh_46 rfl ?_
  refine x_br rfl (fun c => ?_) (fun c => ?_)
  · replace h := h.1 c
    refine x_st rfl ?_
    refine x_ret rfl ?_
    exact ⟨_, _, rfl, h⟩
  · replace h := h.2 c
    refine x_st rfl ?_
    refine x_gr (ci := 11) (k := 11) (nx := 206) rfl sh_46 rfl ?_
    refine x_st rfl ?_
    refine x_st rfl ?_
    refine x_gr (ci := 11) (k := 9) (nx := 211) rfl sh_46 rfl ?_
    refine x_st rfl ?_
    obtain ⟨i1, hx, hi, h⟩ := h
    refine x_ia (i := i1) (nx := 213) rfl sh_52 hx hi (by decide) ?_
    obtain ⟨i2, hx, hi, h⟩ := h
    refine x_iast (i := i2) (nx := 214) rfl sh_53 hx hi (by decide) ?_
    refine x_st rfl ?_
    refine x_st rfl ?_
    refine x_kl ?_ h
    exact ⟨Or.inr rfl, ⟨Or.inl rfl, ⟨Or.inr rfl, ⟨Or.inl rfl, True.intro⟩⟩⟩⟩
theorem EX11_law {D : Nat} {Q : Option Value → mI → mJ → Prop}  {MI : mI} {ML : mJ} (h : VX11_law_0 D Q  MI ML) : ∃ v MI' ML', Q v MI' ML' ∧ mrc (D + 1) 207 [.ref 46] MI ML v MI' ML' := by
  refine x_en (n := 3) (T := TX11_law) rfl rfl ?_
  refine x_kl ?_ h
  exact ⟨Or.inr rfl, ⟨Or.inl rfl, ⟨Or.inl rfl, ⟨Or.inl rfl, True.intro⟩⟩⟩⟩
def VX11_joined_0 (D : Nat) (Q : Option Value → mI → mJ → Prop)  (v0 : Int32) (v1 : Int32) (v2 : Int32) (MI : mI) (ML : mJ) : Prop := mEx D TX11_joined (mqS Q) (0, [some (.int v0), some (.int v1), some (.int v2)], [], (W0, Sh0, MI, ML))
def VX11_joined_203 (D : Nat) (Q : Option Value → mI → mJ → Prop)  (v1 : Int32) (v2 : Int32) (MI : mI) (ML : mJ) : Prop := mEx D TX11_joined (mqS Q) (203, [none, some (.int v1), some (.int v2)], [], (W0, Sh0, MI, ML))
theorem BX11_joined_0 {D : Nat} {Q : Option Value → mI → mJ → Prop}  {v0 : Int32} {v1 : Int32} {v2 : Int32} {MI : mI} {ML : mJ} 
    (h : (v0 = (nI 37) → (v2 = nI 0 → Q (some (.int (nI 0))) MI ML) ∧ (¬ v2 = nI 0 → ¬ v2 = nI 0 ∧ (Q (some (.int (v1 - v1 / v2 * v2))) MI ML))) ∧ (¬ v0 = (nI 37) → (v0 = (nI 38) → (v1 = nI 0 → Q (some (.int (nI 0))) MI ML) ∧ (¬ v1 = nI 0 → (v2 = nI 0 → Q (some (.int (nI 0))) MI ML) ∧ (¬ v2 = nI 0 → Q (some (.int (nI 1))) MI ML))) ∧ (¬ v0 = (nI 38) → (v0 = (nI 39) → VX11_joined_203 D Q v1 v2 MI ML) ∧ (¬ v0 = (nI 39) → (v0 = (nI 40) → VX11_joined_203 D Q v1 v2 MI ML) ∧ (¬ v0 = (nI 40) → (v0 = (nI 41) → VX11_joined_203 D Q v1 v2 MI ML) ∧ (¬ v0 = (nI 41) → (v0 = (nI 42) → Q (some (.int (v1 * v2))) MI ML) ∧ (¬ v0 = (nI 42) → (v0 = (nI 43) → Q (some (.int (v1 + v2))) MI ML) ∧ (¬ v0 = (nI 43) → (v0 = (nI 44) → VX11_joined_203 D Q v1 v2 MI ML) ∧ (¬ v0 = (nI 44) → (v0 = (nI 45) → Q (some (.int (v1 - v2))) MI ML) ∧ (¬ v0 = (nI 45) → (v0 = (nI 46) → VX11_joined_203 D Q v1 v2 MI ML) ∧ (¬ v0 = (nI 46) → (v0 = (nI 47) → (v2 = nI 0 → Q (some (.int (nI 0))) MI ML) ∧ (¬ v2 = nI 0 → ¬ v2 = nI 0 ∧ (Q (some (.int (v1 / v2))) MI ML))) ∧ (¬ v0 = (nI 47) → (v0 = (nI 48) → VX11_joined_203 D Q v1 v2 MI ML) ∧ (¬ v0 = (nI 48) → (v0 = (nI 49) → VX11_joined_203 D Q v1 v2 MI ML) ∧ (¬ v0 = (nI 49) → (v0 = (nI 50) → VX11_joined_203 D Q v1 v2 MI ML) ∧ (¬ v0 = (nI 50) → (v0 = (nI 51) → VX11_joined_203 D Q v1 v2 MI ML) ∧ (¬ v0 = (nI 51) → (v0 = (nI 52) → VX11_joined_203 D Q v1 v2 MI ML) ∧ (¬ v0 = (nI 52) → (v0 = (nI 53) → VX11_joined_203 D Q v1 v2 MI ML) ∧ (¬ v0 = (nI 53) → (v0 = (nI 54) → VX11_joined_203 D Q v1 v2 MI ML) ∧ (¬ v0 = (nI 54) → (v0 = (nI 55) → VX11_joined_203 D Q v1 v2 MI ML) ∧ (¬ v0 = (nI 55) → (v0 = (nI 56) → VX11_joined_203 D Q v1 v2 MI ML) ∧ (¬ v0 = (nI 56) → (v0 = (nI 57) → VX11_joined_203 D Q v1 v2 MI ML) ∧ (¬ v0 = (nI 57) → (v0 = (nI 58) → VX11_joined_203 D Q v1 v2 MI ML) ∧ (¬ v0 = (nI 58) → (v0 = (nI 59) → VX11_joined_203 D Q v1 v2 MI ML) ∧ (¬ v0 = (nI 59) → (v0 = (nI 60) → (v2 ≤ v1 → Q (some (.int (nI 0))) MI ML) ∧ (¬ v2 ≤ v1 → Q (some (.int (nI 1))) MI ML)) ∧ (¬ v0 = (nI 60) → (v0 = (nI 61) → (v1 = v2 → Q (some (.int (nI 1))) MI ML) ∧ (¬ v1 = v2 → Q (some (.int (nI 0))) MI ML)) ∧ (¬ v0 = (nI 61) → (v0 = (nI 62) → (v1 ≤ v2 → Q (some (.int (nI 0))) MI ML) ∧ (¬ v1 ≤ v2 → Q (some (.int (nI 1))) MI ML)) ∧ (¬ v0 = (nI 62) → VX11_joined_203 D Q v1 v2 MI ML))))))))))))))))))))))))))) :
    VX11_joined_0 D Q v0 v1 v2 MI ML := by
  show mEx D TX11_joined (mqS Q) (0, [some (.int v0), some (.int v1), some (.int v2)], [], (W0, Sh0, MI, ML))
  refine x_st rfl ?_
  refine x_sw rfl ?_
  refine ⟨fun c => ?_, fun c => ?_⟩
  · replace h := h.1 c
    refine x_st rfl ?_
    refine x_br rfl (fun c => ?_) (fun c => ?_)
    · replace h := h.1 c
      refine x_st rfl ?_
      refine x_st rfl ?_
      refine x_ret rfl ?_
      exact ⟨_, _, rfl, h⟩
    · replace h := h.2 c
      refine x_st rfl ?_
      refine x_st rfl ?_
      refine x_ck rfl h.1 ?_
      have h := h.2
      refine x_ret rfl ?_
      exact ⟨_, _, rfl, h⟩
  · replace h := h.2 c
    refine ⟨fun c => ?_, fun c => ?_⟩
    · replace h := h.1 c
      refine x_st rfl ?_
      refine x_br rfl (fun c => ?_) (fun c => ?_)
      · replace h := h.1 c
        refine x_st rfl ?_
        refine x_ret rfl ?_
        exact ⟨_, _, rfl, h⟩
      · replace h := h.2 c
        refine x_st rfl ?_
        refine x_br rfl (fun c => ?_) (fun c => ?_)
        · replace h := h.1 c
          refine x_st rfl ?_
          refine x_ret rfl ?_
          exact ⟨_, _, rfl, h⟩
        · replace h := h.2 c
          refine x_st rfl ?_
          refine x_st rfl ?_
          refine x_ret rfl ?_
          exact ⟨_, _, rfl, h⟩
    · replace h := h.2 c
      refine ⟨fun c => ?_, fun c => ?_⟩
      · replace h := h.1 c
        refine x_kl ?_ h
        exact ⟨Or.inl rfl, ⟨Or.inr rfl, ⟨Or.inr rfl, True.intro⟩⟩⟩
      · replace h := h.2 c
        refine ⟨fun c => ?_, fun c => ?_⟩
        · replace h := h.1 c
          refine x_kl ?_ h
          exact ⟨Or.inl rfl, ⟨Or.inr rfl, ⟨Or.inr rfl, True.intro⟩⟩⟩
        · replace h := h.2 c
          refine ⟨fun c => ?_, fun c => ?_⟩
          · replace h := h.1 c
            refine x_kl ?_ h
            exact ⟨Or.inl rfl, ⟨Or.inr rfl, ⟨Or.inr rfl, True.intro⟩⟩⟩
          · replace h := h.2 c
            refine ⟨fun c => ?_, fun c => ?_⟩
            · replace h := h.1 c
              refine x_st rfl ?_
              refine x_st rfl ?_
              refine x_st rfl ?_
              refine x_ret rfl ?_
              exact ⟨_, _, rfl, h⟩
            · replace h := h.2 c
              refine ⟨fun c => ?_, fun c => ?_⟩
              · replace h := h.1 c
                refine x_st rfl ?_
                refine x_st rfl ?_
                refine x_st rfl ?_
                refine x_ret rfl ?_
                exact ⟨_, _, rfl, h⟩
              · replace h := h.2 c
                refine ⟨fun c => ?_, fun c => ?_⟩
                · replace h := h.1 c
                  refine x_kl ?_ h
                  exact ⟨Or.inl rfl, ⟨Or.inr rfl, ⟨Or.inr rfl, True.intro⟩⟩⟩
                · replace h := h.2 c
                  refine ⟨fun c => ?_, fun c => ?_⟩
                  · replace h := h.1 c
                    refine x_st rfl ?_
                    refine x_st rfl ?_
                    refine x_st rfl ?_
                    refine x_ret rfl ?_
                    exact ⟨_, _, rfl, h⟩
                  · replace h := h.2 c
                    refine ⟨fun c => ?_, fun c => ?_⟩
                    · replace h := h.1 c
                      refine x_kl ?_ h
                      exact ⟨Or.inl rfl, ⟨Or.inr rfl, ⟨Or.inr rfl, True.intro⟩⟩⟩
                    · replace h := h.2 c
                      refine ⟨fun c => ?_, fun c => ?_⟩
                      · replace h := h.1 c
                        refine x_st rfl ?_
                        refine x_br rfl (fun c => ?_) (fun c => ?_)
                        · replace h := h.1 c
                          refine x_st rfl ?_
                          refine x_st rfl ?_
                          refine x_ret rfl ?_
                          exact ⟨_, _, rfl, h⟩
                        · replace h := h.2 c
                          refine x_st rfl ?_
                          refine x_st rfl ?_
                          refine x_ck rfl h.1 ?_
                          have h := h.2
                          refine x_ret rfl ?_
                          exact ⟨_, _, rfl, h⟩
                      · replace h := h.2 c
                        refine ⟨fun c => ?_, fun c => ?_⟩
                        · replace h := h.1 c
                          refine x_kl ?_ h
                          exact ⟨Or.inl rfl, ⟨Or.inr rfl, ⟨Or.inr rfl, True.intro⟩⟩⟩
                        · replace h := h.2 c
                          refine ⟨fun c => ?_, fun c => ?_⟩
                          · replace h := h.1 c
                            refine x_kl ?_ h
                            exact ⟨Or.inl rfl, ⟨Or.inr rfl, ⟨Or.inr rfl, True.intro⟩⟩⟩
                          · replace h := h.2 c
                            refine ⟨fun c => ?_, fun c => ?_⟩
                            · replace h := h.1 c
                              refine x_kl ?_ h
                              exact ⟨Or.inl rfl, ⟨Or.inr rfl, ⟨Or.inr rfl, True.intro⟩⟩⟩
                            · replace h := h.2 c
                              refine ⟨fun c => ?_, fun c => ?_⟩
                              · replace h := h.1 c
                                refine x_kl ?_ h
                                exact ⟨Or.inl rfl, ⟨Or.inr rfl, ⟨Or.inr rfl, True.intro⟩⟩⟩
                              · replace h := h.2 c
                                refine ⟨fun c => ?_, fun c => ?_⟩
                                · replace h := h.1 c
                                  refine x_kl ?_ h
                                  exact ⟨Or.inl rfl, ⟨Or.inr rfl, ⟨Or.inr rfl, True.intro⟩⟩⟩
                                · replace h := h.2 c
                                  refine ⟨fun c => ?_, fun c => ?_⟩
                                  · replace h := h.1 c
                                    refine x_kl ?_ h
                                    exact ⟨Or.inl rfl, ⟨Or.inr rfl, ⟨Or.inr rfl, True.intro⟩⟩⟩
                                  · replace h := h.2 c
                                    refine ⟨fun c => ?_, fun c => ?_⟩
                                    · replace h := h.1 c
                                      refine x_kl ?_ h
                                      exact ⟨Or.inl rfl, ⟨Or.inr rfl, ⟨Or.inr rfl, True.intro⟩⟩⟩
                                    · replace h := h.2 c
                                      refine ⟨fun c => ?_, fun c => ?_⟩
                                      · replace h := h.1 c
                                        refine x_kl ?_ h
                                        exact ⟨Or.inl rfl, ⟨Or.inr rfl, ⟨Or.inr rfl, True.intro⟩⟩⟩
                                      · replace h := h.2 c
                                        refine ⟨fun c => ?_, fun c => ?_⟩
                                        · replace h := h.1 c
                                          refine x_kl ?_ h
                                          exact ⟨Or.inl rfl, ⟨Or.inr rfl, ⟨Or.inr rfl, True.intro⟩⟩⟩
                                        · replace h := h.2 c
                                          refine ⟨fun c => ?_, fun c => ?_⟩
                                          · replace h := h.1 c
                                            refine x_kl ?_ h
                                            exact ⟨Or.inl rfl, ⟨Or.inr rfl, ⟨Or.inr rfl, True.intro⟩⟩⟩
                                          · replace h := h.2 c
                                            refine ⟨fun c => ?_, fun c => ?_⟩
                                            · replace h := h.1 c
                                              refine x_kl ?_ h
                                              exact ⟨Or.inl rfl, ⟨Or.inr rfl, ⟨Or.inr rfl, True.intro⟩⟩⟩
                                            · replace h := h.2 c
                                              refine ⟨fun c => ?_, fun c => ?_⟩
                                              · replace h := h.1 c
                                                refine x_kl ?_ h
                                                exact ⟨Or.inl rfl, ⟨Or.inr rfl, ⟨Or.inr rfl, True.intro⟩⟩⟩
                                              · replace h := h.2 c
                                                refine ⟨fun c => ?_, fun c => ?_⟩
                                                · replace h := h.1 c
                                                  refine x_st rfl ?_
                                                  refine x_st rfl ?_
                                                  refine x_br rfl (fun c => ?_) (fun c => ?_)
                                                  · replace h := h.1 c
                                                    refine x_st rfl ?_
                                                    refine x_ret rfl ?_
                                                    exact ⟨_, _, rfl, h⟩
                                                  · replace h := h.2 c
                                                    refine x_st rfl ?_
                                                    refine x_st rfl ?_
                                                    refine x_ret rfl ?_
                                                    exact ⟨_, _, rfl, h⟩
                                                · replace h := h.2 c
                                                  refine ⟨fun c => ?_, fun c => ?_⟩
                                                  · replace h := h.1 c
                                                    refine x_st rfl ?_
                                                    refine x_st rfl ?_
                                                    refine x_br rfl (fun c => ?_) (fun c => ?_)
                                                    · replace h := h.1 c
                                                      refine x_st rfl ?_
                                                      refine x_st rfl ?_
                                                      refine x_ret rfl ?_
                                                      exact ⟨_, _, rfl, h⟩
                                                    · replace h := h.2 c
                                                      refine x_st rfl ?_
                                                      refine x_ret rfl ?_
                                                      exact ⟨_, _, rfl, h⟩
                                                  · replace h := h.2 c
                                                    refine ⟨fun c => ?_, fun c => ?_⟩
                                                    · replace h := h.1 c
                                                      refine x_st rfl ?_
                                                      refine x_st rfl ?_
                                                      refine x_br rfl (fun c => ?_) (fun c => ?_)
                                                      · replace h := h.1 c
                                                        refine x_st rfl ?_
                                                        refine x_ret rfl ?_
                                                        exact ⟨_, _, rfl, h⟩
                                                      · replace h := h.2 c
                                                        refine x_st rfl ?_
                                                        refine x_st rfl ?_
                                                        refine x_ret rfl ?_
                                                        exact ⟨_, _, rfl, h⟩
                                                    · replace h := h.2 c
                                                      refine x_kl ?_ h
                                                      exact ⟨Or.inl rfl, ⟨Or.inr rfl, ⟨Or.inr rfl, True.intro⟩⟩⟩
theorem BX11_joined_203 {D : Nat} {Q : Option Value → mI → mJ → Prop}  {v1 : Int32} {v2 : Int32} {MI : mI} {ML : mJ} 
    (h : (v1 = nI 0 → (v2 = nI 0 → Q (some (.int (nI 0))) MI ML) ∧ (¬ v2 = nI 0 → Q (some (.int (nI 1))) MI ML)) ∧ (¬ v1 = nI 0 → Q (some (.int (nI 1))) MI ML)) :
    VX11_joined_203 D Q v1 v2 MI ML := by
  show mEx D TX11_joined (mqS Q) (203, [none, some (.int v1), some (.int v2)], [], (W0, Sh0, MI, ML))
  refine x_st rfl ?_
  refine x_br rfl (fun c => ?_) (fun c => ?_)
  · replace h := h.1 c
    refine x_st rfl ?_
    refine x_br rfl (fun c => ?_) (fun c => ?_)
    · replace h := h.1 c
      refine x_st rfl ?_
      refine x_ret rfl ?_
      exact ⟨_, _, rfl, h⟩
    · replace h := h.2 c
      refine x_st rfl ?_
      refine x_st rfl ?_
      refine x_ret rfl ?_
      exact ⟨_, _, rfl, h⟩
  · replace h := h.2 c
    refine x_st rfl ?_
    refine x_st rfl ?_
    refine x_ret rfl ?_
    exact ⟨_, _, rfl, h⟩
theorem EX11_joined {D : Nat} {Q : Option Value → mI → mJ → Prop}  {v0 : Int32} {v1 : Int32} {v2 : Int32} {MI : mI} {ML : mJ} (h : VX11_joined_0 D Q v0 v1 v2 MI ML) : ∃ v MI' ML', Q v MI' ML' ∧ mrc (D + 1) 208 [.int v0, .int v1, .int v2] MI ML v MI' ML' := by
  refine x_en (n := 0) (T := TX11_joined) rfl rfl ?_
  refine x_kl ?_ h
  exact ⟨Or.inr rfl, ⟨Or.inr rfl, ⟨Or.inr rfl, True.intro⟩⟩⟩
def VX11_workedOut_0 (D : Nat) (Q : Option Value → mI → mJ → Prop)  (v1 : Int32) (v2 : Int32) (MI : mI) (ML : mJ) : Prop := mEx D TX11_workedOut (mqS Q) (0, [some (.ref 46), some (.int v1), some (.int v2), none, none, none], [], (W0, Sh0, MI, ML))
def VX11_workedOut_5 (D : Nat) (Q : Option Value → mI → mJ → Prop)  (v2 : Int32) (v3 : Int32) (v4 : Int32) (MI : mI) (ML : mJ) : Prop := mEx D TX11_workedOut (mqS Q) (5, [some (.ref 46), none, some (.int v2), some (.int v3), some (.int v4), none], [], (W0, Sh0, MI, ML))
def VX11_workedOut_32 (D : Nat) (Q : Option Value → mI → mJ → Prop)  (v2 : Int32) (v3 : Int32) (v4 : Int32) (v5 : Int32) (MI : mI) (ML : mJ) : Prop := mEx D TX11_workedOut (mqS Q) (32, [some (.ref 46), none, some (.int v2), some (.int v3), some (.int v4), some (.int v5)], [], (W0, Sh0, MI, ML))
def VX11_workedOut_79 (D : Nat) (Q : Option Value → mI → mJ → Prop)  (v2 : Int32) (v3 : Int32) (v4 : Int32) (v5 : Int32) (MI : mI) (ML : mJ) : Prop := mEx D TX11_workedOut (mqS Q) (79, [some (.ref 46), none, some (.int v2), some (.int v3), some (.int v4), some (.int v5)], [], (W0, Sh0, MI, ML))
theorem BX11_workedOut_0 {D : Nat} {Q : Option Value → mI → mJ → Prop}  {v1 : Int32} {v2 : Int32} {MI : mI} {ML : mJ} 
    (h : VX11_workedOut_5 D Q v2 (nI 0) v1 MI ML) :
    VX11_workedOut_0 D Q v1 v2 MI ML := by
  show mEx D TX11_workedOut (mqS Q) (0, [some (.ref 46), some (.int v1), some (.int v2), none, none, none], [], (W0, Sh0, MI, ML))
  refine x_st rfl ?_
  refine x_st rfl ?_
  refine x_st rfl ?_
  refine x_st rfl ?_
  refine x_kl ?_ h
  exact ⟨Or.inr rfl, ⟨Or.inl rfl, ⟨Or.inr rfl, ⟨Or.inr rfl, ⟨Or.inr rfl, ⟨Or.inl rfl, True.intro⟩⟩⟩⟩⟩⟩
theorem BX11_workedOut_5 {D : Nat} {Q : Option Value → mI → mJ → Prop}  {v2 : Int32} {v3 : Int32} {v4 : Int32} {MI : mI} {ML : mJ} 
    (h : (v2 ≤ v4 → Q (some (.int (MI 58 0))) MI ML) ∧ (¬ v2 ≤ v4 → ∃ i1 : Nat, v4 = nI i1 ∧ i1 < 160 ∧ ((nI 0 ≤ (MI 53 i1) → VX11_workedOut_32 D Q v2 v3 v4 (MI 53 i1) MI ML) ∧ (¬ nI 0 ≤ (MI 53 i1) → ((MI 53 i1) ≤ (-100 : Int32) → ((MI 53 i1) = (-226 : Int32) → VX11_workedOut_79 D Q v2 v3 v4 (MI 53 i1) MI ML) ∧ (¬ (MI 53 i1) = (-226 : Int32) → ((MI 53 i1) = (-133 : Int32) → VX11_workedOut_79 D Q v2 v3 v4 (MI 53 i1) MI ML) ∧ (¬ (MI 53 i1) = (-133 : Int32) → ∃ i2 : Nat, ((v3 + (-1 : Int32)) - (nI 1)) = nI i2 ∧ i2 < 160 ∧ (∃ i3 : Nat, (v3 + (-1 : Int32)) = nI i3 ∧ i3 < 160 ∧ (∃ (x6 : Int32) (M4 : mI) (N5 : mJ), mrc D 208 [.int ((-100 : Int32) - (MI 53 i1)), .int (MI 58 i2), .int (MI 58 i3)] MI ML (some (.int x6)) M4 N5 ∧ (∃ i7 : Nat, ((v3 + (-1 : Int32)) - (nI 1)) = nI i7 ∧ i7 < 160 ∧ (VX11_workedOut_5 D Q v2 (v3 + (-1 : Int32)) (v4 + (nI 1)) (mup M4 58 (mput (M4 58) i7 x6)) N5))))))) ∧ (¬ (MI 53 i1) ≤ (-100 : Int32) → VX11_workedOut_32 D Q v2 v3 v4 (MI 53 i1) MI ML))))) :
    VX11_workedOut_5 D Q v2 v3 v4 MI ML := by
  show mEx D TX11_workedOut (mqS Q) (5, [some (.ref 46), none, some (.int v2), some (.int v3), some (.int v4), none], [], (W0, Sh0, MI, ML))
  refine x_st rfl ?_
  refine x_st rfl ?_
  refine x_br rfl (fun c => ?_) (fun c => ?_)
  · replace h := h.1 c
    refine x_st rfl ?_
    refine x_gr (ci := 11) (k := 21) (nx := 169) rfl sh_46 rfl ?_
    refine x_st rfl ?_
    refine x_ia (i := 0) (nx := 171) rfl sh_58 rfl (by decide) (by decide) ?_
    refine x_ret rfl ?_
    exact ⟨_, _, rfl, h⟩
  · replace h := h.2 c
    refine x_st rfl ?_
    refine x_gr (ci := 11) (k := 11) (nx := 15) rfl sh_46 rfl ?_
    refine x_st rfl ?_
    obtain ⟨i1, hx, hi, h⟩ := h
    refine x_ia (i := i1) (nx := 18) rfl sh_53 hx hi (by decide) ?_
    refine x_st rfl ?_
    refine x_st rfl ?_
    refine x_br rfl (fun c => ?_) (fun c => ?_)
    · replace h := h.1 c
      refine x_kl ?_ h
      exact ⟨Or.inr rfl, ⟨Or.inl rfl, ⟨Or.inr rfl, ⟨Or.inr rfl, ⟨Or.inr rfl, ⟨Or.inr rfl, True.intro⟩⟩⟩⟩⟩⟩
    · replace h := h.2 c
      refine x_st rfl ?_
      refine x_st rfl ?_
      refine x_br rfl (fun c => ?_) (fun c => ?_)
      · replace h := h.1 c
        refine x_st rfl ?_
        refine x_st rfl ?_
        refine x_br rfl (fun c => ?_) (fun c => ?_)
        · replace h := h.1 c
          refine x_kl ?_ h
          exact ⟨Or.inr rfl, ⟨Or.inl rfl, ⟨Or.inr rfl, ⟨Or.inr rfl, ⟨Or.inr rfl, ⟨Or.inr rfl, True.intro⟩⟩⟩⟩⟩⟩
        · replace h := h.2 c
          refine x_st rfl ?_
          refine x_st rfl ?_
          refine x_br rfl (fun c => ?_) (fun c => ?_)
          · replace h := h.1 c
            refine x_kl ?_ h
            exact ⟨Or.inr rfl, ⟨Or.inl rfl, ⟨Or.inr rfl, ⟨Or.inr rfl, ⟨Or.inr rfl, ⟨Or.inr rfl, True.intro⟩⟩⟩⟩⟩⟩
          · replace h := h.2 c
            refine x_st rfl ?_
            refine x_st rfl ?_
            refine x_gr (ci := 11) (k := 21) (nx := 133) rfl sh_46 rfl ?_
            refine x_st rfl ?_
            refine x_st rfl ?_
            refine x_st rfl ?_
            refine x_st rfl ?_
            refine x_st rfl ?_
            refine x_st rfl ?_
            refine x_st rfl ?_
            refine x_gr (ci := 11) (k := 21) (nx := 145) rfl sh_46 rfl ?_
            refine x_st rfl ?_
            refine x_st rfl ?_
            refine x_st rfl ?_
            obtain ⟨i2, hx, hi, h⟩ := h
            refine x_ia (i := i2) (nx := 149) rfl sh_58 hx hi (by decide) ?_
            refine x_st rfl ?_
            refine x_gr (ci := 11) (k := 21) (nx := 153) rfl sh_46 rfl ?_
            refine x_st rfl ?_
            obtain ⟨i3, hx, hi, h⟩ := h
            refine x_ia (i := i3) (nx := 155) rfl sh_58 hx hi (by decide) ?_
            obtain ⟨x6, M4, N5, hc, h⟩ := h
            refine x_ci rfl hc ?_
            obtain ⟨i7, hx, hi, h⟩ := h
            refine x_iast (i := i7) (nx := 159) rfl sh_58 hx hi (by decide) ?_
            refine x_st rfl ?_
            refine x_st rfl ?_
            refine x_kl ?_ h
            exact ⟨Or.inr rfl, ⟨Or.inl rfl, ⟨Or.inr rfl, ⟨Or.inr rfl, ⟨Or.inr rfl, ⟨Or.inl rfl, True.intro⟩⟩⟩⟩⟩⟩
      · replace h := h.2 c
        refine x_kl ?_ h
        exact ⟨Or.inr rfl, ⟨Or.inl rfl, ⟨Or.inr rfl, ⟨Or.inr rfl, ⟨Or.inr rfl, ⟨Or.inr rfl, True.intro⟩⟩⟩⟩⟩⟩
theorem BX11_workedOut_32 {D : Nat} {Q : Option Value → mI → mJ → Prop}  {v2 : Int32} {v3 : Int32} {v4 : Int32} {v5 : Int32} {MI : mI} {ML : mJ} 
    (h : (v5 < nI 0 → ∃ i1 : Nat, ((-1 : Int32) - v5) = nI i1 ∧ i1 < 6 ∧ (∃ i2 : Nat, v3 = nI i2 ∧ i2 < 160 ∧ (VX11_workedOut_5 D Q v2 (v3 + (nI 1)) (v4 + (nI 1)) (mup MI 58 (mput (MI 58) i2 (MI 59 i1))) ML))) ∧ (¬ v5 < nI 0 → ∃ i3 : Nat, v3 = nI i3 ∧ i3 < 160 ∧ (VX11_workedOut_5 D Q v2 (v3 + (nI 1)) (v4 + (nI 1)) (mup MI 58 (mput (MI 58) i3 v5)) ML))) :
    VX11_workedOut_32 D Q v2 v3 v4 v5 MI ML := by
  show mEx D TX11_workedOut (mqS Q) (32, [some (.ref 46), none, some (.int v2), some (.int v3), some (.int v4), some (.int v5)], [], (W0, Sh0, MI, ML))
  refine x_st rfl ?_
  refine x_gr (ci := 11) (k := 21) (nx := 36) rfl sh_46 rfl ?_
  refine x_st rfl ?_
  refine x_st rfl ?_
  refine x_br rfl (fun c => ?_) (fun c => ?_)
  · replace h := h.1 c
    refine x_st rfl ?_
    refine x_gr (ci := 11) (k := 22) (nx := 51) rfl sh_46 rfl ?_
    refine x_st rfl ?_
    refine x_st rfl ?_
    refine x_st rfl ?_
    obtain ⟨i1, hx, hi, h⟩ := h
    refine x_ia (i := i1) (nx := 56) rfl sh_59 hx hi (by decide) ?_
    obtain ⟨i2, hx, hi, h⟩ := h
    refine x_iast (i := i2) (nx := 57) rfl sh_58 hx hi (by decide) ?_
    refine x_st rfl ?_
    refine x_st rfl ?_
    refine x_st rfl ?_
    refine x_st rfl ?_
    refine x_kl ?_ h
    exact ⟨Or.inr rfl, ⟨Or.inl rfl, ⟨Or.inr rfl, ⟨Or.inr rfl, ⟨Or.inr rfl, ⟨Or.inl rfl, True.intro⟩⟩⟩⟩⟩⟩
  · replace h := h.2 c
    refine x_st rfl ?_
    refine x_st rfl ?_
    obtain ⟨i3, hx, hi, h⟩ := h
    refine x_iast (i := i3) (nx := 57) rfl sh_58 hx hi (by decide) ?_
    refine x_st rfl ?_
    refine x_st rfl ?_
    refine x_st rfl ?_
    refine x_st rfl ?_
    refine x_kl ?_ h
    exact ⟨Or.inr rfl, ⟨Or.inl rfl, ⟨Or.inr rfl, ⟨Or.inr rfl, ⟨Or.inr rfl, ⟨Or.inl rfl, True.intro⟩⟩⟩⟩⟩⟩
theorem BX11_workedOut_79 {D : Nat} {Q : Option Value → mI → mJ → Prop}  {v2 : Int32} {v3 : Int32} {v4 : Int32} {v5 : Int32} {MI : mI} {ML : mJ} 
    (h : (v5 = (-226 : Int32) → ∃ i1 : Nat, (v3 - (nI 1)) = nI i1 ∧ i1 < 160 ∧ (∃ i2 : Nat, (v3 - (nI 1)) = nI i2 ∧ i2 < 160 ∧ (VX11_workedOut_5 D Q v2 v3 (v4 + (nI 1)) (mup MI 58 (mput (MI 58) i2 (-(MI 58 i1)))) ML))) ∧ (¬ v5 = (-226 : Int32) → ∃ i3 : Nat, (v3 - (nI 1)) = nI i3 ∧ i3 < 160 ∧ (((MI 58 i3) = nI 0 → ∃ i4 : Nat, (v3 - (nI 1)) = nI i4 ∧ i4 < 160 ∧ (VX11_workedOut_5 D Q v2 v3 (v4 + (nI 1)) (mup MI 58 (mput (MI 58) i4 (nI 1))) ML)) ∧ (¬ (MI 58 i3) = nI 0 → ∃ i5 : Nat, (v3 - (nI 1)) = nI i5 ∧ i5 < 160 ∧ (VX11_workedOut_5 D Q v2 v3 (v4 + (nI 1)) (mup MI 58 (mput (MI 58) i5 (nI 0))) ML))))) :
    VX11_workedOut_79 D Q v2 v3 v4 v5 MI ML := by
  show mEx D TX11_workedOut (mqS Q) (79, [some (.ref 46), none, some (.int v2), some (.int v3), some (.int v4), some (.int v5)], [], (W0, Sh0, MI, ML))
  refine x_st rfl ?_
  refine x_gr (ci := 11) (k := 21) (nx := 83) rfl sh_46 rfl ?_
  refine x_st rfl ?_
  refine x_st rfl ?_
  refine x_st rfl ?_
  refine x_st rfl ?_
  refine x_st rfl ?_
  refine x_br rfl (fun c => ?_) (fun c => ?_)
  · replace h := h.1 c
    refine x_st rfl ?_
    refine x_gr (ci := 11) (k := 21) (nx := 98) rfl sh_46 rfl ?_
    refine x_st rfl ?_
    refine x_st rfl ?_
    refine x_st rfl ?_
    obtain ⟨i1, hx, hi, h⟩ := h
    refine x_ia (i := i1) (nx := 102) rfl sh_58 hx hi (by decide) ?_
    refine x_st rfl ?_
    refine x_st rfl ?_
    obtain ⟨i2, hx, hi, h⟩ := h
    refine x_iast (i := i2) (nx := 123) rfl sh_58 hx hi (by decide) ?_
    refine x_st rfl ?_
    refine x_st rfl ?_
    refine x_st rfl ?_
    refine x_kl ?_ h
    exact ⟨Or.inr rfl, ⟨Or.inl rfl, ⟨Or.inr rfl, ⟨Or.inr rfl, ⟨Or.inr rfl, ⟨Or.inl rfl, True.intro⟩⟩⟩⟩⟩⟩
  · replace h := h.2 c
    refine x_st rfl ?_
    refine x_gr (ci := 11) (k := 21) (nx := 110) rfl sh_46 rfl ?_
    refine x_st rfl ?_
    refine x_st rfl ?_
    refine x_st rfl ?_
    obtain ⟨i3, hx, hi, h⟩ := h
    refine x_ia (i := i3) (nx := 114) rfl sh_58 hx hi (by decide) ?_
    refine x_br rfl (fun c => ?_) (fun c => ?_)
    · replace h := h.1 c
      refine x_st rfl ?_
      refine x_st rfl ?_
      obtain ⟨i4, hx, hi, h⟩ := h
      refine x_iast (i := i4) (nx := 123) rfl sh_58 hx hi (by decide) ?_
      refine x_st rfl ?_
      refine x_st rfl ?_
      refine x_st rfl ?_
      refine x_kl ?_ h
      exact ⟨Or.inr rfl, ⟨Or.inl rfl, ⟨Or.inr rfl, ⟨Or.inr rfl, ⟨Or.inr rfl, ⟨Or.inl rfl, True.intro⟩⟩⟩⟩⟩⟩
    · replace h := h.2 c
      refine x_st rfl ?_
      obtain ⟨i5, hx, hi, h⟩ := h
      refine x_iast (i := i5) (nx := 123) rfl sh_58 hx hi (by decide) ?_
      refine x_st rfl ?_
      refine x_st rfl ?_
      refine x_st rfl ?_
      refine x_kl ?_ h
      exact ⟨Or.inr rfl, ⟨Or.inl rfl, ⟨Or.inr rfl, ⟨Or.inr rfl, ⟨Or.inr rfl, ⟨Or.inl rfl, True.intro⟩⟩⟩⟩⟩⟩
theorem EX11_workedOut {D : Nat} {Q : Option Value → mI → mJ → Prop}  {v1 : Int32} {v2 : Int32} {MI : mI} {ML : mJ} (h : VX11_workedOut_0 D Q v1 v2 MI ML) : ∃ v MI' ML', Q v MI' ML' ∧ mrc (D + 1) 209 [.ref 46, .int v1, .int v2] MI ML v MI' ML' := by
  refine x_en (n := 3) (T := TX11_workedOut) rfl rfl ?_
  refine x_kl ?_ h
  exact ⟨Or.inr rfl, ⟨Or.inr rfl, ⟨Or.inr rfl, ⟨Or.inl rfl, ⟨Or.inl rfl, ⟨Or.inl rfl, True.intro⟩⟩⟩⟩⟩⟩
def VX11_ruled_0 (D : Nat) (Q : Option Value → mI → mJ → Prop)  (MI : mI) (ML : mJ) : Prop := mEx D TX11_ruled (mqS Q) (0, [some (.ref 46), none, none], [], (W0, Sh0, MI, ML))
def VX11_ruled_4 (D : Nat) (Q : Option Value → mI → mJ → Prop)  (v1 : Int32) (v2 : Int32) (MI : mI) (ML : mJ) : Prop := mEx D TX11_ruled (mqS Q) (4, [some (.ref 46), some (.int v1), some (.int v2)], [], (W0, Sh0, MI, ML))
def VX11_ruled_36 (D : Nat) (Q : Option Value → mI → mJ → Prop)  (v2 : Int32) (MI : mI) (ML : mJ) : Prop := mEx D TX11_ruled (mqS Q) (36, [some (.ref 46), none, some (.int v2)], [], (W0, Sh0, MI, ML))
theorem BX11_ruled_0 {D : Nat} {Q : Option Value → mI → mJ → Prop}  {MI : mI} {ML : mJ} 
    (h : VX11_ruled_4 D Q (nI 0) (nI 0) MI ML) :
    VX11_ruled_0 D Q  MI ML := by
  show mEx D TX11_ruled (mqS Q) (0, [some (.ref 46), none, none], [], (W0, Sh0, MI, ML))
  refine x_st rfl ?_
  refine x_st rfl ?_
  refine x_st rfl ?_
  refine x_st rfl ?_
  refine x_kl ?_ h
  exact ⟨Or.inr rfl, ⟨Or.inr rfl, ⟨Or.inr rfl, True.intro⟩⟩⟩
theorem BX11_ruled_4 {D : Nat} {Q : Option Value → mI → mJ → Prop}  {v1 : Int32} {v2 : Int32} {MI : mI} {ML : mJ} 
    (h : ((MI 46 17) ≤ v2 → Q (some (.int (nI 0))) MI ML) ∧ (¬ (MI 46 17) ≤ v2 → ∃ i1 : Nat, v2 = nI i1 ∧ i1 < 160 ∧ (((MI 56 i1) = v1 → VX11_ruled_36 D Q v2 MI ML) ∧ (¬ (MI 56 i1) = v1 → ∃ i2 : Nat, v2 = nI i2 ∧ i2 < 160 ∧ (∃ (x5 : Int32) (M3 : mI) (N4 : mJ), mrc D 209 [.ref 46, .int v1, .int (MI 56 i2)] MI ML (some (.int x5)) M3 N4 ∧ ((x5 = nI 0 → ∃ i6 : Nat, v2 = nI i6 ∧ i6 < 160 ∧ (VX11_ruled_4 D Q (M3 57 i6) (v2 + (nI 1)) M3 N4)) ∧ (¬ x5 = nI 0 → VX11_ruled_36 D Q v2 M3 N4))))))) :
    VX11_ruled_4 D Q v1 v2 MI ML := by
  show mEx D TX11_ruled (mqS Q) (4, [some (.ref 46), some (.int v1), some (.int v2)], [], (W0, Sh0, MI, ML))
  refine x_st rfl ?_
  refine x_st rfl ?_
  refine x_gi (ci := 11) (k := 17) (nx := 9) rfl sh_46 rfl ?_
  refine x_br rfl (fun c => ?_) (fun c => ?_)
  · replace h := h.1 c
    refine x_st rfl ?_
    refine x_ret rfl ?_
    exact ⟨_, _, rfl, h⟩
  · replace h := h.2 c
    refine x_st rfl ?_
    refine x_gr (ci := 11) (k := 15) (nx := 16) rfl sh_46 rfl ?_
    refine x_st rfl ?_
    obtain ⟨i1, hx, hi, h⟩ := h
    refine x_ia (i := i1) (nx := 18) rfl sh_56 hx hi (by decide) ?_
    refine x_st rfl ?_
    refine x_br rfl (fun c => ?_) (fun c => ?_)
    · replace h := h.1 c
      refine x_kl ?_ h
      exact ⟨Or.inr rfl, ⟨Or.inl rfl, ⟨Or.inr rfl, True.intro⟩⟩⟩
    · replace h := h.2 c
      refine x_st rfl ?_
      refine x_st rfl ?_
      refine x_st rfl ?_
      refine x_gr (ci := 11) (k := 15) (nx := 28) rfl sh_46 rfl ?_
      refine x_st rfl ?_
      obtain ⟨i2, hx, hi, h⟩ := h
      refine x_ia (i := i2) (nx := 30) rfl sh_56 hx hi (by decide) ?_
      obtain ⟨x5, M3, N4, hc, h⟩ := h
      refine x_vi (y := 209) (n := 2) (ci := 11) (nx := 33) rfl (fun _ => rfl) sh_46 rfl hc ?_
      refine x_br rfl (fun c => ?_) (fun c => ?_)
      · replace h := h.1 c
        refine x_st rfl ?_
        refine x_gr (ci := 11) (k := 16) (nx := 57) rfl sh_46 rfl ?_
        refine x_st rfl ?_
        obtain ⟨i6, hx, hi, h⟩ := h
        refine x_ia (i := i6) (nx := 59) rfl sh_57 hx hi (by decide) ?_
        refine x_st rfl ?_
        refine x_st rfl ?_
        refine x_st rfl ?_
        refine x_kl ?_ h
        exact ⟨Or.inr rfl, ⟨Or.inr rfl, ⟨Or.inr rfl, True.intro⟩⟩⟩
      · replace h := h.2 c
        refine x_kl ?_ h
        exact ⟨Or.inr rfl, ⟨Or.inl rfl, ⟨Or.inr rfl, True.intro⟩⟩⟩
theorem BX11_ruled_36 {D : Nat} {Q : Option Value → mI → mJ → Prop}  {v2 : Int32} {MI : mI} {ML : mJ} 
    (h : ∃ i1 : Nat, v2 = nI i1 ∧ i1 < 160 ∧ (∃ i2 : Nat, v2 = nI i2 ∧ i2 < 160 ∧ (∃ (x5 : Int32) (M3 : mI) (N4 : mJ), mrc D 209 [.ref 46, .int (MI 56 i1), .int (MI 57 i2)] MI ML (some (.int x5)) M3 N4 ∧ (Q (some (.int x5)) M3 N4)))) :
    VX11_ruled_36 D Q v2 MI ML := by
  show mEx D TX11_ruled (mqS Q) (36, [some (.ref 46), none, some (.int v2)], [], (W0, Sh0, MI, ML))
  refine x_st rfl ?_
  refine x_st rfl ?_
  refine x_gr (ci := 11) (k := 15) (nx := 41) rfl sh_46 rfl ?_
  refine x_st rfl ?_
  obtain ⟨i1, hx, hi, h⟩ := h
  refine x_ia (i := i1) (nx := 43) rfl sh_56 hx hi (by decide) ?_
  refine x_st rfl ?_
  refine x_gr (ci := 11) (k := 16) (nx := 47) rfl sh_46 rfl ?_
  refine x_st rfl ?_
  obtain ⟨i2, hx, hi, h⟩ := h
  refine x_ia (i := i2) (nx := 49) rfl sh_57 hx hi (by decide) ?_
  obtain ⟨x5, M3, N4, hc, h⟩ := h
  refine x_vi (y := 209) (n := 2) (ci := 11) (nx := 52) rfl (fun _ => rfl) sh_46 rfl hc ?_
  refine x_ret rfl ?_
  exact ⟨_, _, rfl, h⟩
theorem EX11_ruled {D : Nat} {Q : Option Value → mI → mJ → Prop}  {MI : mI} {ML : mJ} (h : VX11_ruled_0 D Q  MI ML) : ∃ v MI' ML', Q v MI' ML' ∧ mrc (D + 1) 210 [.ref 46] MI ML v MI' ML' := by
  refine x_en (n := 2) (T := TX11_ruled) rfl rfl ?_
  refine x_kl ?_ h
  exact ⟨Or.inr rfl, ⟨Or.inl rfl, ⟨Or.inl rfl, True.intro⟩⟩⟩
def VX11_thinks_0 (D : Nat) (Q : Option Value → mI → mJ → Prop)  (MI : mI) (ML : mJ) : Prop := mEx D TX11_thinks (mqS Q) (0, [some (.ref 46), none], [], (W0, Sh0, MI, ML))
def VX11_thinks_2 (D : Nat) (Q : Option Value → mI → mJ → Prop)  (v1 : Int32) (MI : mI) (ML : mJ) : Prop := mEx D TX11_thinks (mqS Q) (2, [some (.ref 46), some (.int v1)], [], (W0, Sh0, MI, ML))
theorem BX11_thinks_0 {D : Nat} {Q : Option Value → mI → mJ → Prop}  {MI : mI} {ML : mJ} 
    (h : VX11_thinks_2 D Q (nI 0) MI ML) :
    VX11_thinks_0 D Q  MI ML := by
  show mEx D TX11_thinks (mqS Q) (0, [some (.ref 46), none], [], (W0, Sh0, MI, ML))
  refine x_st rfl ?_
  refine x_st rfl ?_
  refine x_kl ?_ h
  exact ⟨Or.inr rfl, ⟨Or.inr rfl, True.intro⟩⟩
theorem BX11_thinks_2 {D : Nat} {Q : Option Value → mI → mJ → Prop}  {v1 : Int32} {MI : mI} {ML : mJ} 
    (h : ((nI 84) ≤ v1 → Q none MI ML) ∧ (¬ (nI 84) ≤ v1 → ∃ i1 : Nat, v1 = nI i1 ∧ i1 < 84 ∧ (∃ i2 : Nat, v1 = nI i2 ∧ i2 < 84 ∧ (VX11_thinks_2 D Q (v1 + (nI 1)) (mup MI 61 (mput (MI 61) i2 (MI 47 i1))) ML)))) :
    VX11_thinks_2 D Q v1 MI ML := by
  show mEx D TX11_thinks (mqS Q) (2, [some (.ref 46), some (.int v1)], [], (W0, Sh0, MI, ML))
  refine x_st rfl ?_
  refine x_st rfl ?_
  refine x_br rfl (fun c => ?_) (fun c => ?_)
  · replace h := h.1 c
    refine x_ret rfl ?_
    exact ⟨_, _, rfl, h⟩
  · replace h := h.2 c
    refine x_st rfl ?_
    refine x_gr (ci := 11) (k := 24) (nx := 12) rfl sh_46 rfl ?_
    refine x_st rfl ?_
    refine x_st rfl ?_
    refine x_gr (ci := 11) (k := 0) (nx := 17) rfl sh_46 rfl ?_
    refine x_st rfl ?_
    obtain ⟨i1, hx, hi, h⟩ := h
    refine x_ia (i := i1) (nx := 19) rfl sh_47 hx hi (by decide) ?_
    obtain ⟨i2, hx, hi, h⟩ := h
    refine x_iast (i := i2) (nx := 20) rfl sh_61 hx hi (by decide) ?_
    refine x_st rfl ?_
    refine x_st rfl ?_
    refine x_kl ?_ h
    exact ⟨Or.inr rfl, ⟨Or.inr rfl, True.intro⟩⟩
theorem EX11_thinks {D : Nat} {Q : Option Value → mI → mJ → Prop}  {MI : mI} {ML : mJ} (h : VX11_thinks_0 D Q  MI ML) : ∃ v MI' ML', Q v MI' ML' ∧ mrc (D + 1) 211 [.ref 46] MI ML v MI' ML' := by
  refine x_en (n := 1) (T := TX11_thinks) rfl rfl ?_
  refine x_kl ?_ h
  exact ⟨Or.inr rfl, ⟨Or.inl rfl, True.intro⟩⟩
def VX11_friendOf_0 (D : Nat) (Q : Option Value → mI → mJ → Prop)  (v1 : Int32) (v2 : Int32) (MI : mI) (ML : mJ) : Prop := mEx D TX11_friendOf (mqS Q) (0, [some (.ref 46), some (.int v1), some (.int v2), none, none, none], [], (W0, Sh0, MI, ML))
def VX11_friendOf_5 (D : Nat) (Q : Option Value → mI → mJ → Prop)  (v1 : Int32) (v2 : Int32) (v3 : Int32) (v4 : Int32) (MI : mI) (ML : mJ) : Prop := mEx D TX11_friendOf (mqS Q) (5, [some (.ref 46), some (.int v1), some (.int v2), some (.int v3), some (.int v4), none], [], (W0, Sh0, MI, ML))
def VX11_friendOf_45 (D : Nat) (Q : Option Value → mI → mJ → Prop)  (v1 : Int32) (v2 : Int32) (v3 : Int32) (v4 : Int32) (s0 : Int32) (MI : mI) (ML : mJ) : Prop := mEx D TX11_friendOf (mqS Q) (45, [some (.ref 46), some (.int v1), some (.int v2), some (.int v3), some (.int v4), none], [.int s0], (W0, Sh0, MI, ML))
theorem BX11_friendOf_0 {D : Nat} {Q : Option Value → mI → mJ → Prop}  {v1 : Int32} {v2 : Int32} {MI : mI} {ML : mJ} 
    (h : VX11_friendOf_5 D Q v1 v2 (-1 : Int32) (nI 0) MI ML) :
    VX11_friendOf_0 D Q v1 v2 MI ML := by
  show mEx D TX11_friendOf (mqS Q) (0, [some (.ref 46), some (.int v1), some (.int v2), none, none, none], [], (W0, Sh0, MI, ML))
  refine x_st rfl ?_
  refine x_st rfl ?_
  refine x_st rfl ?_
  refine x_st rfl ?_
  refine x_kl ?_ h
  exact ⟨Or.inr rfl, ⟨Or.inr rfl, ⟨Or.inr rfl, ⟨Or.inr rfl, ⟨Or.inr rfl, ⟨Or.inl rfl, True.intro⟩⟩⟩⟩⟩⟩
theorem BX11_friendOf_5 {D : Nat} {Q : Option Value → mI → mJ → Prop}  {v1 : Int32} {v2 : Int32} {v3 : Int32} {v4 : Int32} {MI : mI} {ML : mJ} 
    (h : ((MI 46 6) ≤ v4 → Q (some (.int v3)) MI ML) ∧ (¬ (MI 46 6) ≤ v4 → (v4 = v1 → VX11_friendOf_45 D Q v1 v2 v3 v4 (nI 0) MI ML) ∧ (¬ v4 = v1 → (v4 = v2 → VX11_friendOf_45 D Q v1 v2 v3 v4 (nI 0) MI ML) ∧ (¬ v4 = v2 → ∃ (x3 : Int32) (M1 : mI) (N2 : mJ), mrc D 184 [.int v4, .int v1] MI ML (some (.int x3)) M1 N2 ∧ (∃ i4 : Nat, x3 = nI i4 ∧ i4 < 84 ∧ (((M1 61 i4) ≤ nI 0 → VX11_friendOf_45 D Q v1 v2 v3 v4 (nI 0) M1 N2) ∧ (¬ (M1 61 i4) ≤ nI 0 → VX11_friendOf_45 D Q v1 v2 v3 v4 (nI 1) M1 N2))))))) :
    VX11_friendOf_5 D Q v1 v2 v3 v4 MI ML := by
  show mEx D TX11_friendOf (mqS Q) (5, [some (.ref 46), some (.int v1), some (.int v2), some (.int v3), some (.int v4), none], [], (W0, Sh0, MI, ML))
  refine x_st rfl ?_
  refine x_st rfl ?_
  refine x_gi (ci := 11) (k := 6) (nx := 11) rfl sh_46 rfl ?_
  refine x_br rfl (fun c => ?_) (fun c => ?_)
  · replace h := h.1 c
    refine x_st rfl ?_
    refine x_ret rfl ?_
    exact ⟨_, _, rfl, h⟩
  · replace h := h.2 c
    refine x_st rfl ?_
    refine x_st rfl ?_
    refine x_br rfl (fun c => ?_) (fun c => ?_)
    · replace h := h.1 c
      refine x_st rfl ?_
      refine x_kl ?_ h
      exact ⟨Or.inr rfl, ⟨Or.inr rfl, ⟨Or.inr rfl, ⟨Or.inr rfl, ⟨Or.inr rfl, ⟨Or.inl rfl, True.intro⟩⟩⟩⟩⟩⟩
    · replace h := h.2 c
      refine x_st rfl ?_
      refine x_st rfl ?_
      refine x_br rfl (fun c => ?_) (fun c => ?_)
      · replace h := h.1 c
        refine x_st rfl ?_
        refine x_kl ?_ h
        exact ⟨Or.inr rfl, ⟨Or.inr rfl, ⟨Or.inr rfl, ⟨Or.inr rfl, ⟨Or.inr rfl, ⟨Or.inl rfl, True.intro⟩⟩⟩⟩⟩⟩
      · replace h := h.2 c
        refine x_st rfl ?_
        refine x_gr (ci := 11) (k := 24) (nx := 30) rfl sh_46 rfl ?_
        refine x_st rfl ?_
        refine x_st rfl ?_
        obtain ⟨x3, M1, N2, hc, h⟩ := h
        refine x_ci rfl hc ?_
        obtain ⟨i4, hx, hi, h⟩ := h
        refine x_ia (i := i4) (nx := 37) rfl sh_61 hx hi (by decide) ?_
        refine x_br rfl (fun c => ?_) (fun c => ?_)
        · replace h := h.1 c
          refine x_st rfl ?_
          refine x_kl ?_ h
          exact ⟨Or.inr rfl, ⟨Or.inr rfl, ⟨Or.inr rfl, ⟨Or.inr rfl, ⟨Or.inr rfl, ⟨Or.inl rfl, True.intro⟩⟩⟩⟩⟩⟩
        · replace h := h.2 c
          refine x_st rfl ?_
          refine x_st rfl ?_
          refine x_kl ?_ h
          exact ⟨Or.inr rfl, ⟨Or.inr rfl, ⟨Or.inr rfl, ⟨Or.inr rfl, ⟨Or.inr rfl, ⟨Or.inl rfl, True.intro⟩⟩⟩⟩⟩⟩
theorem BX11_friendOf_45 {D : Nat} {Q : Option Value → mI → mJ → Prop}  {v1 : Int32} {v2 : Int32} {v3 : Int32} {v4 : Int32} {s0 : Int32} {MI : mI} {ML : mJ} 
    (h : (s0 = nI 0 → VX11_friendOf_5 D Q v1 v2 v3 (v4 + (nI 1)) MI ML) ∧ (¬ s0 = nI 0 → (v3 = (-1 : Int32) → VX11_friendOf_5 D Q v1 v2 v4 (v4 + (nI 1)) MI ML) ∧ (¬ v3 = (-1 : Int32) → ∃ (x3 : Int32) (M1 : mI) (N2 : mJ), mrc D 184 [.int v4, .int v1] MI ML (some (.int x3)) M1 N2 ∧ (∃ i4 : Nat, x3 = nI i4 ∧ i4 < 84 ∧ (∃ (x7 : Int32) (M5 : mI) (N6 : mJ), mrc D 184 [.int v3, .int v1] M1 N2 (some (.int x7)) M5 N6 ∧ (∃ i8 : Nat, x7 = nI i8 ∧ i8 < 84 ∧ (((M1 61 i4) ≤ (M5 61 i8) → VX11_friendOf_5 D Q v1 v2 v3 (v4 + (nI 1)) M5 N6) ∧ (¬ (M1 61 i4) ≤ (M5 61 i8) → VX11_friendOf_5 D Q v1 v2 v4 (v4 + (nI 1)) M5 N6)))))))) :
    VX11_friendOf_45 D Q v1 v2 v3 v4 s0 MI ML := by
  show mEx D TX11_friendOf (mqS Q) (45, [some (.ref 46), some (.int v1), some (.int v2), some (.int v3), some (.int v4), none], [.int s0], (W0, Sh0, MI, ML))
  refine x_st rfl ?_
  refine x_st rfl ?_
  refine x_br rfl (fun c => ?_) (fun c => ?_)
  · replace h := h.1 c
    refine x_st rfl ?_
    refine x_st rfl ?_
    refine x_kl ?_ h
    exact ⟨Or.inr rfl, ⟨Or.inr rfl, ⟨Or.inr rfl, ⟨Or.inr rfl, ⟨Or.inr rfl, ⟨Or.inl rfl, True.intro⟩⟩⟩⟩⟩⟩
  · replace h := h.2 c
    refine x_st rfl ?_
    refine x_st rfl ?_
    refine x_br rfl (fun c => ?_) (fun c => ?_)
    · replace h := h.1 c
      refine x_st rfl ?_
      refine x_st rfl ?_
      refine x_st rfl ?_
      refine x_st rfl ?_
      refine x_kl ?_ h
      exact ⟨Or.inr rfl, ⟨Or.inr rfl, ⟨Or.inr rfl, ⟨Or.inr rfl, ⟨Or.inr rfl, ⟨Or.inl rfl, True.intro⟩⟩⟩⟩⟩⟩
    · replace h := h.2 c
      refine x_st rfl ?_
      refine x_gr (ci := 11) (k := 24) (nx := 61) rfl sh_46 rfl ?_
      refine x_st rfl ?_
      refine x_st rfl ?_
      obtain ⟨x3, M1, N2, hc, h⟩ := h
      refine x_ci rfl hc ?_
      obtain ⟨i4, hx, hi, h⟩ := h
      refine x_ia (i := i4) (nx := 68) rfl sh_61 hx hi (by decide) ?_
      refine x_st rfl ?_
      refine x_gr (ci := 11) (k := 24) (nx := 72) rfl sh_46 rfl ?_
      refine x_st rfl ?_
      refine x_st rfl ?_
      obtain ⟨x7, M5, N6, hc, h⟩ := h
      refine x_ci rfl hc ?_
      obtain ⟨i8, hx, hi, h⟩ := h
      refine x_ia (i := i8) (nx := 78) rfl sh_61 hx hi (by decide) ?_
      refine x_br rfl (fun c => ?_) (fun c => ?_)
      · replace h := h.1 c
        refine x_st rfl ?_
        refine x_st rfl ?_
        refine x_kl ?_ h
        exact ⟨Or.inr rfl, ⟨Or.inr rfl, ⟨Or.inr rfl, ⟨Or.inr rfl, ⟨Or.inr rfl, ⟨Or.inl rfl, True.intro⟩⟩⟩⟩⟩⟩
      · replace h := h.2 c
        refine x_st rfl ?_
        refine x_st rfl ?_
        refine x_st rfl ?_
        refine x_st rfl ?_
        refine x_kl ?_ h
        exact ⟨Or.inr rfl, ⟨Or.inr rfl, ⟨Or.inr rfl, ⟨Or.inr rfl, ⟨Or.inr rfl, ⟨Or.inl rfl, True.intro⟩⟩⟩⟩⟩⟩
theorem EX11_friendOf {D : Nat} {Q : Option Value → mI → mJ → Prop}  {v1 : Int32} {v2 : Int32} {MI : mI} {ML : mJ} (h : VX11_friendOf_0 D Q v1 v2 MI ML) : ∃ v MI' ML', Q v MI' ML' ∧ mrc (D + 1) 212 [.ref 46, .int v1, .int v2] MI ML v MI' ML' := by
  refine x_en (n := 3) (T := TX11_friendOf) rfl rfl ?_
  refine x_kl ?_ h
  exact ⟨Or.inr rfl, ⟨Or.inr rfl, ⟨Or.inr rfl, ⟨Or.inl rfl, ⟨Or.inl rfl, ⟨Or.inl rfl, True.intro⟩⟩⟩⟩⟩⟩
def VX11_weighedOut_0 (D : Nat) (Q : Option Value → mI → mJ → Prop)  (v1 : Int32) (v2 : Int32) (v3 : Int32) (v4 : Int32) (MI : mI) (ML : mJ) : Prop := mEx D TX11_weighedOut (mqS Q) (0, [some (.ref 46), some (.int v1), some (.int v2), some (.int v3), some (.int v4), none, none], [], (W0, Sh0, MI, ML))
def VX11_weighedOut_115 (D : Nat) (Q : Option Value → mI → mJ → Prop)  (v6 : Int32) (MI : mI) (ML : mJ) : Prop := mEx D TX11_weighedOut (mqS Q) (115, [none, none, none, none, none, none, some (.int v6)], [], (W0, Sh0, MI, ML))
theorem BX11_weighedOut_0 {D : Nat} {Q : Option Value → mI → mJ → Prop}  {v1 : Int32} {v2 : Int32} {v3 : Int32} {v4 : Int32} {MI : mI} {ML : mJ} 
    (h : ∃ (x3 : Int32) (M1 : mI) (N2 : mJ), mrc D 184 [.int v1, .int v2] MI ML (some (.int x3)) M1 N2 ∧ (∃ i4 : Nat, x3 = nI i4 ∧ i4 < 84 ∧ (∃ i5 : Nat, ((nI 8) + v2) = nI i5 ∧ i5 < 84 ∧ (((M1 46 17) ≤ nI 0 → VX11_weighedOut_115 D Q (((nI 8) + (M1 61 i5)) - (-(M1 61 i4))) M1 N2) ∧ (¬ (M1 46 17) ≤ nI 0 → ∃ (x8 : Int32) (M6 : mI) (N7 : mJ), mrc D 184 [.int v3, .int v2] (mup M1 59 (mput (M1 59) 0 (-(M1 61 i4)))) N2 (some (.int x8)) M6 N7 ∧ (∃ i9 : Nat, x8 = nI i9 ∧ i9 < 84 ∧ (∃ i10 : Nat, v2 = nI i10 ∧ i10 < 84 ∧ (∃ i11 : Nat, ((nI 8) + v2) = nI i11 ∧ i11 < 84 ∧ (∃ (x14 : Int32) (M12 : mI) (N13 : mJ), mrc D 210 [.ref 46] (mup (mup (mup (mup (mup M6 59 (mput (M6 59) 1 (M6 61 i9))) 59 (mput ((mup M6 59 (mput (M6 59) 1 (M6 61 i9))) 59) 2 ((mup M6 59 (mput (M6 59) 1 (M6 61 i9))) 61 i10))) 59 (mput ((mup (mup M6 59 (mput (M6 59) 1 (M6 61 i9))) 59 (mput ((mup M6 59 (mput (M6 59) 1 (M6 61 i9))) 59) 2 ((mup M6 59 (mput (M6 59) 1 (M6 61 i9))) 61 i10))) 59) 3 ((mup (mup M6 59 (mput (M6 59) 1 (M6 61 i9))) 59 (mput ((mup M6 59 (mput (M6 59) 1 (M6 61 i9))) 59) 2 ((mup M6 59 (mput (M6 59) 1 (M6 61 i9))) 61 i10))) 61 i11))) 59 (mput ((mup (mup (mup M6 59 (mput (M6 59) 1 (M6 61 i9))) 59 (mput ((mup M6 59 (mput (M6 59) 1 (M6 61 i9))) 59) 2 ((mup M6 59 (mput (M6 59) 1 (M6 61 i9))) 61 i10))) 59 (mput ((mup (mup M6 59 (mput (M6 59) 1 (M6 61 i9))) 59 (mput ((mup M6 59 (mput (M6 59) 1 (M6 61 i9))) 59) 2 ((mup M6 59 (mput (M6 59) 1 (M6 61 i9))) 61 i10))) 59) 3 ((mup (mup M6 59 (mput (M6 59) 1 (M6 61 i9))) 59 (mput ((mup M6 59 (mput (M6 59) 1 (M6 61 i9))) 59) 2 ((mup M6 59 (mput (M6 59) 1 (M6 61 i9))) 61 i10))) 61 i11))) 59) 4 ((mup (mup (mup M6 59 (mput (M6 59) 1 (M6 61 i9))) 59 (mput ((mup M6 59 (mput (M6 59) 1 (M6 61 i9))) 59) 2 ((mup M6 59 (mput (M6 59) 1 (M6 61 i9))) 61 i10))) 59 (mput ((mup (mup M6 59 (mput (M6 59) 1 (M6 61 i9))) 59 (mput ((mup M6 59 (mput (M6 59) 1 (M6 61 i9))) 59) 2 ((mup M6 59 (mput (M6 59) 1 (M6 61 i9))) 61 i10))) 59) 3 ((mup (mup M6 59 (mput (M6 59) 1 (M6 61 i9))) 59 (mput ((mup M6 59 (mput (M6 59) 1 (M6 61 i9))) 59) 2 ((mup M6 59 (mput (M6 59) 1 (M6 61 i9))) 61 i10))) 61 i11))) 61 19))) 59 (mput ((mup (mup (mup (mup M6 59 (mput (M6 59) 1 (M6 61 i9))) 59 (mput ((mup M6 59 (mput (M6 59) 1 (M6 61 i9))) 59) 2 ((mup M6 59 (mput (M6 59) 1 (M6 61 i9))) 61 i10))) 59 (mput ((mup (mup M6 59 (mput (M6 59) 1 (M6 61 i9))) 59 (mput ((mup M6 59 (mput (M6 59) 1 (M6 61 i9))) 59) 2 ((mup M6 59 (mput (M6 59) 1 (M6 61 i9))) 61 i10))) 59) 3 ((mup (mup M6 59 (mput (M6 59) 1 (M6 61 i9))) 59 (mput ((mup M6 59 (mput (M6 59) 1 (M6 61 i9))) 59) 2 ((mup M6 59 (mput (M6 59) 1 (M6 61 i9))) 61 i10))) 61 i11))) 59 (mput ((mup (mup (mup M6 59 (mput (M6 59) 1 (M6 61 i9))) 59 (mput ((mup M6 59 (mput (M6 59) 1 (M6 61 i9))) 59) 2 ((mup M6 59 (mput (M6 59) 1 (M6 61 i9))) 61 i10))) 59 (mput ((mup (mup M6 59 (mput (M6 59) 1 (M6 61 i9))) 59 (mput ((mup M6 59 (mput (M6 59) 1 (M6 61 i9))) 59) 2 ((mup M6 59 (mput (M6 59) 1 (M6 61 i9))) 61 i10))) 59) 3 ((mup (mup M6 59 (mput (M6 59) 1 (M6 61 i9))) 59 (mput ((mup M6 59 (mput (M6 59) 1 (M6 61 i9))) 59) 2 ((mup M6 59 (mput (M6 59) 1 (M6 61 i9))) 61 i10))) 61 i11))) 59) 4 ((mup (mup (mup M6 59 (mput (M6 59) 1 (M6 61 i9))) 59 (mput ((mup M6 59 (mput (M6 59) 1 (M6 61 i9))) 59) 2 ((mup M6 59 (mput (M6 59) 1 (M6 61 i9))) 61 i10))) 59 (mput ((mup (mup M6 59 (mput (M6 59) 1 (M6 61 i9))) 59 (mput ((mup M6 59 (mput (M6 59) 1 (M6 61 i9))) 59) 2 ((mup M6 59 (mput (M6 59) 1 (M6 61 i9))) 61 i10))) 59) 3 ((mup (mup M6 59 (mput (M6 59) 1 (M6 61 i9))) 59 (mput ((mup M6 59 (mput (M6 59) 1 (M6 61 i9))) 59) 2 ((mup M6 59 (mput (M6 59) 1 (M6 61 i9))) 61 i10))) 61 i11))) 61 19))) 59) 5 v4)) N7 (some (.int x14)) M12 N13 ∧ (VX11_weighedOut_115 D Q x14 M12 N13)))))))))) :
    VX11_weighedOut_0 D Q v1 v2 v3 v4 MI ML := by
  show mEx D TX11_weighedOut (mqS Q) (0, [some (.ref 46), some (.int v1), some (.int v2), some (.int v3), some (.int v4), none, none], [], (W0, Sh0, MI, ML))
  refine x_st rfl ?_
  refine x_gr (ci := 11) (k := 24) (nx := 4) rfl sh_46 rfl ?_
  refine x_st rfl ?_
  refine x_st rfl ?_
  obtain ⟨x3, M1, N2, hc, h⟩ := h
  refine x_ci rfl hc ?_
  obtain ⟨i4, hx, hi, h⟩ := h
  refine x_ia (i := i4) (nx := 10) rfl sh_61 hx hi (by decide) ?_
  refine x_st rfl ?_
  refine x_st rfl ?_
  refine x_st rfl ?_
  refine x_st rfl ?_
  refine x_gr (ci := 11) (k := 24) (nx := 19) rfl sh_46 rfl ?_
  refine x_st rfl ?_
  refine x_st rfl ?_
  refine x_st rfl ?_
  obtain ⟨i5, hx, hi, h⟩ := h
  refine x_ia (i := i5) (nx := 24) rfl sh_61 hx hi (by decide) ?_
  refine x_st rfl ?_
  refine x_st rfl ?_
  refine x_st rfl ?_
  refine x_st rfl ?_
  refine x_st rfl ?_
  refine x_gi (ci := 11) (k := 17) (nx := 34) rfl sh_46 rfl ?_
  refine x_br rfl (fun c => ?_) (fun c => ?_)
  · replace h := h.1 c
    refine x_kl ?_ h
    exact ⟨Or.inl rfl, ⟨Or.inl rfl, ⟨Or.inl rfl, ⟨Or.inl rfl, ⟨Or.inl rfl, ⟨Or.inl rfl, ⟨Or.inr rfl, True.intro⟩⟩⟩⟩⟩⟩⟩
  · replace h := h.2 c
    refine x_st rfl ?_
    refine x_gr (ci := 11) (k := 22) (nx := 41) rfl sh_46 rfl ?_
    refine x_st rfl ?_
    refine x_st rfl ?_
    refine x_iast (i := 0) (nx := 45) rfl sh_59 rfl (by decide) (by decide) ?_
    refine x_st rfl ?_
    refine x_gr (ci := 11) (k := 22) (nx := 49) rfl sh_46 rfl ?_
    refine x_st rfl ?_
    refine x_st rfl ?_
    refine x_gr (ci := 11) (k := 24) (nx := 54) rfl sh_46 rfl ?_
    refine x_st rfl ?_
    refine x_st rfl ?_
    obtain ⟨x8, M6, N7, hc, h⟩ := h
    refine x_ci rfl hc ?_
    obtain ⟨i9, hx, hi, h⟩ := h
    refine x_ia (i := i9) (nx := 60) rfl sh_61 hx hi (by decide) ?_
    refine x_iast (i := 1) (nx := 61) rfl sh_59 rfl (by decide) (by decide) ?_
    refine x_st rfl ?_
    refine x_gr (ci := 11) (k := 22) (nx := 65) rfl sh_46 rfl ?_
    refine x_st rfl ?_
    refine x_st rfl ?_
    refine x_gr (ci := 11) (k := 24) (nx := 70) rfl sh_46 rfl ?_
    refine x_st rfl ?_
    obtain ⟨i10, hx, hi, h⟩ := h
    refine x_ia (i := i10) (nx := 72) rfl sh_61 hx hi (by decide) ?_
    refine x_iast (i := 2) (nx := 73) rfl sh_59 rfl (by decide) (by decide) ?_
    refine x_st rfl ?_
    refine x_gr (ci := 11) (k := 22) (nx := 77) rfl sh_46 rfl ?_
    refine x_st rfl ?_
    refine x_st rfl ?_
    refine x_gr (ci := 11) (k := 24) (nx := 82) rfl sh_46 rfl ?_
    refine x_st rfl ?_
    refine x_st rfl ?_
    refine x_st rfl ?_
    obtain ⟨i11, hx, hi, h⟩ := h
    refine x_ia (i := i11) (nx := 87) rfl sh_61 hx hi (by decide) ?_
    refine x_iast (i := 3) (nx := 88) rfl sh_59 rfl (by decide) (by decide) ?_
    refine x_st rfl ?_
    refine x_gr (ci := 11) (k := 22) (nx := 92) rfl sh_46 rfl ?_
    refine x_st rfl ?_
    refine x_st rfl ?_
    refine x_gr (ci := 11) (k := 24) (nx := 97) rfl sh_46 rfl ?_
    refine x_st rfl ?_
    refine x_ia (i := 19) (nx := 100) rfl sh_61 rfl (by decide) (by decide) ?_
    refine x_iast (i := 4) (nx := 101) rfl sh_59 rfl (by decide) (by decide) ?_
    refine x_st rfl ?_
    refine x_gr (ci := 11) (k := 22) (nx := 105) rfl sh_46 rfl ?_
    refine x_st rfl ?_
    refine x_st rfl ?_
    refine x_iast (i := 5) (nx := 109) rfl sh_59 rfl (by decide) (by decide) ?_
    refine x_st rfl ?_
    obtain ⟨x14, M12, N13, hc, h⟩ := h
    refine x_vi (y := 210) (n := 0) (ci := 11) (nx := 113) rfl (fun _ => rfl) sh_46 rfl hc ?_
    refine x_st rfl ?_
    refine x_kl ?_ h
    exact ⟨Or.inl rfl, ⟨Or.inl rfl, ⟨Or.inl rfl, ⟨Or.inl rfl, ⟨Or.inl rfl, ⟨Or.inl rfl, ⟨Or.inr rfl, True.intro⟩⟩⟩⟩⟩⟩⟩
theorem BX11_weighedOut_115 {D : Nat} {Q : Option Value → mI → mJ → Prop}  {v6 : Int32} {MI : mI} {ML : mJ} 
    (h : (nI 0 ≤ v6 → (v6 ≤ (nI 50) → Q (some (.int v6)) MI ML) ∧ (¬ v6 ≤ (nI 50) → Q (some (.int (nI 50))) MI ML)) ∧ (¬ nI 0 ≤ v6 → Q (some (.int (nI 0))) MI ML)) :
    VX11_weighedOut_115 D Q v6 MI ML := by
  show mEx D TX11_weighedOut (mqS Q) (115, [none, none, none, none, none, none, some (.int v6)], [], (W0, Sh0, MI, ML))
  refine x_st rfl ?_
  refine x_br rfl (fun c => ?_) (fun c => ?_)
  · replace h := h.1 c
    refine x_st rfl ?_
    refine x_st rfl ?_
    refine x_br rfl (fun c => ?_) (fun c => ?_)
    · replace h := h.1 c
      refine x_st rfl ?_
      refine x_ret rfl ?_
      exact ⟨_, _, rfl, h⟩
    · replace h := h.2 c
      refine x_st rfl ?_
      refine x_st rfl ?_
      refine x_ret rfl ?_
      exact ⟨_, _, rfl, h⟩
  · replace h := h.2 c
    refine x_st rfl ?_
    refine x_st rfl ?_
    refine x_ret rfl ?_
    exact ⟨_, _, rfl, h⟩
theorem EX11_weighedOut {D : Nat} {Q : Option Value → mI → mJ → Prop}  {v1 : Int32} {v2 : Int32} {v3 : Int32} {v4 : Int32} {MI : mI} {ML : mJ} (h : VX11_weighedOut_0 D Q v1 v2 v3 v4 MI ML) : ∃ v MI' ML', Q v MI' ML' ∧ mrc (D + 1) 213 [.ref 46, .int v1, .int v2, .int v3, .int v4] MI ML v MI' ML' := by
  refine x_en (n := 2) (T := TX11_weighedOut) rfl rfl ?_
  refine x_kl ?_ h
  exact ⟨Or.inr rfl, ⟨Or.inr rfl, ⟨Or.inr rfl, ⟨Or.inr rfl, ⟨Or.inr rfl, ⟨Or.inl rfl, ⟨Or.inl rfl, True.intro⟩⟩⟩⟩⟩⟩⟩
def VX11_nextBuyer_0 (D : Nat) (Q : Option Value → mI → mJ → Prop)  (MI : mI) (ML : mJ) : Prop := mEx D TX11_nextBuyer (mqS Q) (0, [some (.ref 46), none, none], [], (W0, Sh0, MI, ML))
def VX11_nextBuyer_4 (D : Nat) (Q : Option Value → mI → mJ → Prop)  (v1 : Int32) (v2 : Int32) (MI : mI) (ML : mJ) : Prop := mEx D TX11_nextBuyer (mqS Q) (4, [some (.ref 46), some (.int v1), some (.int v2)], [], (W0, Sh0, MI, ML))
theorem BX11_nextBuyer_0 {D : Nat} {Q : Option Value → mI → mJ → Prop}  {MI : mI} {ML : mJ} 
    (h : VX11_nextBuyer_4 D Q (-1 : Int32) (nI 0) MI ML) :
    VX11_nextBuyer_0 D Q  MI ML := by
  show mEx D TX11_nextBuyer (mqS Q) (0, [some (.ref 46), none, none], [], (W0, Sh0, MI, ML))
  refine x_st rfl ?_
  refine x_st rfl ?_
  refine x_st rfl ?_
  refine x_st rfl ?_
  refine x_kl ?_ h
  exact ⟨Or.inr rfl, ⟨Or.inr rfl, ⟨Or.inr rfl, True.intro⟩⟩⟩
theorem BX11_nextBuyer_4 {D : Nat} {Q : Option Value → mI → mJ → Prop}  {v1 : Int32} {v2 : Int32} {MI : mI} {ML : mJ} 
    (h : ((MI 46 6) ≤ v2 → Q (some (.int v1)) MI ML) ∧ (¬ (MI 46 6) ≤ v2 → ∃ i1 : Nat, v2 = nI i1 ∧ i1 < 8 ∧ (((MI 63 i1) = nI 0 → (v1 = (-1 : Int32) → VX11_nextBuyer_4 D Q v2 (v2 + (nI 1)) MI ML) ∧ (¬ v1 = (-1 : Int32) → ∃ i2 : Nat, v2 = nI i2 ∧ i2 < 84 ∧ (∃ i3 : Nat, v1 = nI i3 ∧ i3 < 84 ∧ (((MI 61 i2) ≤ (MI 61 i3) → VX11_nextBuyer_4 D Q v1 (v2 + (nI 1)) MI ML) ∧ (¬ (MI 61 i2) ≤ (MI 61 i3) → VX11_nextBuyer_4 D Q v2 (v2 + (nI 1)) MI ML))))) ∧ (¬ (MI 63 i1) = nI 0 → VX11_nextBuyer_4 D Q v1 (v2 + (nI 1)) MI ML)))) :
    VX11_nextBuyer_4 D Q v1 v2 MI ML := by
  show mEx D TX11_nextBuyer (mqS Q) (4, [some (.ref 46), some (.int v1), some (.int v2)], [], (W0, Sh0, MI, ML))
  refine x_st rfl ?_
  refine x_st rfl ?_
  refine x_gi (ci := 11) (k := 6) (nx := 9) rfl sh_46 rfl ?_
  refine x_br rfl (fun c => ?_) (fun c => ?_)
  · replace h := h.1 c
    refine x_st rfl ?_
    refine x_ret rfl ?_
    exact ⟨_, _, rfl, h⟩
  · replace h := h.2 c
    refine x_st rfl ?_
    refine x_gr (ci := 11) (k := 26) (nx := 16) rfl sh_46 rfl ?_
    refine x_st rfl ?_
    obtain ⟨i1, hx, hi, h⟩ := h
    refine x_za (i := i1) (nx := 18) rfl sh_63 hx hi (by decide) ?_
    refine x_br rfl (fun c => ?_) (fun c => ?_)
    · replace h := h.1 c
      refine x_st rfl ?_
      refine x_st rfl ?_
      refine x_br rfl (fun c => ?_) (fun c => ?_)
      · replace h := h.1 c
        refine x_st rfl ?_
        refine x_st rfl ?_
        refine x_st rfl ?_
        refine x_st rfl ?_
        refine x_kl ?_ h
        exact ⟨Or.inr rfl, ⟨Or.inr rfl, ⟨Or.inr rfl, True.intro⟩⟩⟩
      · replace h := h.2 c
        refine x_st rfl ?_
        refine x_gr (ci := 11) (k := 24) (nx := 30) rfl sh_46 rfl ?_
        refine x_st rfl ?_
        obtain ⟨i2, hx, hi, h⟩ := h
        refine x_ia (i := i2) (nx := 32) rfl sh_61 hx hi (by decide) ?_
        refine x_st rfl ?_
        refine x_gr (ci := 11) (k := 24) (nx := 36) rfl sh_46 rfl ?_
        refine x_st rfl ?_
        obtain ⟨i3, hx, hi, h⟩ := h
        refine x_ia (i := i3) (nx := 38) rfl sh_61 hx hi (by decide) ?_
        refine x_br rfl (fun c => ?_) (fun c => ?_)
        · replace h := h.1 c
          refine x_st rfl ?_
          refine x_st rfl ?_
          refine x_kl ?_ h
          exact ⟨Or.inr rfl, ⟨Or.inr rfl, ⟨Or.inr rfl, True.intro⟩⟩⟩
        · replace h := h.2 c
          refine x_st rfl ?_
          refine x_st rfl ?_
          refine x_st rfl ?_
          refine x_st rfl ?_
          refine x_kl ?_ h
          exact ⟨Or.inr rfl, ⟨Or.inr rfl, ⟨Or.inr rfl, True.intro⟩⟩⟩
    · replace h := h.2 c
      refine x_st rfl ?_
      refine x_st rfl ?_
      refine x_kl ?_ h
      exact ⟨Or.inr rfl, ⟨Or.inr rfl, ⟨Or.inr rfl, True.intro⟩⟩⟩
theorem EX11_nextBuyer {D : Nat} {Q : Option Value → mI → mJ → Prop}  {MI : mI} {ML : mJ} (h : VX11_nextBuyer_0 D Q  MI ML) : ∃ v MI' ML', Q v MI' ML' ∧ mrc (D + 1) 214 [.ref 46] MI ML v MI' ML' := by
  refine x_en (n := 2) (T := TX11_nextBuyer) rfl rfl ?_
  refine x_kl ?_ h
  exact ⟨Or.inr rfl, ⟨Or.inl rfl, ⟨Or.inl rfl, True.intro⟩⟩⟩
def VX11_buys_0 (D : Nat) (Q : Option Value → mI → mJ → Prop)  (v1 : Int32) (MI : mI) (ML : mJ) : Prop := mEx D TX11_buys (mqS Q) (0, [some (.ref 46), some (.int v1), none, none, none, none, none, none], [], (W0, Sh0, MI, ML))
def VX11_buys_10 (D : Nat) (Q : Option Value → mI → mJ → Prop)  (v1 : Int32) (v2 : Int32) (v3 : Int32) (v4 : Int32) (v5 : Int32) (MI : mI) (ML : mJ) : Prop := mEx D TX11_buys (mqS Q) (10, [some (.ref 46), some (.int v1), some (.int v2), some (.int v3), some (.int v4), some (.int v5), none, none], [], (W0, Sh0, MI, ML))
def VX11_buys_168 (D : Nat) (Q : Option Value → mI → mJ → Prop)  (v1 : Int32) (v2 : Int32) (v3 : Int32) (v4 : Int32) (s1 : Int32) (s2 : Int32) (MI : mI) (ML : mJ) : Prop := mEx D TX11_buys (mqS Q) (168, [some (.ref 46), some (.int v1), some (.int v2), some (.int v3), some (.int v4), none, none, none], [.int s2, .int s1, .ref 61], (W0, Sh0, MI, ML))
theorem BX11_buys_0 {D : Nat} {Q : Option Value → mI → mJ → Prop}  {v1 : Int32} {MI : mI} {ML : mJ} 
    (h : VX11_buys_10 D Q v1 (-1 : Int32) (-1 : Int32) (-1 : Int32) (nI 0) MI ML) :
    VX11_buys_0 D Q v1 MI ML := by
  show mEx D TX11_buys (mqS Q) (0, [some (.ref 46), some (.int v1), none, none, none, none, none, none], [], (W0, Sh0, MI, ML))
  refine x_st rfl ?_
  refine x_st rfl ?_
  refine x_st rfl ?_
  refine x_st rfl ?_
  refine x_st rfl ?_
  refine x_st rfl ?_
  refine x_st rfl ?_
  refine x_st rfl ?_
  refine x_kl ?_ h
  exact ⟨Or.inr rfl, ⟨Or.inr rfl, ⟨Or.inr rfl, ⟨Or.inr rfl, ⟨Or.inr rfl, ⟨Or.inr rfl, ⟨Or.inl rfl, ⟨Or.inl rfl, True.intro⟩⟩⟩⟩⟩⟩⟩⟩
theorem BX11_buys_10 {D : Nat} {Q : Option Value → mI → mJ → Prop}  {v1 : Int32} {v2 : Int32} {v3 : Int32} {v4 : Int32} {v5 : Int32} {MI : mI} {ML : mJ} 
    (h : ((MI 46 6) ≤ v5 → (v2 = (-1 : Int32) → Q none MI ML) ∧ (¬ v2 = (-1 : Int32) → ∃ i1 : Nat, v1 = nI i1 ∧ i1 < 8 ∧ (∃ i2 : Nat, v2 = nI i2 ∧ i2 < 8 ∧ (∃ i3 : Nat, v1 = nI i3 ∧ i3 < 8 ∧ (∃ i4 : Nat, v1 = nI i4 ∧ i4 < 84 ∧ ((((mup (mup (mup (mup MI 62 (mput (MI 62) i1 ((nI 1) &&& 1))) 64 (mput ((mup MI 62 (mput (MI 62) i1 ((nI 1) &&& 1))) 64) i2 ((nI 1) &&& 1))) 65 (mput ((mup (mup MI 62 (mput (MI 62) i1 ((nI 1) &&& 1))) 64 (mput ((mup MI 62 (mput (MI 62) i1 ((nI 1) &&& 1))) 64) i2 ((nI 1) &&& 1))) 65) i3 v2)) 46 (mput ((mup (mup (mup MI 62 (mput (MI 62) i1 ((nI 1) &&& 1))) 64 (mput ((mup MI 62 (mput (MI 62) i1 ((nI 1) &&& 1))) 64) i2 ((nI 1) &&& 1))) 65 (mput ((mup (mup MI 62 (mput (MI 62) i1 ((nI 1) &&& 1))) 64 (mput ((mup MI 62 (mput (MI 62) i1 ((nI 1) &&& 1))) 64) i2 ((nI 1) &&& 1))) 65) i3 v2)) 46) 29 (((mup (mup (mup MI 62 (mput (MI 62) i1 ((nI 1) &&& 1))) 64 (mput ((mup MI 62 (mput (MI 62) i1 ((nI 1) &&& 1))) 64) i2 ((nI 1) &&& 1))) 65 (mput ((mup (mup MI 62 (mput (MI 62) i1 ((nI 1) &&& 1))) 64 (mput ((mup MI 62 (mput (MI 62) i1 ((nI 1) &&& 1))) 64) i2 ((nI 1) &&& 1))) 65) i3 v2)) 46 29) + (nI 1)))) 61 i4) ≤ v3 → VX11_buys_168 D Q v1 v2 v3 v4 v1 (nI 0) (mup (mup (mup (mup MI 62 (mput (MI 62) i1 ((nI 1) &&& 1))) 64 (mput ((mup MI 62 (mput (MI 62) i1 ((nI 1) &&& 1))) 64) i2 ((nI 1) &&& 1))) 65 (mput ((mup (mup MI 62 (mput (MI 62) i1 ((nI 1) &&& 1))) 64 (mput ((mup MI 62 (mput (MI 62) i1 ((nI 1) &&& 1))) 64) i2 ((nI 1) &&& 1))) 65) i3 v2)) 46 (mput ((mup (mup (mup MI 62 (mput (MI 62) i1 ((nI 1) &&& 1))) 64 (mput ((mup MI 62 (mput (MI 62) i1 ((nI 1) &&& 1))) 64) i2 ((nI 1) &&& 1))) 65 (mput ((mup (mup MI 62 (mput (MI 62) i1 ((nI 1) &&& 1))) 64 (mput ((mup MI 62 (mput (MI 62) i1 ((nI 1) &&& 1))) 64) i2 ((nI 1) &&& 1))) 65) i3 v2)) 46) 29 (((mup (mup (mup MI 62 (mput (MI 62) i1 ((nI 1) &&& 1))) 64 (mput ((mup MI 62 (mput (MI 62) i1 ((nI 1) &&& 1))) 64) i2 ((nI 1) &&& 1))) 65 (mput ((mup (mup MI 62 (mput (MI 62) i1 ((nI 1) &&& 1))) 64 (mput ((mup MI 62 (mput (MI 62) i1 ((nI 1) &&& 1))) 64) i2 ((nI 1) &&& 1))) 65) i3 v2)) 46 29) + (nI 1)))) ML) ∧ (¬ ((mup (mup (mup (mup MI 62 (mput (MI 62) i1 ((nI 1) &&& 1))) 64 (mput ((mup MI 62 (mput (MI 62) i1 ((nI 1) &&& 1))) 64) i2 ((nI 1) &&& 1))) 65 (mput ((mup (mup MI 62 (mput (MI 62) i1 ((nI 1) &&& 1))) 64 (mput ((mup MI 62 (mput (MI 62) i1 ((nI 1) &&& 1))) 64) i2 ((nI 1) &&& 1))) 65) i3 v2)) 46 (mput ((mup (mup (mup MI 62 (mput (MI 62) i1 ((nI 1) &&& 1))) 64 (mput ((mup MI 62 (mput (MI 62) i1 ((nI 1) &&& 1))) 64) i2 ((nI 1) &&& 1))) 65 (mput ((mup (mup MI 62 (mput (MI 62) i1 ((nI 1) &&& 1))) 64 (mput ((mup MI 62 (mput (MI 62) i1 ((nI 1) &&& 1))) 64) i2 ((nI 1) &&& 1))) 65) i3 v2)) 46) 29 (((mup (mup (mup MI 62 (mput (MI 62) i1 ((nI 1) &&& 1))) 64 (mput ((mup MI 62 (mput (MI 62) i1 ((nI 1) &&& 1))) 64) i2 ((nI 1) &&& 1))) 65 (mput ((mup (mup MI 62 (mput (MI 62) i1 ((nI 1) &&& 1))) 64 (mput ((mup MI 62 (mput (MI 62) i1 ((nI 1) &&& 1))) 64) i2 ((nI 1) &&& 1))) 65) i3 v2)) 46 29) + (nI 1)))) 61 i4) ≤ v3 → ∃ i5 : Nat, v1 = nI i5 ∧ i5 < 84 ∧ (VX11_buys_168 D Q v1 v2 v3 v4 v1 (((mup (mup (mup (mup MI 62 (mput (MI 62) i1 ((nI 1) &&& 1))) 64 (mput ((mup MI 62 (mput (MI 62) i1 ((nI 1) &&& 1))) 64) i2 ((nI 1) &&& 1))) 65 (mput ((mup (mup MI 62 (mput (MI 62) i1 ((nI 1) &&& 1))) 64 (mput ((mup MI 62 (mput (MI 62) i1 ((nI 1) &&& 1))) 64) i2 ((nI 1) &&& 1))) 65) i3 v2)) 46 (mput ((mup (mup (mup MI 62 (mput (MI 62) i1 ((nI 1) &&& 1))) 64 (mput ((mup MI 62 (mput (MI 62) i1 ((nI 1) &&& 1))) 64) i2 ((nI 1) &&& 1))) 65 (mput ((mup (mup MI 62 (mput (MI 62) i1 ((nI 1) &&& 1))) 64 (mput ((mup MI 62 (mput (MI 62) i1 ((nI 1) &&& 1))) 64) i2 ((nI 1) &&& 1))) 65) i3 v2)) 46) 29 (((mup (mup (mup MI 62 (mput (MI 62) i1 ((nI 1) &&& 1))) 64 (mput ((mup MI 62 (mput (MI 62) i1 ((nI 1) &&& 1))) 64) i2 ((nI 1) &&& 1))) 65 (mput ((mup (mup MI 62 (mput (MI 62) i1 ((nI 1) &&& 1))) 64 (mput ((mup MI 62 (mput (MI 62) i1 ((nI 1) &&& 1))) 64) i2 ((nI 1) &&& 1))) 65) i3 v2)) 46 29) + (nI 1)))) 61 i5) - v3) (mup (mup (mup (mup MI 62 (mput (MI 62) i1 ((nI 1) &&& 1))) 64 (mput ((mup MI 62 (mput (MI 62) i1 ((nI 1) &&& 1))) 64) i2 ((nI 1) &&& 1))) 65 (mput ((mup (mup MI 62 (mput (MI 62) i1 ((nI 1) &&& 1))) 64 (mput ((mup MI 62 (mput (MI 62) i1 ((nI 1) &&& 1))) 64) i2 ((nI 1) &&& 1))) 65) i3 v2)) 46 (mput ((mup (mup (mup MI 62 (mput (MI 62) i1 ((nI 1) &&& 1))) 64 (mput ((mup MI 62 (mput (MI 62) i1 ((nI 1) &&& 1))) 64) i2 ((nI 1) &&& 1))) 65 (mput ((mup (mup MI 62 (mput (MI 62) i1 ((nI 1) &&& 1))) 64 (mput ((mup MI 62 (mput (MI 62) i1 ((nI 1) &&& 1))) 64) i2 ((nI 1) &&& 1))) 65) i3 v2)) 46) 29 (((mup (mup (mup MI 62 (mput (MI 62) i1 ((nI 1) &&& 1))) 64 (mput ((mup MI 62 (mput (MI 62) i1 ((nI 1) &&& 1))) 64) i2 ((nI 1) &&& 1))) 65 (mput ((mup (mup MI 62 (mput (MI 62) i1 ((nI 1) &&& 1))) 64 (mput ((mup MI 62 (mput (MI 62) i1 ((nI 1) &&& 1))) 64) i2 ((nI 1) &&& 1))) 65) i3 v2)) 46 29) + (nI 1)))) ML)))))))) ∧ (¬ (MI 46 6) ≤ v5 → ∃ (x8 : Int32) (M6 : mI) (N7 : mJ), mrc D 212 [.ref 46, .int v1, .int v5] MI ML (some (.int x8)) M6 N7 ∧ ((v5 = v1 → VX11_buys_10 D Q v1 v2 v3 v4 (v5 + (nI 1)) M6 N7) ∧ (¬ v5 = v1 → ∃ (x11 : Int32) (M9 : mI) (N10 : mJ), mrc D 184 [.int v5, .int v1] M6 N7 (some (.int x11)) M9 N10 ∧ (∃ i12 : Nat, x11 = nI i12 ∧ i12 < 84 ∧ ((nI 0 ≤ (M9 61 i12) → VX11_buys_10 D Q v1 v2 v3 v4 (v5 + (nI 1)) M9 N10) ∧ (¬ nI 0 ≤ (M9 61 i12) → ∃ i13 : Nat, v5 = nI i13 ∧ i13 < 8 ∧ (((M9 64 i13) = nI 0 → (x8 = (-1 : Int32) → VX11_buys_10 D Q v1 v2 v3 v4 (v5 + (nI 1)) M9 N10) ∧ (¬ x8 = (-1 : Int32) → ∃ (x16 : Int32) (M14 : mI) (N15 : mJ), mrc D 213 [.ref 46, .int v5, .int v1, .int x8, .int (M9 46 29)] M9 N10 (some (.int x16)) M14 N15 ∧ ((x16 ≤ v3 → VX11_buys_10 D Q v1 v2 v3 v4 (v5 + (nI 1)) M14 N15) ∧ (¬ x16 ≤ v3 → VX11_buys_10 D Q v1 v5 x16 x8 (v5 + (nI 1)) M14 N15)))) ∧ (¬ (M9 64 i13) = nI 0 → VX11_buys_10 D Q v1 v2 v3 v4 (v5 + (nI 1)) M9 N10))))))))) :
    VX11_buys_10 D Q v1 v2 v3 v4 v5 MI ML := by
  show mEx D TX11_buys (mqS Q) (10, [some (.ref 46), some (.int v1), some (.int v2), some (.int v3), some (.int v4), some (.int v5), none, none], [], (W0, Sh0, MI, ML))
  refine x_st rfl ?_
  refine x_st rfl ?_
  refine x_gi (ci := 11) (k := 6) (nx := 16) rfl sh_46 rfl ?_
  refine x_br rfl (fun c => ?_) (fun c => ?_)
  · replace h := h.1 c
    refine x_st rfl ?_
    refine x_st rfl ?_
    refine x_br rfl (fun c => ?_) (fun c => ?_)
    · replace h := h.1 c
      refine x_ret rfl ?_
      exact ⟨_, _, rfl, h⟩
    · replace h := h.2 c
      refine x_st rfl ?_
      refine x_gr (ci := 11) (k := 25) (nx := 114) rfl sh_46 rfl ?_
      refine x_st rfl ?_
      refine x_st rfl ?_
      obtain ⟨i1, hx, hi, h⟩ := h
      refine x_zast (i := i1) (nx := 117) rfl sh_62 hx hi (by decide) ?_
      refine x_st rfl ?_
      refine x_gr (ci := 11) (k := 27) (nx := 121) rfl sh_46 rfl ?_
      refine x_st rfl ?_
      refine x_st rfl ?_
      obtain ⟨i2, hx, hi, h⟩ := h
      refine x_zast (i := i2) (nx := 124) rfl sh_64 hx hi (by decide) ?_
      refine x_st rfl ?_
      refine x_gr (ci := 11) (k := 28) (nx := 128) rfl sh_46 rfl ?_
      refine x_st rfl ?_
      refine x_st rfl ?_
      obtain ⟨i3, hx, hi, h⟩ := h
      refine x_iast (i := i3) (nx := 131) rfl sh_65 hx hi (by decide) ?_
      refine x_st rfl ?_
      refine x_st rfl ?_
      refine x_gi (ci := 11) (k := 29) (nx := 136) rfl sh_46 rfl ?_
      refine x_st rfl ?_
      refine x_st rfl ?_
      refine x_pi (ci := 11) (k := 29) (nx := 141) rfl sh_46 rfl ?_
      refine x_st rfl ?_
      refine x_gr (ci := 11) (k := 24) (nx := 145) rfl sh_46 rfl ?_
      refine x_st rfl ?_
      refine x_st rfl ?_
      refine x_gr (ci := 11) (k := 24) (nx := 150) rfl sh_46 rfl ?_
      refine x_st rfl ?_
      obtain ⟨i4, hx, hi, h⟩ := h
      refine x_ia (i := i4) (nx := 152) rfl sh_61 hx hi (by decide) ?_
      refine x_st rfl ?_
      refine x_br rfl (fun c => ?_) (fun c => ?_)
      · replace h := h.1 c
        refine x_st rfl ?_
        refine x_kl ?_ h
        exact ⟨Or.inr rfl, ⟨Or.inr rfl, ⟨Or.inr rfl, ⟨Or.inr rfl, ⟨Or.inr rfl, ⟨Or.inl rfl, ⟨Or.inl rfl, ⟨Or.inl rfl, True.intro⟩⟩⟩⟩⟩⟩⟩⟩
      · replace h := h.2 c
        refine x_st rfl ?_
        refine x_gr (ci := 11) (k := 24) (nx := 160) rfl sh_46 rfl ?_
        refine x_st rfl ?_
        obtain ⟨i5, hx, hi, h⟩ := h
        refine x_ia (i := i5) (nx := 162) rfl sh_61 hx hi (by decide) ?_
        refine x_st rfl ?_
        refine x_st rfl ?_
        refine x_st rfl ?_
        refine x_kl ?_ h
        exact ⟨Or.inr rfl, ⟨Or.inr rfl, ⟨Or.inr rfl, ⟨Or.inr rfl, ⟨Or.inr rfl, ⟨Or.inl rfl, ⟨Or.inl rfl, ⟨Or.inl rfl, True.intro⟩⟩⟩⟩⟩⟩⟩⟩
  · replace h := h.2 c
    refine x_st rfl ?_
    refine x_st rfl ?_
    refine x_st rfl ?_
    obtain ⟨x8, M6, N7, hc, h⟩ := h
    refine x_vi (y := 212) (n := 2) (ci := 11) (nx := 26) rfl (fun _ => rfl) sh_46 rfl hc ?_
    refine x_st rfl ?_
    refine x_st rfl ?_
    refine x_st rfl ?_
    refine x_br rfl (fun c => ?_) (fun c => ?_)
    · replace h := h.1 c
      refine x_st rfl ?_
      refine x_st rfl ?_
      refine x_kl ?_ h
      exact ⟨Or.inr rfl, ⟨Or.inr rfl, ⟨Or.inr rfl, ⟨Or.inr rfl, ⟨Or.inr rfl, ⟨Or.inr rfl, ⟨Or.inl rfl, ⟨Or.inl rfl, True.intro⟩⟩⟩⟩⟩⟩⟩⟩
    · replace h := h.2 c
      refine x_st rfl ?_
      refine x_gr (ci := 11) (k := 24) (nx := 38) rfl sh_46 rfl ?_
      refine x_st rfl ?_
      refine x_st rfl ?_
      obtain ⟨x11, M9, N10, hc, h⟩ := h
      refine x_ci rfl hc ?_
      obtain ⟨i12, hx, hi, h⟩ := h
      refine x_ia (i := i12) (nx := 45) rfl sh_61 hx hi (by decide) ?_
      refine x_br rfl (fun c => ?_) (fun c => ?_)
      · replace h := h.1 c
        refine x_st rfl ?_
        refine x_st rfl ?_
        refine x_kl ?_ h
        exact ⟨Or.inr rfl, ⟨Or.inr rfl, ⟨Or.inr rfl, ⟨Or.inr rfl, ⟨Or.inr rfl, ⟨Or.inr rfl, ⟨Or.inl rfl, ⟨Or.inl rfl, True.intro⟩⟩⟩⟩⟩⟩⟩⟩
      · replace h := h.2 c
        refine x_st rfl ?_
        refine x_gr (ci := 11) (k := 27) (nx := 52) rfl sh_46 rfl ?_
        refine x_st rfl ?_
        obtain ⟨i13, hx, hi, h⟩ := h
        refine x_za (i := i13) (nx := 55) rfl sh_64 hx hi (by decide) ?_
        refine x_br rfl (fun c => ?_) (fun c => ?_)
        · replace h := h.1 c
          refine x_st rfl ?_
          refine x_st rfl ?_
          refine x_br rfl (fun c => ?_) (fun c => ?_)
          · replace h := h.1 c
            refine x_st rfl ?_
            refine x_st rfl ?_
            refine x_st rfl ?_
            refine x_kl ?_ h
            exact ⟨Or.inr rfl, ⟨Or.inr rfl, ⟨Or.inr rfl, ⟨Or.inr rfl, ⟨Or.inr rfl, ⟨Or.inr rfl, ⟨Or.inl rfl, ⟨Or.inl rfl, True.intro⟩⟩⟩⟩⟩⟩⟩⟩
          · replace h := h.2 c
            refine x_st rfl ?_
            refine x_st rfl ?_
            refine x_st rfl ?_
            refine x_st rfl ?_
            refine x_st rfl ?_
            refine x_gi (ci := 11) (k := 29) (nx := 77) rfl sh_46 rfl ?_
            obtain ⟨x16, M14, N15, hc, h⟩ := h
            refine x_vi (y := 213) (n := 4) (ci := 11) (nx := 80) rfl (fun _ => rfl) sh_46 rfl hc ?_
            refine x_st rfl ?_
            refine x_st rfl ?_
            refine x_st rfl ?_
            refine x_br rfl (fun c => ?_) (fun c => ?_)
            · replace h := h.1 c
              refine x_st rfl ?_
              refine x_st rfl ?_
              refine x_kl ?_ h
              exact ⟨Or.inr rfl, ⟨Or.inr rfl, ⟨Or.inr rfl, ⟨Or.inr rfl, ⟨Or.inr rfl, ⟨Or.inr rfl, ⟨Or.inl rfl, ⟨Or.inl rfl, True.intro⟩⟩⟩⟩⟩⟩⟩⟩
            · replace h := h.2 c
              refine x_st rfl ?_
              refine x_st rfl ?_
              refine x_st rfl ?_
              refine x_st rfl ?_
              refine x_st rfl ?_
              refine x_st rfl ?_
              refine x_st rfl ?_
              refine x_st rfl ?_
              refine x_kl ?_ h
              exact ⟨Or.inr rfl, ⟨Or.inr rfl, ⟨Or.inr rfl, ⟨Or.inr rfl, ⟨Or.inr rfl, ⟨Or.inr rfl, ⟨Or.inl rfl, ⟨Or.inl rfl, True.intro⟩⟩⟩⟩⟩⟩⟩⟩
        · replace h := h.2 c
          refine x_st rfl ?_
          refine x_st rfl ?_
          refine x_kl ?_ h
          exact ⟨Or.inr rfl, ⟨Or.inr rfl, ⟨Or.inr rfl, ⟨Or.inr rfl, ⟨Or.inr rfl, ⟨Or.inr rfl, ⟨Or.inl rfl, ⟨Or.inl rfl, True.intro⟩⟩⟩⟩⟩⟩⟩⟩
theorem BX11_buys_168 {D : Nat} {Q : Option Value → mI → mJ → Prop}  {v1 : Int32} {v2 : Int32} {v3 : Int32} {v4 : Int32} {s1 : Int32} {s2 : Int32} {MI : mI} {ML : mJ} 
    (h : ∃ i1 : Nat, s1 = nI i1 ∧ i1 < 84 ∧ (∃ (x4 : Int32) (M2 : mI) (N3 : mJ), mrc D 184 [.int v2, .int v1] (mup MI 61 (mput (MI 61) i1 s2)) ML (some (.int x4)) M2 N3 ∧ (∃ (x7 : Int32) (M5 : mI) (N6 : mJ), mrc D 184 [.int v2, .int v1] M2 N3 (some (.int x7)) M5 N6 ∧ (∃ i8 : Nat, x7 = nI i8 ∧ i8 < 84 ∧ (∃ i9 : Nat, x4 = nI i9 ∧ i9 < 84 ∧ ((((mup M5 61 (mput (M5 61) i9 (if ((M5 61 i8) + (M5 61 16)) < (nI 9) then ((M5 61 i8) + (M5 61 16)) else (nI 9)))) 46 30) = nI 0 → Q none (mup M5 61 (mput (M5 61) i9 (if ((M5 61 i8) + (M5 61 16)) < (nI 9) then ((M5 61 i8) + (M5 61 16)) else (nI 9)))) N6) ∧ (¬ ((mup M5 61 (mput (M5 61) i9 (if ((M5 61 i8) + (M5 61 16)) < (nI 9) then ((M5 61 i8) + (M5 61 16)) else (nI 9)))) 46 30) = nI 0 → ∃ (M10 : mI) (N11 : mJ), mrc D 240 [.ref 46, .int v1, .int v2, .int v4, .int v3] (mup M5 61 (mput (M5 61) i9 (if ((M5 61 i8) + (M5 61 16)) < (nI 9) then ((M5 61 i8) + (M5 61 16)) else (nI 9)))) N6 none M10 N11 ∧ (Q none M10 N11)))))))) :
    VX11_buys_168 D Q v1 v2 v3 v4 s1 s2 MI ML := by
  show mEx D TX11_buys (mqS Q) (168, [some (.ref 46), some (.int v1), some (.int v2), some (.int v3), some (.int v4), none, none, none], [.int s2, .int s1, .ref 61], (W0, Sh0, MI, ML))
  obtain ⟨i1, hx, hi, h⟩ := h
  refine x_iast (i := i1) (nx := 169) rfl sh_61 hx hi (by decide) ?_
  refine x_st rfl ?_
  refine x_gr (ci := 11) (k := 24) (nx := 173) rfl sh_46 rfl ?_
  refine x_st rfl ?_
  refine x_st rfl ?_
  obtain ⟨x4, M2, N3, hc, h⟩ := h
  refine x_ci rfl hc ?_
  refine x_st rfl ?_
  refine x_st rfl ?_
  refine x_gr (ci := 11) (k := 24) (nx := 184) rfl sh_46 rfl ?_
  refine x_st rfl ?_
  refine x_st rfl ?_
  obtain ⟨x7, M5, N6, hc, h⟩ := h
  refine x_ci rfl hc ?_
  obtain ⟨i8, hx, hi, h⟩ := h
  refine x_ia (i := i8) (nx := 190) rfl sh_61 hx hi (by decide) ?_
  refine x_st rfl ?_
  refine x_gr (ci := 11) (k := 24) (nx := 194) rfl sh_46 rfl ?_
  refine x_st rfl ?_
  refine x_ia (i := 16) (nx := 197) rfl sh_61 rfl (by decide) (by decide) ?_
  refine x_st rfl ?_
  refine x_st rfl ?_
  obtain ⟨i9, hx, hi, h⟩ := h
  refine x_iast (i := i9) (nx := 202) rfl sh_61 hx hi (by decide) ?_
  refine x_st rfl ?_
  refine x_gi (ci := 11) (k := 30) (nx := 206) rfl sh_46 rfl ?_
  refine x_br rfl (fun c => ?_) (fun c => ?_)
  · replace h := h.1 c
    refine x_ret rfl ?_
    exact ⟨_, _, rfl, h⟩
  · replace h := h.2 c
    refine x_st rfl ?_
    refine x_st rfl ?_
    refine x_st rfl ?_
    refine x_st rfl ?_
    refine x_st rfl ?_
    obtain ⟨M10, N11, hc, h⟩ := h
    refine x_vv (y := 240) (n := 4) (ci := 11) (nx := 218) rfl (fun _ => rfl) sh_46 rfl hc ?_
    refine x_ret rfl ?_
    exact ⟨_, _, rfl, h⟩
theorem EX11_buys {D : Nat} {Q : Option Value → mI → mJ → Prop}  {v1 : Int32} {MI : mI} {ML : mJ} (h : VX11_buys_0 D Q v1 MI ML) : ∃ v MI' ML', Q v MI' ML' ∧ mrc (D + 1) 215 [.ref 46, .int v1] MI ML v MI' ML' := by
  refine x_en (n := 6) (T := TX11_buys) rfl rfl ?_
  refine x_kl ?_ h
  exact ⟨Or.inr rfl, ⟨Or.inr rfl, ⟨Or.inl rfl, ⟨Or.inl rfl, ⟨Or.inl rfl, ⟨Or.inl rfl, ⟨Or.inl rfl, ⟨Or.inl rfl, True.intro⟩⟩⟩⟩⟩⟩⟩⟩
def VX11_goesBy_0 (D : Nat) (Q : Option Value → mI → mJ → Prop)  (MI : mI) (ML : mJ) : Prop := mEx D TX11_goesBy (mqS Q) (0, [some (.ref 46), none, none], [], (W0, Sh0, MI, ML))
def VX11_goesBy_7 (D : Nat) (Q : Option Value → mI → mJ → Prop)  (v1 : Int32) (MI : mI) (ML : mJ) : Prop := mEx D TX11_goesBy (mqS Q) (7, [some (.ref 46), some (.int v1), none], [], (W0, Sh0, MI, ML))
def VX11_goesBy_52 (D : Nat) (Q : Option Value → mI → mJ → Prop)  (v1 : Int32) (MI : mI) (ML : mJ) : Prop := mEx D TX11_goesBy (mqS Q) (52, [some (.ref 46), some (.int v1), none], [], (W0, Sh0, MI, ML))
def VX11_goesBy_85 (D : Nat) (Q : Option Value → mI → mJ → Prop)  (v1 : Int32) (MI : mI) (ML : mJ) : Prop := mEx D TX11_goesBy (mqS Q) (85, [some (.ref 46), some (.int v1), none], [], (W0, Sh0, MI, ML))
def VX11_goesBy_185 (D : Nat) (Q : Option Value → mI → mJ → Prop)  (v1 : Int32) (MI : mI) (ML : mJ) : Prop := mEx D TX11_goesBy (mqS Q) (185, [some (.ref 46), some (.int v1), none], [], (W0, Sh0, MI, ML))
theorem BX11_goesBy_0 {D : Nat} {Q : Option Value → mI → mJ → Prop}  {MI : mI} {ML : mJ} 
    (h : VX11_goesBy_7 D Q (nI 0) (mup MI 46 (mput (MI 46) 29 (nI 0))) ML) :
    VX11_goesBy_0 D Q  MI ML := by
  show mEx D TX11_goesBy (mqS Q) (0, [some (.ref 46), none, none], [], (W0, Sh0, MI, ML))
  refine x_st rfl ?_
  refine x_st rfl ?_
  refine x_pi (ci := 11) (k := 29) (nx := 5) rfl sh_46 rfl ?_
  refine x_st rfl ?_
  refine x_st rfl ?_
  refine x_kl ?_ h
  exact ⟨Or.inr rfl, ⟨Or.inr rfl, ⟨Or.inl rfl, True.intro⟩⟩⟩
theorem BX11_goesBy_7 {D : Nat} {Q : Option Value → mI → mJ → Prop}  {v1 : Int32} {MI : mI} {ML : mJ} 
    (h : ((MI 46 6) ≤ v1 → VX11_goesBy_52 D Q (nI 0) MI ML) ∧ (¬ (MI 46 6) ≤ v1 → ∃ i1 : Nat, v1 = nI i1 ∧ i1 < 8 ∧ (∃ i2 : Nat, v1 = nI i2 ∧ i2 < 8 ∧ (∃ i3 : Nat, v1 = nI i3 ∧ i3 < 8 ∧ (∃ i4 : Nat, v1 = nI i4 ∧ i4 < 8 ∧ (VX11_goesBy_7 D Q (v1 + (nI 1)) (mup (mup (mup (mup MI 62 (mput (MI 62) i1 ((nI 0) &&& 1))) 63 (mput ((mup MI 62 (mput (MI 62) i1 ((nI 0) &&& 1))) 63) i2 ((nI 0) &&& 1))) 64 (mput ((mup (mup MI 62 (mput (MI 62) i1 ((nI 0) &&& 1))) 63 (mput ((mup MI 62 (mput (MI 62) i1 ((nI 0) &&& 1))) 63) i2 ((nI 0) &&& 1))) 64) i3 ((nI 0) &&& 1))) 65 (mput ((mup (mup (mup MI 62 (mput (MI 62) i1 ((nI 0) &&& 1))) 63 (mput ((mup MI 62 (mput (MI 62) i1 ((nI 0) &&& 1))) 63) i2 ((nI 0) &&& 1))) 64 (mput ((mup (mup MI 62 (mput (MI 62) i1 ((nI 0) &&& 1))) 63 (mput ((mup MI 62 (mput (MI 62) i1 ((nI 0) &&& 1))) 63) i2 ((nI 0) &&& 1))) 64) i3 ((nI 0) &&& 1))) 65) i4 (nI 8))) ML)))))) :
    VX11_goesBy_7 D Q v1 MI ML := by
  show mEx D TX11_goesBy (mqS Q) (7, [some (.ref 46), some (.int v1), none], [], (W0, Sh0, MI, ML))
  refine x_st rfl ?_
  refine x_st rfl ?_
  refine x_gi (ci := 11) (k := 6) (nx := 12) rfl sh_46 rfl ?_
  refine x_br rfl (fun c => ?_) (fun c => ?_)
  · replace h := h.1 c
    refine x_st rfl ?_
    refine x_st rfl ?_
    refine x_kl ?_ h
    exact ⟨Or.inr rfl, ⟨Or.inr rfl, ⟨Or.inl rfl, True.intro⟩⟩⟩
  · replace h := h.2 c
    refine x_st rfl ?_
    refine x_gr (ci := 11) (k := 25) (nx := 19) rfl sh_46 rfl ?_
    refine x_st rfl ?_
    refine x_st rfl ?_
    obtain ⟨i1, hx, hi, h⟩ := h
    refine x_zast (i := i1) (nx := 22) rfl sh_62 hx hi (by decide) ?_
    refine x_st rfl ?_
    refine x_gr (ci := 11) (k := 26) (nx := 26) rfl sh_46 rfl ?_
    refine x_st rfl ?_
    refine x_st rfl ?_
    obtain ⟨i2, hx, hi, h⟩ := h
    refine x_zast (i := i2) (nx := 29) rfl sh_63 hx hi (by decide) ?_
    refine x_st rfl ?_
    refine x_gr (ci := 11) (k := 27) (nx := 33) rfl sh_46 rfl ?_
    refine x_st rfl ?_
    refine x_st rfl ?_
    obtain ⟨i3, hx, hi, h⟩ := h
    refine x_zast (i := i3) (nx := 36) rfl sh_64 hx hi (by decide) ?_
    refine x_st rfl ?_
    refine x_gr (ci := 11) (k := 28) (nx := 40) rfl sh_46 rfl ?_
    refine x_st rfl ?_
    refine x_st rfl ?_
    obtain ⟨i4, hx, hi, h⟩ := h
    refine x_iast (i := i4) (nx := 44) rfl sh_65 hx hi (by decide) ?_
    refine x_st rfl ?_
    refine x_st rfl ?_
    refine x_kl ?_ h
    exact ⟨Or.inr rfl, ⟨Or.inr rfl, ⟨Or.inl rfl, True.intro⟩⟩⟩
theorem BX11_goesBy_52 {D : Nat} {Q : Option Value → mI → mJ → Prop}  {v1 : Int32} {MI : mI} {ML : mJ} 
    (h : ((MI 46 6) ≤ v1 → VX11_goesBy_85 D Q (nI 0) MI ML) ∧ (¬ (MI 46 6) ≤ v1 → ∃ (x3 : Int32) (M1 : mI) (N2 : mJ), mrc D 214 [.ref 46] MI ML (some (.int x3)) M1 N2 ∧ (∃ (M4 : mI) (N5 : mJ), mrc D 215 [.ref 46, .int x3] M1 N2 none M4 N5 ∧ (∃ i6 : Nat, x3 = nI i6 ∧ i6 < 8 ∧ (VX11_goesBy_52 D Q (v1 + (nI 1)) (mup M4 63 (mput (M4 63) i6 ((nI 1) &&& 1))) N5))))) :
    VX11_goesBy_52 D Q v1 MI ML := by
  show mEx D TX11_goesBy (mqS Q) (52, [some (.ref 46), some (.int v1), none], [], (W0, Sh0, MI, ML))
  refine x_st rfl ?_
  refine x_st rfl ?_
  refine x_gi (ci := 11) (k := 6) (nx := 57) rfl sh_46 rfl ?_
  refine x_br rfl (fun c => ?_) (fun c => ?_)
  · replace h := h.1 c
    refine x_st rfl ?_
    refine x_st rfl ?_
    refine x_kl ?_ h
    exact ⟨Or.inr rfl, ⟨Or.inr rfl, ⟨Or.inl rfl, True.intro⟩⟩⟩
  · replace h := h.2 c
    refine x_st rfl ?_
    obtain ⟨x3, M1, N2, hc, h⟩ := h
    refine x_vi (y := 214) (n := 0) (ci := 11) (nx := 64) rfl (fun _ => rfl) sh_46 rfl hc ?_
    refine x_st rfl ?_
    refine x_st rfl ?_
    refine x_st rfl ?_
    obtain ⟨M4, N5, hc, h⟩ := h
    refine x_vv (y := 215) (n := 1) (ci := 11) (nx := 70) rfl (fun _ => rfl) sh_46 rfl hc ?_
    refine x_st rfl ?_
    refine x_gr (ci := 11) (k := 26) (nx := 74) rfl sh_46 rfl ?_
    refine x_st rfl ?_
    refine x_st rfl ?_
    obtain ⟨i6, hx, hi, h⟩ := h
    refine x_zast (i := i6) (nx := 77) rfl sh_63 hx hi (by decide) ?_
    refine x_st rfl ?_
    refine x_st rfl ?_
    refine x_kl ?_ h
    exact ⟨Or.inr rfl, ⟨Or.inr rfl, ⟨Or.inl rfl, True.intro⟩⟩⟩
theorem BX11_goesBy_85 {D : Nat} {Q : Option Value → mI → mJ → Prop}  {v1 : Int32} {MI : mI} {ML : mJ} 
    (h : ((MI 46 6) ≤ v1 → (((mup MI 61 (mput (MI 61) 19 (if ((MI 61 19) + (nI 1)) < (nI 99) then ((MI 61 19) + (nI 1)) else (nI 99)))) 61 17) = nI 0 → Q none (mup MI 61 (mput (MI 61) 19 (if ((MI 61 19) + (nI 1)) < (nI 99) then ((MI 61 19) + (nI 1)) else (nI 99)))) ML) ∧ (¬ ((mup MI 61 (mput (MI 61) 19 (if ((MI 61 19) + (nI 1)) < (nI 99) then ((MI 61 19) + (nI 1)) else (nI 99)))) 61 17) = nI 0 → ¬ ((mup MI 61 (mput (MI 61) 19 (if ((MI 61 19) + (nI 1)) < (nI 99) then ((MI 61 19) + (nI 1)) else (nI 99)))) 61 17) = nI 0 ∧ (((((mup MI 61 (mput (MI 61) 19 (if ((MI 61 19) + (nI 1)) < (nI 99) then ((MI 61 19) + (nI 1)) else (nI 99)))) 61 19) - ((mup MI 61 (mput (MI 61) 19 (if ((MI 61 19) + (nI 1)) < (nI 99) then ((MI 61 19) + (nI 1)) else (nI 99)))) 61 19) / ((mup MI 61 (mput (MI 61) 19 (if ((MI 61 19) + (nI 1)) < (nI 99) then ((MI 61 19) + (nI 1)) else (nI 99)))) 61 17) * ((mup MI 61 (mput (MI 61) 19 (if ((MI 61 19) + (nI 1)) < (nI 99) then ((MI 61 19) + (nI 1)) else (nI 99)))) 61 17)) = nI 0 → VX11_goesBy_185 D Q (nI 20) (mup MI 61 (mput (MI 61) 19 (if ((MI 61 19) + (nI 1)) < (nI 99) then ((MI 61 19) + (nI 1)) else (nI 99)))) ML) ∧ (¬ (((mup MI 61 (mput (MI 61) 19 (if ((MI 61 19) + (nI 1)) < (nI 99) then ((MI 61 19) + (nI 1)) else (nI 99)))) 61 19) - ((mup MI 61 (mput (MI 61) 19 (if ((MI 61 19) + (nI 1)) < (nI 99) then ((MI 61 19) + (nI 1)) else (nI 99)))) 61 19) / ((mup MI 61 (mput (MI 61) 19 (if ((MI 61 19) + (nI 1)) < (nI 99) then ((MI 61 19) + (nI 1)) else (nI 99)))) 61 17) * ((mup MI 61 (mput (MI 61) 19 (if ((MI 61 19) + (nI 1)) < (nI 99) then ((MI 61 19) + (nI 1)) else (nI 99)))) 61 17)) = nI 0 → Q none (mup MI 61 (mput (MI 61) 19 (if ((MI 61 19) + (nI 1)) < (nI 99) then ((MI 61 19) + (nI 1)) else (nI 99)))) ML)))) ∧ (¬ (MI 46 6) ≤ v1 → ∃ i1 : Nat, v1 = nI i1 ∧ i1 < 8 ∧ (((MI 62 i1) = nI 0 → ∃ i2 : Nat, v1 = nI i2 ∧ i2 < 84 ∧ (∃ i3 : Nat, v1 = nI i3 ∧ i3 < 84 ∧ (VX11_goesBy_85 D Q (v1 + (nI 1)) (mup MI 61 (mput (MI 61) i3 (if ((MI 61 i2) + (MI 61 18)) < (nI 99) then ((MI 61 i2) + (MI 61 18)) else (nI 99)))) ML))) ∧ (¬ (MI 62 i1) = nI 0 → VX11_goesBy_85 D Q (v1 + (nI 1)) MI ML)))) :
    VX11_goesBy_85 D Q v1 MI ML := by
  show mEx D TX11_goesBy (mqS Q) (85, [some (.ref 46), some (.int v1), none], [], (W0, Sh0, MI, ML))
  refine x_st rfl ?_
  refine x_st rfl ?_
  refine x_gi (ci := 11) (k := 6) (nx := 90) rfl sh_46 rfl ?_
  refine x_br rfl (fun c => ?_) (fun c => ?_)
  · replace h := h.1 c
    refine x_st rfl ?_
    refine x_gr (ci := 11) (k := 24) (nx := 137) rfl sh_46 rfl ?_
    refine x_st rfl ?_
    refine x_st rfl ?_
    refine x_st rfl ?_
    refine x_gr (ci := 11) (k := 24) (nx := 145) rfl sh_46 rfl ?_
    refine x_st rfl ?_
    refine x_ia (i := 19) (nx := 148) rfl sh_61 rfl (by decide) (by decide) ?_
    refine x_st rfl ?_
    refine x_st rfl ?_
    refine x_st rfl ?_
    refine x_iast (i := 19) (nx := 154) rfl sh_61 rfl (by decide) (by decide) ?_
    refine x_st rfl ?_
    refine x_gr (ci := 11) (k := 24) (nx := 158) rfl sh_46 rfl ?_
    refine x_st rfl ?_
    refine x_ia (i := 17) (nx := 161) rfl sh_61 rfl (by decide) (by decide) ?_
    refine x_br rfl (fun c => ?_) (fun c => ?_)
    · replace h := h.1 c
      refine x_ret rfl ?_
      exact ⟨_, _, rfl, h⟩
    · replace h := h.2 c
      refine x_st rfl ?_
      refine x_gr (ci := 11) (k := 24) (nx := 168) rfl sh_46 rfl ?_
      refine x_st rfl ?_
      refine x_ia (i := 19) (nx := 171) rfl sh_61 rfl (by decide) (by decide) ?_
      refine x_st rfl ?_
      refine x_gr (ci := 11) (k := 24) (nx := 175) rfl sh_46 rfl ?_
      refine x_st rfl ?_
      refine x_ia (i := 17) (nx := 178) rfl sh_61 rfl (by decide) (by decide) ?_
      refine x_ck rfl h.1 ?_
      have h := h.2
      refine x_br rfl (fun c => ?_) (fun c => ?_)
      · replace h := h.1 c
        refine x_st rfl ?_
        refine x_st rfl ?_
        refine x_kl ?_ h
        exact ⟨Or.inr rfl, ⟨Or.inr rfl, ⟨Or.inl rfl, True.intro⟩⟩⟩
      · replace h := h.2 c
        refine x_ret rfl ?_
        exact ⟨_, _, rfl, h⟩
  · replace h := h.2 c
    refine x_st rfl ?_
    refine x_gr (ci := 11) (k := 25) (nx := 97) rfl sh_46 rfl ?_
    refine x_st rfl ?_
    obtain ⟨i1, hx, hi, h⟩ := h
    refine x_za (i := i1) (nx := 99) rfl sh_62 hx hi (by decide) ?_
    refine x_br rfl (fun c => ?_) (fun c => ?_)
    · replace h := h.1 c
      refine x_st rfl ?_
      refine x_gr (ci := 11) (k := 24) (nx := 106) rfl sh_46 rfl ?_
      refine x_st rfl ?_
      refine x_st rfl ?_
      refine x_st rfl ?_
      refine x_gr (ci := 11) (k := 24) (nx := 113) rfl sh_46 rfl ?_
      refine x_st rfl ?_
      obtain ⟨i2, hx, hi, h⟩ := h
      refine x_ia (i := i2) (nx := 115) rfl sh_61 hx hi (by decide) ?_
      refine x_st rfl ?_
      refine x_gr (ci := 11) (k := 24) (nx := 119) rfl sh_46 rfl ?_
      refine x_st rfl ?_
      refine x_ia (i := 18) (nx := 122) rfl sh_61 rfl (by decide) (by decide) ?_
      refine x_st rfl ?_
      refine x_st rfl ?_
      obtain ⟨i3, hx, hi, h⟩ := h
      refine x_iast (i := i3) (nx := 127) rfl sh_61 hx hi (by decide) ?_
      refine x_st rfl ?_
      refine x_st rfl ?_
      refine x_kl ?_ h
      exact ⟨Or.inr rfl, ⟨Or.inr rfl, ⟨Or.inl rfl, True.intro⟩⟩⟩
    · replace h := h.2 c
      refine x_st rfl ?_
      refine x_st rfl ?_
      refine x_kl ?_ h
      exact ⟨Or.inr rfl, ⟨Or.inr rfl, ⟨Or.inl rfl, True.intro⟩⟩⟩
theorem BX11_goesBy_185 {D : Nat} {Q : Option Value → mI → mJ → Prop}  {v1 : Int32} {MI : mI} {ML : mJ} 
    (h : ((nI 84) ≤ v1 → Q none MI ML) ∧ (¬ (nI 84) ≤ v1 → ∃ i1 : Nat, v1 = nI i1 ∧ i1 < 84 ∧ (∃ i2 : Nat, v1 = nI i2 ∧ i2 < 84 ∧ (((MI 61 i2) ≤ nI 0 → ∃ i3 : Nat, v1 = nI i3 ∧ i3 < 84 ∧ ((nI 0 ≤ (MI 61 i3) → ∃ i4 : Nat, v1 = nI i4 ∧ i4 < 84 ∧ (VX11_goesBy_185 D Q (v1 + (nI 1)) (mup MI 61 (mput (MI 61) i4 ((MI 61 i1) + (nI 0)))) ML)) ∧ (¬ nI 0 ≤ (MI 61 i3) → ∃ i5 : Nat, v1 = nI i5 ∧ i5 < 84 ∧ (VX11_goesBy_185 D Q (v1 + (nI 1)) (mup MI 61 (mput (MI 61) i5 ((MI 61 i1) + (nI 1)))) ML)))) ∧ (¬ (MI 61 i2) ≤ nI 0 → ∃ i6 : Nat, v1 = nI i6 ∧ i6 < 84 ∧ (VX11_goesBy_185 D Q (v1 + (nI 1)) (mup MI 61 (mput (MI 61) i6 ((MI 61 i1) + (-1 : Int32)))) ML)))))) :
    VX11_goesBy_185 D Q v1 MI ML := by
  show mEx D TX11_goesBy (mqS Q) (185, [some (.ref 46), some (.int v1), none], [], (W0, Sh0, MI, ML))
  refine x_st rfl ?_
  refine x_st rfl ?_
  refine x_br rfl (fun c => ?_) (fun c => ?_)
  · replace h := h.1 c
    refine x_ret rfl ?_
    exact ⟨_, _, rfl, h⟩
  · replace h := h.2 c
    refine x_st rfl ?_
    refine x_gr (ci := 11) (k := 24) (nx := 195) rfl sh_46 rfl ?_
    refine x_st rfl ?_
    refine x_st rfl ?_
    obtain ⟨i1, hx, hi, h⟩ := h
    refine x_ia (i := i1) (nx := 198) rfl sh_61 hx hi (by decide) ?_
    refine x_st rfl ?_
    refine x_gr (ci := 11) (k := 24) (nx := 202) rfl sh_46 rfl ?_
    refine x_st rfl ?_
    obtain ⟨i2, hx, hi, h⟩ := h
    refine x_ia (i := i2) (nx := 204) rfl sh_61 hx hi (by decide) ?_
    refine x_br rfl (fun c => ?_) (fun c => ?_)
    · replace h := h.1 c
      refine x_st rfl ?_
      refine x_gr (ci := 11) (k := 24) (nx := 215) rfl sh_46 rfl ?_
      refine x_st rfl ?_
      obtain ⟨i3, hx, hi, h⟩ := h
      refine x_ia (i := i3) (nx := 217) rfl sh_61 hx hi (by decide) ?_
      refine x_br rfl (fun c => ?_) (fun c => ?_)
      · replace h := h.1 c
        refine x_st rfl ?_
        refine x_st rfl ?_
        obtain ⟨i4, hx, hi, h⟩ := h
        refine x_iast (i := i4) (nx := 227) rfl sh_61 hx hi (by decide) ?_
        refine x_st rfl ?_
        refine x_st rfl ?_
        refine x_kl ?_ h
        exact ⟨Or.inr rfl, ⟨Or.inr rfl, ⟨Or.inl rfl, True.intro⟩⟩⟩
      · replace h := h.2 c
        refine x_st rfl ?_
        refine x_st rfl ?_
        refine x_st rfl ?_
        obtain ⟨i5, hx, hi, h⟩ := h
        refine x_iast (i := i5) (nx := 227) rfl sh_61 hx hi (by decide) ?_
        refine x_st rfl ?_
        refine x_st rfl ?_
        refine x_kl ?_ h
        exact ⟨Or.inr rfl, ⟨Or.inr rfl, ⟨Or.inl rfl, True.intro⟩⟩⟩
    · replace h := h.2 c
      refine x_st rfl ?_
      refine x_st rfl ?_
      refine x_st rfl ?_
      obtain ⟨i6, hx, hi, h⟩ := h
      refine x_iast (i := i6) (nx := 227) rfl sh_61 hx hi (by decide) ?_
      refine x_st rfl ?_
      refine x_st rfl ?_
      refine x_kl ?_ h
      exact ⟨Or.inr rfl, ⟨Or.inr rfl, ⟨Or.inl rfl, True.intro⟩⟩⟩
theorem EX11_goesBy {D : Nat} {Q : Option Value → mI → mJ → Prop}  {MI : mI} {ML : mJ} (h : VX11_goesBy_0 D Q  MI ML) : ∃ v MI' ML', Q v MI' ML' ∧ mrc (D + 1) 216 [.ref 46] MI ML v MI' ML' := by
  refine x_en (n := 2) (T := TX11_goesBy) rfl rfl ?_
  refine x_kl ?_ h
  exact ⟨Or.inr rfl, ⟨Or.inl rfl, ⟨Or.inl rfl, True.intro⟩⟩⟩
