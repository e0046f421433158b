/-! bodies by blocks -/
def VX11_undo_0 (D : Nat) (Q : Option Value → mI → mJ → Prop)  (MI : mI) (ML : mJ) : Prop := mEx D TX11_undo (mqS Q) (0, [some (.ref 46)], [], (W0, Sh0, MI, ML))
theorem BX11_undo_0 {D : Nat} {Q : Option Value → mI → mJ → Prop}  {MI : mI} {ML : mJ} 
    (h : ((MI 46 5) = nI 0 → Q (some (.int (-5 : Int32))) MI ML) ∧ (¬ (MI 46 5) = nI 0 → ∃ i1 : Nat, ((mup MI 46 (mput (MI 46) 5 ((MI 46 5) - (nI 1)))) 46 5) = nI i1 ∧ i1 < 40 ∧ (∃ i2 : Nat, ((mup MI 46 (mput (MI 46) 5 ((MI 46 5) - (nI 1)))) 46 5) = nI i2 ∧ i2 < 40 ∧ (∃ i3 : Nat, ((mup MI 46 (mput (MI 46) 5 ((MI 46 5) - (nI 1)))) 48 i1) = nI i3 ∧ i3 < 84 ∧ (Q (some (.int ((mup (mup MI 46 (mput (MI 46) 5 ((MI 46 5) - (nI 1)))) 47 (mput ((mup MI 46 (mput (MI 46) 5 ((MI 46 5) - (nI 1)))) 47) i3 ((mup MI 46 (mput (MI 46) 5 ((MI 46 5) - (nI 1)))) 49 i2))) 46 5))) (mup (mup MI 46 (mput (MI 46) 5 ((MI 46 5) - (nI 1)))) 47 (mput ((mup MI 46 (mput (MI 46) 5 ((MI 46 5) - (nI 1)))) 47) i3 ((mup MI 46 (mput (MI 46) 5 ((MI 46 5) - (nI 1)))) 49 i2))) ML))))) :
    VX11_undo_0 D Q  MI ML := by
  show mEx D TX11_undo (mqS Q) (0, [some (.ref 46)], [], (W0, Sh0, MI, ML))
  refine x_st rfl ?_
  refine x_gi (ci := 11) (k := 5) (nx := 4) rfl sh_46 rfl ?_
  refine x_br rfl (fun c => ?_) (fun c => ?_)
  · replace h := h.1 c
    refine x_st rfl ?_
    refine x_ret rfl ?_
    exact ⟨_, _, rfl, h⟩
  · replace h := h.2 c
    refine x_st rfl ?_
    refine x_st rfl ?_
    refine x_gi (ci := 11) (k := 5) (nx := 15) rfl sh_46 rfl ?_
    refine x_st rfl ?_
    refine x_st rfl ?_
    refine x_pi (ci := 11) (k := 5) (nx := 20) rfl sh_46 rfl ?_
    refine x_st rfl ?_
    refine x_gr (ci := 11) (k := 0) (nx := 24) rfl sh_46 rfl ?_
    refine x_st rfl ?_
    refine x_gr (ci := 11) (k := 1) (nx := 28) rfl sh_46 rfl ?_
    refine x_st rfl ?_
    refine x_gi (ci := 11) (k := 5) (nx := 32) rfl sh_46 rfl ?_
    obtain ⟨i1, hx, hi, h⟩ := h
    refine x_ia (i := i1) (nx := 33) rfl sh_48 hx hi (by decide) ?_
    refine x_st rfl ?_
    refine x_gr (ci := 11) (k := 2) (nx := 37) rfl sh_46 rfl ?_
    refine x_st rfl ?_
    refine x_gi (ci := 11) (k := 5) (nx := 41) rfl sh_46 rfl ?_
    obtain ⟨i2, hx, hi, h⟩ := h
    refine x_ia (i := i2) (nx := 42) rfl sh_49 hx hi (by decide) ?_
    obtain ⟨i3, hx, hi, h⟩ := h
    refine x_iast (i := i3) (nx := 43) rfl sh_47 hx hi (by decide) ?_
    refine x_st rfl ?_
    refine x_gi (ci := 11) (k := 5) (nx := 47) rfl sh_46 rfl ?_
    refine x_ret rfl ?_
    exact ⟨_, _, rfl, h⟩
theorem EX11_undo {D : Nat} {Q : Option Value → mI → mJ → Prop}  {MI : mI} {ML : mJ} (h : VX11_undo_0 D Q  MI ML) : ∃ v MI' ML', Q v MI' ML' ∧ mrc (D + 1) 181 [.ref 46] MI ML v MI' ML' := by
  refine x_en (n := 0) (T := TX11_undo) rfl rfl ?_
  refine x_kl ?_ h
  exact ⟨Or.inr rfl, True.intro⟩
def VX11_redo_0 (D : Nat) (Q : Option Value → mI → mJ → Prop)  (MI : mI) (ML : mJ) : Prop := mEx D TX11_redo (mqS Q) (0, [some (.ref 46)], [], (W0, Sh0, MI, ML))
theorem BX11_redo_0 {D : Nat} {Q : Option Value → mI → mJ → Prop}  {MI : mI} {ML : mJ} 
    (h : ((MI 46 5) = (MI 46 4) → Q (some (.int (-5 : Int32))) MI ML) ∧ (¬ (MI 46 5) = (MI 46 4) → ∃ i1 : Nat, (MI 46 5) = nI i1 ∧ i1 < 40 ∧ (∃ i2 : Nat, (MI 46 5) = nI i2 ∧ i2 < 40 ∧ (∃ i3 : Nat, (MI 48 i1) = nI i3 ∧ i3 < 84 ∧ (Q (some (.int (((mup (mup MI 47 (mput (MI 47) i3 (MI 50 i2))) 46 (mput ((mup MI 47 (mput (MI 47) i3 (MI 50 i2))) 46) 5 (((mup MI 47 (mput (MI 47) i3 (MI 50 i2))) 46 5) + (nI 1)))) 46 4) - ((mup (mup MI 47 (mput (MI 47) i3 (MI 50 i2))) 46 (mput ((mup MI 47 (mput (MI 47) i3 (MI 50 i2))) 46) 5 (((mup MI 47 (mput (MI 47) i3 (MI 50 i2))) 46 5) + (nI 1)))) 46 5)))) (mup (mup MI 47 (mput (MI 47) i3 (MI 50 i2))) 46 (mput ((mup MI 47 (mput (MI 47) i3 (MI 50 i2))) 46) 5 (((mup MI 47 (mput (MI 47) i3 (MI 50 i2))) 46 5) + (nI 1)))) ML))))) :
    VX11_redo_0 D Q  MI ML := by
  show mEx D TX11_redo (mqS Q) (0, [some (.ref 46)], [], (W0, Sh0, MI, ML))
  refine x_st rfl ?_
  refine x_gi (ci := 11) (k := 5) (nx := 4) rfl sh_46 rfl ?_
  refine x_st rfl ?_
  refine x_gi (ci := 11) (k := 4) (nx := 8) rfl sh_46 rfl ?_
  refine x_br rfl (fun c => ?_) (fun c => ?_)
  · replace h := h.1 c
    refine x_st rfl ?_
    refine x_ret rfl ?_
    exact ⟨_, _, rfl, h⟩
  · replace h := h.2 c
    refine x_st rfl ?_
    refine x_gr (ci := 11) (k := 0) (nx := 18) rfl sh_46 rfl ?_
    refine x_st rfl ?_
    refine x_gr (ci := 11) (k := 1) (nx := 22) rfl sh_46 rfl ?_
    refine x_st rfl ?_
    refine x_gi (ci := 11) (k := 5) (nx := 26) rfl sh_46 rfl ?_
    obtain ⟨i1, hx, hi, h⟩ := h
    refine x_ia (i := i1) (nx := 27) rfl sh_48 hx hi (by decide) ?_
    refine x_st rfl ?_
    refine x_gr (ci := 11) (k := 3) (nx := 31) rfl sh_46 rfl ?_
    refine x_st rfl ?_
    refine x_gi (ci := 11) (k := 5) (nx := 35) rfl sh_46 rfl ?_
    obtain ⟨i2, hx, hi, h⟩ := h
    refine x_ia (i := i2) (nx := 36) rfl sh_50 hx hi (by decide) ?_
    obtain ⟨i3, hx, hi, h⟩ := h
    refine x_iast (i := i3) (nx := 37) rfl sh_47 hx hi (by decide) ?_
    refine x_st rfl ?_
    refine x_st rfl ?_
    refine x_gi (ci := 11) (k := 5) (nx := 42) rfl sh_46 rfl ?_
    refine x_st rfl ?_
    refine x_st rfl ?_
    refine x_pi (ci := 11) (k := 5) (nx := 47) rfl sh_46 rfl ?_
    refine x_st rfl ?_
    refine x_gi (ci := 11) (k := 4) (nx := 51) rfl sh_46 rfl ?_
    refine x_st rfl ?_
    refine x_gi (ci := 11) (k := 5) (nx := 55) rfl sh_46 rfl ?_
    refine x_st rfl ?_
    refine x_ret rfl ?_
    exact ⟨_, _, rfl, h⟩
theorem EX11_redo {D : Nat} {Q : Option Value → mI → mJ → Prop}  {MI : mI} {ML : mJ} (h : VX11_redo_0 D Q  MI ML) : ∃ v MI' ML', Q v MI' ML' ∧ mrc (D + 1) 182 [.ref 46] MI ML v MI' ML' := by
  refine x_en (n := 0) (T := TX11_redo) rfl rfl ?_
  refine x_kl ?_ h
  exact ⟨Or.inr rfl, True.intro⟩
def VX11_isOne_0 (D : Nat) (Q : Option Value → mI → mJ → Prop)  (v1 : Int64) (MI : mI) (ML : mJ) : Prop := mEx D TX11_isOne (mqS Q) (0, [some (.ref 46), some (.long v1), none], [], (W0, Sh0, MI, ML))
theorem BX11_isOne_0 {D : Nat} {Q : Option Value → mI → mJ → Prop}  {v1 : Int64} {MI : mI} {ML : mJ} 
    (h : ∃ (x3 : Int32) (M1 : mI) (N2 : mJ), mrc D 178 [.long v1, .long (0 : Int64), .long (((MI 46 6) - (nI 1))).toInt64] MI ML (some (.int x3)) M1 N2 ∧ ((x3 = nI 0 ∨ x3 = nI 1) ∧ Q (some (.int x3)) M1 N2)) :
    VX11_isOne_0 D Q v1 MI ML := by
  show mEx D TX11_isOne (mqS Q) (0, [some (.ref 46), some (.long v1), none], [], (W0, Sh0, MI, ML))
  refine x_st rfl ?_
  refine x_st rfl ?_
  refine x_st rfl ?_
  refine x_gi (ci := 11) (k := 6) (nx := 6) rfl sh_46 rfl ?_
  refine x_st rfl ?_
  refine x_st rfl ?_
  refine x_st rfl ?_
  obtain ⟨x3, M1, N2, hc, h⟩ := h
  refine x_ci rfl hc ?_
  refine x_retz rfl h.1 ?_
  exact ⟨_, _, rfl, h.2⟩
theorem EX11_isOne {D : Nat} {Q : Option Value → mI → mJ → Prop}  {v1 : Int64} {MI : mI} {ML : mJ} (h : VX11_isOne_0 D Q v1 MI ML) : ∃ v MI' ML', Q v MI' ML' ∧ mrc (D + 1) 183 [.ref 46, .long v1] MI ML v MI' ML' := by
  refine x_en (n := 0) (T := TX11_isOne) rfl rfl ?_
  refine x_kl ?_ h
  exact ⟨Or.inr rfl, ⟨Or.inr rfl, ⟨Or.inl rfl, True.intro⟩⟩⟩
def VX11_felt_0 (D : Nat) (Q : Option Value → mI → mJ → Prop)  (v0 : Int32) (v1 : Int32) (MI : mI) (ML : mJ) : Prop := mEx D TX11_felt (mqS Q) (0, [some (.int v0), some (.int v1)], [], (W0, Sh0, MI, ML))
theorem BX11_felt_0 {D : Nat} {Q : Option Value → mI → mJ → Prop}  {v0 : Int32} {v1 : Int32} {MI : mI} {ML : mJ} 
    (h : Q (some (.int (((nI 20) + ((nI 8) * v0)) + v1))) MI ML) :
    VX11_felt_0 D Q v0 v1 MI ML := by
  show mEx D TX11_felt (mqS Q) (0, [some (.int v0), some (.int v1)], [], (W0, Sh0, MI, ML))
  refine x_st rfl ?_
  refine x_st rfl ?_
  refine x_st rfl ?_
  refine x_st rfl ?_
  refine x_st rfl ?_
  refine x_st rfl ?_
  refine x_st rfl ?_
  refine x_ret rfl ?_
  exact ⟨_, _, rfl, h⟩
theorem EX11_felt {D : Nat} {Q : Option Value → mI → mJ → Prop}  {v0 : Int32} {v1 : Int32} {MI : mI} {ML : mJ} (h : VX11_felt_0 D Q v0 v1 MI ML) : ∃ v MI' ML', Q v MI' ML' ∧ mrc (D + 1) 184 [.int v0, .int v1] MI ML v MI' ML' := by
  refine x_en (n := 0) (T := TX11_felt) rfl rfl ?_
  refine x_kl ?_ h
  exact ⟨Or.inr rfl, ⟨Or.inr rfl, True.intro⟩⟩
def VX11_isPair_0 (D : Nat) (Q : Option Value → mI → mJ → Prop)  (v1 : Int32) (MI : mI) (ML : mJ) : Prop := mEx D TX11_isPair (mqS Q) (0, [some (.ref 46), some (.int v1)], [], (W0, Sh0, MI, ML))
theorem BX11_isPair_0 {D : Nat} {Q : Option Value → mI → mJ → Prop}  {v1 : Int32} {MI : mI} {ML : mJ} 
    (h : (v1 < nI 0 → Q (some (.int (nI 0))) MI ML) ∧ (¬ v1 < nI 0 → ∃ (x3 : Int32) (M1 : mI) (N2 : mJ), mrc D 183 [.ref 46, .long ((v1 / (nI 10))).toInt64] MI ML (some (.int x3)) M1 N2 ∧ ((x3 = nI 0 → Q (some (.int (nI 0))) M1 N2) ∧ (¬ x3 = nI 0 → ∃ (x6 : Int32) (M4 : mI) (N5 : mJ), mrc D 183 [.ref 46, .long ((v1 - v1 / (nI 10) * (nI 10))).toInt64] M1 N2 (some (.int x6)) M4 N5 ∧ ((x6 = nI 0 → Q (some (.int (nI 0))) M4 N5) ∧ (¬ x6 = nI 0 → ((v1 / (nI 10)) = (v1 - v1 / (nI 10) * (nI 10)) → Q (some (.int (nI 0))) M4 N5) ∧ (¬ (v1 / (nI 10)) = (v1 - v1 / (nI 10) * (nI 10)) → Q (some (.int (nI 1))) M4 N5))))))) :
    VX11_isPair_0 D Q v1 MI ML := by
  show mEx D TX11_isPair (mqS Q) (0, [some (.ref 46), some (.int v1)], [], (W0, Sh0, MI, ML))
  refine x_st rfl ?_
  refine x_br rfl (fun c => ?_) (fun c => ?_)
  · replace h := h.1 c
    refine x_st rfl ?_
    refine x_ret rfl ?_
    exact ⟨_, _, rfl, h⟩
  · replace h := h.2 c
    refine x_st rfl ?_
    refine x_st rfl ?_
    refine x_st rfl ?_
    refine x_st rfl ?_
    refine x_st rfl ?_
    obtain ⟨x3, M1, N2, hc, h⟩ := h
    refine x_vi (y := 183) (n := 1) (ci := 11) (nx := 13) rfl (fun _ => rfl) sh_46 rfl hc ?_
    refine x_br rfl (fun c => ?_) (fun c => ?_)
    · replace h := h.1 c
      refine x_st rfl ?_
      refine x_ret rfl ?_
      exact ⟨_, _, rfl, h⟩
    · replace h := h.2 c
      refine x_st rfl ?_
      refine x_st rfl ?_
      refine x_st rfl ?_
      refine x_st rfl ?_
      refine x_st rfl ?_
      obtain ⟨x6, M4, N5, hc, h⟩ := h
      refine x_vi (y := 183) (n := 1) (ci := 11) (nx := 25) rfl (fun _ => rfl) sh_46 rfl hc ?_
      refine x_br rfl (fun c => ?_) (fun c => ?_)
      · replace h := h.1 c
        refine x_st rfl ?_
        refine x_ret rfl ?_
        exact ⟨_, _, rfl, h⟩
      · replace h := h.2 c
        refine x_st rfl ?_
        refine x_st rfl ?_
        refine x_st rfl ?_
        refine x_st rfl ?_
        refine x_st rfl ?_
        refine x_st rfl ?_
        refine x_br rfl (fun c => ?_) (fun c => ?_)
        · replace h := h.1 c
          refine x_st rfl ?_
          refine x_ret rfl ?_
          exact ⟨_, _, rfl, h⟩
        · replace h := h.2 c
          refine x_st rfl ?_
          refine x_st rfl ?_
          refine x_ret rfl ?_
          exact ⟨_, _, rfl, h⟩
theorem EX11_isPair {D : Nat} {Q : Option Value → mI → mJ → Prop}  {v1 : Int32} {MI : mI} {ML : mJ} (h : VX11_isPair_0 D Q v1 MI ML) : ∃ v MI' ML', Q v MI' ML' ∧ mrc (D + 1) 185 [.ref 46, .int v1] MI ML v MI' ML' := by
  refine x_en (n := 0) (T := TX11_isPair) rfl rfl ?_
  refine x_kl ?_ h
  exact ⟨Or.inr rfl, ⟨Or.inr rfl, True.intro⟩⟩
def VX11_adds_0 (D : Nat) (Q : Option Value → mI → mJ → Prop)  (v1 : Int32) (v2 : Int32) (MI : mI) (ML : mJ) : Prop := mEx D TX11_adds (mqS Q) (0, [some (.ref 46), some (.int v1), some (.int v2)], [], (W0, Sh0, MI, ML))
theorem BX11_adds_0 {D : Nat} {Q : Option Value → mI → mJ → Prop}  {v1 : Int32} {v2 : Int32} {MI : mI} {ML : mJ} 
    (h : ∃ i1 : Nat, (MI 46 6) = nI i1 ∧ i1 < 84 ∧ (∃ i2 : Nat, ((nI 8) + ((mup MI 47 (mput (MI 47) i1 v1)) 46 6)) = nI i2 ∧ i2 < 84 ∧ (Q none (mup (mup (mup MI 47 (mput (MI 47) i1 v1)) 47 (mput ((mup MI 47 (mput (MI 47) i1 v1)) 47) i2 v2)) 46 (mput ((mup (mup MI 47 (mput (MI 47) i1 v1)) 47 (mput ((mup MI 47 (mput (MI 47) i1 v1)) 47) i2 v2)) 46) 6 (((mup (mup MI 47 (mput (MI 47) i1 v1)) 47 (mput ((mup MI 47 (mput (MI 47) i1 v1)) 47) i2 v2)) 46 6) + (nI 1)))) ML))) :
    VX11_adds_0 D Q v1 v2 MI ML := by
  show mEx D TX11_adds (mqS Q) (0, [some (.ref 46), some (.int v1), some (.int v2)], [], (W0, Sh0, MI, ML))
  refine x_st rfl ?_
  refine x_gr (ci := 11) (k := 0) (nx := 4) rfl sh_46 rfl ?_
  refine x_st rfl ?_
  refine x_gi (ci := 11) (k := 6) (nx := 8) rfl sh_46 rfl ?_
  refine x_st rfl ?_
  obtain ⟨i1, hx, hi, h⟩ := h
  refine x_iast (i := i1) (nx := 10) rfl sh_47 hx hi (by decide) ?_
  refine x_st rfl ?_
  refine x_gr (ci := 11) (k := 0) (nx := 14) rfl sh_46 rfl ?_
  refine x_st rfl ?_
  refine x_st rfl ?_
  refine x_gi (ci := 11) (k := 6) (nx := 20) rfl sh_46 rfl ?_
  refine x_st rfl ?_
  refine x_st rfl ?_
  obtain ⟨i2, hx, hi, h⟩ := h
  refine x_iast (i := i2) (nx := 23) rfl sh_47 hx hi (by decide) ?_
  refine x_st rfl ?_
  refine x_st rfl ?_
  refine x_gi (ci := 11) (k := 6) (nx := 28) rfl sh_46 rfl ?_
  refine x_st rfl ?_
  refine x_st rfl ?_
  refine x_pi (ci := 11) (k := 6) (nx := 33) rfl sh_46 rfl ?_
  refine x_ret rfl ?_
  exact ⟨_, _, rfl, h⟩
theorem EX11_adds {D : Nat} {Q : Option Value → mI → mJ → Prop}  {v1 : Int32} {v2 : Int32} {MI : mI} {ML : mJ} (h : VX11_adds_0 D Q v1 v2 MI ML) : ∃ v MI' ML', Q v MI' ML' ∧ mrc (D + 1) 186 [.ref 46, .int v1, .int v2] MI ML v MI' ML' := by
  refine x_en (n := 0) (T := TX11_adds) rfl rfl ?_
  refine x_kl ?_ h
  exact ⟨Or.inr rfl, ⟨Or.inr rfl, ⟨Or.inr rfl, True.intro⟩⟩⟩
def VX11_person_0 (D : Nat) (Q : Option Value → mI → mJ → Prop)  (v1 : Int32) (v2 : Int32) (MI : mI) (ML : mJ) : Prop := mEx D TX11_person (mqS Q) (0, [some (.ref 46), some (.int v1), some (.int v2)], [], (W0, Sh0, MI, ML))
theorem BX11_person_0 {D : Nat} {Q : Option Value → mI → mJ → Prop}  {v1 : Int32} {v2 : Int32} {MI : mI} {ML : mJ} 
    (h : ∃ (x3 : Int32) (M1 : mI) (N2 : mJ), mrc D 178 [.long (v1).toInt64, .long (0 : Int64), .long (99 : Int64)] MI ML (some (.int x3)) M1 N2 ∧ ((x3 = nI 0 → Q (some (.int (-1 : Int32))) M1 N2) ∧ (¬ x3 = nI 0 → ∃ (x6 : Int32) (M4 : mI) (N5 : mJ), mrc D 178 [.long (v2).toInt64, .long (0 : Int64), .long (9 : Int64)] M1 N2 (some (.int x6)) M4 N5 ∧ ((x6 = nI 0 → Q (some (.int (-1 : Int32))) M4 N5) ∧ (¬ x6 = nI 0 → ((M4 46 6) = (nI 8) → Q (some (.int (-3 : Int32))) M4 N5) ∧ (¬ (M4 46 6) = (nI 8) → ∃ (M7 : mI) (N8 : mJ), mrc D 186 [.ref 46, .int v1, .int v2] M4 N5 none M7 N8 ∧ (Q (some (.int ((M7 46 6) - (nI 1)))) M7 N8))))))) :
    VX11_person_0 D Q v1 v2 MI ML := by
  show mEx D TX11_person (mqS Q) (0, [some (.ref 46), some (.int v1), some (.int v2)], [], (W0, Sh0, MI, ML))
  refine x_st rfl ?_
  refine x_st rfl ?_
  refine x_st rfl ?_
  refine x_st rfl ?_
  obtain ⟨x3, M1, N2, hc, h⟩ := h
  refine x_ci rfl hc ?_
  refine x_br rfl (fun c => ?_) (fun c => ?_)
  · replace h := h.1 c
    refine x_st rfl ?_
    refine x_ret rfl ?_
    exact ⟨_, _, rfl, h⟩
  · replace h := h.2 c
    refine x_st rfl ?_
    refine x_st rfl ?_
    refine x_st rfl ?_
    refine x_st rfl ?_
    obtain ⟨x6, M4, N5, hc, h⟩ := h
    refine x_ci rfl hc ?_
    refine x_br rfl (fun c => ?_) (fun c => ?_)
    · replace h := h.1 c
      refine x_st rfl ?_
      refine x_ret rfl ?_
      exact ⟨_, _, rfl, h⟩
    · replace h := h.2 c
      refine x_st rfl ?_
      refine x_gi (ci := 11) (k := 6) (nx := 30) rfl sh_46 rfl ?_
      refine x_st rfl ?_
      refine x_br rfl (fun c => ?_) (fun c => ?_)
      · replace h := h.1 c
        refine x_st rfl ?_
        refine x_ret rfl ?_
        exact ⟨_, _, rfl, h⟩
      · replace h := h.2 c
        refine x_st rfl ?_
        refine x_st rfl ?_
        refine x_st rfl ?_
        obtain ⟨M7, N8, hc, h⟩ := h
        refine x_vv (y := 186) (n := 2) (ci := 11) (nx := 44) rfl (fun _ => rfl) sh_46 rfl hc ?_
        refine x_st rfl ?_
        refine x_gi (ci := 11) (k := 6) (nx := 48) rfl sh_46 rfl ?_
        refine x_st rfl ?_
        refine x_st rfl ?_
        refine x_ret rfl ?_
        exact ⟨_, _, rfl, h⟩
theorem EX11_person {D : Nat} {Q : Option Value → mI → mJ → Prop}  {v1 : Int32} {v2 : Int32} {MI : mI} {ML : mJ} (h : VX11_person_0 D Q v1 v2 MI ML) : ∃ v MI' ML', Q v MI' ML' ∧ mrc (D + 1) 187 [.ref 46, .int v1, .int v2] MI ML v MI' ML' := by
  refine x_en (n := 0) (T := TX11_person) rfl rfl ?_
  refine x_kl ?_ h
  exact ⟨Or.inr rfl, ⟨Or.inr rfl, ⟨Or.inr rfl, True.intro⟩⟩⟩
def VX11_people_0 (D : Nat) (Q : Option Value → mI → mJ → Prop)  (v1 : Int32) (v2 : Int32) (v3 : Int32) (MI : mI) (ML : mJ) : Prop := mEx D TX11_people (mqS Q) (0, [some (.ref 46), some (.int v1), some (.int v2), some (.int v3), none, none, none], [], (W0, Sh0, MI, ML))
def VX11_people_44 (D : Nat) (Q : Option Value → mI → mJ → Prop)  (v1 : Int32) (v2 : Int32) (v3 : Int32) (MI : mI) (ML : mJ) : Prop := mEx D TX11_people (mqS Q) (44, [some (.ref 46), some (.int v1), some (.int v2), some (.int v3), none, none, none], [], (W0, Sh0, MI, ML))
def VX11_people_69 (D : Nat) (Q : Option Value → mI → mJ → Prop)  (v1 : Int32) (v2 : Int32) (v3 : Int32) (v4 : Int32) (v5 : Int32) (MI : mI) (ML : mJ) : Prop := mEx D TX11_people (mqS Q) (69, [some (.ref 46), some (.int v1), some (.int v2), some (.int v3), some (.int v4), some (.int v5), none], [], (W0, Sh0, MI, ML))
def VX11_people_111 (D : Nat) (Q : Option Value → mI → mJ → Prop)  (v1 : Int32) (v2 : Int32) (v3 : Int32) (v4 : Int32) (s0 : Int32) (MI : mI) (ML : mJ) : Prop := mEx D TX11_people (mqS Q) (111, [some (.ref 46), some (.int v1), some (.int v2), some (.int v3), some (.int v4), none, none], [.int s0], (W0, Sh0, MI, ML))
def VX11_people_172 (D : Nat) (Q : Option Value → mI → mJ → Prop)  (v1 : Int32) (v2 : Int32) (v3 : Int32) (v4 : Int32) (v6 : Int32) (s0 : Int32) (MI : mI) (ML : mJ) : Prop := mEx D TX11_people (mqS Q) (172, [some (.ref 46), some (.int v1), some (.int v2), some (.int v3), some (.int v4), none, some (.int v6)], [.int s0], (W0, Sh0, MI, ML))
theorem BX11_people_0 {D : Nat} {Q : Option Value → mI → mJ → Prop}  {v1 : Int32} {v2 : Int32} {v3 : Int32} {MI : mI} {ML : mJ} 
    (h : ∃ (x3 : Int32) (M1 : mI) (N2 : mJ), mrc D 260 [.int v1] MI ML (some (.int x3)) M1 N2 ∧ ((x3 = nI 0 → Q (some (.int (-1 : Int32))) M1 N2) ∧ (¬ x3 = nI 0 → ∃ (x6 : Int32) (M4 : mI) (N5 : mJ), mrc D 178 [.long (v3).toInt64, .long (1 : Int64), .long (8 : Int64)] M1 N2 (some (.int x6)) M4 N5 ∧ ((x6 = nI 0 → Q (some (.int (-1 : Int32))) M4 N5) ∧ (¬ x6 = nI 0 → ∃ i7 : Nat, v1 = nI i7 ∧ i7 < 6 ∧ (((M4 76 i7) < nI 0 → VX11_people_44 D Q v1 v2 v3 M4 N5) ∧ (¬ (M4 76 i7) < nI 0 → ∃ i8 : Nat, v1 = nI i8 ∧ i8 < 6 ∧ (((M4 76 i8) = (nI 50) → VX11_people_44 D Q v1 v2 v3 M4 N5) ∧ (¬ (M4 76 i8) = (nI 50) → Q (some (.int (-12 : Int32))) M4 N5))))))))) :
    VX11_people_0 D Q v1 v2 v3 MI ML := by
  show mEx D TX11_people (mqS Q) (0, [some (.ref 46), some (.int v1), some (.int v2), some (.int v3), none, none, none], [], (W0, Sh0, MI, ML))
  refine x_st rfl ?_
  obtain ⟨x3, M1, N2, hc, h⟩ := h
  refine x_ci rfl hc ?_
  refine x_br rfl (fun c => ?_) (fun c => ?_)
  · replace h := h.1 c
    refine x_st rfl ?_
    refine x_ret rfl ?_
    exact ⟨_, _, rfl, h⟩
  · replace h := h.2 c
    refine x_st rfl ?_
    refine x_st rfl ?_
    refine x_st rfl ?_
    refine x_st rfl ?_
    obtain ⟨x6, M4, N5, hc, h⟩ := h
    refine x_ci rfl hc ?_
    refine x_br rfl (fun c => ?_) (fun c => ?_)
    · replace h := h.1 c
      refine x_st rfl ?_
      refine x_ret rfl ?_
      exact ⟨_, _, rfl, h⟩
    · replace h := h.2 c
      refine x_st rfl ?_
      refine x_gr (ci := 11) (k := 47) (nx := 25) rfl sh_46 rfl ?_
      refine x_st rfl ?_
      obtain ⟨i7, hx, hi, h⟩ := h
      refine x_ia (i := i7) (nx := 27) rfl sh_76 hx hi (by decide) ?_
      refine x_br rfl (fun c => ?_) (fun c => ?_)
      · replace h := h.1 c
        refine x_kl ?_ h
        exact ⟨Or.inr rfl, ⟨Or.inr rfl, ⟨Or.inr rfl, ⟨Or.inr rfl, ⟨Or.inl rfl, ⟨Or.inl rfl, ⟨Or.inl rfl, True.intro⟩⟩⟩⟩⟩⟩⟩
      · replace h := h.2 c
        refine x_st rfl ?_
        refine x_gr (ci := 11) (k := 47) (nx := 34) rfl sh_46 rfl ?_
        refine x_st rfl ?_
        obtain ⟨i8, hx, hi, h⟩ := h
        refine x_ia (i := i8) (nx := 36) rfl sh_76 hx hi (by decide) ?_
        refine x_st rfl ?_
        refine x_br rfl (fun c => ?_) (fun c => ?_)
        · replace h := h.1 c
          refine x_kl ?_ h
          exact ⟨Or.inr rfl, ⟨Or.inr rfl, ⟨Or.inr rfl, ⟨Or.inr rfl, ⟨Or.inl rfl, ⟨Or.inl rfl, ⟨Or.inl rfl, True.intro⟩⟩⟩⟩⟩⟩⟩
        · replace h := h.2 c
          refine x_st rfl ?_
          refine x_ret rfl ?_
          exact ⟨_, _, rfl, h⟩
theorem BX11_people_44 {D : Nat} {Q : Option Value → mI → mJ → Prop}  {v1 : Int32} {v2 : Int32} {v3 : Int32} {MI : mI} {ML : mJ} 
    (h : ∃ i1 : Nat, v1 = nI i1 ∧ i1 < 6 ∧ (((MI 76 i1) = (nI 50) → (v2 < nI 0 → VX11_people_69 D Q v1 v2 v3 (nI 0) (nI 0) MI ML) ∧ (¬ v2 < nI 0 → VX11_people_69 D Q v1 v2 v3 (nI 0) (nI 1) MI ML)) ∧ (¬ (MI 76 i1) = (nI 50) → VX11_people_69 D Q v1 v2 v3 (nI 0) (nI 0) MI ML))) :
    VX11_people_44 D Q v1 v2 v3 MI ML := by
  show mEx D TX11_people (mqS Q) (44, [some (.ref 46), some (.int v1), some (.int v2), some (.int v3), none, none, none], [], (W0, Sh0, MI, ML))
  refine x_st rfl ?_
  refine x_st rfl ?_
  refine x_st rfl ?_
  refine x_gr (ci := 11) (k := 47) (nx := 51) rfl sh_46 rfl ?_
  refine x_st rfl ?_
  obtain ⟨i1, hx, hi, h⟩ := h
  refine x_ia (i := i1) (nx := 53) rfl sh_76 hx hi (by decide) ?_
  refine x_st rfl ?_
  refine x_br rfl (fun c => ?_) (fun c => ?_)
  · replace h := h.1 c
    refine x_st rfl ?_
    refine x_br rfl (fun c => ?_) (fun c => ?_)
    · replace h := h.1 c
      refine x_st rfl ?_
      refine x_st rfl ?_
      refine x_kl ?_ h
      exact ⟨Or.inr rfl, ⟨Or.inr rfl, ⟨Or.inr rfl, ⟨Or.inr rfl, ⟨Or.inr rfl, ⟨Or.inr rfl, ⟨Or.inl rfl, True.intro⟩⟩⟩⟩⟩⟩⟩
    · replace h := h.2 c
      refine x_st rfl ?_
      refine x_st rfl ?_
      refine x_st rfl ?_
      refine x_kl ?_ h
      exact ⟨Or.inr rfl, ⟨Or.inr rfl, ⟨Or.inr rfl, ⟨Or.inr rfl, ⟨Or.inr rfl, ⟨Or.inr rfl, ⟨Or.inl rfl, True.intro⟩⟩⟩⟩⟩⟩⟩
  · replace h := h.2 c
    refine x_st rfl ?_
    refine x_st rfl ?_
    refine x_kl ?_ h
    exact ⟨Or.inr rfl, ⟨Or.inr rfl, ⟨Or.inr rfl, ⟨Or.inr rfl, ⟨Or.inr rfl, ⟨Or.inr rfl, ⟨Or.inl rfl, True.intro⟩⟩⟩⟩⟩⟩⟩
theorem BX11_people_69 {D : Nat} {Q : Option Value → mI → mJ → Prop}  {v1 : Int32} {v2 : Int32} {v3 : Int32} {v4 : Int32} {v5 : Int32} {MI : mI} {ML : mJ} 
    (h : (v5 = nI 0 → Q (some (.int v4)) MI ML) ∧ (¬ v5 = nI 0 → (v3 ≤ v4 → Q (some (.int v4)) MI ML) ∧ (¬ v3 ≤ v4 → ∃ i1 : Nat, v1 = nI i1 ∧ i1 < 6 ∧ (((((MI 77 i1) - (nI 2)) - ((nI 2) * v4)) < v2 → VX11_people_111 D Q v1 v2 v3 v4 (nI 0) MI ML) ∧ (¬ (((MI 77 i1) - (nI 2)) - ((nI 2) * v4)) < v2 → ((nI 8) ≤ (MI 46 6) → VX11_people_111 D Q v1 v2 v3 v4 (nI 0) MI ML) ∧ (¬ (nI 8) ≤ (MI 46 6) → VX11_people_111 D Q v1 v2 v3 v4 (nI 1) MI ML)))))) :
    VX11_people_69 D Q v1 v2 v3 v4 v5 MI ML := by
  show mEx D TX11_people (mqS Q) (69, [some (.ref 46), some (.int v1), some (.int v2), some (.int v3), some (.int v4), some (.int v5), none], [], (W0, Sh0, MI, ML))
  refine x_st rfl ?_
  refine x_br rfl (fun c => ?_) (fun c => ?_)
  · replace h := h.1 c
    refine x_st rfl ?_
    refine x_ret rfl ?_
    exact ⟨_, _, rfl, h⟩
  · replace h := h.2 c
    refine x_st rfl ?_
    refine x_st rfl ?_
    refine x_br rfl (fun c => ?_) (fun c => ?_)
    · replace h := h.1 c
      refine x_st rfl ?_
      refine x_ret rfl ?_
      exact ⟨_, _, rfl, h⟩
    · replace h := h.2 c
      refine x_st rfl ?_
      refine x_st rfl ?_
      refine x_gr (ci := 11) (k := 48) (nx := 85) rfl sh_46 rfl ?_
      refine x_st rfl ?_
      obtain ⟨i1, hx, hi, h⟩ := h
      refine x_ia (i := i1) (nx := 87) rfl sh_77 hx hi (by decide) ?_
      refine x_st rfl ?_
      refine x_st rfl ?_
      refine x_st rfl ?_
      refine x_st rfl ?_
      refine x_st rfl ?_
      refine x_st rfl ?_
      refine x_br rfl (fun c => ?_) (fun c => ?_)
      · replace h := h.1 c
        refine x_st rfl ?_
        refine x_kl ?_ h
        exact ⟨Or.inr rfl, ⟨Or.inr rfl, ⟨Or.inr rfl, ⟨Or.inr rfl, ⟨Or.inr rfl, ⟨Or.inl rfl, ⟨Or.inl rfl, True.intro⟩⟩⟩⟩⟩⟩⟩
      · replace h := h.2 c
        refine x_st rfl ?_
        refine x_gi (ci := 11) (k := 6) (nx := 101) rfl sh_46 rfl ?_
        refine x_st rfl ?_
        refine x_br rfl (fun c => ?_) (fun c => ?_)
        · replace h := h.1 c
          refine x_st rfl ?_
          refine x_kl ?_ h
          exact ⟨Or.inr rfl, ⟨Or.inr rfl, ⟨Or.inr rfl, ⟨Or.inr rfl, ⟨Or.inr rfl, ⟨Or.inl rfl, ⟨Or.inl rfl, True.intro⟩⟩⟩⟩⟩⟩⟩
        · replace h := h.2 c
          refine x_st rfl ?_
          refine x_st rfl ?_
          refine x_kl ?_ h
          exact ⟨Or.inr rfl, ⟨Or.inr rfl, ⟨Or.inr rfl, ⟨Or.inr rfl, ⟨Or.inr rfl, ⟨Or.inl rfl, ⟨Or.inl rfl, True.intro⟩⟩⟩⟩⟩⟩⟩
theorem BX11_people_111 {D : Nat} {Q : Option Value → mI → mJ → Prop}  {v1 : Int32} {v2 : Int32} {v3 : Int32} {v4 : Int32} {s0 : Int32} {MI : mI} {ML : mJ} 
    (h : (s0 = nI 0 → VX11_people_172 D Q v1 v2 v3 v4 ((((nI 60) * v1) + v2) + ((nI 2) * v4)) (nI 0) MI ML) ∧ (¬ s0 = nI 0 → ∃ i1 : Nat, ((((nI 60) * v1) + v2) + ((nI 2) * v4)) = nI i1 ∧ i1 < 360 ∧ (∃ (x4 : Int32) (M2 : mI) (N3 : mJ), mrc D 178 [.long (ML 78 i1), .long (0 : Int64), .long (99 : Int64)] MI ML (some (.int x4)) M2 N3 ∧ ((x4 = nI 0 → VX11_people_172 D Q v1 v2 v3 v4 ((((nI 60) * v1) + v2) + ((nI 2) * v4)) (nI 0) M2 N3) ∧ (¬ x4 = nI 0 → ∃ i5 : Nat, (((((nI 60) * v1) + v2) + ((nI 2) * v4)) + (nI 1)) = nI i5 ∧ i5 < 360 ∧ (∃ (x8 : Int32) (M6 : mI) (N7 : mJ), mrc D 178 [.long (N3 78 i5), .long (0 : Int64), .long (9 : Int64)] M2 N3 (some (.int x8)) M6 N7 ∧ ((x8 = nI 0 → VX11_people_172 D Q v1 v2 v3 v4 ((((nI 60) * v1) + v2) + ((nI 2) * v4)) (nI 0) M6 N7) ∧ (¬ x8 = nI 0 → VX11_people_172 D Q v1 v2 v3 v4 ((((nI 60) * v1) + v2) + ((nI 2) * v4)) (nI 1) M6 N7)))))))) :
    VX11_people_111 D Q v1 v2 v3 v4 s0 MI ML := by
  show mEx D TX11_people (mqS Q) (111, [some (.ref 46), some (.int v1), some (.int v2), some (.int v3), some (.int v4), none, none], [.int s0], (W0, Sh0, MI, ML))
  refine x_st rfl ?_
  refine x_st rfl ?_
  refine x_st rfl ?_
  refine x_st rfl ?_
  refine x_st rfl ?_
  refine x_st rfl ?_
  refine x_st rfl ?_
  refine x_st rfl ?_
  refine x_st rfl ?_
  refine x_st rfl ?_
  refine x_st rfl ?_
  refine x_st rfl ?_
  refine x_br rfl (fun c => ?_) (fun c => ?_)
  · replace h := h.1 c
    refine x_st rfl ?_
    refine x_kl ?_ h
    exact ⟨Or.inr rfl, ⟨Or.inr rfl, ⟨Or.inr rfl, ⟨Or.inr rfl, ⟨Or.inr rfl, ⟨Or.inl rfl, ⟨Or.inr rfl, True.intro⟩⟩⟩⟩⟩⟩⟩
  · replace h := h.2 c
    refine x_st rfl ?_
    refine x_gr (ci := 11) (k := 49) (nx := 135) rfl sh_46 rfl ?_
    refine x_st rfl ?_
    obtain ⟨i1, hx, hi, h⟩ := h
    refine x_la (i := i1) (nx := 138) rfl sh_78 hx hi (by decide) ?_
    refine x_st rfl ?_
    refine x_st rfl ?_
    obtain ⟨x4, M2, N3, hc, h⟩ := h
    refine x_ci rfl hc ?_
    refine x_br rfl (fun c => ?_) (fun c => ?_)
    · replace h := h.1 c
      refine x_st rfl ?_
      refine x_kl ?_ h
      exact ⟨Or.inr rfl, ⟨Or.inr rfl, ⟨Or.inr rfl, ⟨Or.inr rfl, ⟨Or.inr rfl, ⟨Or.inl rfl, ⟨Or.inr rfl, True.intro⟩⟩⟩⟩⟩⟩⟩
    · replace h := h.2 c
      refine x_st rfl ?_
      refine x_gr (ci := 11) (k := 49) (nx := 152) rfl sh_46 rfl ?_
      refine x_st rfl ?_
      refine x_st rfl ?_
      refine x_st rfl ?_
      obtain ⟨i5, hx, hi, h⟩ := h
      refine x_la (i := i5) (nx := 157) rfl sh_78 hx hi (by decide) ?_
      refine x_st rfl ?_
      refine x_st rfl ?_
      obtain ⟨x8, M6, N7, hc, h⟩ := h
      refine x_ci rfl hc ?_
      refine x_br rfl (fun c => ?_) (fun c => ?_)
      · replace h := h.1 c
        refine x_st rfl ?_
        refine x_kl ?_ h
        exact ⟨Or.inr rfl, ⟨Or.inr rfl, ⟨Or.inr rfl, ⟨Or.inr rfl, ⟨Or.inr rfl, ⟨Or.inl rfl, ⟨Or.inr rfl, True.intro⟩⟩⟩⟩⟩⟩⟩
      · replace h := h.2 c
        refine x_st rfl ?_
        refine x_st rfl ?_
        refine x_kl ?_ h
        exact ⟨Or.inr rfl, ⟨Or.inr rfl, ⟨Or.inr rfl, ⟨Or.inr rfl, ⟨Or.inr rfl, ⟨Or.inl rfl, ⟨Or.inr rfl, True.intro⟩⟩⟩⟩⟩⟩⟩
theorem BX11_people_172 {D : Nat} {Q : Option Value → mI → mJ → Prop}  {v1 : Int32} {v2 : Int32} {v3 : Int32} {v4 : Int32} {v6 : Int32} {s0 : Int32} {MI : mI} {ML : mJ} 
    (h : (s0 = nI 0 → VX11_people_69 D Q v1 v2 v3 v4 s0 MI ML) ∧ (¬ s0 = nI 0 → ∃ i1 : Nat, v6 = nI i1 ∧ i1 < 360 ∧ (∃ i2 : Nat, (v6 + (nI 1)) = nI i2 ∧ i2 < 360 ∧ (∃ (M3 : mI) (N4 : mJ), mrc D 186 [.ref 46, .int ((ML 78 i1)).toInt32, .int ((ML 78 i2)).toInt32] MI ML none M3 N4 ∧ (VX11_people_69 D Q v1 v2 v3 (v4 + (nI 1)) s0 M3 N4))))) :
    VX11_people_172 D Q v1 v2 v3 v4 v6 s0 MI ML := by
  show mEx D TX11_people (mqS Q) (172, [some (.ref 46), some (.int v1), some (.int v2), some (.int v3), some (.int v4), none, some (.int v6)], [.int s0], (W0, Sh0, MI, ML))
  refine x_st rfl ?_
  refine x_st rfl ?_
  refine x_br rfl (fun c => ?_) (fun c => ?_)
  · replace h := h.1 c
    refine x_st rfl ?_
    refine x_kl ?_ h
    exact ⟨Or.inr rfl, ⟨Or.inr rfl, ⟨Or.inr rfl, ⟨Or.inr rfl, ⟨Or.inr rfl, ⟨Or.inr rfl, ⟨Or.inl rfl, True.intro⟩⟩⟩⟩⟩⟩⟩
  · replace h := h.2 c
    refine x_st rfl ?_
    refine x_st rfl ?_
    refine x_gr (ci := 11) (k := 49) (nx := 184) rfl sh_46 rfl ?_
    refine x_st rfl ?_
    obtain ⟨i1, hx, hi, h⟩ := h
    refine x_la (i := i1) (nx := 187) rfl sh_78 hx hi (by decide) ?_
    refine x_st rfl ?_
    refine x_st rfl ?_
    refine x_gr (ci := 11) (k := 49) (nx := 192) rfl sh_46 rfl ?_
    refine x_st rfl ?_
    refine x_st rfl ?_
    refine x_st rfl ?_
    obtain ⟨i2, hx, hi, h⟩ := h
    refine x_la (i := i2) (nx := 197) rfl sh_78 hx hi (by decide) ?_
    refine x_st rfl ?_
    obtain ⟨M3, N4, hc, h⟩ := h
    refine x_vv (y := 186) (n := 2) (ci := 11) (nx := 201) rfl (fun _ => rfl) sh_46 rfl hc ?_
    refine x_st rfl ?_
    refine x_st rfl ?_
    refine x_kl ?_ h
    exact ⟨Or.inr rfl, ⟨Or.inr rfl, ⟨Or.inr rfl, ⟨Or.inr rfl, ⟨Or.inr rfl, ⟨Or.inr rfl, ⟨Or.inl rfl, True.intro⟩⟩⟩⟩⟩⟩⟩
theorem EX11_people {D : Nat} {Q : Option Value → mI → mJ → Prop}  {v1 : Int32} {v2 : Int32} {v3 : Int32} {MI : mI} {ML : mJ} (h : VX11_people_0 D Q v1 v2 v3 MI ML) : ∃ v MI' ML', Q v MI' ML' ∧ mrc (D + 1) 188 [.ref 46, .int v1, .int v2, .int v3] MI ML v MI' ML' := by
  refine x_en (n := 3) (T := TX11_people) rfl rfl ?_
  refine x_kl ?_ h
  exact ⟨Or.inr rfl, ⟨Or.inr rfl, ⟨Or.inr rfl, ⟨Or.inr rfl, ⟨Or.inl rfl, ⟨Or.inl rfl, ⟨Or.inl rfl, True.intro⟩⟩⟩⟩⟩⟩⟩
def VX11_placeOf_0 (D : Nat) (Q : Option Value → mI → mJ → Prop)  (v1 : Int32) (v2 : Int32) (MI : mI) (ML : mJ) : Prop := mEx D TX11_placeOf (mqS Q) (0, [some (.ref 46), some (.int v1), some (.int v2)], [], (W0, Sh0, MI, ML))
theorem BX11_placeOf_0 {D : Nat} {Q : Option Value → mI → mJ → Prop}  {v1 : Int32} {v2 : Int32} {MI : mI} {ML : mJ} 
    (h : ∃ (x3 : Int32) (M1 : mI) (N2 : mJ), mrc D 178 [.long (v2).toInt64, .long (0 : Int64), .long (1 : Int64)] MI ML (some (.int x3)) M1 N2 ∧ ((x3 = nI 0 → ∃ (x6 : Int32) (M4 : mI) (N5 : mJ), mrc D 178 [.long (v2).toInt64, .long (2 : Int64), .long (5 : Int64)] M1 N2 (some (.int x6)) M4 N5 ∧ ((x6 = nI 0 → Q (some (.int (-1 : Int32))) M4 N5) ∧ (¬ x6 = nI 0 → (v1 = nI 0 → Q (some (.int (((nI 16) + v2) - (nI 2)))) M4 N5) ∧ (¬ v1 = nI 0 → Q (some (.int (-1 : Int32))) M4 N5)))) ∧ (¬ x3 = nI 0 → ∃ (x9 : Int32) (M7 : mI) (N8 : mJ), mrc D 183 [.ref 46, .long (v1).toInt64] M1 N2 (some (.int x9)) M7 N8 ∧ ((x9 = nI 0 → Q (some (.int (-1 : Int32))) M7 N8) ∧ (¬ x9 = nI 0 → Q (some (.int (((nI 8) * v2) + v1))) M7 N8))))) :
    VX11_placeOf_0 D Q v1 v2 MI ML := by
  show mEx D TX11_placeOf (mqS Q) (0, [some (.ref 46), some (.int v1), some (.int v2)], [], (W0, Sh0, MI, ML))
  refine x_st rfl ?_
  refine x_st rfl ?_
  refine x_st rfl ?_
  refine x_st rfl ?_
  obtain ⟨x3, M1, N2, hc, h⟩ := h
  refine x_ci rfl hc ?_
  refine x_br rfl (fun c => ?_) (fun c => ?_)
  · replace h := h.1 c
    refine x_st rfl ?_
    refine x_st rfl ?_
    refine x_st rfl ?_
    refine x_st rfl ?_
    obtain ⟨x6, M4, N5, hc, h⟩ := h
    refine x_ci rfl hc ?_
    refine x_br rfl (fun c => ?_) (fun c => ?_)
    · replace h := h.1 c
      refine x_st rfl ?_
      refine x_ret rfl ?_
      exact ⟨_, _, rfl, h⟩
    · replace h := h.2 c
      refine x_st rfl ?_
      refine x_br rfl (fun c => ?_) (fun c => ?_)
      · replace h := h.1 c
        refine x_st rfl ?_
        refine x_st rfl ?_
        refine x_st rfl ?_
        refine x_st rfl ?_
        refine x_st rfl ?_
        refine x_st rfl ?_
        refine x_ret rfl ?_
        exact ⟨_, _, rfl, h⟩
      · replace h := h.2 c
        refine x_st rfl ?_
        refine x_ret rfl ?_
        exact ⟨_, _, rfl, h⟩
  · replace h := h.2 c
    refine x_st rfl ?_
    refine x_st rfl ?_
    refine x_st rfl ?_
    obtain ⟨x9, M7, N8, hc, h⟩ := h
    refine x_vi (y := 183) (n := 1) (ci := 11) (nx := 16) rfl (fun _ => rfl) sh_46 rfl hc ?_
    refine x_br rfl (fun c => ?_) (fun c => ?_)
    · replace h := h.1 c
      refine x_st rfl ?_
      refine x_ret rfl ?_
      exact ⟨_, _, rfl, h⟩
    · replace h := h.2 c
      refine x_st rfl ?_
      refine x_st rfl ?_
      refine x_st rfl ?_
      refine x_st rfl ?_
      refine x_st rfl ?_
      refine x_st rfl ?_
      refine x_ret rfl ?_
      exact ⟨_, _, rfl, h⟩
theorem EX11_placeOf {D : Nat} {Q : Option Value → mI → mJ → Prop}  {v1 : Int32} {v2 : Int32} {MI : mI} {ML : mJ} (h : VX11_placeOf_0 D Q v1 v2 MI ML) : ∃ v MI' ML', Q v MI' ML' ∧ mrc (D + 1) 189 [.ref 46, .int v1, .int v2] MI ML v MI' ML' := by
  refine x_en (n := 0) (T := TX11_placeOf) rfl rfl ?_
  refine x_kl ?_ h
  exact ⟨Or.inr rfl, ⟨Or.inr rfl, ⟨Or.inr rfl, True.intro⟩⟩⟩
def VX11_mostOf_0 (D : Nat) (Q : Option Value → mI → mJ → Prop)  (v0 : Int32) (MI : mI) (ML : mJ) : Prop := mEx D TX11_mostOf (mqS Q) (0, [some (.int v0)], [], (W0, Sh0, MI, ML))
theorem BX11_mostOf_0 {D : Nat} {Q : Option Value → mI → mJ → Prop}  {v0 : Int32} {MI : mI} {ML : mJ} 
    (h : (v0 = (nI 0) → Q (some (.int (nI 99))) MI ML) ∧ (¬ v0 = (nI 0) → (v0 = (nI 1) → Q (some (.int (nI 9))) MI ML) ∧ (¬ v0 = (nI 1) → (v0 = (nI 2) → Q (some (.int (nI 3))) MI ML) ∧ (¬ v0 = (nI 2) → (v0 = (nI 3) → Q (some (.int (nI 9))) MI ML) ∧ (¬ v0 = (nI 3) → (v0 = (nI 4) → Q (some (.int (nI 20))) MI ML) ∧ (¬ v0 = (nI 4) → (v0 = (nI 5) → Q (some (.int (nI 99))) MI ML) ∧ (¬ v0 = (nI 5) → Q (some (.int (nI 9))) MI ML))))))) :
    VX11_mostOf_0 D Q v0 MI ML := by
  show mEx D TX11_mostOf (mqS Q) (0, [some (.int v0)], [], (W0, Sh0, MI, ML))
  refine x_st rfl ?_
  refine x_sw rfl ?_
  refine ⟨fun c => ?_, fun c => ?_⟩
  · replace h := h.1 c
    refine x_st rfl ?_
    refine x_ret rfl ?_
    exact ⟨_, _, rfl, h⟩
  · replace h := h.2 c
    refine ⟨fun c => ?_, fun c => ?_⟩
    · replace h := h.1 c
      refine x_st rfl ?_
      refine x_ret rfl ?_
      exact ⟨_, _, rfl, h⟩
    · replace h := h.2 c
      refine ⟨fun c => ?_, fun c => ?_⟩
      · replace h := h.1 c
        refine x_st rfl ?_
        refine x_ret rfl ?_
        exact ⟨_, _, rfl, h⟩
      · replace h := h.2 c
        refine ⟨fun c => ?_, fun c => ?_⟩
        · replace h := h.1 c
          refine x_st rfl ?_
          refine x_ret rfl ?_
          exact ⟨_, _, rfl, h⟩
        · replace h := h.2 c
          refine ⟨fun c => ?_, fun c => ?_⟩
          · replace h := h.1 c
            refine x_st rfl ?_
            refine x_ret rfl ?_
            exact ⟨_, _, rfl, h⟩
          · replace h := h.2 c
            refine ⟨fun c => ?_, fun c => ?_⟩
            · replace h := h.1 c
              refine x_st rfl ?_
              refine x_ret rfl ?_
              exact ⟨_, _, rfl, h⟩
            · replace h := h.2 c
              refine x_st rfl ?_
              refine x_ret rfl ?_
              exact ⟨_, _, rfl, h⟩
theorem EX11_mostOf {D : Nat} {Q : Option Value → mI → mJ → Prop}  {v0 : Int32} {MI : mI} {ML : mJ} (h : VX11_mostOf_0 D Q v0 MI ML) : ∃ v MI' ML', Q v MI' ML' ∧ mrc (D + 1) 190 [.int v0] MI ML v MI' ML' := by
  refine x_en (n := 0) (T := TX11_mostOf) rfl rfl ?_
  refine x_kl ?_ h
  exact ⟨Or.inr rfl, True.intro⟩
def VX11_mend_0 (D : Nat) (Q : Option Value → mI → mJ → Prop)  (v1 : Int32) (v2 : Int32) (v3 : Int32) (MI : mI) (ML : mJ) : Prop := mEx D TX11_mend (mqS Q) (0, [some (.ref 46), some (.int v1), some (.int v2), some (.int v3), none], [], (W0, Sh0, MI, ML))
theorem BX11_mend_0 {D : Nat} {Q : Option Value → mI → mJ → Prop}  {v1 : Int32} {v2 : Int32} {v3 : Int32} {MI : mI} {ML : mJ} 
    (h : ∃ (x3 : Int32) (M1 : mI) (N2 : mJ), mrc D 189 [.ref 46, .int v1, .int v2] MI ML (some (.int x3)) M1 N2 ∧ ((x3 < nI 0 → Q (some (.int (-1 : Int32))) M1 N2) ∧ (¬ x3 < nI 0 → ∃ (x6 : Int32) (M4 : mI) (N5 : mJ), mrc D 190 [.int v2] M1 N2 (some (.int x6)) M4 N5 ∧ (∃ (x9 : Int32) (M7 : mI) (N8 : mJ), mrc D 178 [.long (v3).toInt64, .long (0 : Int64), .long (x6).toInt64] M4 N5 (some (.int x9)) M7 N8 ∧ ((x9 = nI 0 → Q (some (.int (-1 : Int32))) M7 N8) ∧ (¬ x9 = nI 0 → ∃ (x12 : Int32) (M10 : mI) (N11 : mJ), mrc D 180 [.ref 46, .int x3, .int v3] M7 N8 (some (.int x12)) M10 N11 ∧ (Q (some (.int x12)) M10 N11))))))) :
    VX11_mend_0 D Q v1 v2 v3 MI ML := by
  show mEx D TX11_mend (mqS Q) (0, [some (.ref 46), some (.int v1), some (.int v2), some (.int v3), none], [], (W0, Sh0, MI, ML))
  refine x_st rfl ?_
  refine x_st rfl ?_
  refine x_st rfl ?_
  obtain ⟨x3, M1, N2, hc, h⟩ := h
  refine x_vi (y := 189) (n := 2) (ci := 11) (nx := 6) rfl (fun _ => rfl) sh_46 rfl hc ?_
  refine x_st rfl ?_
  refine x_st rfl ?_
  refine x_br rfl (fun c => ?_) (fun c => ?_)
  · replace h := h.1 c
    refine x_st rfl ?_
    refine x_ret rfl ?_
    exact ⟨_, _, rfl, h⟩
  · replace h := h.2 c
    refine x_st rfl ?_
    refine x_st rfl ?_
    refine x_st rfl ?_
    refine x_st rfl ?_
    obtain ⟨x6, M4, N5, hc, h⟩ := h
    refine x_ci rfl hc ?_
    refine x_st rfl ?_
    obtain ⟨x9, M7, N8, hc, h⟩ := h
    refine x_ci rfl hc ?_
    refine x_br rfl (fun c => ?_) (fun c => ?_)
    · replace h := h.1 c
      refine x_st rfl ?_
      refine x_ret rfl ?_
      exact ⟨_, _, rfl, h⟩
    · replace h := h.2 c
      refine x_st rfl ?_
      refine x_st rfl ?_
      refine x_st rfl ?_
      obtain ⟨x12, M10, N11, hc, h⟩ := h
      refine x_vi (y := 180) (n := 2) (ci := 11) (nx := 34) rfl (fun _ => rfl) sh_46 rfl hc ?_
      refine x_st rfl ?_
      refine x_ret rfl ?_
      exact ⟨_, _, rfl, h⟩
theorem EX11_mend {D : Nat} {Q : Option Value → mI → mJ → Prop}  {v1 : Int32} {v2 : Int32} {v3 : Int32} {MI : mI} {ML : mJ} (h : VX11_mend_0 D Q v1 v2 v3 MI ML) : ∃ v MI' ML', Q v MI' ML' ∧ mrc (D + 1) 191 [.ref 46, .int v1, .int v2, .int v3] MI ML v MI' ML' := by
  refine x_en (n := 1) (T := TX11_mend) rfl rfl ?_
  refine x_kl ?_ h
  exact ⟨Or.inr rfl, ⟨Or.inr rfl, ⟨Or.inr rfl, ⟨Or.inr rfl, ⟨Or.inl rfl, True.intro⟩⟩⟩⟩⟩
def VX11_of_0 (D : Nat) (Q : Option Value → mI → mJ → Prop)  (v1 : Int32) (v2 : Int32) (MI : mI) (ML : mJ) : Prop := mEx D TX11_of (mqS Q) (0, [some (.ref 46), some (.int v1), some (.int v2), none], [], (W0, Sh0, MI, ML))
theorem BX11_of_0 {D : Nat} {Q : Option Value → mI → mJ → Prop}  {v1 : Int32} {v2 : Int32} {MI : mI} {ML : mJ} 
    (h : ∃ (x3 : Int32) (M1 : mI) (N2 : mJ), mrc D 189 [.ref 46, .int v1, .int v2] MI ML (some (.int x3)) M1 N2 ∧ ((x3 < nI 0 → Q (some (.int (-1 : Int32))) M1 N2) ∧ (¬ x3 < nI 0 → ∃ i4 : Nat, x3 = nI i4 ∧ i4 < 84 ∧ (Q (some (.int (M1 47 i4))) M1 N2)))) :
    VX11_of_0 D Q v1 v2 MI ML := by
  show mEx D TX11_of (mqS Q) (0, [some (.ref 46), some (.int v1), some (.int v2), none], [], (W0, Sh0, MI, ML))
  refine x_st rfl ?_
  refine x_st rfl ?_
  refine x_st rfl ?_
  obtain ⟨x3, M1, N2, hc, h⟩ := h
  refine x_vi (y := 189) (n := 2) (ci := 11) (nx := 6) rfl (fun _ => rfl) sh_46 rfl hc ?_
  refine x_st rfl ?_
  refine x_st rfl ?_
  refine x_br rfl (fun c => ?_) (fun c => ?_)
  · replace h := h.1 c
    refine x_st rfl ?_
    refine x_ret rfl ?_
    exact ⟨_, _, rfl, h⟩
  · replace h := h.2 c
    refine x_st rfl ?_
    refine x_gr (ci := 11) (k := 0) (nx := 15) rfl sh_46 rfl ?_
    refine x_st rfl ?_
    obtain ⟨i4, hx, hi, h⟩ := h
    refine x_ia (i := i4) (nx := 17) rfl sh_47 hx hi (by decide) ?_
    refine x_st rfl ?_
    refine x_ret rfl ?_
    exact ⟨_, _, rfl, h⟩
theorem EX11_of {D : Nat} {Q : Option Value → mI → mJ → Prop}  {v1 : Int32} {v2 : Int32} {MI : mI} {ML : mJ} (h : VX11_of_0 D Q v1 v2 MI ML) : ∃ v MI' ML', Q v MI' ML' ∧ mrc (D + 1) 192 [.ref 46, .int v1, .int v2] MI ML v MI' ML' := by
  refine x_en (n := 1) (T := TX11_of) rfl rfl ?_
  refine x_kl ?_ h
  exact ⟨Or.inr rfl, ⟨Or.inr rfl, ⟨Or.inr rfl, ⟨Or.inl rfl, True.intro⟩⟩⟩⟩
def VX11_feel_0 (D : Nat) (Q : Option Value → mI → mJ → Prop)  (v1 : Int32) (v2 : Int32) (MI : mI) (ML : mJ) : Prop := mEx D TX11_feel (mqS Q) (0, [some (.ref 46), some (.int v1), some (.int v2)], [], (W0, Sh0, MI, ML))
theorem BX11_feel_0 {D : Nat} {Q : Option Value → mI → mJ → Prop}  {v1 : Int32} {v2 : Int32} {MI : mI} {ML : mJ} 
    (h : ∃ (x3 : Int32) (M1 : mI) (N2 : mJ), mrc D 185 [.ref 46, .int v1] MI ML (some (.int x3)) M1 N2 ∧ ((x3 = nI 0 → Q (some (.int (-1 : Int32))) M1 N2) ∧ (¬ x3 = nI 0 → ∃ (x6 : Int32) (M4 : mI) (N5 : mJ), mrc D 178 [.long (v2).toInt64, .long (-9 : Int64), .long (9 : Int64)] M1 N2 (some (.int x6)) M4 N5 ∧ ((x6 = nI 0 → Q (some (.int (-1 : Int32))) M4 N5) ∧ (¬ x6 = nI 0 → ∃ (x9 : Int32) (M7 : mI) (N8 : mJ), mrc D 184 [.int (v1 / (nI 10)), .int (v1 - v1 / (nI 10) * (nI 10))] M4 N5 (some (.int x9)) M7 N8 ∧ (∃ (x12 : Int32) (M10 : mI) (N11 : mJ), mrc D 180 [.ref 46, .int x9, .int v2] M7 N8 (some (.int x12)) M10 N11 ∧ (Q (some (.int (x12 + (nI 100)))) M10 N11))))))) :
    VX11_feel_0 D Q v1 v2 MI ML := by
  show mEx D TX11_feel (mqS Q) (0, [some (.ref 46), some (.int v1), some (.int v2)], [], (W0, Sh0, MI, ML))
  refine x_st rfl ?_
  refine x_st rfl ?_
  obtain ⟨x3, M1, N2, hc, h⟩ := h
  refine x_vi (y := 185) (n := 1) (ci := 11) (nx := 5) rfl (fun _ => rfl) sh_46 rfl hc ?_
  refine x_br rfl (fun c => ?_) (fun c => ?_)
  · replace h := h.1 c
    refine x_st rfl ?_
    refine x_ret rfl ?_
    exact ⟨_, _, rfl, h⟩
  · replace h := h.2 c
    refine x_st rfl ?_
    refine x_st rfl ?_
    refine x_st rfl ?_
    refine x_st rfl ?_
    obtain ⟨x6, M4, N5, hc, h⟩ := h
    refine x_ci rfl hc ?_
    refine x_br rfl (fun c => ?_) (fun c => ?_)
    · replace h := h.1 c
      refine x_st rfl ?_
      refine x_ret rfl ?_
      exact ⟨_, _, rfl, h⟩
    · replace h := h.2 c
      refine x_st rfl ?_
      refine x_st rfl ?_
      refine x_st rfl ?_
      refine x_st rfl ?_
      refine x_st rfl ?_
      refine x_st rfl ?_
      refine x_st rfl ?_
      obtain ⟨x9, M7, N8, hc, h⟩ := h
      refine x_ci rfl hc ?_
      refine x_st rfl ?_
      obtain ⟨x12, M10, N11, hc, h⟩ := h
      refine x_vi (y := 180) (n := 2) (ci := 11) (nx := 38) rfl (fun _ => rfl) sh_46 rfl hc ?_
      refine x_st rfl ?_
      refine x_st rfl ?_
      refine x_st rfl ?_
      refine x_ret rfl ?_
      exact ⟨_, _, rfl, h⟩
theorem EX11_feel {D : Nat} {Q : Option Value → mI → mJ → Prop}  {v1 : Int32} {v2 : Int32} {MI : mI} {ML : mJ} (h : VX11_feel_0 D Q v1 v2 MI ML) : ∃ v MI' ML', Q v MI' ML' ∧ mrc (D + 1) 193 [.ref 46, .int v1, .int v2] MI ML v MI' ML' := by
  refine x_en (n := 0) (T := TX11_feel) rfl rfl ?_
  refine x_kl ?_ h
  exact ⟨Or.inr rfl, ⟨Or.inr rfl, ⟨Or.inr rfl, True.intro⟩⟩⟩
def VX11_feeling_0 (D : Nat) (Q : Option Value → mI → mJ → Prop)  (v1 : Int32) (MI : mI) (ML : mJ) : Prop := mEx D TX11_feeling (mqS Q) (0, [some (.ref 46), some (.int v1)], [], (W0, Sh0, MI, ML))
theorem BX11_feeling_0 {D : Nat} {Q : Option Value → mI → mJ → Prop}  {v1 : Int32} {MI : mI} {ML : mJ} 
    (h : ∃ (x3 : Int32) (M1 : mI) (N2 : mJ), mrc D 185 [.ref 46, .int v1] MI ML (some (.int x3)) M1 N2 ∧ ((x3 = nI 0 → Q (some (.int (-1 : Int32))) M1 N2) ∧ (¬ x3 = nI 0 → ∃ (x6 : Int32) (M4 : mI) (N5 : mJ), mrc D 184 [.int (v1 / (nI 10)), .int (v1 - v1 / (nI 10) * (nI 10))] M1 N2 (some (.int x6)) M4 N5 ∧ (∃ i7 : Nat, x6 = nI i7 ∧ i7 < 84 ∧ (Q (some (.int ((M4 47 i7) + (nI 100)))) M4 N5))))) :
    VX11_feeling_0 D Q v1 MI ML := by
  show mEx D TX11_feeling (mqS Q) (0, [some (.ref 46), some (.int v1)], [], (W0, Sh0, MI, ML))
  refine x_st rfl ?_
  refine x_st rfl ?_
  obtain ⟨x3, M1, N2, hc, h⟩ := h
  refine x_vi (y := 185) (n := 1) (ci := 11) (nx := 5) rfl (fun _ => rfl) sh_46 rfl hc ?_
  refine x_br rfl (fun c => ?_) (fun c => ?_)
  · replace h := h.1 c
    refine x_st rfl ?_
    refine x_ret rfl ?_
    exact ⟨_, _, rfl, h⟩
  · replace h := h.2 c
    refine x_st rfl ?_
    refine x_gr (ci := 11) (k := 0) (nx := 12) rfl sh_46 rfl ?_
    refine x_st rfl ?_
    refine x_st rfl ?_
    refine x_st rfl ?_
    refine x_st rfl ?_
    refine x_st rfl ?_
    refine x_st rfl ?_
    obtain ⟨x6, M4, N5, hc, h⟩ := h
    refine x_ci rfl hc ?_
    obtain ⟨i7, hx, hi, h⟩ := h
    refine x_ia (i := i7) (nx := 24) rfl sh_47 hx hi (by decide) ?_
    refine x_st rfl ?_
    refine x_st rfl ?_
    refine x_st rfl ?_
    refine x_ret rfl ?_
    exact ⟨_, _, rfl, h⟩
theorem EX11_feeling {D : Nat} {Q : Option Value → mI → mJ → Prop}  {v1 : Int32} {MI : mI} {ML : mJ} (h : VX11_feeling_0 D Q v1 MI ML) : ∃ v MI' ML', Q v MI' ML' ∧ mrc (D + 1) 194 [.ref 46, .int v1] MI ML v MI' ML' := by
  refine x_en (n := 0) (T := TX11_feeling) rfl rfl ?_
  refine x_kl ?_ h
  exact ⟨Or.inr rfl, ⟨Or.inr rfl, True.intro⟩⟩
def VX11_feed_0 (D : Nat) (Q : Option Value → mI → mJ → Prop)  (v1 : Int32) (MI : mI) (ML : mJ) : Prop := mEx D TX11_feed (mqS Q) (0, [some (.ref 46), some (.int v1)], [], (W0, Sh0, MI, ML))
theorem BX11_feed_0 {D : Nat} {Q : Option Value → mI → mJ → Prop}  {v1 : Int32} {MI : mI} {ML : mJ} 
    (h : ∃ (x3 : Int32) (M1 : mI) (N2 : mJ), mrc D 178 [.long (v1).toInt64, .long (0 : Int64), .long (255 : Int64)] MI ML (some (.int x3)) M1 N2 ∧ ((x3 = nI 0 → Q (some (.int (-1 : Int32))) M1 N2) ∧ (¬ x3 = nI 0 → ((M1 46 8) = (nI 160) → Q (some (.int (-3 : Int32))) M1 N2) ∧ (¬ (M1 46 8) = (nI 160) → ∃ i4 : Nat, (M1 46 8) = nI i4 ∧ i4 < 160 ∧ (Q (some (.int ((mup (mup M1 51 (mput (M1 51) i4 v1)) 46 (mput ((mup M1 51 (mput (M1 51) i4 v1)) 46) 8 (((mup M1 51 (mput (M1 51) i4 v1)) 46 8) + (nI 1)))) 46 8))) (mup (mup M1 51 (mput (M1 51) i4 v1)) 46 (mput ((mup M1 51 (mput (M1 51) i4 v1)) 46) 8 (((mup M1 51 (mput (M1 51) i4 v1)) 46 8) + (nI 1)))) N2))))) :
    VX11_feed_0 D Q v1 MI ML := by
  show mEx D TX11_feed (mqS Q) (0, [some (.ref 46), some (.int v1)], [], (W0, Sh0, MI, ML))
  refine x_st rfl ?_
  refine x_st rfl ?_
  refine x_st rfl ?_
  refine x_st rfl ?_
  obtain ⟨x3, M1, N2, hc, h⟩ := h
  refine x_ci rfl hc ?_
  refine x_br rfl (fun c => ?_) (fun c => ?_)
  · replace h := h.1 c
    refine x_st rfl ?_
    refine x_ret rfl ?_
    exact ⟨_, _, rfl, h⟩
  · replace h := h.2 c
    refine x_st rfl ?_
    refine x_gi (ci := 11) (k := 8) (nx := 18) rfl sh_46 rfl ?_
    refine x_st rfl ?_
    refine x_br rfl (fun c => ?_) (fun c => ?_)
    · replace h := h.1 c
      refine x_st rfl ?_
      refine x_ret rfl ?_
      exact ⟨_, _, rfl, h⟩
    · replace h := h.2 c
      refine x_st rfl ?_
      refine x_gr (ci := 11) (k := 7) (nx := 31) rfl sh_46 rfl ?_
      refine x_st rfl ?_
      refine x_gi (ci := 11) (k := 8) (nx := 35) rfl sh_46 rfl ?_
      refine x_st rfl ?_
      obtain ⟨i4, hx, hi, h⟩ := h
      refine x_iast (i := i4) (nx := 37) rfl sh_51 hx hi (by decide) ?_
      refine x_st rfl ?_
      refine x_st rfl ?_
      refine x_gi (ci := 11) (k := 8) (nx := 42) rfl sh_46 rfl ?_
      refine x_st rfl ?_
      refine x_st rfl ?_
      refine x_pi (ci := 11) (k := 8) (nx := 47) rfl sh_46 rfl ?_
      refine x_st rfl ?_
      refine x_gi (ci := 11) (k := 8) (nx := 51) rfl sh_46 rfl ?_
      refine x_ret rfl ?_
      exact ⟨_, _, rfl, h⟩
theorem EX11_feed {D : Nat} {Q : Option Value → mI → mJ → Prop}  {v1 : Int32} {MI : mI} {ML : mJ} (h : VX11_feed_0 D Q v1 MI ML) : ∃ v MI' ML', Q v MI' ML' ∧ mrc (D + 1) 195 [.ref 46, .int v1] MI ML v MI' ML' := by
  refine x_en (n := 0) (T := TX11_feed) rfl rfl ?_
  refine x_kl ?_ h
  exact ⟨Or.inr rfl, ⟨Or.inr rfl, True.intro⟩⟩
def VX11_byteAt_0 (D : Nat) (Q : Option Value → mI → mJ → Prop)  (MI : mI) (ML : mJ) : Prop := mEx D TX11_byteAt (mqS Q) (0, [some (.ref 46)], [], (W0, Sh0, MI, ML))
theorem BX11_byteAt_0 {D : Nat} {Q : Option Value → mI → mJ → Prop}  {MI : mI} {ML : mJ} 
    (h : ((MI 46 8) ≤ (MI 46 18) → Q (some (.int (nI 0))) MI ML) ∧ (¬ (MI 46 8) ≤ (MI 46 18) → ∃ i1 : Nat, (MI 46 18) = nI i1 ∧ i1 < 160 ∧ (Q (some (.int (MI 51 i1))) MI ML))) :
    VX11_byteAt_0 D Q  MI ML := by
  show mEx D TX11_byteAt (mqS Q) (0, [some (.ref 46)], [], (W0, Sh0, MI, ML))
  refine x_st rfl ?_
  refine x_gi (ci := 11) (k := 18) (nx := 4) rfl sh_46 rfl ?_
  refine x_st rfl ?_
  refine x_gi (ci := 11) (k := 8) (nx := 8) rfl sh_46 rfl ?_
  refine x_br rfl (fun c => ?_) (fun c => ?_)
  · replace h := h.1 c
    refine x_st rfl ?_
    refine x_ret rfl ?_
    exact ⟨_, _, rfl, h⟩
  · replace h := h.2 c
    refine x_st rfl ?_
    refine x_gr (ci := 11) (k := 7) (nx := 15) rfl sh_46 rfl ?_
    refine x_st rfl ?_
    refine x_gi (ci := 11) (k := 18) (nx := 19) rfl sh_46 rfl ?_
    obtain ⟨i1, hx, hi, h⟩ := h
    refine x_ia (i := i1) (nx := 20) rfl sh_51 hx hi (by decide) ?_
    refine x_st rfl ?_
    refine x_ret rfl ?_
    exact ⟨_, _, rfl, h⟩
theorem EX11_byteAt {D : Nat} {Q : Option Value → mI → mJ → Prop}  {MI : mI} {ML : mJ} (h : VX11_byteAt_0 D Q  MI ML) : ∃ v MI' ML', Q v MI' ML' ∧ mrc (D + 1) 196 [.ref 46] MI ML v MI' ML' := by
  refine x_en (n := 0) (T := TX11_byteAt) rfl rfl ?_
  refine x_kl ?_ h
  exact ⟨Or.inr rfl, True.intro⟩
def VX11_wrong_0 (D : Nat) (Q : Option Value → mI → mJ → Prop)  (MI : mI) (ML : mJ) : Prop := mEx D TX11_wrong (mqS Q) (0, [some (.ref 46)], [], (W0, Sh0, MI, ML))
theorem BX11_wrong_0 {D : Nat} {Q : Option Value → mI → mJ → Prop}  {MI : mI} {ML : mJ} 
    (h : (nI 0 ≤ (MI 46 19) → Q none (mup MI 46 (mput (MI 46) 19 (MI 46 19))) ML) ∧ (¬ nI 0 ≤ (MI 46 19) → Q none (mup MI 46 (mput (MI 46) 19 (MI 46 18))) ML)) :
    VX11_wrong_0 D Q  MI ML := by
  show mEx D TX11_wrong (mqS Q) (0, [some (.ref 46)], [], (W0, Sh0, MI, ML))
  refine x_st rfl ?_
  refine x_st rfl ?_
  refine x_gi (ci := 11) (k := 19) (nx := 5) rfl sh_46 rfl ?_
  refine x_br rfl (fun c => ?_) (fun c => ?_)
  · replace h := h.1 c
    refine x_st rfl ?_
    refine x_gi (ci := 11) (k := 19) (nx := 19) rfl sh_46 rfl ?_
    refine x_pi (ci := 11) (k := 19) (nx := 22) rfl sh_46 rfl ?_
    refine x_ret rfl ?_
    exact ⟨_, _, rfl, h⟩
  · replace h := h.2 c
    refine x_st rfl ?_
    refine x_gi (ci := 11) (k := 18) (nx := 12) rfl sh_46 rfl ?_
    refine x_st rfl ?_
    refine x_pi (ci := 11) (k := 19) (nx := 22) rfl sh_46 rfl ?_
    refine x_ret rfl ?_
    exact ⟨_, _, rfl, h⟩
theorem EX11_wrong {D : Nat} {Q : Option Value → mI → mJ → Prop}  {MI : mI} {ML : mJ} (h : VX11_wrong_0 D Q  MI ML) : ∃ v MI' ML', Q v MI' ML' ∧ mrc (D + 1) 197 [.ref 46] MI ML v MI' ML' := by
  refine x_en (n := 0) (T := TX11_wrong) rfl rfl ?_
  refine x_kl ?_ h
  exact ⟨Or.inr rfl, True.intro⟩
def VX11_takes_0 (D : Nat) (Q : Option Value → mI → mJ → Prop)  (v1 : Int32) (MI : mI) (ML : mJ) : Prop := mEx D TX11_takes (mqS Q) (0, [some (.ref 46), some (.int v1)], [], (W0, Sh0, MI, ML))
theorem BX11_takes_0 {D : Nat} {Q : Option Value → mI → mJ → Prop}  {v1 : Int32} {MI : mI} {ML : mJ} 
    (h : (nI 0 ≤ (MI 46 19) → Q (some (.int (nI 0))) MI ML) ∧ (¬ nI 0 ≤ (MI 46 19) → ∃ (x3 : Int32) (M1 : mI) (N2 : mJ), mrc D 196 [.ref 46] MI ML (some (.int x3)) M1 N2 ∧ ((x3 = v1 → Q (some (.int (nI 1))) (mup M1 46 (mput (M1 46) 18 ((M1 46 18) + (nI 1)))) N2) ∧ (¬ x3 = v1 → Q (some (.int (nI 0))) M1 N2)))) :
    VX11_takes_0 D Q v1 MI ML := by
  show mEx D TX11_takes (mqS Q) (0, [some (.ref 46), some (.int v1)], [], (W0, Sh0, MI, ML))
  refine x_st rfl ?_
  refine x_gi (ci := 11) (k := 19) (nx := 4) rfl sh_46 rfl ?_
  refine x_br rfl (fun c => ?_) (fun c => ?_)
  · replace h := h.1 c
    refine x_st rfl ?_
    refine x_ret rfl ?_
    exact ⟨_, _, rfl, h⟩
  · replace h := h.2 c
    refine x_st rfl ?_
    obtain ⟨x3, M1, N2, hc, h⟩ := h
    refine x_vi (y := 196) (n := 0) (ci := 11) (nx := 11) rfl (fun _ => rfl) sh_46 rfl hc ?_
    refine x_st rfl ?_
    refine x_br rfl (fun c => ?_) (fun c => ?_)
    · replace h := h.1 c
      refine x_st rfl ?_
      refine x_st rfl ?_
      refine x_gi (ci := 11) (k := 18) (nx := 22) rfl sh_46 rfl ?_
      refine x_st rfl ?_
      refine x_st rfl ?_
      refine x_pi (ci := 11) (k := 18) (nx := 27) rfl sh_46 rfl ?_
      refine x_st rfl ?_
      refine x_ret rfl ?_
      exact ⟨_, _, rfl, h⟩
    · replace h := h.2 c
      refine x_st rfl ?_
      refine x_ret rfl ?_
      exact ⟨_, _, rfl, h⟩
theorem EX11_takes {D : Nat} {Q : Option Value → mI → mJ → Prop}  {v1 : Int32} {MI : mI} {ML : mJ} (h : VX11_takes_0 D Q v1 MI ML) : ∃ v MI' ML', Q v MI' ML' ∧ mrc (D + 1) 198 [.ref 46, .int v1] MI ML v MI' ML' := by
  refine x_en (n := 0) (T := TX11_takes) rfl rfl ?_
  refine x_kl ?_ h
  exact ⟨Or.inr rfl, ⟨Or.inr rfl, True.intro⟩⟩
def VX11_writes_0 (D : Nat) (Q : Option Value → mI → mJ → Prop)  (v1 : Int32) (MI : mI) (ML : mJ) : Prop := mEx D TX11_writes (mqS Q) (0, [some (.ref 46), some (.int v1)], [], (W0, Sh0, MI, ML))
theorem BX11_writes_0 {D : Nat} {Q : Option Value → mI → mJ → Prop}  {v1 : Int32} {MI : mI} {ML : mJ} 
    (h : (nI 0 ≤ (MI 46 19) → Q none MI ML) ∧ (¬ nI 0 ≤ (MI 46 19) → ∃ i1 : Nat, (MI 46 10) = nI i1 ∧ i1 < 160 ∧ (Q none (mup (mup MI 52 (mput (MI 52) i1 v1)) 46 (mput ((mup MI 52 (mput (MI 52) i1 v1)) 46) 10 (((mup MI 52 (mput (MI 52) i1 v1)) 46 10) + (nI 1)))) ML))) :
    VX11_writes_0 D Q v1 MI ML := by
  show mEx D TX11_writes (mqS Q) (0, [some (.ref 46), some (.int v1)], [], (W0, Sh0, MI, ML))
  refine x_st rfl ?_
  refine x_gi (ci := 11) (k := 19) (nx := 4) rfl sh_46 rfl ?_
  refine x_br rfl (fun c => ?_) (fun c => ?_)
  · replace h := h.1 c
    refine x_ret rfl ?_
    exact ⟨_, _, rfl, h⟩
  · replace h := h.2 c
    refine x_st rfl ?_
    refine x_gr (ci := 11) (k := 9) (nx := 11) rfl sh_46 rfl ?_
    refine x_st rfl ?_
    refine x_gi (ci := 11) (k := 10) (nx := 15) rfl sh_46 rfl ?_
    refine x_st rfl ?_
    obtain ⟨i1, hx, hi, h⟩ := h
    refine x_iast (i := i1) (nx := 17) rfl sh_52 hx hi (by decide) ?_
    refine x_st rfl ?_
    refine x_st rfl ?_
    refine x_gi (ci := 11) (k := 10) (nx := 22) rfl sh_46 rfl ?_
    refine x_st rfl ?_
    refine x_st rfl ?_
    refine x_pi (ci := 11) (k := 10) (nx := 27) rfl sh_46 rfl ?_
    refine x_ret rfl ?_
    exact ⟨_, _, rfl, h⟩
theorem EX11_writes {D : Nat} {Q : Option Value → mI → mJ → Prop}  {v1 : Int32} {MI : mI} {ML : mJ} (h : VX11_writes_0 D Q v1 MI ML) : ∃ v MI' ML', Q v MI' ML' ∧ mrc (D + 1) 199 [.ref 46, .int v1] MI ML v MI' ML' := by
  refine x_en (n := 0) (T := TX11_writes) rfl rfl ?_
  refine x_kl ?_ h
  exact ⟨Or.inr rfl, ⟨Or.inr rfl, True.intro⟩⟩
def VX11_readsEither_0 (D : Nat) (Q : Option Value → mI → mJ → Prop)  (MI : mI) (ML : mJ) : Prop := mEx D TX11_readsEither (mqS Q) (0, [some (.ref 46)], [], (W0, Sh0, MI, ML))
def VX11_readsEither_4 (D : Nat) (Q : Option Value → mI → mJ → Prop)  (MI : mI) (ML : mJ) : Prop := mEx D TX11_readsEither (mqS Q) (4, [some (.ref 46)], [], (W0, Sh0, MI, ML))
theorem BX11_readsEither_0 {D : Nat} {Q : Option Value → mI → mJ → Prop}  {MI : mI} {ML : mJ} 
    (h : ∃ (M1 : mI) (N2 : mJ), mrc D 201 [.ref 46] MI ML none M1 N2 ∧ (VX11_readsEither_4 D Q  M1 N2)) :
    VX11_readsEither_0 D Q  MI ML := by
  show mEx D TX11_readsEither (mqS Q) (0, [some (.ref 46)], [], (W0, Sh0, MI, ML))
  refine x_st rfl ?_
  obtain ⟨M1, N2, hc, h⟩ := h
  refine x_vv (y := 201) (n := 0) (ci := 11) (nx := 4) rfl (fun _ => rfl) sh_46 rfl hc ?_
  refine x_kl ?_ h
  exact ⟨Or.inr rfl, True.intro⟩
theorem BX11_readsEither_4 {D : Nat} {Q : Option Value → mI → mJ → Prop}  {MI : mI} {ML : mJ} 
    (h : ∃ (x3 : Int32) (M1 : mI) (N2 : mJ), mrc D 198 [.ref 46, .int (nI 124)] MI ML (some (.int x3)) M1 N2 ∧ ((x3 = nI 0 → Q none M1 N2) ∧ (¬ x3 = nI 0 → ∃ (M4 : mI) (N5 : mJ), mrc D 201 [.ref 46] M1 N2 none M4 N5 ∧ (∃ (M6 : mI) (N7 : mJ), mrc D 199 [.ref 46, .int (-224 : Int32)] M4 N5 none M6 N7 ∧ (VX11_readsEither_4 D Q  M6 N7))))) :
    VX11_readsEither_4 D Q  MI ML := by
  show mEx D TX11_readsEither (mqS Q) (4, [some (.ref 46)], [], (W0, Sh0, MI, ML))
  refine x_st rfl ?_
  refine x_st rfl ?_
  obtain ⟨x3, M1, N2, hc, h⟩ := h
  refine x_vi (y := 198) (n := 1) (ci := 11) (nx := 10) rfl (fun _ => rfl) sh_46 rfl hc ?_
  refine x_br rfl (fun c => ?_) (fun c => ?_)
  · replace h := h.1 c
    refine x_ret rfl ?_
    exact ⟨_, _, rfl, h⟩
  · replace h := h.2 c
    refine x_st rfl ?_
    obtain ⟨M4, N5, hc, h⟩ := h
    refine x_vv (y := 201) (n := 0) (ci := 11) (nx := 17) rfl (fun _ => rfl) sh_46 rfl hc ?_
    refine x_st rfl ?_
    refine x_st rfl ?_
    obtain ⟨M6, N7, hc, h⟩ := h
    refine x_vv (y := 199) (n := 1) (ci := 11) (nx := 24) rfl (fun _ => rfl) sh_46 rfl hc ?_
    refine x_st rfl ?_
    refine x_kl ?_ h
    exact ⟨Or.inr rfl, True.intro⟩
theorem EX11_readsEither {D : Nat} {Q : Option Value → mI → mJ → Prop}  {MI : mI} {ML : mJ} (h : VX11_readsEither_0 D Q  MI ML) : ∃ v MI' ML', Q v MI' ML' ∧ mrc (D + 1) 200 [.ref 46] MI ML v MI' ML' := by
  refine x_en (n := 0) (T := TX11_readsEither) rfl rfl ?_
  refine x_kl ?_ h
  exact ⟨Or.inr rfl, True.intro⟩
def VX11_readsBoth_0 (D : Nat) (Q : Option Value → mI → mJ → Prop)  (MI : mI) (ML : mJ) : Prop := mEx D TX11_readsBoth (mqS Q) (0, [some (.ref 46)], [], (W0, Sh0, MI, ML))
def VX11_readsBoth_4 (D : Nat) (Q : Option Value → mI → mJ → Prop)  (MI : mI) (ML : mJ) : Prop := mEx D TX11_readsBoth (mqS Q) (4, [some (.ref 46)], [], (W0, Sh0, MI, ML))
theorem BX11_readsBoth_0 {D : Nat} {Q : Option Value → mI → mJ → Prop}  {MI : mI} {ML : mJ} 
    (h : ∃ (M1 : mI) (N2 : mJ), mrc D 202 [.ref 46] MI ML none M1 N2 ∧ (VX11_readsBoth_4 D Q  M1 N2)) :
    VX11_readsBoth_0 D Q  MI ML := by
  show mEx D TX11_readsBoth (mqS Q) (0, [some (.ref 46)], [], (W0, Sh0, MI, ML))
  refine x_st rfl ?_
  obtain ⟨M1, N2, hc, h⟩ := h
  refine x_vv (y := 202) (n := 0) (ci := 11) (nx := 4) rfl (fun _ => rfl) sh_46 rfl hc ?_
  refine x_kl ?_ h
  exact ⟨Or.inr rfl, True.intro⟩
theorem BX11_readsBoth_4 {D : Nat} {Q : Option Value → mI → mJ → Prop}  {MI : mI} {ML : mJ} 
    (h : ∃ (x3 : Int32) (M1 : mI) (N2 : mJ), mrc D 198 [.ref 46, .int (nI 38)] MI ML (some (.int x3)) M1 N2 ∧ ((x3 = nI 0 → Q none M1 N2) ∧ (¬ x3 = nI 0 → ∃ (M4 : mI) (N5 : mJ), mrc D 202 [.ref 46] M1 N2 none M4 N5 ∧ (∃ (M6 : mI) (N7 : mJ), mrc D 199 [.ref 46, .int (-138 : Int32)] M4 N5 none M6 N7 ∧ (VX11_readsBoth_4 D Q  M6 N7))))) :
    VX11_readsBoth_4 D Q  MI ML := by
  show mEx D TX11_readsBoth (mqS Q) (4, [some (.ref 46)], [], (W0, Sh0, MI, ML))
  refine x_st rfl ?_
  refine x_st rfl ?_
  obtain ⟨x3, M1, N2, hc, h⟩ := h
  refine x_vi (y := 198) (n := 1) (ci := 11) (nx := 10) rfl (fun _ => rfl) sh_46 rfl hc ?_
  refine x_br rfl (fun c => ?_) (fun c => ?_)
  · replace h := h.1 c
    refine x_ret rfl ?_
    exact ⟨_, _, rfl, h⟩
  · replace h := h.2 c
    refine x_st rfl ?_
    obtain ⟨M4, N5, hc, h⟩ := h
    refine x_vv (y := 202) (n := 0) (ci := 11) (nx := 17) rfl (fun _ => rfl) sh_46 rfl hc ?_
    refine x_st rfl ?_
    refine x_st rfl ?_
    obtain ⟨M6, N7, hc, h⟩ := h
    refine x_vv (y := 199) (n := 1) (ci := 11) (nx := 24) rfl (fun _ => rfl) sh_46 rfl hc ?_
    refine x_st rfl ?_
    refine x_kl ?_ h
    exact ⟨Or.inr rfl, True.intro⟩
theorem EX11_readsBoth {D : Nat} {Q : Option Value → mI → mJ → Prop}  {MI : mI} {ML : mJ} (h : VX11_readsBoth_0 D Q  MI ML) : ∃ v MI' ML', Q v MI' ML' ∧ mrc (D + 1) 201 [.ref 46] MI ML v MI' ML' := by
  refine x_en (n := 0) (T := TX11_readsBoth) rfl rfl ?_
  refine x_kl ?_ h
  exact ⟨Or.inr rfl, True.intro⟩
def VX11_readsCompared_0 (D : Nat) (Q : Option Value → mI → mJ → Prop)  (MI : mI) (ML : mJ) : Prop := mEx D TX11_readsCompared (mqS Q) (0, [some (.ref 46), none], [], (W0, Sh0, MI, ML))
def VX11_readsCompared_34 (D : Nat) (Q : Option Value → mI → mJ → Prop)  (v1 : Int32) (MI : mI) (ML : mJ) : Prop := mEx D TX11_readsCompared (mqS Q) (34, [some (.ref 46), some (.int v1)], [], (W0, Sh0, MI, ML))
theorem BX11_readsCompared_0 {D : Nat} {Q : Option Value → mI → mJ → Prop}  {MI : mI} {ML : mJ} 
    (h : ∃ (M1 : mI) (N2 : mJ), mrc D 203 [.ref 46] MI ML none M1 N2 ∧ (∃ (x5 : Int32) (M3 : mI) (N4 : mJ), mrc D 196 [.ref 46] M1 N2 (some (.int x5)) M3 N4 ∧ ((nI 0 ≤ (M3 46 19) → Q none M3 N4) ∧ (¬ nI 0 ≤ (M3 46 19) → (x5 = (nI 60) → VX11_readsCompared_34 D Q x5 M3 N4) ∧ (¬ x5 = (nI 60) → (x5 = (nI 61) → VX11_readsCompared_34 D Q x5 M3 N4) ∧ (¬ x5 = (nI 61) → (x5 = (nI 62) → VX11_readsCompared_34 D Q x5 M3 N4) ∧ (¬ x5 = (nI 62) → Q none M3 N4))))))) :
    VX11_readsCompared_0 D Q  MI ML := by
  show mEx D TX11_readsCompared (mqS Q) (0, [some (.ref 46), none], [], (W0, Sh0, MI, ML))
  refine x_st rfl ?_
  obtain ⟨M1, N2, hc, h⟩ := h
  refine x_vv (y := 203) (n := 0) (ci := 11) (nx := 4) rfl (fun _ => rfl) sh_46 rfl hc ?_
  refine x_st rfl ?_
  obtain ⟨x5, M3, N4, hc, h⟩ := h
  refine x_vi (y := 196) (n := 0) (ci := 11) (nx := 8) rfl (fun _ => rfl) sh_46 rfl hc ?_
  refine x_st rfl ?_
  refine x_st rfl ?_
  refine x_gi (ci := 11) (k := 19) (nx := 13) rfl sh_46 rfl ?_
  refine x_br rfl (fun c => ?_) (fun c => ?_)
  · replace h := h.1 c
    refine x_ret rfl ?_
    exact ⟨_, _, rfl, h⟩
  · replace h := h.2 c
    refine x_st rfl ?_
    refine x_st rfl ?_
    refine x_br rfl (fun c => ?_) (fun c => ?_)
    · replace h := h.1 c
      refine x_kl ?_ h
      exact ⟨Or.inr rfl, ⟨Or.inr rfl, True.intro⟩⟩
    · replace h := h.2 c
      refine x_st rfl ?_
      refine x_st rfl ?_
      refine x_br rfl (fun c => ?_) (fun c => ?_)
      · replace h := h.1 c
        refine x_kl ?_ h
        exact ⟨Or.inr rfl, ⟨Or.inr rfl, True.intro⟩⟩
      · replace h := h.2 c
        refine x_st rfl ?_
        refine x_st rfl ?_
        refine x_br rfl (fun c => ?_) (fun c => ?_)
        · replace h := h.1 c
          refine x_kl ?_ h
          exact ⟨Or.inr rfl, ⟨Or.inr rfl, True.intro⟩⟩
        · replace h := h.2 c
          refine x_ret rfl ?_
          exact ⟨_, _, rfl, h⟩
theorem BX11_readsCompared_34 {D : Nat} {Q : Option Value → mI → mJ → Prop}  {v1 : Int32} {MI : mI} {ML : mJ} 
    (h : ∃ (M1 : mI) (N2 : mJ), mrc D 203 [.ref 46] (mup MI 46 (mput (MI 46) 18 ((MI 46 18) + (nI 1)))) ML none M1 N2 ∧ (∃ (M3 : mI) (N4 : mJ), mrc D 199 [.ref 46, .int ((-100 : Int32) - v1)] M1 N2 none M3 N4 ∧ (Q none M3 N4))) :
    VX11_readsCompared_34 D Q v1 MI ML := by
  show mEx D TX11_readsCompared (mqS Q) (34, [some (.ref 46), some (.int v1)], [], (W0, Sh0, MI, ML))
  refine x_st rfl ?_
  refine x_st rfl ?_
  refine x_gi (ci := 11) (k := 18) (nx := 39) rfl sh_46 rfl ?_
  refine x_st rfl ?_
  refine x_st rfl ?_
  refine x_pi (ci := 11) (k := 18) (nx := 44) rfl sh_46 rfl ?_
  refine x_st rfl ?_
  obtain ⟨M1, N2, hc, h⟩ := h
  refine x_vv (y := 203) (n := 0) (ci := 11) (nx := 48) rfl (fun _ => rfl) sh_46 rfl hc ?_
  refine x_st rfl ?_
  refine x_st rfl ?_
  refine x_st rfl ?_
  refine x_st rfl ?_
  obtain ⟨M3, N4, hc, h⟩ := h
  refine x_vv (y := 199) (n := 1) (ci := 11) (nx := 56) rfl (fun _ => rfl) sh_46 rfl hc ?_
  refine x_ret rfl ?_
  exact ⟨_, _, rfl, h⟩
theorem EX11_readsCompared {D : Nat} {Q : Option Value → mI → mJ → Prop}  {MI : mI} {ML : mJ} (h : VX11_readsCompared_0 D Q  MI ML) : ∃ v MI' ML', Q v MI' ML' ∧ mrc (D + 1) 202 [.ref 46] MI ML v MI' ML' := by
  refine x_en (n := 1) (T := TX11_readsCompared) rfl rfl ?_
  refine x_kl ?_ h
  exact ⟨Or.inr rfl, ⟨Or.inl rfl, True.intro⟩⟩
def VX11_readsSums_0 (D : Nat) (Q : Option Value → mI → mJ → Prop)  (MI : mI) (ML : mJ) : Prop := mEx D TX11_readsSums (mqS Q) (0, [some (.ref 46), none], [], (W0, Sh0, MI, ML))
def VX11_readsSums_4 (D : Nat) (Q : Option Value → mI → mJ → Prop)  (MI : mI) (ML : mJ) : Prop := mEx D TX11_readsSums (mqS Q) (4, [some (.ref 46), none], [], (W0, Sh0, MI, ML))
def VX11_readsSums_29 (D : Nat) (Q : Option Value → mI → mJ → Prop)  (MI : mI) (ML : mJ) : Prop := mEx D TX11_readsSums (mqS Q) (29, [some (.ref 46), none], [], (W0, Sh0, MI, ML))
theorem BX11_readsSums_0 {D : Nat} {Q : Option Value → mI → mJ → Prop}  {MI : mI} {ML : mJ} 
    (h : ∃ (M1 : mI) (N2 : mJ), mrc D 204 [.ref 46] MI ML none M1 N2 ∧ (VX11_readsSums_4 D Q  M1 N2)) :
    VX11_readsSums_0 D Q  MI ML := by
  show mEx D TX11_readsSums (mqS Q) (0, [some (.ref 46), none], [], (W0, Sh0, MI, ML))
  refine x_st rfl ?_
  obtain ⟨M1, N2, hc, h⟩ := h
  refine x_vv (y := 204) (n := 0) (ci := 11) (nx := 4) rfl (fun _ => rfl) sh_46 rfl hc ?_
  refine x_kl ?_ h
  exact ⟨Or.inr rfl, ⟨Or.inl rfl, True.intro⟩⟩
theorem BX11_readsSums_4 {D : Nat} {Q : Option Value → mI → mJ → Prop}  {MI : mI} {ML : mJ} 
    (h : (nI 0 ≤ (MI 46 19) → Q none MI ML) ∧ (¬ nI 0 ≤ (MI 46 19) → ∃ (x3 : Int32) (M1 : mI) (N2 : mJ), mrc D 196 [.ref 46] MI ML (some (.int x3)) M1 N2 ∧ ((x3 = (nI 43) → VX11_readsSums_29 D Q  M1 N2) ∧ (¬ x3 = (nI 43) → ∃ (x6 : Int32) (M4 : mI) (N5 : mJ), mrc D 196 [.ref 46] M1 N2 (some (.int x6)) M4 N5 ∧ ((x6 = (nI 45) → VX11_readsSums_29 D Q  M4 N5) ∧ (¬ x6 = (nI 45) → Q none M4 N5)))))) :
    VX11_readsSums_4 D Q  MI ML := by
  show mEx D TX11_readsSums (mqS Q) (4, [some (.ref 46), none], [], (W0, Sh0, MI, ML))
  refine x_st rfl ?_
  refine x_gi (ci := 11) (k := 19) (nx := 8) rfl sh_46 rfl ?_
  refine x_br rfl (fun c => ?_) (fun c => ?_)
  · replace h := h.1 c
    refine x_ret rfl ?_
    exact ⟨_, _, rfl, h⟩
  · replace h := h.2 c
    refine x_st rfl ?_
    obtain ⟨x3, M1, N2, hc, h⟩ := h
    refine x_vi (y := 196) (n := 0) (ci := 11) (nx := 15) rfl (fun _ => rfl) sh_46 rfl hc ?_
    refine x_st rfl ?_
    refine x_br rfl (fun c => ?_) (fun c => ?_)
    · replace h := h.1 c
      refine x_kl ?_ h
      exact ⟨Or.inr rfl, ⟨Or.inl rfl, True.intro⟩⟩
    · replace h := h.2 c
      refine x_st rfl ?_
      obtain ⟨x6, M4, N5, hc, h⟩ := h
      refine x_vi (y := 196) (n := 0) (ci := 11) (nx := 24) rfl (fun _ => rfl) sh_46 rfl hc ?_
      refine x_st rfl ?_
      refine x_br rfl (fun c => ?_) (fun c => ?_)
      · replace h := h.1 c
        refine x_kl ?_ h
        exact ⟨Or.inr rfl, ⟨Or.inl rfl, True.intro⟩⟩
      · replace h := h.2 c
        refine x_ret rfl ?_
        exact ⟨_, _, rfl, h⟩
theorem BX11_readsSums_29 {D : Nat} {Q : Option Value → mI → mJ → Prop}  {MI : mI} {ML : mJ} 
    (h : ∃ (x3 : Int32) (M1 : mI) (N2 : mJ), mrc D 196 [.ref 46] MI ML (some (.int x3)) M1 N2 ∧ (∃ (M4 : mI) (N5 : mJ), mrc D 204 [.ref 46] (mup M1 46 (mput (M1 46) 18 ((M1 46 18) + (nI 1)))) N2 none M4 N5 ∧ (∃ (M6 : mI) (N7 : mJ), mrc D 199 [.ref 46, .int ((-100 : Int32) - x3)] M4 N5 none M6 N7 ∧ (VX11_readsSums_4 D Q  M6 N7)))) :
    VX11_readsSums_29 D Q  MI ML := by
  show mEx D TX11_readsSums (mqS Q) (29, [some (.ref 46), none], [], (W0, Sh0, MI, ML))
  refine x_st rfl ?_
  obtain ⟨x3, M1, N2, hc, h⟩ := h
  refine x_vi (y := 196) (n := 0) (ci := 11) (nx := 33) rfl (fun _ => rfl) sh_46 rfl hc ?_
  refine x_st rfl ?_
  refine x_st rfl ?_
  refine x_st rfl ?_
  refine x_gi (ci := 11) (k := 18) (nx := 39) rfl sh_46 rfl ?_
  refine x_st rfl ?_
  refine x_st rfl ?_
  refine x_pi (ci := 11) (k := 18) (nx := 44) rfl sh_46 rfl ?_
  refine x_st rfl ?_
  obtain ⟨M4, N5, hc, h⟩ := h
  refine x_vv (y := 204) (n := 0) (ci := 11) (nx := 48) rfl (fun _ => rfl) sh_46 rfl hc ?_
  refine x_st rfl ?_
  refine x_st rfl ?_
  refine x_st rfl ?_
  refine x_st rfl ?_
  obtain ⟨M6, N7, hc, h⟩ := h
  refine x_vv (y := 199) (n := 1) (ci := 11) (nx := 56) rfl (fun _ => rfl) sh_46 rfl hc ?_
  refine x_st rfl ?_
  refine x_kl ?_ h
  exact ⟨Or.inr rfl, ⟨Or.inl rfl, True.intro⟩⟩
theorem EX11_readsSums {D : Nat} {Q : Option Value → mI → mJ → Prop}  {MI : mI} {ML : mJ} (h : VX11_readsSums_0 D Q  MI ML) : ∃ v MI' ML', Q v MI' ML' ∧ mrc (D + 1) 203 [.ref 46] MI ML v MI' ML' := by
  refine x_en (n := 1) (T := TX11_readsSums) rfl rfl ?_
  refine x_kl ?_ h
  exact ⟨Or.inr rfl, ⟨Or.inl rfl, True.intro⟩⟩
def VX11_readsProduct_0 (D : Nat) (Q : Option Value → mI → mJ → Prop)  (MI : mI) (ML : mJ) : Prop := mEx D TX11_readsProduct (mqS Q) (0, [some (.ref 46), none], [], (W0, Sh0, MI, ML))
def VX11_readsProduct_4 (D : Nat) (Q : Option Value → mI → mJ → Prop)  (MI : mI) (ML : mJ) : Prop := mEx D TX11_readsProduct (mqS Q) (4, [some (.ref 46), none], [], (W0, Sh0, MI, ML))
def VX11_readsProduct_38 (D : Nat) (Q : Option Value → mI → mJ → Prop)  (MI : mI) (ML : mJ) : Prop := mEx D TX11_readsProduct (mqS Q) (38, [some (.ref 46), none], [], (W0, Sh0, MI, ML))
theorem BX11_readsProduct_0 {D : Nat} {Q : Option Value → mI → mJ → Prop}  {MI : mI} {ML : mJ} 
    (h : ∃ (M1 : mI) (N2 : mJ), mrc D 206 [.ref 46] MI ML none M1 N2 ∧ (VX11_readsProduct_4 D Q  M1 N2)) :
    VX11_readsProduct_0 D Q  MI ML := by
  show mEx D TX11_readsProduct (mqS Q) (0, [some (.ref 46), none], [], (W0, Sh0, MI, ML))
  refine x_st rfl ?_
  obtain ⟨M1, N2, hc, h⟩ := h
  refine x_vv (y := 206) (n := 0) (ci := 11) (nx := 4) rfl (fun _ => rfl) sh_46 rfl hc ?_
  refine x_kl ?_ h
  exact ⟨Or.inr rfl, ⟨Or.inl rfl, True.intro⟩⟩
theorem BX11_readsProduct_4 {D : Nat} {Q : Option Value → mI → mJ → Prop}  {MI : mI} {ML : mJ} 
    (h : (nI 0 ≤ (MI 46 19) → Q none MI ML) ∧ (¬ nI 0 ≤ (MI 46 19) → ∃ (x3 : Int32) (M1 : mI) (N2 : mJ), mrc D 196 [.ref 46] MI ML (some (.int x3)) M1 N2 ∧ ((x3 = (nI 42) → VX11_readsProduct_38 D Q  M1 N2) ∧ (¬ x3 = (nI 42) → ∃ (x6 : Int32) (M4 : mI) (N5 : mJ), mrc D 196 [.ref 46] M1 N2 (some (.int x6)) M4 N5 ∧ ((x6 = (nI 47) → VX11_readsProduct_38 D Q  M4 N5) ∧ (¬ x6 = (nI 47) → ∃ (x9 : Int32) (M7 : mI) (N8 : mJ), mrc D 196 [.ref 46] M4 N5 (some (.int x9)) M7 N8 ∧ ((x9 = (nI 37) → VX11_readsProduct_38 D Q  M7 N8) ∧ (¬ x9 = (nI 37) → Q none M7 N8)))))))) :
    VX11_readsProduct_4 D Q  MI ML := by
  show mEx D TX11_readsProduct (mqS Q) (4, [some (.ref 46), none], [], (W0, Sh0, MI, ML))
  refine x_st rfl ?_
  refine x_gi (ci := 11) (k := 19) (nx := 8) rfl sh_46 rfl ?_
  refine x_br rfl (fun c => ?_) (fun c => ?_)
  · replace h := h.1 c
    refine x_ret rfl ?_
    exact ⟨_, _, rfl, h⟩
  · replace h := h.2 c
    refine x_st rfl ?_
    obtain ⟨x3, M1, N2, hc, h⟩ := h
    refine x_vi (y := 196) (n := 0) (ci := 11) (nx := 15) rfl (fun _ => rfl) sh_46 rfl hc ?_
    refine x_st rfl ?_
    refine x_br rfl (fun c => ?_) (fun c => ?_)
    · replace h := h.1 c
      refine x_kl ?_ h
      exact ⟨Or.inr rfl, ⟨Or.inl rfl, True.intro⟩⟩
    · replace h := h.2 c
      refine x_st rfl ?_
      obtain ⟨x6, M4, N5, hc, h⟩ := h
      refine x_vi (y := 196) (n := 0) (ci := 11) (nx := 24) rfl (fun _ => rfl) sh_46 rfl hc ?_
      refine x_st rfl ?_
      refine x_br rfl (fun c => ?_) (fun c => ?_)
      · replace h := h.1 c
        refine x_kl ?_ h
        exact ⟨Or.inr rfl, ⟨Or.inl rfl, True.intro⟩⟩
      · replace h := h.2 c
        refine x_st rfl ?_
        obtain ⟨x9, M7, N8, hc, h⟩ := h
        refine x_vi (y := 196) (n := 0) (ci := 11) (nx := 33) rfl (fun _ => rfl) sh_46 rfl hc ?_
        refine x_st rfl ?_
        refine x_br rfl (fun c => ?_) (fun c => ?_)
        · replace h := h.1 c
          refine x_kl ?_ h
          exact ⟨Or.inr rfl, ⟨Or.inl rfl, True.intro⟩⟩
        · replace h := h.2 c
          refine x_ret rfl ?_
          exact ⟨_, _, rfl, h⟩
theorem BX11_readsProduct_38 {D : Nat} {Q : Option Value → mI → mJ → Prop}  {MI : mI} {ML : mJ} 
    (h : ∃ (x3 : Int32) (M1 : mI) (N2 : mJ), mrc D 196 [.ref 46] MI ML (some (.int x3)) M1 N2 ∧ (∃ (M4 : mI) (N5 : mJ), mrc D 206 [.ref 46] (mup M1 46 (mput (M1 46) 18 ((M1 46 18) + (nI 1)))) N2 none M4 N5 ∧ (∃ (M6 : mI) (N7 : mJ), mrc D 199 [.ref 46, .int ((-100 : Int32) - x3)] M4 N5 none M6 N7 ∧ (VX11_readsProduct_4 D Q  M6 N7)))) :
    VX11_readsProduct_38 D Q  MI ML := by
  show mEx D TX11_readsProduct (mqS Q) (38, [some (.ref 46), none], [], (W0, Sh0, MI, ML))
  refine x_st rfl ?_
  obtain ⟨x3, M1, N2, hc, h⟩ := h
  refine x_vi (y := 196) (n := 0) (ci := 11) (nx := 42) rfl (fun _ => rfl) sh_46 rfl hc ?_
  refine x_st rfl ?_
  refine x_st rfl ?_
  refine x_st rfl ?_
  refine x_gi (ci := 11) (k := 18) (nx := 48) rfl sh_46 rfl ?_
  refine x_st rfl ?_
  refine x_st rfl ?_
  refine x_pi (ci := 11) (k := 18) (nx := 53) rfl sh_46 rfl ?_
  refine x_st rfl ?_
  obtain ⟨M4, N5, hc, h⟩ := h
  refine x_vv (y := 206) (n := 0) (ci := 11) (nx := 57) rfl (fun _ => rfl) sh_46 rfl hc ?_
  refine x_st rfl ?_
  refine x_st rfl ?_
  refine x_st rfl ?_
  refine x_st rfl ?_
  obtain ⟨M6, N7, hc, h⟩ := h
  refine x_vv (y := 199) (n := 1) (ci := 11) (nx := 65) rfl (fun _ => rfl) sh_46 rfl hc ?_
  refine x_st rfl ?_
  refine x_kl ?_ h
  exact ⟨Or.inr rfl, ⟨Or.inl rfl, True.intro⟩⟩
theorem EX11_readsProduct {D : Nat} {Q : Option Value → mI → mJ → Prop}  {MI : mI} {ML : mJ} (h : VX11_readsProduct_0 D Q  MI ML) : ∃ v MI' ML', Q v MI' ML' ∧ mrc (D + 1) 204 [.ref 46] MI ML v MI' ML' := by
  refine x_en (n := 1) (T := TX11_readsProduct) rfl rfl ?_
  refine x_kl ?_ h
  exact ⟨Or.inr rfl, ⟨Or.inl rfl, True.intro⟩⟩
def VX11_readsWord_0 (D : Nat) (Q : Option Value → mI → mJ → Prop)  (MI : mI) (ML : mJ) : Prop := mEx D TX11_readsWord (mqS Q) (0, [some (.ref 46), none, none, none, none, none], [], (W0, Sh0, MI, ML))
def VX11_readsWord_7 (D : Nat) (Q : Option Value → mI → mJ → Prop)  (v1 : Int32) (v2 : Int64) (MI : mI) (ML : mJ) : Prop := mEx D TX11_readsWord (mqS Q) (7, [some (.ref 46), some (.int v1), some (.long v2), none, none, none], [], (W0, Sh0, MI, ML))
def VX11_readsWord_79 (D : Nat) (Q : Option Value → mI → mJ → Prop)  (v1 : Int32) (v2 : Int64) (v4 : Int32) (v5 : Int32) (MI : mI) (ML : mJ) : Prop := mEx D TX11_readsWord (mqS Q) (79, [some (.ref 46), some (.int v1), some (.long v2), none, some (.int v4), some (.int v5)], [], (W0, Sh0, MI, ML))
theorem BX11_readsWord_0 {D : Nat} {Q : Option Value → mI → mJ → Prop}  {MI : mI} {ML : mJ} 
    (h : VX11_readsWord_7 D Q (MI 46 18) (0 : Int64) MI ML) :
    VX11_readsWord_0 D Q  MI ML := by
  show mEx D TX11_readsWord (mqS Q) (0, [some (.ref 46), none, none, none, none, none], [], (W0, Sh0, MI, ML))
  refine x_st rfl ?_
  refine x_gi (ci := 11) (k := 18) (nx := 4) rfl sh_46 rfl ?_
  refine x_st rfl ?_
  refine x_st rfl ?_
  refine x_st rfl ?_
  refine x_kl ?_ h
  exact ⟨Or.inr rfl, ⟨Or.inr rfl, ⟨Or.inr rfl, ⟨Or.inl rfl, ⟨Or.inl rfl, ⟨Or.inl rfl, True.intro⟩⟩⟩⟩⟩⟩
theorem BX11_readsWord_7 {D : Nat} {Q : Option Value → mI → mJ → Prop}  {v1 : Int32} {v2 : Int64} {MI : mI} {ML : mJ} 
    (h : ∃ (x3 : Int32) (M1 : mI) (N2 : mJ), mrc D 196 [.ref 46] MI ML (some (.int x3)) M1 N2 ∧ ((x3 < (nI 97) → VX11_readsWord_79 D Q v1 v2 (-1 : Int32) (nI 0) M1 N2) ∧ (¬ x3 < (nI 97) → ∃ (x6 : Int32) (M4 : mI) (N5 : mJ), mrc D 196 [.ref 46] M1 N2 (some (.int x6)) M4 N5 ∧ (((nI 122) < x6 → VX11_readsWord_79 D Q v1 v2 (-1 : Int32) (nI 0) M4 N5) ∧ (¬ (nI 122) < x6 → ((nI 8) ≤ ((M4 46 18) - v1) → VX11_readsWord_7 D Q v1 (-1 : Int64) (mup M4 46 (mput (M4 46) 18 ((M4 46 18) + (nI 1)))) N5) ∧ (¬ (nI 8) ≤ ((M4 46 18) - v1) → ∃ (x9 : Int32) (M7 : mI) (N8 : mJ), mrc D 196 [.ref 46] M4 N5 (some (.int x9)) M7 N8 ∧ (VX11_readsWord_7 D Q v1 (((((32 : Int64) * v2) + (x9).toInt64) - (97 : Int64)) + (1 : Int64)) (mup M7 46 (mput (M7 46) 18 ((M7 46 18) + (nI 1)))) N8))))))) :
    VX11_readsWord_7 D Q v1 v2 MI ML := by
  show mEx D TX11_readsWord (mqS Q) (7, [some (.ref 46), some (.int v1), some (.long v2), none, none, none], [], (W0, Sh0, MI, ML))
  refine x_st rfl ?_
  obtain ⟨x3, M1, N2, hc, h⟩ := h
  refine x_vi (y := 196) (n := 0) (ci := 11) (nx := 11) rfl (fun _ => rfl) sh_46 rfl hc ?_
  refine x_st rfl ?_
  refine x_br rfl (fun c => ?_) (fun c => ?_)
  · replace h := h.1 c
    refine x_st rfl ?_
    refine x_st rfl ?_
    refine x_st rfl ?_
    refine x_st rfl ?_
    refine x_kl ?_ h
    exact ⟨Or.inr rfl, ⟨Or.inr rfl, ⟨Or.inr rfl, ⟨Or.inl rfl, ⟨Or.inr rfl, ⟨Or.inr rfl, True.intro⟩⟩⟩⟩⟩⟩
  · replace h := h.2 c
    refine x_st rfl ?_
    obtain ⟨x6, M4, N5, hc, h⟩ := h
    refine x_vi (y := 196) (n := 0) (ci := 11) (nx := 20) rfl (fun _ => rfl) sh_46 rfl hc ?_
    refine x_st rfl ?_
    refine x_br rfl (fun c => ?_) (fun c => ?_)
    · replace h := h.1 c
      refine x_st rfl ?_
      refine x_st rfl ?_
      refine x_st rfl ?_
      refine x_st rfl ?_
      refine x_kl ?_ h
      exact ⟨Or.inr rfl, ⟨Or.inr rfl, ⟨Or.inr rfl, ⟨Or.inl rfl, ⟨Or.inr rfl, ⟨Or.inr rfl, True.intro⟩⟩⟩⟩⟩⟩
    · replace h := h.2 c
      refine x_st rfl ?_
      refine x_gi (ci := 11) (k := 18) (nx := 29) rfl sh_46 rfl ?_
      refine x_st rfl ?_
      refine x_st rfl ?_
      refine x_st rfl ?_
      refine x_br rfl (fun c => ?_) (fun c => ?_)
      · replace h := h.1 c
        refine x_st rfl ?_
        refine x_st rfl ?_
        refine x_st rfl ?_
        refine x_st rfl ?_
        refine x_gi (ci := 11) (k := 18) (nx := 65) rfl sh_46 rfl ?_
        refine x_st rfl ?_
        refine x_st rfl ?_
        refine x_pi (ci := 11) (k := 18) (nx := 70) rfl sh_46 rfl ?_
        refine x_st rfl ?_
        refine x_kl ?_ h
        exact ⟨Or.inr rfl, ⟨Or.inr rfl, ⟨Or.inr rfl, ⟨Or.inl rfl, ⟨Or.inl rfl, ⟨Or.inl rfl, True.intro⟩⟩⟩⟩⟩⟩
      · replace h := h.2 c
        refine x_st rfl ?_
        refine x_st rfl ?_
        refine x_st rfl ?_
        refine x_st rfl ?_
        obtain ⟨x9, M7, N8, hc, h⟩ := h
        refine x_vi (y := 196) (n := 0) (ci := 11) (nx := 45) rfl (fun _ => rfl) sh_46 rfl hc ?_
        refine x_st rfl ?_
        refine x_st rfl ?_
        refine x_st rfl ?_
        refine x_st rfl ?_
        refine x_st rfl ?_
        refine x_st rfl ?_
        refine x_st rfl ?_
        refine x_st rfl ?_
        refine x_st rfl ?_
        refine x_st rfl ?_
        refine x_gi (ci := 11) (k := 18) (nx := 65) rfl sh_46 rfl ?_
        refine x_st rfl ?_
        refine x_st rfl ?_
        refine x_pi (ci := 11) (k := 18) (nx := 70) rfl sh_46 rfl ?_
        refine x_st rfl ?_
        refine x_kl ?_ h
        exact ⟨Or.inr rfl, ⟨Or.inr rfl, ⟨Or.inr rfl, ⟨Or.inl rfl, ⟨Or.inl rfl, ⟨Or.inl rfl, True.intro⟩⟩⟩⟩⟩⟩
theorem BX11_readsWord_79 {D : Nat} {Q : Option Value → mI → mJ → Prop}  {v1 : Int32} {v2 : Int64} {v4 : Int32} {v5 : Int32} {MI : mI} {ML : mJ} 
    (h : ((nI 6) ≤ v5 → (v4 = (-1 : Int32) → ∃ (M1 : mI) (N2 : mJ), mrc D 197 [.ref 46] (mup MI 46 (mput (MI 46) 18 v1)) ML none M1 N2 ∧ (Q none M1 N2)) ∧ (¬ v4 = (-1 : Int32) → ∃ (M3 : mI) (N4 : mJ), mrc D 199 [.ref 46, .int ((-1 : Int32) - v4)] MI ML none M3 N4 ∧ (Q none M3 N4))) ∧ (¬ (nI 6) ≤ v5 → ∃ i5 : Nat, v5 = nI i5 ∧ i5 < 6 ∧ (((lg_cmp (ML 60 i5) v2) = nI 0 → VX11_readsWord_79 D Q v1 v2 v5 (v5 + (nI 1)) MI ML) ∧ (¬ (lg_cmp (ML 60 i5) v2) = nI 0 → VX11_readsWord_79 D Q v1 v2 v4 (v5 + (nI 1)) MI ML)))) :
    VX11_readsWord_79 D Q v1 v2 v4 v5 MI ML := by
  show mEx D TX11_readsWord (mqS Q) (79, [some (.ref 46), some (.int v1), some (.long v2), none, some (.int v4), some (.int v5)], [], (W0, Sh0, MI, ML))
  refine x_st rfl ?_
  refine x_st rfl ?_
  refine x_br rfl (fun c => ?_) (fun c => ?_)
  · replace h := h.1 c
    refine x_st rfl ?_
    refine x_st rfl ?_
    refine x_br rfl (fun c => ?_) (fun c => ?_)
    · replace h := h.1 c
      refine x_st rfl ?_
      refine x_st rfl ?_
      refine x_pi (ci := 11) (k := 18) (nx := 124) rfl sh_46 rfl ?_
      refine x_st rfl ?_
      obtain ⟨M1, N2, hc, h⟩ := h
      refine x_vv (y := 197) (n := 0) (ci := 11) (nx := 128) rfl (fun _ => rfl) sh_46 rfl hc ?_
      refine x_ret rfl ?_
      exact ⟨_, _, rfl, h⟩
    · replace h := h.2 c
      refine x_st rfl ?_
      refine x_st rfl ?_
      refine x_st rfl ?_
      refine x_st rfl ?_
      obtain ⟨M3, N4, hc, h⟩ := h
      refine x_vv (y := 199) (n := 1) (ci := 11) (nx := 137) rfl (fun _ => rfl) sh_46 rfl hc ?_
      refine x_ret rfl ?_
      exact ⟨_, _, rfl, h⟩
  · replace h := h.2 c
    refine x_st rfl ?_
    refine x_gr (ci := 11) (k := 23) (nx := 90) rfl sh_46 rfl ?_
    refine x_st rfl ?_
    obtain ⟨i5, hx, hi, h⟩ := h
    refine x_la (i := i5) (nx := 93) rfl sh_60 hx hi (by decide) ?_
    refine x_st rfl ?_
    refine x_st rfl ?_
    refine x_br rfl (fun c => ?_) (fun c => ?_)
    · replace h := h.1 c
      refine x_st rfl ?_
      refine x_st rfl ?_
      refine x_st rfl ?_
      refine x_st rfl ?_
      refine x_st rfl ?_
      refine x_kl ?_ h
      exact ⟨Or.inr rfl, ⟨Or.inr rfl, ⟨Or.inr rfl, ⟨Or.inl rfl, ⟨Or.inr rfl, ⟨Or.inr rfl, True.intro⟩⟩⟩⟩⟩⟩
    · replace h := h.2 c
      refine x_st rfl ?_
      refine x_st rfl ?_
      refine x_st rfl ?_
      refine x_st rfl ?_
      refine x_kl ?_ h
      exact ⟨Or.inr rfl, ⟨Or.inr rfl, ⟨Or.inr rfl, ⟨Or.inl rfl, ⟨Or.inr rfl, ⟨Or.inr rfl, True.intro⟩⟩⟩⟩⟩⟩
theorem EX11_readsWord {D : Nat} {Q : Option Value → mI → mJ → Prop}  {MI : mI} {ML : mJ} (h : VX11_readsWord_0 D Q  MI ML) : ∃ v MI' ML', Q v MI' ML' ∧ mrc (D + 1) 205 [.ref 46] MI ML v MI' ML' := by
  refine x_en (n := 5) (T := TX11_readsWord) rfl rfl ?_
  refine x_kl ?_ h
  exact ⟨Or.inr rfl, ⟨Or.inl rfl, ⟨Or.inl rfl, ⟨Or.inl rfl, ⟨Or.inl rfl, ⟨Or.inl rfl, True.intro⟩⟩⟩⟩⟩⟩
def VX11_readsOne_0 (D : Nat) (Q : Option Value → mI → mJ → Prop)  (MI : mI) (ML : mJ) : Prop := mEx D TX11_readsOne (mqS Q) (0, [some (.ref 46), none, none, none], [], (W0, Sh0, MI, ML))
def VX11_readsOne_31 (D : Nat) (Q : Option Value → mI → mJ → Prop)  (v1 : Int32) (MI : mI) (ML : mJ) : Prop := mEx D TX11_readsOne (mqS Q) (31, [some (.ref 46), some (.int v1), none, none], [], (W0, Sh0, MI, ML))
def VX11_readsOne_111 (D : Nat) (Q : Option Value → mI → mJ → Prop)  (s1 : Int32) (MI : mI) (ML : mJ) : Prop := mEx D TX11_readsOne (mqS Q) (111, [some (.ref 46), none, none, none], [.int s1, .ref 46], (W0, Sh0, MI, ML))
def VX11_readsOne_146 (D : Nat) (Q : Option Value → mI → mJ → Prop)  (v2 : Int32) (v3 : Int32) (MI : mI) (ML : mJ) : Prop := mEx D TX11_readsOne (mqS Q) (146, [some (.ref 46), none, some (.int v2), some (.int v3)], [], (W0, Sh0, MI, ML))
def VX11_readsOne_198 (D : Nat) (Q : Option Value → mI → mJ → Prop)  (v2 : Int32) (v3 : Int32) (MI : mI) (ML : mJ) : Prop := mEx D TX11_readsOne (mqS Q) (198, [some (.ref 46), none, some (.int v2), some (.int v3)], [], (W0, Sh0, MI, ML))
def VX11_readsOne_206 (D : Nat) (Q : Option Value → mI → mJ → Prop)  (v2 : Int32) (MI : mI) (ML : mJ) : Prop := mEx D TX11_readsOne (mqS Q) (206, [some (.ref 46), none, some (.int v2), none], [], (W0, Sh0, MI, ML))
theorem BX11_readsOne_0 {D : Nat} {Q : Option Value → mI → mJ → Prop}  {MI : mI} {ML : mJ} 
    (h : ((MI 46 19) < nI 0 → ∃ (x3 : Int32) (M1 : mI) (N2 : mJ), mrc D 196 [.ref 46] MI ML (some (.int x3)) M1 N2 ∧ ((x3 = (nI 33) → VX11_readsOne_31 D Q x3 M1 N2) ∧ (¬ x3 = (nI 33) → (x3 = (nI 45) → VX11_readsOne_31 D Q x3 M1 N2) ∧ (¬ x3 = (nI 45) → (x3 = (nI 40) → VX11_readsOne_31 D Q x3 M1 N2) ∧ (¬ x3 = (nI 40) → (x3 < (nI 97) → VX11_readsOne_146 D Q (nI 0) (nI 0) M1 N2) ∧ (¬ x3 < (nI 97) → ((nI 122) < x3 → VX11_readsOne_146 D Q (nI 0) (nI 0) M1 N2) ∧ (¬ (nI 122) < x3 → ∃ (M4 : mI) (N5 : mJ), mrc D 205 [.ref 46] M1 N2 none M4 N5 ∧ (Q none M4 N5)))))))) ∧ (¬ (MI 46 19) < nI 0 → Q none MI ML)) :
    VX11_readsOne_0 D Q  MI ML := by
  show mEx D TX11_readsOne (mqS Q) (0, [some (.ref 46), none, none, none], [], (W0, Sh0, MI, ML))
  refine x_st rfl ?_
  refine x_gi (ci := 11) (k := 19) (nx := 4) rfl sh_46 rfl ?_
  refine x_br rfl (fun c => ?_) (fun c => ?_)
  · replace h := h.1 c
    refine x_st rfl ?_
    obtain ⟨x3, M1, N2, hc, h⟩ := h
    refine x_vi (y := 196) (n := 0) (ci := 11) (nx := 12) rfl (fun _ => rfl) sh_46 rfl hc ?_
    refine x_st rfl ?_
    refine x_st rfl ?_
    refine x_st rfl ?_
    refine x_br rfl (fun c => ?_) (fun c => ?_)
    · replace h := h.1 c
      refine x_kl ?_ h
      exact ⟨Or.inr rfl, ⟨Or.inr rfl, ⟨Or.inl rfl, ⟨Or.inl rfl, True.intro⟩⟩⟩⟩
    · replace h := h.2 c
      refine x_st rfl ?_
      refine x_st rfl ?_
      refine x_br rfl (fun c => ?_) (fun c => ?_)
      · replace h := h.1 c
        refine x_kl ?_ h
        exact ⟨Or.inr rfl, ⟨Or.inr rfl, ⟨Or.inl rfl, ⟨Or.inl rfl, True.intro⟩⟩⟩⟩
      · replace h := h.2 c
        refine x_st rfl ?_
        refine x_st rfl ?_
        refine x_br rfl (fun c => ?_) (fun c => ?_)
        · replace h := h.1 c
          refine x_kl ?_ h
          exact ⟨Or.inr rfl, ⟨Or.inr rfl, ⟨Or.inl rfl, ⟨Or.inl rfl, True.intro⟩⟩⟩⟩
        · replace h := h.2 c
          refine x_st rfl ?_
          refine x_st rfl ?_
          refine x_br rfl (fun c => ?_) (fun c => ?_)
          · replace h := h.1 c
            refine x_st rfl ?_
            refine x_st rfl ?_
            refine x_st rfl ?_
            refine x_st rfl ?_
            refine x_kl ?_ h
            exact ⟨Or.inr rfl, ⟨Or.inl rfl, ⟨Or.inr rfl, ⟨Or.inr rfl, True.intro⟩⟩⟩⟩
          · replace h := h.2 c
            refine x_st rfl ?_
            refine x_st rfl ?_
            refine x_br rfl (fun c => ?_) (fun c => ?_)
            · replace h := h.1 c
              refine x_st rfl ?_
              refine x_st rfl ?_
              refine x_st rfl ?_
              refine x_st rfl ?_
              refine x_kl ?_ h
              exact ⟨Or.inr rfl, ⟨Or.inl rfl, ⟨Or.inr rfl, ⟨Or.inr rfl, True.intro⟩⟩⟩⟩
            · replace h := h.2 c
              refine x_st rfl ?_
              obtain ⟨M4, N5, hc, h⟩ := h
              refine x_vv (y := 205) (n := 0) (ci := 11) (nx := 141) rfl (fun _ => rfl) sh_46 rfl hc ?_
              refine x_ret rfl ?_
              exact ⟨_, _, rfl, h⟩
  · replace h := h.2 c
    refine x_ret rfl ?_
    exact ⟨_, _, rfl, h⟩
theorem BX11_readsOne_31 {D : Nat} {Q : Option Value → mI → mJ → Prop}  {v1 : Int32} {MI : mI} {ML : mJ} 
    (h : ((MI 46 20) = (nI 6) → ∃ (M1 : mI) (N2 : mJ), mrc D 197 [.ref 46] MI ML none M1 N2 ∧ (Q none M1 N2)) ∧ (¬ (MI 46 20) = (nI 6) → (v1 = (nI 40) → ∃ (M3 : mI) (N4 : mJ), mrc D 200 [.ref 46] (mup (mup MI 46 (mput (MI 46) 20 ((MI 46 20) + (nI 1)))) 46 (mput ((mup MI 46 (mput (MI 46) 20 ((MI 46 20) + (nI 1)))) 46) 18 (((mup MI 46 (mput (MI 46) 20 ((MI 46 20) + (nI 1)))) 46 18) + (nI 1)))) ML none M3 N4 ∧ (∃ (x7 : Int32) (M5 : mI) (N6 : mJ), mrc D 198 [.ref 46, .int (nI 41)] M3 N4 (some (.int x7)) M5 N6 ∧ ((x7 = nI 0 → ∃ (M8 : mI) (N9 : mJ), mrc D 197 [.ref 46] M5 N6 none M8 N9 ∧ (Q none (mup M8 46 (mput (M8 46) 20 ((M8 46 20) - (nI 1)))) N9)) ∧ (¬ x7 = nI 0 → Q none (mup M5 46 (mput (M5 46) 20 ((M5 46 20) - (nI 1)))) N6)))) ∧ (¬ v1 = (nI 40) → ∃ (M10 : mI) (N11 : mJ), mrc D 206 [.ref 46] (mup (mup MI 46 (mput (MI 46) 20 ((MI 46 20) + (nI 1)))) 46 (mput ((mup MI 46 (mput (MI 46) 20 ((MI 46 20) + (nI 1)))) 46) 18 (((mup MI 46 (mput (MI 46) 20 ((MI 46 20) + (nI 1)))) 46 18) + (nI 1)))) ML none M10 N11 ∧ ((v1 = (nI 45) → VX11_readsOne_111 D Q (-226 : Int32) M10 N11) ∧ (¬ v1 = (nI 45) → VX11_readsOne_111 D Q (-133 : Int32) M10 N11))))) :
    VX11_readsOne_31 D Q v1 MI ML := by
  show mEx D TX11_readsOne (mqS Q) (31, [some (.ref 46), some (.int v1), none, none], [], (W0, Sh0, MI, ML))
  refine x_st rfl ?_
  refine x_gi (ci := 11) (k := 20) (nx := 35) rfl sh_46 rfl ?_
  refine x_st rfl ?_
  refine x_br rfl (fun c => ?_) (fun c => ?_)
  · replace h := h.1 c
    refine x_st rfl ?_
    obtain ⟨M1, N2, hc, h⟩ := h
    refine x_vv (y := 197) (n := 0) (ci := 11) (nx := 44) rfl (fun _ => rfl) sh_46 rfl hc ?_
    refine x_ret rfl ?_
    exact ⟨_, _, rfl, h⟩
  · replace h := h.2 c
    refine x_st rfl ?_
    refine x_st rfl ?_
    refine x_gi (ci := 11) (k := 20) (nx := 50) rfl sh_46 rfl ?_
    refine x_st rfl ?_
    refine x_st rfl ?_
    refine x_pi (ci := 11) (k := 20) (nx := 55) rfl sh_46 rfl ?_
    refine x_st rfl ?_
    refine x_st rfl ?_
    refine x_gi (ci := 11) (k := 18) (nx := 60) rfl sh_46 rfl ?_
    refine x_st rfl ?_
    refine x_st rfl ?_
    refine x_pi (ci := 11) (k := 18) (nx := 65) rfl sh_46 rfl ?_
    refine x_st rfl ?_
    refine x_st rfl ?_
    refine x_br rfl (fun c => ?_) (fun c => ?_)
    · replace h := h.1 c
      refine x_st rfl ?_
      obtain ⟨M3, N4, hc, h⟩ := h
      refine x_vv (y := 200) (n := 0) (ci := 11) (nx := 75) rfl (fun _ => rfl) sh_46 rfl hc ?_
      refine x_st rfl ?_
      refine x_st rfl ?_
      obtain ⟨x7, M5, N6, hc, h⟩ := h
      refine x_vi (y := 198) (n := 1) (ci := 11) (nx := 81) rfl (fun _ => rfl) sh_46 rfl hc ?_
      refine x_br rfl (fun c => ?_) (fun c => ?_)
      · replace h := h.1 c
        refine x_st rfl ?_
        obtain ⟨M8, N9, hc, h⟩ := h
        refine x_vv (y := 197) (n := 0) (ci := 11) (nx := 88) rfl (fun _ => rfl) sh_46 rfl hc ?_
        refine x_st rfl ?_
        refine x_st rfl ?_
        refine x_st rfl ?_
        refine x_gi (ci := 11) (k := 20) (nx := 119) rfl sh_46 rfl ?_
        refine x_st rfl ?_
        refine x_st rfl ?_
        refine x_pi (ci := 11) (k := 20) (nx := 124) rfl sh_46 rfl ?_
        refine x_ret rfl ?_
        exact ⟨_, _, rfl, h⟩
      · replace h := h.2 c
        refine x_st rfl ?_
        refine x_st rfl ?_
        refine x_gi (ci := 11) (k := 20) (nx := 119) rfl sh_46 rfl ?_
        refine x_st rfl ?_
        refine x_st rfl ?_
        refine x_pi (ci := 11) (k := 20) (nx := 124) rfl sh_46 rfl ?_
        refine x_ret rfl ?_
        exact ⟨_, _, rfl, h⟩
    · replace h := h.2 c
      refine x_st rfl ?_
      obtain ⟨M10, N11, hc, h⟩ := h
      refine x_vv (y := 206) (n := 0) (ci := 11) (nx := 95) rfl (fun _ => rfl) sh_46 rfl hc ?_
      refine x_st rfl ?_
      refine x_st rfl ?_
      refine x_st rfl ?_
      refine x_br rfl (fun c => ?_) (fun c => ?_)
      · replace h := h.1 c
        refine x_st rfl ?_
        refine x_st rfl ?_
        refine x_kl ?_ h
        exact ⟨Or.inr rfl, ⟨Or.inl rfl, ⟨Or.inl rfl, ⟨Or.inl rfl, True.intro⟩⟩⟩⟩
      · replace h := h.2 c
        refine x_st rfl ?_
        refine x_kl ?_ h
        exact ⟨Or.inr rfl, ⟨Or.inl rfl, ⟨Or.inl rfl, ⟨Or.inl rfl, True.intro⟩⟩⟩⟩
theorem BX11_readsOne_111 {D : Nat} {Q : Option Value → mI → mJ → Prop}  {s1 : Int32} {MI : mI} {ML : mJ} 
    (h : ∃ (M1 : mI) (N2 : mJ), mrc D 199 [.ref 46, .int s1] MI ML none M1 N2 ∧ (Q none (mup M1 46 (mput (M1 46) 20 ((M1 46 20) - (nI 1)))) N2)) :
    VX11_readsOne_111 D Q s1 MI ML := by
  show mEx D TX11_readsOne (mqS Q) (111, [some (.ref 46), none, none, none], [.int s1, .ref 46], (W0, Sh0, MI, ML))
  obtain ⟨M1, N2, hc, h⟩ := h
  refine x_vv (y := 199) (n := 1) (ci := 11) (nx := 114) rfl (fun _ => rfl) sh_46 rfl hc ?_
  refine x_st rfl ?_
  refine x_st rfl ?_
  refine x_gi (ci := 11) (k := 20) (nx := 119) rfl sh_46 rfl ?_
  refine x_st rfl ?_
  refine x_st rfl ?_
  refine x_pi (ci := 11) (k := 20) (nx := 124) rfl sh_46 rfl ?_
  refine x_ret rfl ?_
  exact ⟨_, _, rfl, h⟩
theorem BX11_readsOne_146 {D : Nat} {Q : Option Value → mI → mJ → Prop}  {v2 : Int32} {v3 : Int32} {MI : mI} {ML : mJ} 
    (h : ((nI 4) ≤ v3 → VX11_readsOne_198 D Q v2 v3 MI ML) ∧ (¬ (nI 4) ≤ v3 → ∃ (x3 : Int32) (M1 : mI) (N2 : mJ), mrc D 196 [.ref 46] MI ML (some (.int x3)) M1 N2 ∧ ((x3 < (nI 48) → VX11_readsOne_198 D Q v2 v3 M1 N2) ∧ (¬ x3 < (nI 48) → ∃ (x6 : Int32) (M4 : mI) (N5 : mJ), mrc D 196 [.ref 46] M1 N2 (some (.int x6)) M4 N5 ∧ (((nI 57) < x6 → VX11_readsOne_198 D Q v2 v3 M4 N5) ∧ (¬ (nI 57) < x6 → ∃ (x9 : Int32) (M7 : mI) (N8 : mJ), mrc D 196 [.ref 46] M4 N5 (some (.int x9)) M7 N8 ∧ (VX11_readsOne_146 D Q ((((nI 10) * v2) + x9) - (nI 48)) (v3 + (nI 1)) (mup M7 46 (mput (M7 46) 18 ((M7 46 18) + (nI 1)))) N8))))))) :
    VX11_readsOne_146 D Q v2 v3 MI ML := by
  show mEx D TX11_readsOne (mqS Q) (146, [some (.ref 46), none, some (.int v2), some (.int v3)], [], (W0, Sh0, MI, ML))
  refine x_st rfl ?_
  refine x_st rfl ?_
  refine x_br rfl (fun c => ?_) (fun c => ?_)
  · replace h := h.1 c
    refine x_kl ?_ h
    exact ⟨Or.inr rfl, ⟨Or.inl rfl, ⟨Or.inr rfl, ⟨Or.inr rfl, True.intro⟩⟩⟩⟩
  · replace h := h.2 c
    refine x_st rfl ?_
    obtain ⟨x3, M1, N2, hc, h⟩ := h
    refine x_vi (y := 196) (n := 0) (ci := 11) (nx := 155) rfl (fun _ => rfl) sh_46 rfl hc ?_
    refine x_st rfl ?_
    refine x_br rfl (fun c => ?_) (fun c => ?_)
    · replace h := h.1 c
      refine x_kl ?_ h
      exact ⟨Or.inr rfl, ⟨Or.inl rfl, ⟨Or.inr rfl, ⟨Or.inr rfl, True.intro⟩⟩⟩⟩
    · replace h := h.2 c
      refine x_st rfl ?_
      obtain ⟨x6, M4, N5, hc, h⟩ := h
      refine x_vi (y := 196) (n := 0) (ci := 11) (nx := 164) rfl (fun _ => rfl) sh_46 rfl hc ?_
      refine x_st rfl ?_
      refine x_br rfl (fun c => ?_) (fun c => ?_)
      · replace h := h.1 c
        refine x_kl ?_ h
        exact ⟨Or.inr rfl, ⟨Or.inl rfl, ⟨Or.inr rfl, ⟨Or.inr rfl, True.intro⟩⟩⟩⟩
      · replace h := h.2 c
        refine x_st rfl ?_
        refine x_st rfl ?_
        refine x_st rfl ?_
        refine x_st rfl ?_
        obtain ⟨x9, M7, N8, hc, h⟩ := h
        refine x_vi (y := 196) (n := 0) (ci := 11) (nx := 177) rfl (fun _ => rfl) sh_46 rfl hc ?_
        refine x_st rfl ?_
        refine x_st rfl ?_
        refine x_st rfl ?_
        refine x_st rfl ?_
        refine x_st rfl ?_
        refine x_st rfl ?_
        refine x_st rfl ?_
        refine x_gi (ci := 11) (k := 18) (nx := 190) rfl sh_46 rfl ?_
        refine x_st rfl ?_
        refine x_st rfl ?_
        refine x_pi (ci := 11) (k := 18) (nx := 195) rfl sh_46 rfl ?_
        refine x_st rfl ?_
        refine x_kl ?_ h
        exact ⟨Or.inr rfl, ⟨Or.inl rfl, ⟨Or.inr rfl, ⟨Or.inr rfl, True.intro⟩⟩⟩⟩
theorem BX11_readsOne_198 {D : Nat} {Q : Option Value → mI → mJ → Prop}  {v2 : Int32} {v3 : Int32} {MI : mI} {ML : mJ} 
    (h : (v3 = nI 0 → ∃ (M1 : mI) (N2 : mJ), mrc D 197 [.ref 46] MI ML none M1 N2 ∧ (VX11_readsOne_206 D Q v2 M1 N2)) ∧ (¬ v3 = nI 0 → VX11_readsOne_206 D Q v2 MI ML)) :
    VX11_readsOne_198 D Q v2 v3 MI ML := by
  show mEx D TX11_readsOne (mqS Q) (198, [some (.ref 46), none, some (.int v2), some (.int v3)], [], (W0, Sh0, MI, ML))
  refine x_st rfl ?_
  refine x_br rfl (fun c => ?_) (fun c => ?_)
  · replace h := h.1 c
    refine x_st rfl ?_
    obtain ⟨M1, N2, hc, h⟩ := h
    refine x_vv (y := 197) (n := 0) (ci := 11) (nx := 206) rfl (fun _ => rfl) sh_46 rfl hc ?_
    refine x_kl ?_ h
    exact ⟨Or.inr rfl, ⟨Or.inl rfl, ⟨Or.inr rfl, ⟨Or.inl rfl, True.intro⟩⟩⟩⟩
  · replace h := h.2 c
    refine x_kl ?_ h
    exact ⟨Or.inr rfl, ⟨Or.inl rfl, ⟨Or.inr rfl, ⟨Or.inl rfl, True.intro⟩⟩⟩⟩
theorem BX11_readsOne_206 {D : Nat} {Q : Option Value → mI → mJ → Prop}  {v2 : Int32} {MI : mI} {ML : mJ} 
    (h : ∃ (M1 : mI) (N2 : mJ), mrc D 199 [.ref 46, .int v2] MI ML none M1 N2 ∧ (Q none M1 N2)) :
    VX11_readsOne_206 D Q v2 MI ML := by
  show mEx D TX11_readsOne (mqS Q) (206, [some (.ref 46), none, some (.int v2), none], [], (W0, Sh0, MI, ML))
  refine x_st rfl ?_
  refine x_st rfl ?_
  obtain ⟨M1, N2, hc, h⟩ := h
  refine x_vv (y := 199) (n := 1) (ci := 11) (nx := 211) rfl (fun _ => rfl) sh_46 rfl hc ?_
  refine x_ret rfl ?_
  exact ⟨_, _, rfl, h⟩
theorem EX11_readsOne {D : Nat} {Q : Option Value → mI → mJ → Prop}  {MI : mI} {ML : mJ} (h : VX11_readsOne_0 D Q  MI ML) : ∃ v MI' ML', Q v MI' ML' ∧ mrc (D + 1) 206 [.ref 46] MI ML v MI' ML' := by
  refine x_en (n := 3) (T := TX11_readsOne) rfl rfl ?_
  refine x_kl ?_ h
  exact ⟨Or.inr rfl, ⟨Or.inl rfl, ⟨Or.inl rfl, ⟨Or.inl rfl, True.intro⟩⟩⟩⟩
