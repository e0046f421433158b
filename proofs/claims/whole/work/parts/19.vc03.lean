/-! bodies by blocks -/
def VX6_setLeast_0 (D : Nat) (Q : Option Value → mI → mJ → Prop)  (v1 : Int32) (v2 : Int32) (v3 : Int32) (MI : mI) (ML : mJ) : Prop := mEx D TX6_setLeast (mqS Q) (0, [some (.ref 24), some (.int v1), some (.int v2), some (.int v3), none], [], (W0, Sh0, MI, ML))
theorem BX6_setLeast_0 {D : Nat} {Q : Option Value → mI → mJ → Prop}  {v1 : Int32} {v2 : Int32} {v3 : Int32} {MI : mI} {ML : mJ} 
    (h : (((v1 * (nI 256)) + v2) < nI 0 → Q none MI ML) ∧ (¬ ((v1 * (nI 256)) + v2) < nI 0 → ((nI 2304) ≤ ((v1 * (nI 256)) + v2) → Q none MI ML) ∧ (¬ (nI 2304) ≤ ((v1 * (nI 256)) + v2) → ∃ i1 : Nat, ((v1 * (nI 256)) + v2) = nI i1 ∧ i1 < 2304 ∧ (Q none (mup MI 26 (mput (MI 26) i1 v3)) ML)))) :
    VX6_setLeast_0 D Q v1 v2 v3 MI ML := by
  show mEx D TX6_setLeast (mqS Q) (0, [some (.ref 24), some (.int v1), some (.int v2), some (.int v3), none], [], (W0, Sh0, MI, ML))
  refine x_st rfl ?_
  refine x_st rfl ?_
  refine x_st rfl ?_
  refine x_st rfl ?_
  refine x_st rfl ?_
  refine x_st rfl ?_
  refine x_st rfl ?_
  refine x_br rfl (fun c => ?_) (fun c => ?_)
  · replace h := h.1 c
    refine x_ret rfl ?_
    exact ⟨_, _, rfl, h⟩
  · replace h := h.2 c
    refine x_st rfl ?_
    refine x_st rfl ?_
    refine x_gr (ci := 6) (k := 2) (nx := 20) rfl sh_24 rfl ?_
    refine x_alen (nx := 21) rfl sh_26 ?_
    refine x_br rfl (fun c => ?_) (fun c => ?_)
    · replace h := h.1 c
      refine x_ret rfl ?_
      exact ⟨_, _, rfl, h⟩
    · replace h := h.2 c
      refine x_st rfl ?_
      refine x_gr (ci := 6) (k := 2) (nx := 28) rfl sh_24 rfl ?_
      refine x_st rfl ?_
      refine x_st rfl ?_
      obtain ⟨i1, hx, hi, h⟩ := h
      refine x_iast (i := i1) (nx := 32) rfl sh_26 hx hi (by decide) ?_
      refine x_ret rfl ?_
      exact ⟨_, _, rfl, h⟩
theorem EX6_setLeast {D : Nat} {Q : Option Value → mI → mJ → Prop}  {v1 : Int32} {v2 : Int32} {v3 : Int32} {MI : mI} {ML : mJ} (h : VX6_setLeast_0 D Q v1 v2 v3 MI ML) : ∃ v MI' ML', Q v MI' ML' ∧ mrc (D + 1) 94 [.ref 24, .int v1, .int v2, .int v3] MI ML v MI' ML' := by
  refine x_en (n := 1) (T := TX6_setLeast) rfl rfl ?_
  refine x_kl ?_ h
  exact ⟨Or.inr rfl, ⟨Or.inr rfl, ⟨Or.inr rfl, ⟨Or.inr rfl, ⟨Or.inl rfl, True.intro⟩⟩⟩⟩⟩
def VX7_goBy_0 (D : Nat) (Q : Option Value → mI → mJ → Prop) (r r1 r2 r3 r4 : Nat) (k a : Nat) (MI : mI) (ML : mJ) : Prop := mEx D TX7_goBy (mqS Q) (0, [some (.ref r), some (.ref k), some (.ref 6), none, none, none], [], (W0, Sh0, MI, ML))
def VX7_goBy_20 (D : Nat) (Q : Option Value → mI → mJ → Prop) (r r1 r2 r3 r4 : Nat) (k a : Nat) (v3 : Int32) (v4 : Int32) (MI : mI) (ML : mJ) : Prop := mEx D TX7_goBy (mqS Q) (20, [some (.ref r), some (.ref k), some (.ref 6), some (.int v3), some (.int v4), none], [], (W0, Sh0, MI, ML))
theorem BX7_goBy_0 {D : Nat} {Q : Option Value → mI → mJ → Prop} {r r1 r2 r3 r4 : Nat} {k a : Nat} {MI : mI} {ML : mJ} (hR : rd r r1 r2 r3 r4) (hB : bz k a)
    (h : VX7_goBy_20 D Q r r1 r2 r3 r4 k a (nI 0) (nI 0) (mup (mup (mup MI r (mput (MI r) 0 (nI 0))) r (mput ((mup MI r (mput (MI r) 0 (nI 0))) r) 5 (nI 0))) r (mput ((mup (mup MI r (mput (MI r) 0 (nI 0))) r (mput ((mup MI r (mput (MI r) 0 (nI 0))) r) 5 (nI 0))) r) 6 (nI 0))) ML) :
    VX7_goBy_0 D Q r r1 r2 r3 r4 k a MI ML := by
  show mEx D TX7_goBy (mqS Q) (0, [some (.ref r), some (.ref k), some (.ref 6), none, none, none], [], (W0, Sh0, MI, ML))
  refine x_st rfl ?_
  refine x_st rfl ?_
  refine x_pi (ci := 7) (k := 0) (nx := 5) rfl (rd_o hR) rfl ?_
  refine x_st rfl ?_
  refine x_st rfl ?_
  refine x_pi (ci := 7) (k := 5) (nx := 10) rfl (rd_o hR) rfl ?_
  refine x_st rfl ?_
  refine x_st rfl ?_
  refine x_pi (ci := 7) (k := 6) (nx := 15) rfl (rd_o hR) rfl ?_
  refine x_st rfl ?_
  refine x_st rfl ?_
  refine x_st rfl ?_
  refine x_st rfl ?_
  refine x_kl ?_ h
  exact ⟨Or.inr rfl, ⟨Or.inr rfl, ⟨Or.inr rfl, ⟨Or.inr rfl, ⟨Or.inr rfl, ⟨Or.inl rfl, True.intro⟩⟩⟩⟩⟩⟩
theorem BX7_goBy_20 {D : Nat} {Q : Option Value → mI → mJ → Prop} {r r1 r2 r3 r4 : Nat} {k a : Nat} {v3 : Int32} {v4 : Int32} {MI : mI} {ML : mJ} (hR : rd r r1 r2 r3 r4) (hB : bz k a)
    (h : ((MI k 0) ≤ v4 → ∃ (M1 : mI) (N2 : mJ), mrc D 24 [.ref k, .int (MI r 5)] MI ML none M1 N2 ∧ (Q (some (.int (M1 r 0))) M1 N2)) ∧ (¬ (MI k 0) ≤ v4 → ∃ (x5 : Int32) (M3 : mI) (N4 : mJ), mrc D 97 [.ref k, .int v3] MI ML (some (.int x5)) M3 N4 ∧ (∃ (M6 : mI) (N7 : mJ), mrc D 98 [.ref r, .ref k, .ref 6, .int x5] M3 N4 none M6 N7 ∧ (VX7_goBy_20 D Q r r1 r2 r3 r4 k a (v3 ||| ((nI 1) <<< (x5 &&& 31))) (v4 + (nI 1)) M6 N7)))) :
    VX7_goBy_20 D Q r r1 r2 r3 r4 k a v3 v4 MI ML := by
  show mEx D TX7_goBy (mqS Q) (20, [some (.ref r), some (.ref k), some (.ref 6), some (.int v3), some (.int v4), none], [], (W0, Sh0, MI, ML))
  refine x_st rfl ?_
  refine x_st rfl ?_
  refine x_gi (ci := 0) (k := 0) (nx := 26) rfl (bz_o hB) rfl ?_
  refine x_br rfl (fun c => ?_) (fun c => ?_)
  · replace h := h.1 c
    refine x_st rfl ?_
    refine x_st rfl ?_
    refine x_gi (ci := 7) (k := 5) (nx := 62) rfl (rd_o hR) rfl ?_
    obtain ⟨M1, N2, hc, h⟩ := h
    refine x_vv (y := 24) (n := 1) (ci := 0) (nx := 65) rfl (fun _ => rfl) (bz_o hB) rfl hc ?_
    refine x_st rfl ?_
    refine x_gi (ci := 7) (k := 0) (nx := 69) rfl (rd_o hR) rfl ?_
    refine x_ret rfl ?_
    exact ⟨_, _, rfl, h⟩
  · replace h := h.2 c
    refine x_st rfl ?_
    refine x_st rfl ?_
    obtain ⟨x5, M3, N4, hc, h⟩ := h
    refine x_ci rfl hc ?_
    refine x_st rfl ?_
    refine x_st rfl ?_
    refine x_st rfl ?_
    refine x_st rfl ?_
    refine x_st rfl ?_
    refine x_st rfl ?_
    refine x_st rfl ?_
    refine x_st rfl ?_
    refine x_st rfl ?_
    refine x_st rfl ?_
    refine x_st rfl ?_
    obtain ⟨M6, N7, hc, h⟩ := h
    refine x_vv (y := 98) (n := 3) (ci := 7) (nx := 51) rfl (fun _ => rfl) (rd_o hR) rfl hc ?_
    refine x_st rfl ?_
    refine x_st rfl ?_
    refine x_kl ?_ h
    exact ⟨Or.inr rfl, ⟨Or.inr rfl, ⟨Or.inr rfl, ⟨Or.inr rfl, ⟨Or.inr rfl, ⟨Or.inl rfl, True.intro⟩⟩⟩⟩⟩⟩
theorem EX7_goBy {D : Nat} {Q : Option Value → mI → mJ → Prop} {r r1 r2 r3 r4 : Nat} {k a : Nat} {MI : mI} {ML : mJ} (h : VX7_goBy_0 D Q r r1 r2 r3 r4 k a MI ML) : ∃ v MI' ML', Q v MI' ML' ∧ mrc (D + 1) 96 [.ref r, .ref k, .ref 6] MI ML v MI' ML' := by
  refine x_en (n := 3) (T := TX7_goBy) rfl rfl ?_
  refine x_kl ?_ h
  exact ⟨Or.inr rfl, ⟨Or.inr rfl, ⟨Or.inr rfl, ⟨Or.inl rfl, ⟨Or.inl rfl, ⟨Or.inl rfl, True.intro⟩⟩⟩⟩⟩⟩
def VX7_hungriest_0 (D : Nat) (Q : Option Value → mI → mJ → Prop) (k a : Nat) (v1 : Int32) (MI : mI) (ML : mJ) : Prop := mEx D TX7_hungriest (mqS Q) (0, [some (.ref k), some (.int v1), none, none, none, none], [], (W0, Sh0, MI, ML))
def VX7_hungriest_8 (D : Nat) (Q : Option Value → mI → mJ → Prop) (k a : Nat) (v1 : Int32) (v2 : Int32) (v3 : Int32) (v4 : Int32) (MI : mI) (ML : mJ) : Prop := mEx D TX7_hungriest (mqS Q) (8, [some (.ref k), some (.int v1), some (.int v2), some (.int v3), some (.int v4), none], [], (W0, Sh0, MI, ML))
theorem BX7_hungriest_0 {D : Nat} {Q : Option Value → mI → mJ → Prop} {k a : Nat} {v1 : Int32} {MI : mI} {ML : mJ} (hB : bz k a)
    (h : VX7_hungriest_8 D Q k a v1 (nI 8) (-1 : Int32) (nI 0) MI ML) :
    VX7_hungriest_0 D Q k a v1 MI ML := by
  show mEx D TX7_hungriest (mqS Q) (0, [some (.ref k), some (.int v1), none, none, none, none], [], (W0, Sh0, MI, ML))
  refine x_st rfl ?_
  refine x_st rfl ?_
  refine x_st rfl ?_
  refine x_st rfl ?_
  refine x_st rfl ?_
  refine x_st rfl ?_
  refine x_kl ?_ h
  exact ⟨Or.inr rfl, ⟨Or.inr rfl, ⟨Or.inr rfl, ⟨Or.inr rfl, ⟨Or.inr rfl, ⟨Or.inl rfl, True.intro⟩⟩⟩⟩⟩⟩
theorem BX7_hungriest_8 {D : Nat} {Q : Option Value → mI → mJ → Prop} {k a : Nat} {v1 : Int32} {v2 : Int32} {v3 : Int32} {v4 : Int32} {MI : mI} {ML : mJ} (hB : bz k a)
    (h : ((MI k 0) ≤ v4 → Q (some (.int v2)) MI ML) ∧ (¬ (MI k 0) ≤ v4 → ∃ (x3 : Int32) (M1 : mI) (N2 : mJ), mrc D 11 [.ref k, .int v4] MI ML (some (.int x3)) M1 N2 ∧ ((((v1 >>> (v4 &&& 31)) &&& (nI 1)) = nI 0 → (x3 ≤ v3 → VX7_hungriest_8 D Q k a v1 v2 v3 (v4 + (nI 1)) M1 N2) ∧ (¬ x3 ≤ v3 → VX7_hungriest_8 D Q k a v1 v4 x3 (v4 + (nI 1)) M1 N2)) ∧ (¬ ((v1 >>> (v4 &&& 31)) &&& (nI 1)) = nI 0 → VX7_hungriest_8 D Q k a v1 v2 v3 (v4 + (nI 1)) M1 N2)))) :
    VX7_hungriest_8 D Q k a v1 v2 v3 v4 MI ML := by
  show mEx D TX7_hungriest (mqS Q) (8, [some (.ref k), some (.int v1), some (.int v2), some (.int v3), some (.int v4), none], [], (W0, Sh0, MI, ML))
  refine x_st rfl ?_
  refine x_st rfl ?_
  refine x_gi (ci := 0) (k := 0) (nx := 14) rfl (bz_o hB) rfl ?_
  refine x_br rfl (fun c => ?_) (fun c => ?_)
  · replace h := h.1 c
    refine x_st rfl ?_
    refine x_ret rfl ?_
    exact ⟨_, _, rfl, h⟩
  · replace h := h.2 c
    refine x_st rfl ?_
    refine x_st rfl ?_
    obtain ⟨x3, M1, N2, hc, h⟩ := h
    refine x_vi (y := 11) (n := 1) (ci := 0) (nx := 23) rfl (fun _ => rfl) (bz_o hB) rfl hc ?_
    refine x_st rfl ?_
    refine x_st rfl ?_
    refine x_st rfl ?_
    refine x_st rfl ?_
    refine x_st rfl ?_
    refine x_st rfl ?_
    refine x_br rfl (fun c => ?_) (fun c => ?_)
    · replace h := h.1 c
      refine x_st rfl ?_
      refine x_st rfl ?_
      refine x_br rfl (fun c => ?_) (fun c => ?_)
      · replace h := h.1 c
        refine x_st rfl ?_
        refine x_st rfl ?_
        refine x_kl ?_ h
        exact ⟨Or.inr rfl, ⟨Or.inr rfl, ⟨Or.inr rfl, ⟨Or.inr rfl, ⟨Or.inr rfl, ⟨Or.inl rfl, True.intro⟩⟩⟩⟩⟩⟩
      · replace h := h.2 c
        refine x_st rfl ?_
        refine x_st rfl ?_
        refine x_st rfl ?_
        refine x_st rfl ?_
        refine x_st rfl ?_
        refine x_st rfl ?_
        refine x_kl ?_ h
        exact ⟨Or.inr rfl, ⟨Or.inr rfl, ⟨Or.inr rfl, ⟨Or.inr rfl, ⟨Or.inr rfl, ⟨Or.inl rfl, True.intro⟩⟩⟩⟩⟩⟩
    · replace h := h.2 c
      refine x_st rfl ?_
      refine x_st rfl ?_
      refine x_kl ?_ h
      exact ⟨Or.inr rfl, ⟨Or.inr rfl, ⟨Or.inr rfl, ⟨Or.inr rfl, ⟨Or.inr rfl, ⟨Or.inl rfl, True.intro⟩⟩⟩⟩⟩⟩
theorem EX7_hungriest {D : Nat} {Q : Option Value → mI → mJ → Prop} {k a : Nat} {v1 : Int32} {MI : mI} {ML : mJ} (h : VX7_hungriest_0 D Q k a v1 MI ML) : ∃ v MI' ML', Q v MI' ML' ∧ mrc (D + 1) 97 [.ref k, .int v1] MI ML v MI' ML' := by
  refine x_en (n := 4) (T := TX7_hungriest) rfl rfl ?_
  refine x_kl ?_ h
  exact ⟨Or.inr rfl, ⟨Or.inr rfl, ⟨Or.inl rfl, ⟨Or.inl rfl, ⟨Or.inl rfl, ⟨Or.inl rfl, True.intro⟩⟩⟩⟩⟩⟩
def VX7_serve_0 (D : Nat) (Q : Option Value → mI → mJ → Prop) (r r1 r2 r3 r4 : Nat) (k a : Nat) (v3 : Int32) (MI : mI) (ML : mJ) : Prop := mEx D TX7_serve (mqS Q) (0, [some (.ref r), some (.ref k), some (.ref 6), some (.int v3), none, none, none, none, none, none], [], (W0, Sh0, MI, ML))
def VX7_serve_70 (D : Nat) (Q : Option Value → mI → mJ → Prop) (r r1 r2 r3 r4 : Nat) (k a : Nat) (v3 : Int32) (v4 : Int32) (v5 : Int32) (v6 : Int32) (v7 : Int32) (MI : mI) (ML : mJ) : Prop := mEx D TX7_serve (mqS Q) (70, [some (.ref r), some (.ref k), some (.ref 6), some (.int v3), some (.int v4), some (.int v5), some (.int v6), some (.int v7), none, none], [], (W0, Sh0, MI, ML))
theorem BX7_serve_0 {D : Nat} {Q : Option Value → mI → mJ → Prop} {r r1 r2 r3 r4 : Nat} {k a : Nat} {v3 : Int32} {MI : mI} {ML : mJ} (hR : rd r r1 r2 r3 r4) (hB : bz k a)
    (h : ∃ (x3 : Int32) (M1 : mI) (N2 : mJ), mrc D 16 [.ref k, .int v3, .int (nI 8)] MI ML (some (.int x3)) M1 N2 ∧ ((x3 = (nI 8) → Q none M1 N2) ∧ (¬ x3 = (nI 8) → ((M1 r 0) < (nI 8) → ∃ (x6 : Int32) (M4 : mI) (N5 : mJ), mrc D 14 [.ref k, .int x3, .int v3] M1 N2 (some (.int x6)) M4 N5 ∧ (∃ (x9 : Int32) (M7 : mI) (N8 : mJ), mrc D 11 [.ref k, .int v3] M4 N5 (some (.int x9)) M7 N8 ∧ (∃ (x12 : Int32) (M10 : mI) (N11 : mJ), mrc D 9 [.ref k, .int ((nI 8) + v3)] M7 N8 (some (.int x12)) M10 N11 ∧ (∃ (x15 : Int32) (M13 : mI) (N14 : mJ), mrc D 9 [.ref k, .int (nI 19)] M10 N11 (some (.int x15)) M13 N14 ∧ (∃ (M16 : mI) (N17 : mJ), mrc D 47 [.ref 6, .int x6, .int x9, .int x12, .int x15, .int (M13 r 0)] M13 N14 none M16 N17 ∧ (VX7_serve_70 D Q r r1 r2 r3 r4 k a v3 x3 (nI 8) (-1 : Int32) (nI 0) M16 N17)))))) ∧ (¬ (M1 r 0) < (nI 8) → Q none M1 N2)))) :
    VX7_serve_0 D Q r r1 r2 r3 r4 k a v3 MI ML := by
  show mEx D TX7_serve (mqS Q) (0, [some (.ref r), some (.ref k), some (.ref 6), some (.int v3), none, none, none, none, none, none], [], (W0, Sh0, MI, ML))
  refine x_st rfl ?_
  refine x_st rfl ?_
  refine x_st rfl ?_
  obtain ⟨x3, M1, N2, hc, h⟩ := h
  refine x_vi (y := 16) (n := 2) (ci := 0) (nx := 7) rfl (fun _ => rfl) (bz_o hB) rfl hc ?_
  refine x_st rfl ?_
  refine x_st rfl ?_
  refine x_st rfl ?_
  refine x_br rfl (fun c => ?_) (fun c => ?_)
  · replace h := h.1 c
    refine x_ret rfl ?_
    exact ⟨_, _, rfl, h⟩
  · replace h := h.2 c
    refine x_st rfl ?_
    refine x_gi (ci := 7) (k := 0) (nx := 20) rfl (rd_o hR) rfl ?_
    refine x_st rfl ?_
    refine x_br rfl (fun c => ?_) (fun c => ?_)
    · replace h := h.1 c
      refine x_st rfl ?_
      refine x_st rfl ?_
      refine x_st rfl ?_
      refine x_st rfl ?_
      obtain ⟨x6, M4, N5, hc, h⟩ := h
      refine x_vi (y := 14) (n := 2) (ci := 0) (nx := 34) rfl (fun _ => rfl) (bz_o hB) rfl hc ?_
      refine x_st rfl ?_
      refine x_st rfl ?_
      obtain ⟨x9, M7, N8, hc, h⟩ := h
      refine x_vi (y := 11) (n := 1) (ci := 0) (nx := 39) rfl (fun _ => rfl) (bz_o hB) rfl hc ?_
      refine x_st rfl ?_
      refine x_st rfl ?_
      refine x_st rfl ?_
      refine x_st rfl ?_
      obtain ⟨x12, M10, N11, hc, h⟩ := h
      refine x_vi (y := 9) (n := 1) (ci := 0) (nx := 47) rfl (fun _ => rfl) (bz_o hB) rfl hc ?_
      refine x_st rfl ?_
      refine x_st rfl ?_
      obtain ⟨x15, M13, N14, hc, h⟩ := h
      refine x_vi (y := 9) (n := 1) (ci := 0) (nx := 53) rfl (fun _ => rfl) (bz_o hB) rfl hc ?_
      refine x_st rfl ?_
      refine x_gi (ci := 7) (k := 0) (nx := 57) rfl (rd_o hR) rfl ?_
      obtain ⟨M16, N17, hc, h⟩ := h
      refine x_vv (y := 47) (n := 5) (ci := 3) (nx := 60) rfl (fun _ => rfl) sh_6 rfl hc ?_
      refine x_st rfl ?_
      refine x_st rfl ?_
      refine x_st rfl ?_
      refine x_st rfl ?_
      refine x_st rfl ?_
      refine x_st rfl ?_
      refine x_kl ?_ h
      exact ⟨Or.inr rfl, ⟨Or.inr rfl, ⟨Or.inr rfl, ⟨Or.inr rfl, ⟨Or.inr rfl, ⟨Or.inr rfl, ⟨Or.inr rfl, ⟨Or.inr rfl, ⟨Or.inl rfl, ⟨Or.inl rfl, True.intro⟩⟩⟩⟩⟩⟩⟩⟩⟩⟩
    · replace h := h.2 c
      refine x_ret rfl ?_
      exact ⟨_, _, rfl, h⟩
theorem BX7_serve_70 {D : Nat} {Q : Option Value → mI → mJ → Prop} {r r1 r2 r3 r4 : Nat} {k a : Nat} {v3 : Int32} {v4 : Int32} {v5 : Int32} {v6 : Int32} {v7 : Int32} {MI : mI} {ML : mJ} (hR : rd r r1 r2 r3 r4) (hB : bz k a)
    (h : ((MI k 0) ≤ v7 → (v5 = (nI 8) → Q none MI ML) ∧ (¬ v5 = (nI 8) → ∃ (x3 : Int32) (M1 : mI) (N2 : mJ), mrc D 14 [.ref k, .int v5, .int v3] MI ML (some (.int x3)) M1 N2 ∧ (∃ (x6 : Int32) (M4 : mI) (N5 : mJ), mrc D 9 [.ref k, .int (nI 16)] M1 N2 (some (.int x6)) M4 N5 ∧ (∃ (M7 : mI) (N8 : mJ), mrc D 15 [.ref k, .int v5, .int v3, .int (if (nI 9) < (x3 + x6) then (nI 9) else (x3 + x6))] M4 N5 none M7 N8 ∧ (∃ (M9 : mI) (N10 : mJ), mrc D 13 [.ref k, .int v3, .int v6] M7 N8 none M9 N10 ∧ (∃ i11 : Nat, (M9 r 0) = nI i11 ∧ i11 < 8 ∧ (∃ i12 : Nat, ((mup M9 r1 (mput (M9 r1) i11 v3)) r 0) = nI i12 ∧ i12 < 8 ∧ (∃ i13 : Nat, ((mup (mup M9 r1 (mput (M9 r1) i11 v3)) r2 (mput ((mup M9 r1 (mput (M9 r1) i11 v3)) r2) i12 v5)) r 0) = nI i13 ∧ i13 < 8 ∧ (∃ i14 : Nat, ((mup (mup (mup M9 r1 (mput (M9 r1) i11 v3)) r2 (mput ((mup M9 r1 (mput (M9 r1) i11 v3)) r2) i12 v5)) r3 (mput ((mup (mup M9 r1 (mput (M9 r1) i11 v3)) r2 (mput ((mup M9 r1 (mput (M9 r1) i11 v3)) r2) i12 v5)) r3) i13 v4)) r 0) = nI i14 ∧ i14 < 8 ∧ (Q none (mup (mup (mup (mup (mup (mup (mup M9 r1 (mput (M9 r1) i11 v3)) r2 (mput ((mup M9 r1 (mput (M9 r1) i11 v3)) r2) i12 v5)) r3 (mput ((mup (mup M9 r1 (mput (M9 r1) i11 v3)) r2 (mput ((mup M9 r1 (mput (M9 r1) i11 v3)) r2) i12 v5)) r3) i13 v4)) r4 (mput ((mup (mup (mup M9 r1 (mput (M9 r1) i11 v3)) r2 (mput ((mup M9 r1 (mput (M9 r1) i11 v3)) r2) i12 v5)) r3 (mput ((mup (mup M9 r1 (mput (M9 r1) i11 v3)) r2 (mput ((mup M9 r1 (mput (M9 r1) i11 v3)) r2) i12 v5)) r3) i13 v4)) r4) i14 v6)) r (mput ((mup (mup (mup (mup M9 r1 (mput (M9 r1) i11 v3)) r2 (mput ((mup M9 r1 (mput (M9 r1) i11 v3)) r2) i12 v5)) r3 (mput ((mup (mup M9 r1 (mput (M9 r1) i11 v3)) r2 (mput ((mup M9 r1 (mput (M9 r1) i11 v3)) r2) i12 v5)) r3) i13 v4)) r4 (mput ((mup (mup (mup M9 r1 (mput (M9 r1) i11 v3)) r2 (mput ((mup M9 r1 (mput (M9 r1) i11 v3)) r2) i12 v5)) r3 (mput ((mup (mup M9 r1 (mput (M9 r1) i11 v3)) r2 (mput ((mup M9 r1 (mput (M9 r1) i11 v3)) r2) i12 v5)) r3) i13 v4)) r4) i14 v6)) r) 0 (((mup (mup (mup (mup M9 r1 (mput (M9 r1) i11 v3)) r2 (mput ((mup M9 r1 (mput (M9 r1) i11 v3)) r2) i12 v5)) r3 (mput ((mup (mup M9 r1 (mput (M9 r1) i11 v3)) r2 (mput ((mup M9 r1 (mput (M9 r1) i11 v3)) r2) i12 v5)) r3) i13 v4)) r4 (mput ((mup (mup (mup M9 r1 (mput (M9 r1) i11 v3)) r2 (mput ((mup M9 r1 (mput (M9 r1) i11 v3)) r2) i12 v5)) r3 (mput ((mup (mup M9 r1 (mput (M9 r1) i11 v3)) r2 (mput ((mup M9 r1 (mput (M9 r1) i11 v3)) r2) i12 v5)) r3) i13 v4)) r4) i14 v6)) r 0) + (nI 1)))) r (mput ((mup (mup (mup (mup (mup M9 r1 (mput (M9 r1) i11 v3)) r2 (mput ((mup M9 r1 (mput (M9 r1) i11 v3)) r2) i12 v5)) r3 (mput ((mup (mup M9 r1 (mput (M9 r1) i11 v3)) r2 (mput ((mup M9 r1 (mput (M9 r1) i11 v3)) r2) i12 v5)) r3) i13 v4)) r4 (mput ((mup (mup (mup M9 r1 (mput (M9 r1) i11 v3)) r2 (mput ((mup M9 r1 (mput (M9 r1) i11 v3)) r2) i12 v5)) r3 (mput ((mup (mup M9 r1 (mput (M9 r1) i11 v3)) r2 (mput ((mup M9 r1 (mput (M9 r1) i11 v3)) r2) i12 v5)) r3) i13 v4)) r4) i14 v6)) r (mput ((mup (mup (mup (mup M9 r1 (mput (M9 r1) i11 v3)) r2 (mput ((mup M9 r1 (mput (M9 r1) i11 v3)) r2) i12 v5)) r3 (mput ((mup (mup M9 r1 (mput (M9 r1) i11 v3)) r2 (mput ((mup M9 r1 (mput (M9 r1) i11 v3)) r2) i12 v5)) r3) i13 v4)) r4 (mput ((mup (mup (mup M9 r1 (mput (M9 r1) i11 v3)) r2 (mput ((mup M9 r1 (mput (M9 r1) i11 v3)) r2) i12 v5)) r3 (mput ((mup (mup M9 r1 (mput (M9 r1) i11 v3)) r2 (mput ((mup M9 r1 (mput (M9 r1) i11 v3)) r2) i12 v5)) r3) i13 v4)) r4) i14 v6)) r) 0 (((mup (mup (mup (mup M9 r1 (mput (M9 r1) i11 v3)) r2 (mput ((mup M9 r1 (mput (M9 r1) i11 v3)) r2) i12 v5)) r3 (mput ((mup (mup M9 r1 (mput (M9 r1) i11 v3)) r2 (mput ((mup M9 r1 (mput (M9 r1) i11 v3)) r2) i12 v5)) r3) i13 v4)) r4 (mput ((mup (mup (mup M9 r1 (mput (M9 r1) i11 v3)) r2 (mput ((mup M9 r1 (mput (M9 r1) i11 v3)) r2) i12 v5)) r3 (mput ((mup (mup M9 r1 (mput (M9 r1) i11 v3)) r2 (mput ((mup M9 r1 (mput (M9 r1) i11 v3)) r2) i12 v5)) r3) i13 v4)) r4) i14 v6)) r 0) + (nI 1)))) r) 5 (((mup (mup (mup (mup (mup M9 r1 (mput (M9 r1) i11 v3)) r2 (mput ((mup M9 r1 (mput (M9 r1) i11 v3)) r2) i12 v5)) r3 (mput ((mup (mup M9 r1 (mput (M9 r1) i11 v3)) r2 (mput ((mup M9 r1 (mput (M9 r1) i11 v3)) r2) i12 v5)) r3) i13 v4)) r4 (mput ((mup (mup (mup M9 r1 (mput (M9 r1) i11 v3)) r2 (mput ((mup M9 r1 (mput (M9 r1) i11 v3)) r2) i12 v5)) r3 (mput ((mup (mup M9 r1 (mput (M9 r1) i11 v3)) r2 (mput ((mup M9 r1 (mput (M9 r1) i11 v3)) r2) i12 v5)) r3) i13 v4)) r4) i14 v6)) r (mput ((mup (mup (mup (mup M9 r1 (mput (M9 r1) i11 v3)) r2 (mput ((mup M9 r1 (mput (M9 r1) i11 v3)) r2) i12 v5)) r3 (mput ((mup (mup M9 r1 (mput (M9 r1) i11 v3)) r2 (mput ((mup M9 r1 (mput (M9 r1) i11 v3)) r2) i12 v5)) r3) i13 v4)) r4 (mput ((mup (mup (mup M9 r1 (mput (M9 r1) i11 v3)) r2 (mput ((mup M9 r1 (mput (M9 r1) i11 v3)) r2) i12 v5)) r3 (mput ((mup (mup M9 r1 (mput (M9 r1) i11 v3)) r2 (mput ((mup M9 r1 (mput (M9 r1) i11 v3)) r2) i12 v5)) r3) i13 v4)) r4) i14 v6)) r) 0 (((mup (mup (mup (mup M9 r1 (mput (M9 r1) i11 v3)) r2 (mput ((mup M9 r1 (mput (M9 r1) i11 v3)) r2) i12 v5)) r3 (mput ((mup (mup M9 r1 (mput (M9 r1) i11 v3)) r2 (mput ((mup M9 r1 (mput (M9 r1) i11 v3)) r2) i12 v5)) r3) i13 v4)) r4 (mput ((mup (mup (mup M9 r1 (mput (M9 r1) i11 v3)) r2 (mput ((mup M9 r1 (mput (M9 r1) i11 v3)) r2) i12 v5)) r3 (mput ((mup (mup M9 r1 (mput (M9 r1) i11 v3)) r2 (mput ((mup M9 r1 (mput (M9 r1) i11 v3)) r2) i12 v5)) r3) i13 v4)) r4) i14 v6)) r 0) + (nI 1)))) r 5) ||| ((nI 1) <<< (v3 &&& 31))))) r (mput ((mup (mup (mup (mup (mup (mup M9 r1 (mput (M9 r1) i11 v3)) r2 (mput ((mup M9 r1 (mput (M9 r1) i11 v3)) r2) i12 v5)) r3 (mput ((mup (mup M9 r1 (mput (M9 r1) i11 v3)) r2 (mput ((mup M9 r1 (mput (M9 r1) i11 v3)) r2) i12 v5)) r3) i13 v4)) r4 (mput ((mup (mup (mup M9 r1 (mput (M9 r1) i11 v3)) r2 (mput ((mup M9 r1 (mput (M9 r1) i11 v3)) r2) i12 v5)) r3 (mput ((mup (mup M9 r1 (mput (M9 r1) i11 v3)) r2 (mput ((mup M9 r1 (mput (M9 r1) i11 v3)) r2) i12 v5)) r3) i13 v4)) r4) i14 v6)) r (mput ((mup (mup (mup (mup M9 r1 (mput (M9 r1) i11 v3)) r2 (mput ((mup M9 r1 (mput (M9 r1) i11 v3)) r2) i12 v5)) r3 (mput ((mup (mup M9 r1 (mput (M9 r1) i11 v3)) r2 (mput ((mup M9 r1 (mput (M9 r1) i11 v3)) r2) i12 v5)) r3) i13 v4)) r4 (mput ((mup (mup (mup M9 r1 (mput (M9 r1) i11 v3)) r2 (mput ((mup M9 r1 (mput (M9 r1) i11 v3)) r2) i12 v5)) r3 (mput ((mup (mup M9 r1 (mput (M9 r1) i11 v3)) r2 (mput ((mup M9 r1 (mput (M9 r1) i11 v3)) r2) i12 v5)) r3) i13 v4)) r4) i14 v6)) r) 0 (((mup (mup (mup (mup M9 r1 (mput (M9 r1) i11 v3)) r2 (mput ((mup M9 r1 (mput (M9 r1) i11 v3)) r2) i12 v5)) r3 (mput ((mup (mup M9 r1 (mput (M9 r1) i11 v3)) r2 (mput ((mup M9 r1 (mput (M9 r1) i11 v3)) r2) i12 v5)) r3) i13 v4)) r4 (mput ((mup (mup (mup M9 r1 (mput (M9 r1) i11 v3)) r2 (mput ((mup M9 r1 (mput (M9 r1) i11 v3)) r2) i12 v5)) r3 (mput ((mup (mup M9 r1 (mput (M9 r1) i11 v3)) r2 (mput ((mup M9 r1 (mput (M9 r1) i11 v3)) r2) i12 v5)) r3) i13 v4)) r4) i14 v6)) r 0) + (nI 1)))) r (mput ((mup (mup (mup (mup (mup M9 r1 (mput (M9 r1) i11 v3)) r2 (mput ((mup M9 r1 (mput (M9 r1) i11 v3)) r2) i12 v5)) r3 (mput ((mup (mup M9 r1 (mput (M9 r1) i11 v3)) r2 (mput ((mup M9 r1 (mput (M9 r1) i11 v3)) r2) i12 v5)) r3) i13 v4)) r4 (mput ((mup (mup (mup M9 r1 (mput (M9 r1) i11 v3)) r2 (mput ((mup M9 r1 (mput (M9 r1) i11 v3)) r2) i12 v5)) r3 (mput ((mup (mup M9 r1 (mput (M9 r1) i11 v3)) r2 (mput ((mup M9 r1 (mput (M9 r1) i11 v3)) r2) i12 v5)) r3) i13 v4)) r4) i14 v6)) r (mput ((mup (mup (mup (mup M9 r1 (mput (M9 r1) i11 v3)) r2 (mput ((mup M9 r1 (mput (M9 r1) i11 v3)) r2) i12 v5)) r3 (mput ((mup (mup M9 r1 (mput (M9 r1) i11 v3)) r2 (mput ((mup M9 r1 (mput (M9 r1) i11 v3)) r2) i12 v5)) r3) i13 v4)) r4 (mput ((mup (mup (mup M9 r1 (mput (M9 r1) i11 v3)) r2 (mput ((mup M9 r1 (mput (M9 r1) i11 v3)) r2) i12 v5)) r3 (mput ((mup (mup M9 r1 (mput (M9 r1) i11 v3)) r2 (mput ((mup M9 r1 (mput (M9 r1) i11 v3)) r2) i12 v5)) r3) i13 v4)) r4) i14 v6)) r) 0 (((mup (mup (mup (mup M9 r1 (mput (M9 r1) i11 v3)) r2 (mput ((mup M9 r1 (mput (M9 r1) i11 v3)) r2) i12 v5)) r3 (mput ((mup (mup M9 r1 (mput (M9 r1) i11 v3)) r2 (mput ((mup M9 r1 (mput (M9 r1) i11 v3)) r2) i12 v5)) r3) i13 v4)) r4 (mput ((mup (mup (mup M9 r1 (mput (M9 r1) i11 v3)) r2 (mput ((mup M9 r1 (mput (M9 r1) i11 v3)) r2) i12 v5)) r3 (mput ((mup (mup M9 r1 (mput (M9 r1) i11 v3)) r2 (mput ((mup M9 r1 (mput (M9 r1) i11 v3)) r2) i12 v5)) r3) i13 v4)) r4) i14 v6)) r 0) + (nI 1)))) r) 5 (((mup (mup (mup (mup (mup M9 r1 (mput (M9 r1) i11 v3)) r2 (mput ((mup M9 r1 (mput (M9 r1) i11 v3)) r2) i12 v5)) r3 (mput ((mup (mup M9 r1 (mput (M9 r1) i11 v3)) r2 (mput ((mup M9 r1 (mput (M9 r1) i11 v3)) r2) i12 v5)) r3) i13 v4)) r4 (mput ((mup (mup (mup M9 r1 (mput (M9 r1) i11 v3)) r2 (mput ((mup M9 r1 (mput (M9 r1) i11 v3)) r2) i12 v5)) r3 (mput ((mup (mup M9 r1 (mput (M9 r1) i11 v3)) r2 (mput ((mup M9 r1 (mput (M9 r1) i11 v3)) r2) i12 v5)) r3) i13 v4)) r4) i14 v6)) r (mput ((mup (mup (mup (mup M9 r1 (mput (M9 r1) i11 v3)) r2 (mput ((mup M9 r1 (mput (M9 r1) i11 v3)) r2) i12 v5)) r3 (mput ((mup (mup M9 r1 (mput (M9 r1) i11 v3)) r2 (mput ((mup M9 r1 (mput (M9 r1) i11 v3)) r2) i12 v5)) r3) i13 v4)) r4 (mput ((mup (mup (mup M9 r1 (mput (M9 r1) i11 v3)) r2 (mput ((mup M9 r1 (mput (M9 r1) i11 v3)) r2) i12 v5)) r3 (mput ((mup (mup M9 r1 (mput (M9 r1) i11 v3)) r2 (mput ((mup M9 r1 (mput (M9 r1) i11 v3)) r2) i12 v5)) r3) i13 v4)) r4) i14 v6)) r) 0 (((mup (mup (mup (mup M9 r1 (mput (M9 r1) i11 v3)) r2 (mput ((mup M9 r1 (mput (M9 r1) i11 v3)) r2) i12 v5)) r3 (mput ((mup (mup M9 r1 (mput (M9 r1) i11 v3)) r2 (mput ((mup M9 r1 (mput (M9 r1) i11 v3)) r2) i12 v5)) r3) i13 v4)) r4 (mput ((mup (mup (mup M9 r1 (mput (M9 r1) i11 v3)) r2 (mput ((mup M9 r1 (mput (M9 r1) i11 v3)) r2) i12 v5)) r3 (mput ((mup (mup M9 r1 (mput (M9 r1) i11 v3)) r2 (mput ((mup M9 r1 (mput (M9 r1) i11 v3)) r2) i12 v5)) r3) i13 v4)) r4) i14 v6)) r 0) + (nI 1)))) r 5) ||| ((nI 1) <<< (v3 &&& 31))))) r) 6 (((mup (mup (mup (mup (mup (mup M9 r1 (mput (M9 r1) i11 v3)) r2 (mput ((mup M9 r1 (mput (M9 r1) i11 v3)) r2) i12 v5)) r3 (mput ((mup (mup M9 r1 (mput (M9 r1) i11 v3)) r2 (mput ((mup M9 r1 (mput (M9 r1) i11 v3)) r2) i12 v5)) r3) i13 v4)) r4 (mput ((mup (mup (mup M9 r1 (mput (M9 r1) i11 v3)) r2 (mput ((mup M9 r1 (mput (M9 r1) i11 v3)) r2) i12 v5)) r3 (mput ((mup (mup M9 r1 (mput (M9 r1) i11 v3)) r2 (mput ((mup M9 r1 (mput (M9 r1) i11 v3)) r2) i12 v5)) r3) i13 v4)) r4) i14 v6)) r (mput ((mup (mup (mup (mup M9 r1 (mput (M9 r1) i11 v3)) r2 (mput ((mup M9 r1 (mput (M9 r1) i11 v3)) r2) i12 v5)) r3 (mput ((mup (mup M9 r1 (mput (M9 r1) i11 v3)) r2 (mput ((mup M9 r1 (mput (M9 r1) i11 v3)) r2) i12 v5)) r3) i13 v4)) r4 (mput ((mup (mup (mup M9 r1 (mput (M9 r1) i11 v3)) r2 (mput ((mup M9 r1 (mput (M9 r1) i11 v3)) r2) i12 v5)) r3 (mput ((mup (mup M9 r1 (mput (M9 r1) i11 v3)) r2 (mput ((mup M9 r1 (mput (M9 r1) i11 v3)) r2) i12 v5)) r3) i13 v4)) r4) i14 v6)) r) 0 (((mup (mup (mup (mup M9 r1 (mput (M9 r1) i11 v3)) r2 (mput ((mup M9 r1 (mput (M9 r1) i11 v3)) r2) i12 v5)) r3 (mput ((mup (mup M9 r1 (mput (M9 r1) i11 v3)) r2 (mput ((mup M9 r1 (mput (M9 r1) i11 v3)) r2) i12 v5)) r3) i13 v4)) r4 (mput ((mup (mup (mup M9 r1 (mput (M9 r1) i11 v3)) r2 (mput ((mup M9 r1 (mput (M9 r1) i11 v3)) r2) i12 v5)) r3 (mput ((mup (mup M9 r1 (mput (M9 r1) i11 v3)) r2 (mput ((mup M9 r1 (mput (M9 r1) i11 v3)) r2) i12 v5)) r3) i13 v4)) r4) i14 v6)) r 0) + (nI 1)))) r (mput ((mup (mup (mup (mup (mup M9 r1 (mput (M9 r1) i11 v3)) r2 (mput ((mup M9 r1 (mput (M9 r1) i11 v3)) r2) i12 v5)) r3 (mput ((mup (mup M9 r1 (mput (M9 r1) i11 v3)) r2 (mput ((mup M9 r1 (mput (M9 r1) i11 v3)) r2) i12 v5)) r3) i13 v4)) r4 (mput ((mup (mup (mup M9 r1 (mput (M9 r1) i11 v3)) r2 (mput ((mup M9 r1 (mput (M9 r1) i11 v3)) r2) i12 v5)) r3 (mput ((mup (mup M9 r1 (mput (M9 r1) i11 v3)) r2 (mput ((mup M9 r1 (mput (M9 r1) i11 v3)) r2) i12 v5)) r3) i13 v4)) r4) i14 v6)) r (mput ((mup (mup (mup (mup M9 r1 (mput (M9 r1) i11 v3)) r2 (mput ((mup M9 r1 (mput (M9 r1) i11 v3)) r2) i12 v5)) r3 (mput ((mup (mup M9 r1 (mput (M9 r1) i11 v3)) r2 (mput ((mup M9 r1 (mput (M9 r1) i11 v3)) r2) i12 v5)) r3) i13 v4)) r4 (mput ((mup (mup (mup M9 r1 (mput (M9 r1) i11 v3)) r2 (mput ((mup M9 r1 (mput (M9 r1) i11 v3)) r2) i12 v5)) r3 (mput ((mup (mup M9 r1 (mput (M9 r1) i11 v3)) r2 (mput ((mup M9 r1 (mput (M9 r1) i11 v3)) r2) i12 v5)) r3) i13 v4)) r4) i14 v6)) r) 0 (((mup (mup (mup (mup M9 r1 (mput (M9 r1) i11 v3)) r2 (mput ((mup M9 r1 (mput (M9 r1) i11 v3)) r2) i12 v5)) r3 (mput ((mup (mup M9 r1 (mput (M9 r1) i11 v3)) r2 (mput ((mup M9 r1 (mput (M9 r1) i11 v3)) r2) i12 v5)) r3) i13 v4)) r4 (mput ((mup (mup (mup M9 r1 (mput (M9 r1) i11 v3)) r2 (mput ((mup M9 r1 (mput (M9 r1) i11 v3)) r2) i12 v5)) r3 (mput ((mup (mup M9 r1 (mput (M9 r1) i11 v3)) r2 (mput ((mup M9 r1 (mput (M9 r1) i11 v3)) r2) i12 v5)) r3) i13 v4)) r4) i14 v6)) r 0) + (nI 1)))) r) 5 (((mup (mup (mup (mup (mup M9 r1 (mput (M9 r1) i11 v3)) r2 (mput ((mup M9 r1 (mput (M9 r1) i11 v3)) r2) i12 v5)) r3 (mput ((mup (mup M9 r1 (mput (M9 r1) i11 v3)) r2 (mput ((mup M9 r1 (mput (M9 r1) i11 v3)) r2) i12 v5)) r3) i13 v4)) r4 (mput ((mup (mup (mup M9 r1 (mput (M9 r1) i11 v3)) r2 (mput ((mup M9 r1 (mput (M9 r1) i11 v3)) r2) i12 v5)) r3 (mput ((mup (mup M9 r1 (mput (M9 r1) i11 v3)) r2 (mput ((mup M9 r1 (mput (M9 r1) i11 v3)) r2) i12 v5)) r3) i13 v4)) r4) i14 v6)) r (mput ((mup (mup (mup (mup M9 r1 (mput (M9 r1) i11 v3)) r2 (mput ((mup M9 r1 (mput (M9 r1) i11 v3)) r2) i12 v5)) r3 (mput ((mup (mup M9 r1 (mput (M9 r1) i11 v3)) r2 (mput ((mup M9 r1 (mput (M9 r1) i11 v3)) r2) i12 v5)) r3) i13 v4)) r4 (mput ((mup (mup (mup M9 r1 (mput (M9 r1) i11 v3)) r2 (mput ((mup M9 r1 (mput (M9 r1) i11 v3)) r2) i12 v5)) r3 (mput ((mup (mup M9 r1 (mput (M9 r1) i11 v3)) r2 (mput ((mup M9 r1 (mput (M9 r1) i11 v3)) r2) i12 v5)) r3) i13 v4)) r4) i14 v6)) r) 0 (((mup (mup (mup (mup M9 r1 (mput (M9 r1) i11 v3)) r2 (mput ((mup M9 r1 (mput (M9 r1) i11 v3)) r2) i12 v5)) r3 (mput ((mup (mup M9 r1 (mput (M9 r1) i11 v3)) r2 (mput ((mup M9 r1 (mput (M9 r1) i11 v3)) r2) i12 v5)) r3) i13 v4)) r4 (mput ((mup (mup (mup M9 r1 (mput (M9 r1) i11 v3)) r2 (mput ((mup M9 r1 (mput (M9 r1) i11 v3)) r2) i12 v5)) r3 (mput ((mup (mup M9 r1 (mput (M9 r1) i11 v3)) r2 (mput ((mup M9 r1 (mput (M9 r1) i11 v3)) r2) i12 v5)) r3) i13 v4)) r4) i14 v6)) r 0) + (nI 1)))) r 5) ||| ((nI 1) <<< (v3 &&& 31))))) r 6) ||| ((nI 1) <<< (v5 &&& 31))))) N10)))))))))) ∧ (¬ (MI k 0) ≤ v7 → ∃ (x17 : Int32) (M15 : mI) (N16 : mJ), mrc D 14 [.ref k, .int v7, .int v3] MI ML (some (.int x17)) M15 N16 ∧ (((-x17) ≤ nI 0 → VX7_serve_70 D Q r r1 r2 r3 r4 k a v3 v4 v5 v6 (v7 + (nI 1)) M15 N16) ∧ (¬ (-x17) ≤ nI 0 → ((((M15 r 6) >>> (v7 &&& 31)) &&& (nI 1)) = nI 0 → ∃ (x20 : Int32) (M18 : mI) (N19 : mJ), mrc D 48 [.ref 6, .int (-x17)] M15 N16 (some (.int x20)) M18 N19 ∧ ((x20 ≤ v6 → VX7_serve_70 D Q r r1 r2 r3 r4 k a v3 v4 v5 v6 (v7 + (nI 1)) M18 N19) ∧ (¬ x20 ≤ v6 → VX7_serve_70 D Q r r1 r2 r3 r4 k a v3 v4 v7 x20 (v7 + (nI 1)) M18 N19))) ∧ (¬ (((M15 r 6) >>> (v7 &&& 31)) &&& (nI 1)) = nI 0 → VX7_serve_70 D Q r r1 r2 r3 r4 k a v3 v4 v5 v6 (v7 + (nI 1)) M15 N16))))) :
    VX7_serve_70 D Q r r1 r2 r3 r4 k a v3 v4 v5 v6 v7 MI ML := by
  show mEx D TX7_serve (mqS Q) (70, [some (.ref r), some (.ref k), some (.ref 6), some (.int v3), some (.int v4), some (.int v5), some (.int v6), some (.int v7), none, none], [], (W0, Sh0, MI, ML))
  refine x_st rfl ?_
  refine x_st rfl ?_
  refine x_gi (ci := 0) (k := 0) (nx := 76) rfl (bz_o hB) rfl ?_
  refine x_br rfl (fun c => ?_) (fun c => ?_)
  · replace h := h.1 c
    refine x_st rfl ?_
    refine x_st rfl ?_
    refine x_br rfl (fun c => ?_) (fun c => ?_)
    · replace h := h.1 c
      refine x_ret rfl ?_
      exact ⟨_, _, rfl, h⟩
    · replace h := h.2 c
      refine x_st rfl ?_
      refine x_st rfl ?_
      refine x_st rfl ?_
      obtain ⟨x3, M1, N2, hc, h⟩ := h
      refine x_vi (y := 14) (n := 2) (ci := 0) (nx := 150) rfl (fun _ => rfl) (bz_o hB) rfl hc ?_
      refine x_st rfl ?_
      refine x_st rfl ?_
      obtain ⟨x6, M4, N5, hc, h⟩ := h
      refine x_vi (y := 9) (n := 1) (ci := 0) (nx := 156) rfl (fun _ => rfl) (bz_o hB) rfl hc ?_
      refine x_st rfl ?_
      refine x_st rfl ?_
      refine x_st rfl ?_
      refine x_st rfl ?_
      refine x_st rfl ?_
      refine x_st rfl ?_
      refine x_st rfl ?_
      refine x_st rfl ?_
      obtain ⟨M7, N8, hc, h⟩ := h
      refine x_vv (y := 15) (n := 3) (ci := 0) (nx := 173) rfl (fun _ => rfl) (bz_o hB) rfl hc ?_
      refine x_st rfl ?_
      refine x_st rfl ?_
      refine x_st rfl ?_
      obtain ⟨M9, N10, hc, h⟩ := h
      refine x_vv (y := 13) (n := 2) (ci := 0) (nx := 180) rfl (fun _ => rfl) (bz_o hB) rfl hc ?_
      refine x_st rfl ?_
      refine x_gr (ci := 7) (k := 1) (nx := 184) rfl (rd_o hR) rfl ?_
      refine x_st rfl ?_
      refine x_gi (ci := 7) (k := 0) (nx := 188) rfl (rd_o hR) rfl ?_
      refine x_st rfl ?_
      obtain ⟨i11, hx, hi, h⟩ := h
      refine x_iast (i := i11) (nx := 190) rfl (rd_1 hR) hx hi (by decide) ?_
      refine x_st rfl ?_
      refine x_gr (ci := 7) (k := 2) (nx := 194) rfl (rd_o hR) rfl ?_
      refine x_st rfl ?_
      refine x_gi (ci := 7) (k := 0) (nx := 198) rfl (rd_o hR) rfl ?_
      refine x_st rfl ?_
      obtain ⟨i12, hx, hi, h⟩ := h
      refine x_iast (i := i12) (nx := 201) rfl (rd_2 hR) hx hi (by decide) ?_
      refine x_st rfl ?_
      refine x_gr (ci := 7) (k := 3) (nx := 205) rfl (rd_o hR) rfl ?_
      refine x_st rfl ?_
      refine x_gi (ci := 7) (k := 0) (nx := 209) rfl (rd_o hR) rfl ?_
      refine x_st rfl ?_
      obtain ⟨i13, hx, hi, h⟩ := h
      refine x_iast (i := i13) (nx := 212) rfl (rd_3 hR) hx hi (by decide) ?_
      refine x_st rfl ?_
      refine x_gr (ci := 7) (k := 4) (nx := 216) rfl (rd_o hR) rfl ?_
      refine x_st rfl ?_
      refine x_gi (ci := 7) (k := 0) (nx := 220) rfl (rd_o hR) rfl ?_
      refine x_st rfl ?_
      obtain ⟨i14, hx, hi, h⟩ := h
      refine x_iast (i := i14) (nx := 223) rfl (rd_4 hR) hx hi (by decide) ?_
      refine x_st rfl ?_
      refine x_st rfl ?_
      refine x_gi (ci := 7) (k := 0) (nx := 228) rfl (rd_o hR) rfl ?_
      refine x_st rfl ?_
      refine x_st rfl ?_
      refine x_pi (ci := 7) (k := 0) (nx := 233) rfl (rd_o hR) rfl ?_
      refine x_st rfl ?_
      refine x_st rfl ?_
      refine x_gi (ci := 7) (k := 5) (nx := 238) rfl (rd_o hR) rfl ?_
      refine x_st rfl ?_
      refine x_st rfl ?_
      refine x_st rfl ?_
      refine x_st rfl ?_
      refine x_pi (ci := 7) (k := 5) (nx := 245) rfl (rd_o hR) rfl ?_
      refine x_st rfl ?_
      refine x_st rfl ?_
      refine x_gi (ci := 7) (k := 6) (nx := 250) rfl (rd_o hR) rfl ?_
      refine x_st rfl ?_
      refine x_st rfl ?_
      refine x_st rfl ?_
      refine x_st rfl ?_
      refine x_pi (ci := 7) (k := 6) (nx := 258) rfl (rd_o hR) rfl ?_
      refine x_ret rfl ?_
      exact ⟨_, _, rfl, h⟩
  · replace h := h.2 c
    refine x_st rfl ?_
    refine x_st rfl ?_
    refine x_st rfl ?_
    obtain ⟨x17, M15, N16, hc, h⟩ := h
    refine x_vi (y := 14) (n := 2) (ci := 0) (nx := 86) rfl (fun _ => rfl) (bz_o hB) rfl hc ?_
    refine x_st rfl ?_
    refine x_st rfl ?_
    refine x_st rfl ?_
    refine x_br rfl (fun c => ?_) (fun c => ?_)
    · replace h := h.1 c
      refine x_st rfl ?_
      refine x_st rfl ?_
      refine x_kl ?_ h
      exact ⟨Or.inr rfl, ⟨Or.inr rfl, ⟨Or.inr rfl, ⟨Or.inr rfl, ⟨Or.inr rfl, ⟨Or.inr rfl, ⟨Or.inr rfl, ⟨Or.inr rfl, ⟨Or.inl rfl, ⟨Or.inl rfl, True.intro⟩⟩⟩⟩⟩⟩⟩⟩⟩⟩
    · replace h := h.2 c
      refine x_st rfl ?_
      refine x_gi (ci := 7) (k := 6) (nx := 98) rfl (rd_o hR) rfl ?_
      refine x_st rfl ?_
      refine x_st rfl ?_
      refine x_st rfl ?_
      refine x_st rfl ?_
      refine x_br rfl (fun c => ?_) (fun c => ?_)
      · replace h := h.1 c
        refine x_st rfl ?_
        refine x_st rfl ?_
        obtain ⟨x20, M18, N19, hc, h⟩ := h
        refine x_vi (y := 48) (n := 1) (ci := 3) (nx := 112) rfl (fun _ => rfl) sh_6 rfl hc ?_
        refine x_st rfl ?_
        refine x_st rfl ?_
        refine x_st rfl ?_
        refine x_br rfl (fun c => ?_) (fun c => ?_)
        · replace h := h.1 c
          refine x_st rfl ?_
          refine x_st rfl ?_
          refine x_kl ?_ h
          exact ⟨Or.inr rfl, ⟨Or.inr rfl, ⟨Or.inr rfl, ⟨Or.inr rfl, ⟨Or.inr rfl, ⟨Or.inr rfl, ⟨Or.inr rfl, ⟨Or.inr rfl, ⟨Or.inl rfl, ⟨Or.inl rfl, True.intro⟩⟩⟩⟩⟩⟩⟩⟩⟩⟩
        · replace h := h.2 c
          refine x_st rfl ?_
          refine x_st rfl ?_
          refine x_st rfl ?_
          refine x_st rfl ?_
          refine x_st rfl ?_
          refine x_st rfl ?_
          refine x_kl ?_ h
          exact ⟨Or.inr rfl, ⟨Or.inr rfl, ⟨Or.inr rfl, ⟨Or.inr rfl, ⟨Or.inr rfl, ⟨Or.inr rfl, ⟨Or.inr rfl, ⟨Or.inr rfl, ⟨Or.inl rfl, ⟨Or.inl rfl, True.intro⟩⟩⟩⟩⟩⟩⟩⟩⟩⟩
      · replace h := h.2 c
        refine x_st rfl ?_
        refine x_st rfl ?_
        refine x_kl ?_ h
        exact ⟨Or.inr rfl, ⟨Or.inr rfl, ⟨Or.inr rfl, ⟨Or.inr rfl, ⟨Or.inr rfl, ⟨Or.inr rfl, ⟨Or.inr rfl, ⟨Or.inr rfl, ⟨Or.inl rfl, ⟨Or.inl rfl, True.intro⟩⟩⟩⟩⟩⟩⟩⟩⟩⟩
theorem EX7_serve {D : Nat} {Q : Option Value → mI → mJ → Prop} {r r1 r2 r3 r4 : Nat} {k a : Nat} {v3 : Int32} {MI : mI} {ML : mJ} (h : VX7_serve_0 D Q r r1 r2 r3 r4 k a v3 MI ML) : ∃ v MI' ML', Q v MI' ML' ∧ mrc (D + 1) 98 [.ref r, .ref k, .ref 6, .int v3] MI ML v MI' ML' := by
  refine x_en (n := 6) (T := TX7_serve) rfl rfl ?_
  refine x_kl ?_ h
  exact ⟨Or.inr rfl, ⟨Or.inr rfl, ⟨Or.inr rfl, ⟨Or.inr rfl, ⟨Or.inl rfl, ⟨Or.inl rfl, ⟨Or.inl rfl, ⟨Or.inl rfl, ⟨Or.inl rfl, ⟨Or.inl rfl, True.intro⟩⟩⟩⟩⟩⟩⟩⟩⟩⟩
def VX7_weigherOf_0 (D : Nat) (Q : Option Value → mI → mJ → Prop) (r r1 r2 r3 r4 : Nat) (v1 : Int32) (MI : mI) (ML : mJ) : Prop := mEx D TX7_weigherOf (mqS Q) (0, [some (.ref r), some (.int v1), none], [], (W0, Sh0, MI, ML))
def VX7_weigherOf_2 (D : Nat) (Q : Option Value → mI → mJ → Prop) (r r1 r2 r3 r4 : Nat) (v1 : Int32) (v2 : Int32) (MI : mI) (ML : mJ) : Prop := mEx D TX7_weigherOf (mqS Q) (2, [some (.ref r), some (.int v1), some (.int v2)], [], (W0, Sh0, MI, ML))
theorem BX7_weigherOf_0 {D : Nat} {Q : Option Value → mI → mJ → Prop} {r r1 r2 r3 r4 : Nat} {v1 : Int32} {MI : mI} {ML : mJ} (hR : rd r r1 r2 r3 r4)
    (h : VX7_weigherOf_2 D Q r r1 r2 r3 r4 v1 (nI 0) MI ML) :
    VX7_weigherOf_0 D Q r r1 r2 r3 r4 v1 MI ML := by
  show mEx D TX7_weigherOf (mqS Q) (0, [some (.ref r), some (.int v1), none], [], (W0, Sh0, MI, ML))
  refine x_st rfl ?_
  refine x_st rfl ?_
  refine x_kl ?_ h
  exact ⟨Or.inr rfl, ⟨Or.inr rfl, ⟨Or.inr rfl, True.intro⟩⟩⟩
theorem BX7_weigherOf_2 {D : Nat} {Q : Option Value → mI → mJ → Prop} {r r1 r2 r3 r4 : Nat} {v1 : Int32} {v2 : Int32} {MI : mI} {ML : mJ} (hR : rd r r1 r2 r3 r4)
    (h : ((MI r 0) ≤ v2 → Q (some (.int (nI 8))) MI ML) ∧ (¬ (MI r 0) ≤ v2 → ((nI 8) ≤ v2 → Q (some (.int (nI 8))) MI ML) ∧ (¬ (nI 8) ≤ v2 → ∃ i1 : Nat, v2 = nI i1 ∧ i1 < 8 ∧ (((MI r1 i1) = v1 → ∃ i2 : Nat, v2 = nI i2 ∧ i2 < 8 ∧ (Q (some (.int (MI r2 i2))) MI ML)) ∧ (¬ (MI r1 i1) = v1 → VX7_weigherOf_2 D Q r r1 r2 r3 r4 v1 (v2 + (nI 1)) MI ML))))) :
    VX7_weigherOf_2 D Q r r1 r2 r3 r4 v1 v2 MI ML := by
  show mEx D TX7_weigherOf (mqS Q) (2, [some (.ref r), some (.int v1), some (.int v2)], [], (W0, Sh0, MI, ML))
  refine x_st rfl ?_
  refine x_st rfl ?_
  refine x_gi (ci := 7) (k := 0) (nx := 7) rfl (rd_o hR) rfl ?_
  refine x_br rfl (fun c => ?_) (fun c => ?_)
  · replace h := h.1 c
    refine x_st rfl ?_
    refine x_ret rfl ?_
    exact ⟨_, _, rfl, h⟩
  · replace h := h.2 c
    refine x_st rfl ?_
    refine x_st rfl ?_
    refine x_br rfl (fun c => ?_) (fun c => ?_)
    · replace h := h.1 c
      refine x_st rfl ?_
      refine x_ret rfl ?_
      exact ⟨_, _, rfl, h⟩
    · replace h := h.2 c
      refine x_st rfl ?_
      refine x_gr (ci := 7) (k := 1) (nx := 20) rfl (rd_o hR) rfl ?_
      refine x_st rfl ?_
      obtain ⟨i1, hx, hi, h⟩ := h
      refine x_ia (i := i1) (nx := 22) rfl (rd_1 hR) hx hi (by decide) ?_
      refine x_st rfl ?_
      refine x_br rfl (fun c => ?_) (fun c => ?_)
      · replace h := h.1 c
        refine x_st rfl ?_
        refine x_gr (ci := 7) (k := 2) (nx := 30) rfl (rd_o hR) rfl ?_
        refine x_st rfl ?_
        obtain ⟨i2, hx, hi, h⟩ := h
        refine x_ia (i := i2) (nx := 32) rfl (rd_2 hR) hx hi (by decide) ?_
        refine x_ret rfl ?_
        exact ⟨_, _, rfl, h⟩
      · replace h := h.2 c
        refine x_st rfl ?_
        refine x_st rfl ?_
        refine x_kl ?_ h
        exact ⟨Or.inr rfl, ⟨Or.inr rfl, ⟨Or.inr rfl, True.intro⟩⟩⟩
theorem EX7_weigherOf {D : Nat} {Q : Option Value → mI → mJ → Prop} {r r1 r2 r3 r4 : Nat} {v1 : Int32} {MI : mI} {ML : mJ} (h : VX7_weigherOf_0 D Q r r1 r2 r3 r4 v1 MI ML) : ∃ v MI' ML', Q v MI' ML' ∧ mrc (D + 1) 99 [.ref r, .int v1] MI ML v MI' ML' := by
  refine x_en (n := 1) (T := TX7_weigherOf) rfl rfl ?_
  refine x_kl ?_ h
  exact ⟨Or.inr rfl, ⟨Or.inr rfl, ⟨Or.inl rfl, True.intro⟩⟩⟩
def VX8_isSort_0 (D : Nat) (Q : Option Value → mI → mJ → Prop)  (v0 : Int32) (MI : mI) (ML : mJ) : Prop := mEx D TX8_isSort (mqS Q) (0, [some (.int v0)], [], (W0, Sh0, MI, ML))
theorem BX8_isSort_0 {D : Nat} {Q : Option Value → mI → mJ → Prop}  {v0 : Int32} {MI : mI} {ML : mJ} 
    (h : (v0 < nI 0 → Q (some (.int (nI 0))) MI ML) ∧ (¬ v0 < nI 0 → ((nI 4) < v0 → Q (some (.int (nI 0))) MI ML) ∧ (¬ (nI 4) < v0 → Q (some (.int (nI 1))) MI ML))) :
    VX8_isSort_0 D Q v0 MI ML := by
  show mEx D TX8_isSort (mqS Q) (0, [some (.int v0)], [], (W0, Sh0, MI, ML))
  refine x_st rfl ?_
  refine x_br rfl (fun c => ?_) (fun c => ?_)
  · replace h := h.1 c
    refine x_st rfl ?_
    refine x_ret rfl ?_
    exact ⟨_, _, rfl, h⟩
  · replace h := h.2 c
    refine x_st rfl ?_
    refine x_st rfl ?_
    refine x_br rfl (fun c => ?_) (fun c => ?_)
    · replace h := h.1 c
      refine x_st rfl ?_
      refine x_ret rfl ?_
      exact ⟨_, _, rfl, h⟩
    · replace h := h.2 c
      refine x_st rfl ?_
      refine x_st rfl ?_
      refine x_ret rfl ?_
      exact ⟨_, _, rfl, h⟩
theorem EX8_isSort {D : Nat} {Q : Option Value → mI → mJ → Prop}  {v0 : Int32} {MI : mI} {ML : mJ} (h : VX8_isSort_0 D Q v0 MI ML) : ∃ v MI' ML', Q v MI' ML' ∧ mrc (D + 1) 101 [.int v0] MI ML v MI' ML' := by
  refine x_en (n := 0) (T := TX8_isSort) rfl rfl ?_
  refine x_kl ?_ h
  exact ⟨Or.inr rfl, True.intro⟩
def VX8_has_0 (D : Nat) (Q : Option Value → mI → mJ → Prop)  (v1 : Int32) (MI : mI) (ML : mJ) : Prop := mEx D TX8_has (mqS Q) (0, [none, some (.int v1)], [], (W0, Sh0, MI, ML))
theorem BX8_has_0 {D : Nat} {Q : Option Value → mI → mJ → Prop}  {v1 : Int32} {MI : mI} {ML : mJ} 
    (h : (v1 < nI 0 → Q (some (.int (nI 0))) MI ML) ∧ (¬ v1 < nI 0 → ((nI 6) ≤ v1 → Q (some (.int (nI 0))) MI ML) ∧ (¬ (nI 6) ≤ v1 → Q (some (.int (nI 1))) MI ML))) :
    VX8_has_0 D Q v1 MI ML := by
  show mEx D TX8_has (mqS Q) (0, [none, some (.int v1)], [], (W0, Sh0, MI, ML))
  refine x_st rfl ?_
  refine x_br rfl (fun c => ?_) (fun c => ?_)
  · replace h := h.1 c
    refine x_st rfl ?_
    refine x_ret rfl ?_
    exact ⟨_, _, rfl, h⟩
  · replace h := h.2 c
    refine x_st rfl ?_
    refine x_st rfl ?_
    refine x_br rfl (fun c => ?_) (fun c => ?_)
    · replace h := h.1 c
      refine x_st rfl ?_
      refine x_ret rfl ?_
      exact ⟨_, _, rfl, h⟩
    · replace h := h.2 c
      refine x_st rfl ?_
      refine x_st rfl ?_
      refine x_ret rfl ?_
      exact ⟨_, _, rfl, h⟩
theorem EX8_has {D : Nat} {Q : Option Value → mI → mJ → Prop}  {v1 : Int32} {MI : mI} {ML : mJ} (h : VX8_has_0 D Q v1 MI ML) : ∃ v MI' ML', Q v MI' ML' ∧ mrc (D + 1) 102 [.ref 10, .int v1] MI ML v MI' ML' := by
  refine x_en (n := 0) (T := TX8_has) rfl rfl ?_
  refine x_kl ?_ h
  exact ⟨Or.inl rfl, ⟨Or.inr rfl, True.intro⟩⟩
def VX8_held_0 (D : Nat) (Q : Option Value → mI → mJ → Prop)  (v1 : Int32) (MI : mI) (ML : mJ) : Prop := mEx D TX8_held (mqS Q) (0, [some (.ref 10), some (.int v1)], [], (W0, Sh0, MI, ML))
theorem BX8_held_0 {D : Nat} {Q : Option Value → mI → mJ → Prop}  {v1 : Int32} {MI : mI} {ML : mJ} 
    (h : ∃ (x3 : Int32) (M1 : mI) (N2 : mJ), mrc D 102 [.ref 10, .int v1] MI ML (some (.int x3)) M1 N2 ∧ ((x3 = nI 0 → Q (some (.int (nI 6))) M1 N2) ∧ (¬ x3 = nI 0 → ∃ i4 : Nat, v1 = nI i4 ∧ i4 < 6 ∧ (Q (some (.int (M1 11 i4))) M1 N2)))) :
    VX8_held_0 D Q v1 MI ML := by
  show mEx D TX8_held (mqS Q) (0, [some (.ref 10), some (.int v1)], [], (W0, Sh0, MI, ML))
  refine x_st rfl ?_
  refine x_st rfl ?_
  obtain ⟨x3, M1, N2, hc, h⟩ := h
  refine x_vi (y := 102) (n := 1) (ci := 8) (nx := 5) rfl (fun _ => rfl) sh_10 rfl hc ?_
  refine x_br rfl (fun c => ?_) (fun c => ?_)
  · replace h := h.1 c
    refine x_st rfl ?_
    refine x_ret rfl ?_
    exact ⟨_, _, rfl, h⟩
  · replace h := h.2 c
    refine x_st rfl ?_
    refine x_gr (ci := 8) (k := 0) (nx := 12) rfl sh_10 rfl ?_
    refine x_st rfl ?_
    obtain ⟨i4, hx, hi, h⟩ := h
    refine x_ia (i := i4) (nx := 14) rfl sh_11 hx hi (by decide) ?_
    refine x_st rfl ?_
    refine x_ret rfl ?_
    exact ⟨_, _, rfl, h⟩
theorem EX8_held {D : Nat} {Q : Option Value → mI → mJ → Prop}  {v1 : Int32} {MI : mI} {ML : mJ} (h : VX8_held_0 D Q v1 MI ML) : ∃ v MI' ML', Q v MI' ML' ∧ mrc (D + 1) 103 [.ref 10, .int v1] MI ML v MI' ML' := by
  refine x_en (n := 0) (T := TX8_held) rfl rfl ?_
  refine x_kl ?_ h
  exact ⟨Or.inr rfl, ⟨Or.inr rfl, True.intro⟩⟩
def VX8_isBare_0 (D : Nat) (Q : Option Value → mI → mJ → Prop)  (v1 : Int32) (MI : mI) (ML : mJ) : Prop := mEx D TX8_isBare (mqS Q) (0, [some (.ref 10), some (.int v1)], [], (W0, Sh0, MI, ML))
theorem BX8_isBare_0 {D : Nat} {Q : Option Value → mI → mJ → Prop}  {v1 : Int32} {MI : mI} {ML : mJ} 
    (h : ∃ (x3 : Int32) (M1 : mI) (N2 : mJ), mrc D 103 [.ref 10, .int v1] MI ML (some (.int x3)) M1 N2 ∧ ((x3 = (nI 6) → Q (some (.int (nI 1))) M1 N2) ∧ (¬ x3 = (nI 6) → Q (some (.int (nI 0))) M1 N2))) :
    VX8_isBare_0 D Q v1 MI ML := by
  show mEx D TX8_isBare (mqS Q) (0, [some (.ref 10), some (.int v1)], [], (W0, Sh0, MI, ML))
  refine x_st rfl ?_
  refine x_st rfl ?_
  obtain ⟨x3, M1, N2, hc, h⟩ := h
  refine x_vi (y := 103) (n := 1) (ci := 8) (nx := 5) rfl (fun _ => rfl) sh_10 rfl hc ?_
  refine x_st rfl ?_
  refine x_br rfl (fun c => ?_) (fun c => ?_)
  · replace h := h.1 c
    refine x_st rfl ?_
    refine x_st rfl ?_
    refine x_ret rfl ?_
    exact ⟨_, _, rfl, h⟩
  · replace h := h.2 c
    refine x_st rfl ?_
    refine x_ret rfl ?_
    exact ⟨_, _, rfl, h⟩
theorem EX8_isBare {D : Nat} {Q : Option Value → mI → mJ → Prop}  {v1 : Int32} {MI : mI} {ML : mJ} (h : VX8_isBare_0 D Q v1 MI ML) : ∃ v MI' ML', Q v MI' ML' ∧ mrc (D + 1) 104 [.ref 10, .int v1] MI ML v MI' ML' := by
  refine x_en (n := 0) (T := TX8_isBare) rfl rfl ?_
  refine x_kl ?_ h
  exact ⟨Or.inr rfl, ⟨Or.inr rfl, True.intro⟩⟩
def VX8_holdsNeedle_0 (D : Nat) (Q : Option Value → mI → mJ → Prop)  (v1 : Int32) (MI : mI) (ML : mJ) : Prop := mEx D TX8_holdsNeedle (mqS Q) (0, [some (.ref 10), some (.int v1)], [], (W0, Sh0, MI, ML))
theorem BX8_holdsNeedle_0 {D : Nat} {Q : Option Value → mI → mJ → Prop}  {v1 : Int32} {MI : mI} {ML : mJ} 
    (h : ∃ (x3 : Int32) (M1 : mI) (N2 : mJ), mrc D 103 [.ref 10, .int v1] MI ML (some (.int x3)) M1 N2 ∧ ((x3 = (nI 5) → Q (some (.int (nI 1))) M1 N2) ∧ (¬ x3 = (nI 5) → Q (some (.int (nI 0))) M1 N2))) :
    VX8_holdsNeedle_0 D Q v1 MI ML := by
  show mEx D TX8_holdsNeedle (mqS Q) (0, [some (.ref 10), some (.int v1)], [], (W0, Sh0, MI, ML))
  refine x_st rfl ?_
  refine x_st rfl ?_
  obtain ⟨x3, M1, N2, hc, h⟩ := h
  refine x_vi (y := 103) (n := 1) (ci := 8) (nx := 5) rfl (fun _ => rfl) sh_10 rfl hc ?_
  refine x_st rfl ?_
  refine x_br rfl (fun c => ?_) (fun c => ?_)
  · replace h := h.1 c
    refine x_st rfl ?_
    refine x_st rfl ?_
    refine x_ret rfl ?_
    exact ⟨_, _, rfl, h⟩
  · replace h := h.2 c
    refine x_st rfl ?_
    refine x_ret rfl ?_
    exact ⟨_, _, rfl, h⟩
theorem EX8_holdsNeedle {D : Nat} {Q : Option Value → mI → mJ → Prop}  {v1 : Int32} {MI : mI} {ML : mJ} (h : VX8_holdsNeedle_0 D Q v1 MI ML) : ∃ v MI' ML', Q v MI' ML' ∧ mrc (D + 1) 105 [.ref 10, .int v1] MI ML v MI' ML' := by
  refine x_en (n := 0) (T := TX8_holdsNeedle) rfl rfl ?_
  refine x_kl ?_ h
  exact ⟨Or.inr rfl, ⟨Or.inr rfl, True.intro⟩⟩
def VX8_holdsBytes_0 (D : Nat) (Q : Option Value → mI → mJ → Prop)  (v1 : Int32) (MI : mI) (ML : mJ) : Prop := mEx D TX8_holdsBytes (mqS Q) (0, [some (.ref 10), some (.int v1)], [], (W0, Sh0, MI, ML))
theorem BX8_holdsBytes_0 {D : Nat} {Q : Option Value → mI → mJ → Prop}  {v1 : Int32} {MI : mI} {ML : mJ} 
    (h : ∃ (x3 : Int32) (M1 : mI) (N2 : mJ), mrc D 103 [.ref 10, .int v1] MI ML (some (.int x3)) M1 N2 ∧ ((x3 = nI 0 → Q (some (.int (nI 1))) M1 N2) ∧ (¬ x3 = nI 0 → Q (some (.int (nI 0))) M1 N2))) :
    VX8_holdsBytes_0 D Q v1 MI ML := by
  show mEx D TX8_holdsBytes (mqS Q) (0, [some (.ref 10), some (.int v1)], [], (W0, Sh0, MI, ML))
  refine x_st rfl ?_
  refine x_st rfl ?_
  obtain ⟨x3, M1, N2, hc, h⟩ := h
  refine x_vi (y := 103) (n := 1) (ci := 8) (nx := 5) rfl (fun _ => rfl) sh_10 rfl hc ?_
  refine x_br rfl (fun c => ?_) (fun c => ?_)
  · replace h := h.1 c
    refine x_st rfl ?_
    refine x_st rfl ?_
    refine x_ret rfl ?_
    exact ⟨_, _, rfl, h⟩
  · replace h := h.2 c
    refine x_st rfl ?_
    refine x_ret rfl ?_
    exact ⟨_, _, rfl, h⟩
theorem EX8_holdsBytes {D : Nat} {Q : Option Value → mI → mJ → Prop}  {v1 : Int32} {MI : mI} {ML : mJ} (h : VX8_holdsBytes_0 D Q v1 MI ML) : ∃ v MI' ML', Q v MI' ML' ∧ mrc (D + 1) 106 [.ref 10, .int v1] MI ML v MI' ML' := by
  refine x_en (n := 0) (T := TX8_holdsBytes) rfl rfl ?_
  refine x_kl ?_ h
  exact ⟨Or.inr rfl, ⟨Or.inr rfl, True.intro⟩⟩
def VX8_areAlikeRows_0 (D : Nat) (Q : Option Value → mI → mJ → Prop)  (v1 : Int32) (v2 : Int32) (MI : mI) (ML : mJ) : Prop := mEx D TX8_areAlikeRows (mqS Q) (0, [some (.ref 10), some (.int v1), some (.int v2)], [], (W0, Sh0, MI, ML))
theorem BX8_areAlikeRows_0 {D : Nat} {Q : Option Value → mI → mJ → Prop}  {v1 : Int32} {v2 : Int32} {MI : mI} {ML : mJ} 
    (h : ∃ (x3 : Int32) (M1 : mI) (N2 : mJ), mrc D 103 [.ref 10, .int v1] MI ML (some (.int x3)) M1 N2 ∧ (∃ (x6 : Int32) (M4 : mI) (N5 : mJ), mrc D 101 [.int x3] M1 N2 (some (.int x6)) M4 N5 ∧ ((x6 = nI 0 → Q (some (.int (nI 0))) M4 N5) ∧ (¬ x6 = nI 0 → ∃ (x9 : Int32) (M7 : mI) (N8 : mJ), mrc D 103 [.ref 10, .int v1] M4 N5 (some (.int x9)) M7 N8 ∧ (∃ (x12 : Int32) (M10 : mI) (N11 : mJ), mrc D 103 [.ref 10, .int v2] M7 N8 (some (.int x12)) M10 N11 ∧ ((x9 = x12 → Q (some (.int (nI 1))) M10 N11) ∧ (¬ x9 = x12 → Q (some (.int (nI 0))) M10 N11))))))) :
    VX8_areAlikeRows_0 D Q v1 v2 MI ML := by
  show mEx D TX8_areAlikeRows (mqS Q) (0, [some (.ref 10), some (.int v1), some (.int v2)], [], (W0, Sh0, MI, ML))
  refine x_st rfl ?_
  refine x_st rfl ?_
  obtain ⟨x3, M1, N2, hc, h⟩ := h
  refine x_vi (y := 103) (n := 1) (ci := 8) (nx := 5) rfl (fun _ => rfl) sh_10 rfl hc ?_
  obtain ⟨x6, M4, N5, hc, h⟩ := h
  refine x_ci rfl hc ?_
  refine x_br rfl (fun c => ?_) (fun c => ?_)
  · replace h := h.1 c
    refine x_st rfl ?_
    refine x_ret rfl ?_
    exact ⟨_, _, rfl, h⟩
  · replace h := h.2 c
    refine x_st rfl ?_
    refine x_st rfl ?_
    obtain ⟨x9, M7, N8, hc, h⟩ := h
    refine x_vi (y := 103) (n := 1) (ci := 8) (nx := 16) rfl (fun _ => rfl) sh_10 rfl hc ?_
    refine x_st rfl ?_
    refine x_st rfl ?_
    obtain ⟨x12, M10, N11, hc, h⟩ := h
    refine x_vi (y := 103) (n := 1) (ci := 8) (nx := 21) rfl (fun _ => rfl) sh_10 rfl hc ?_
    refine x_br rfl (fun c => ?_) (fun c => ?_)
    · replace h := h.1 c
      refine x_st rfl ?_
      refine x_st rfl ?_
      refine x_ret rfl ?_
      exact ⟨_, _, rfl, h⟩
    · replace h := h.2 c
      refine x_st rfl ?_
      refine x_ret rfl ?_
      exact ⟨_, _, rfl, h⟩
theorem EX8_areAlikeRows {D : Nat} {Q : Option Value → mI → mJ → Prop}  {v1 : Int32} {v2 : Int32} {MI : mI} {ML : mJ} (h : VX8_areAlikeRows_0 D Q v1 v2 MI ML) : ∃ v MI' ML', Q v MI' ML' ∧ mrc (D + 1) 107 [.ref 10, .int v1, .int v2] MI ML v MI' ML' := by
  refine x_en (n := 0) (T := TX8_areAlikeRows) rfl rfl ?_
  refine x_kl ?_ h
  exact ⟨Or.inr rfl, ⟨Or.inr rfl, ⟨Or.inr rfl, True.intro⟩⟩⟩
def VX8_needleOn_0 (D : Nat) (Q : Option Value → mI → mJ → Prop)  (v1 : Int32) (MI : mI) (ML : mJ) : Prop := mEx D TX8_needleOn (mqS Q) (0, [some (.ref 10), some (.int v1)], [], (W0, Sh0, MI, ML))
theorem BX8_needleOn_0 {D : Nat} {Q : Option Value → mI → mJ → Prop}  {v1 : Int32} {MI : mI} {ML : mJ} 
    (h : ∃ (x3 : Int32) (M1 : mI) (N2 : mJ), mrc D 105 [.ref 10, .int v1] MI ML (some (.int x3)) M1 N2 ∧ ((x3 = nI 0 → Q (some (.int (-1 : Int32))) M1 N2) ∧ (¬ x3 = nI 0 → ∃ i4 : Nat, v1 = nI i4 ∧ i4 < 6 ∧ (Q (some (.int (M1 13 i4))) M1 N2)))) :
    VX8_needleOn_0 D Q v1 MI ML := by
  show mEx D TX8_needleOn (mqS Q) (0, [some (.ref 10), some (.int v1)], [], (W0, Sh0, MI, ML))
  refine x_st rfl ?_
  refine x_st rfl ?_
  obtain ⟨x3, M1, N2, hc, h⟩ := h
  refine x_vi (y := 105) (n := 1) (ci := 8) (nx := 5) rfl (fun _ => rfl) sh_10 rfl hc ?_
  refine x_br rfl (fun c => ?_) (fun c => ?_)
  · replace h := h.1 c
    refine x_st rfl ?_
    refine x_ret rfl ?_
    exact ⟨_, _, rfl, h⟩
  · replace h := h.2 c
    refine x_st rfl ?_
    refine x_gr (ci := 8) (k := 2) (nx := 12) rfl sh_10 rfl ?_
    refine x_st rfl ?_
    obtain ⟨i4, hx, hi, h⟩ := h
    refine x_ia (i := i4) (nx := 14) rfl sh_13 hx hi (by decide) ?_
    refine x_st rfl ?_
    refine x_ret rfl ?_
    exact ⟨_, _, rfl, h⟩
theorem EX8_needleOn {D : Nat} {Q : Option Value → mI → mJ → Prop}  {v1 : Int32} {MI : mI} {ML : mJ} (h : VX8_needleOn_0 D Q v1 MI ML) : ∃ v MI' ML', Q v MI' ML' ∧ mrc (D + 1) 108 [.ref 10, .int v1] MI ML v MI' ML' := by
  refine x_en (n := 0) (T := TX8_needleOn) rfl rfl ?_
  refine x_kl ?_ h
  exact ⟨Or.inr rfl, ⟨Or.inr rfl, True.intro⟩⟩
def VX8_sizeOf_0 (D : Nat) (Q : Option Value → mI → mJ → Prop)  (v1 : Int32) (MI : mI) (ML : mJ) : Prop := mEx D TX8_sizeOf (mqS Q) (0, [some (.ref 10), some (.int v1)], [], (W0, Sh0, MI, ML))
theorem BX8_sizeOf_0 {D : Nat} {Q : Option Value → mI → mJ → Prop}  {v1 : Int32} {MI : mI} {ML : mJ} 
    (h : ∃ (x3 : Int32) (M1 : mI) (N2 : mJ), mrc D 102 [.ref 10, .int v1] MI ML (some (.int x3)) M1 N2 ∧ ((x3 = nI 0 → Q (some (.int (nI 0))) M1 N2) ∧ (¬ x3 = nI 0 → ∃ i4 : Nat, v1 = nI i4 ∧ i4 < 6 ∧ (Q (some (.int (M1 12 i4))) M1 N2)))) :
    VX8_sizeOf_0 D Q v1 MI ML := by
  show mEx D TX8_sizeOf (mqS Q) (0, [some (.ref 10), some (.int v1)], [], (W0, Sh0, MI, ML))
  refine x_st rfl ?_
  refine x_st rfl ?_
  obtain ⟨x3, M1, N2, hc, h⟩ := h
  refine x_vi (y := 102) (n := 1) (ci := 8) (nx := 5) rfl (fun _ => rfl) sh_10 rfl hc ?_
  refine x_br rfl (fun c => ?_) (fun c => ?_)
  · replace h := h.1 c
    refine x_st rfl ?_
    refine x_ret rfl ?_
    exact ⟨_, _, rfl, h⟩
  · replace h := h.2 c
    refine x_st rfl ?_
    refine x_gr (ci := 8) (k := 1) (nx := 12) rfl sh_10 rfl ?_
    refine x_st rfl ?_
    obtain ⟨i4, hx, hi, h⟩ := h
    refine x_ia (i := i4) (nx := 14) rfl sh_12 hx hi (by decide) ?_
    refine x_st rfl ?_
    refine x_ret rfl ?_
    exact ⟨_, _, rfl, h⟩
theorem EX8_sizeOf {D : Nat} {Q : Option Value → mI → mJ → Prop}  {v1 : Int32} {MI : mI} {ML : mJ} (h : VX8_sizeOf_0 D Q v1 MI ML) : ∃ v MI' ML', Q v MI' ML' ∧ mrc (D + 1) 109 [.ref 10, .int v1] MI ML v MI' ML' := by
  refine x_en (n := 0) (T := TX8_sizeOf) rfl rfl ?_
  refine x_kl ?_ h
  exact ⟨Or.inr rfl, ⟨Or.inr rfl, True.intro⟩⟩
def VX8_refusalOfBytes_0 (D : Nat) (Q : Option Value → mI → mJ → Prop)  (v1 : Int32) (MI : mI) (ML : mJ) : Prop := mEx D TX8_refusalOfBytes (mqS Q) (0, [some (.ref 10), some (.int v1)], [], (W0, Sh0, MI, ML))
theorem BX8_refusalOfBytes_0 {D : Nat} {Q : Option Value → mI → mJ → Prop}  {v1 : Int32} {MI : mI} {ML : mJ} 
    (h : ∃ (x3 : Int32) (M1 : mI) (N2 : mJ), mrc D 104 [.ref 10, .int v1] MI ML (some (.int x3)) M1 N2 ∧ ((x3 = nI 0 → ∃ (x6 : Int32) (M4 : mI) (N5 : mJ), mrc D 106 [.ref 10, .int v1] M1 N2 (some (.int x6)) M4 N5 ∧ ((x6 = nI 0 → Q (some (.int (-12 : Int32))) M4 N5) ∧ (¬ x6 = nI 0 → Q (some (.int (nI 0))) M4 N5))) ∧ (¬ x3 = nI 0 → Q (some (.int (-11 : Int32))) M1 N2))) :
    VX8_refusalOfBytes_0 D Q v1 MI ML := by
  show mEx D TX8_refusalOfBytes (mqS Q) (0, [some (.ref 10), some (.int v1)], [], (W0, Sh0, MI, ML))
  refine x_st rfl ?_
  refine x_st rfl ?_
  obtain ⟨x3, M1, N2, hc, h⟩ := h
  refine x_vi (y := 104) (n := 1) (ci := 8) (nx := 5) rfl (fun _ => rfl) sh_10 rfl hc ?_
  refine x_br rfl (fun c => ?_) (fun c => ?_)
  · replace h := h.1 c
    refine x_st rfl ?_
    refine x_st rfl ?_
    obtain ⟨x6, M4, N5, hc, h⟩ := h
    refine x_vi (y := 106) (n := 1) (ci := 8) (nx := 16) rfl (fun _ => rfl) sh_10 rfl hc ?_
    refine x_br rfl (fun c => ?_) (fun c => ?_)
    · replace h := h.1 c
      refine x_st rfl ?_
      refine x_ret rfl ?_
      exact ⟨_, _, rfl, h⟩
    · replace h := h.2 c
      refine x_st rfl ?_
      refine x_st rfl ?_
      refine x_ret rfl ?_
      exact ⟨_, _, rfl, h⟩
  · replace h := h.2 c
    refine x_st rfl ?_
    refine x_ret rfl ?_
    exact ⟨_, _, rfl, h⟩
theorem EX8_refusalOfBytes {D : Nat} {Q : Option Value → mI → mJ → Prop}  {v1 : Int32} {MI : mI} {ML : mJ} (h : VX8_refusalOfBytes_0 D Q v1 MI ML) : ∃ v MI' ML', Q v MI' ML' ∧ mrc (D + 1) 110 [.ref 10, .int v1] MI ML v MI' ML' := by
  refine x_en (n := 0) (T := TX8_refusalOfBytes) rfl rfl ?_
  refine x_kl ?_ h
  exact ⟨Or.inr rfl, ⟨Or.inr rfl, True.intro⟩⟩
def VX8_refusalOfPlace_0 (D : Nat) (Q : Option Value → mI → mJ → Prop)  (v1 : Int32) (v2 : Int32) (MI : mI) (ML : mJ) : Prop := mEx D TX8_refusalOfPlace (mqS Q) (0, [some (.ref 10), some (.int v1), some (.int v2)], [], (W0, Sh0, MI, ML))
theorem BX8_refusalOfPlace_0 {D : Nat} {Q : Option Value → mI → mJ → Prop}  {v1 : Int32} {v2 : Int32} {MI : mI} {ML : mJ} 
    (h : ∃ (x3 : Int32) (M1 : mI) (N2 : mJ), mrc D 104 [.ref 10, .int v1] MI ML (some (.int x3)) M1 N2 ∧ ((x3 = nI 0 → ∃ (x6 : Int32) (M4 : mI) (N5 : mJ), mrc D 103 [.ref 10, .int v1] M1 N2 (some (.int x6)) M4 N5 ∧ (∃ (x9 : Int32) (M7 : mI) (N8 : mJ), mrc D 101 [.int x6] M4 N5 (some (.int x9)) M7 N8 ∧ ((x9 = nI 0 → Q (some (.int (-12 : Int32))) M7 N8) ∧ (¬ x9 = nI 0 → ∃ (x12 : Int32) (M10 : mI) (N11 : mJ), mrc D 112 [.ref 10, .int v1, .int v2, .int (nI 1)] M7 N8 (some (.int x12)) M10 N11 ∧ ((x12 = nI 0 → Q (some (.int (-13 : Int32))) M10 N11) ∧ (¬ x12 = nI 0 → Q (some (.int (nI 0))) M10 N11)))))) ∧ (¬ x3 = nI 0 → Q (some (.int (-11 : Int32))) M1 N2))) :
    VX8_refusalOfPlace_0 D Q v1 v2 MI ML := by
  show mEx D TX8_refusalOfPlace (mqS Q) (0, [some (.ref 10), some (.int v1), some (.int v2)], [], (W0, Sh0, MI, ML))
  refine x_st rfl ?_
  refine x_st rfl ?_
  obtain ⟨x3, M1, N2, hc, h⟩ := h
  refine x_vi (y := 104) (n := 1) (ci := 8) (nx := 5) rfl (fun _ => rfl) sh_10 rfl hc ?_
  refine x_br rfl (fun c => ?_) (fun c => ?_)
  · replace h := h.1 c
    refine x_st rfl ?_
    refine x_st rfl ?_
    obtain ⟨x6, M4, N5, hc, h⟩ := h
    refine x_vi (y := 103) (n := 1) (ci := 8) (nx := 16) rfl (fun _ => rfl) sh_10 rfl hc ?_
    obtain ⟨x9, M7, N8, hc, h⟩ := h
    refine x_ci rfl hc ?_
    refine x_br rfl (fun c => ?_) (fun c => ?_)
    · replace h := h.1 c
      refine x_st rfl ?_
      refine x_ret rfl ?_
      exact ⟨_, _, rfl, h⟩
    · replace h := h.2 c
      refine x_st rfl ?_
      refine x_st rfl ?_
      refine x_st rfl ?_
      refine x_st rfl ?_
      obtain ⟨x12, M10, N11, hc, h⟩ := h
      refine x_vi (y := 112) (n := 3) (ci := 8) (nx := 32) rfl (fun _ => rfl) sh_10 rfl hc ?_
      refine x_br rfl (fun c => ?_) (fun c => ?_)
      · replace h := h.1 c
        refine x_st rfl ?_
        refine x_ret rfl ?_
        exact ⟨_, _, rfl, h⟩
      · replace h := h.2 c
        refine x_st rfl ?_
        refine x_st rfl ?_
        refine x_ret rfl ?_
        exact ⟨_, _, rfl, h⟩
  · replace h := h.2 c
    refine x_st rfl ?_
    refine x_ret rfl ?_
    exact ⟨_, _, rfl, h⟩
theorem EX8_refusalOfPlace {D : Nat} {Q : Option Value → mI → mJ → Prop}  {v1 : Int32} {v2 : Int32} {MI : mI} {ML : mJ} (h : VX8_refusalOfPlace_0 D Q v1 v2 MI ML) : ∃ v MI' ML', Q v MI' ML' ∧ mrc (D + 1) 111 [.ref 10, .int v1, .int v2] MI ML v MI' ML' := by
  refine x_en (n := 0) (T := TX8_refusalOfPlace) rfl rfl ?_
  refine x_kl ?_ h
  exact ⟨Or.inr rfl, ⟨Or.inr rfl, ⟨Or.inr rfl, True.intro⟩⟩⟩
def VX8_hasPlaces_0 (D : Nat) (Q : Option Value → mI → mJ → Prop)  (v1 : Int32) (v2 : Int32) (v3 : Int32) (MI : mI) (ML : mJ) : Prop := mEx D TX8_hasPlaces (mqS Q) (0, [some (.ref 10), some (.int v1), some (.int v2), some (.int v3)], [], (W0, Sh0, MI, ML))
theorem BX8_hasPlaces_0 {D : Nat} {Q : Option Value → mI → mJ → Prop}  {v1 : Int32} {v2 : Int32} {v3 : Int32} {MI : mI} {ML : mJ} 
    (h : (v2 < nI 0 → Q (some (.int (nI 0))) MI ML) ∧ (¬ v2 < nI 0 → (v3 < nI 0 → Q (some (.int (nI 0))) MI ML) ∧ (¬ v3 < nI 0 → ∃ (x3 : Int32) (M1 : mI) (N2 : mJ), mrc D 109 [.ref 10, .int v1] MI ML (some (.int x3)) M1 N2 ∧ (((x3 - v3) < v2 → Q (some (.int (nI 0))) M1 N2) ∧ (¬ (x3 - v3) < v2 → Q (some (.int (nI 1))) M1 N2))))) :
    VX8_hasPlaces_0 D Q v1 v2 v3 MI ML := by
  show mEx D TX8_hasPlaces (mqS Q) (0, [some (.ref 10), some (.int v1), some (.int v2), some (.int v3)], [], (W0, Sh0, MI, ML))
  refine x_st rfl ?_
  refine x_br rfl (fun c => ?_) (fun c => ?_)
  · replace h := h.1 c
    refine x_st rfl ?_
    refine x_ret rfl ?_
    exact ⟨_, _, rfl, h⟩
  · replace h := h.2 c
    refine x_st rfl ?_
    refine x_br rfl (fun c => ?_) (fun c => ?_)
    · replace h := h.1 c
      refine x_st rfl ?_
      refine x_ret rfl ?_
      exact ⟨_, _, rfl, h⟩
    · replace h := h.2 c
      refine x_st rfl ?_
      refine x_st rfl ?_
      refine x_st rfl ?_
      obtain ⟨x3, M1, N2, hc, h⟩ := h
      refine x_vi (y := 109) (n := 1) (ci := 8) (nx := 14) rfl (fun _ => rfl) sh_10 rfl hc ?_
      refine x_st rfl ?_
      refine x_st rfl ?_
      refine x_br rfl (fun c => ?_) (fun c => ?_)
      · replace h := h.1 c
        refine x_st rfl ?_
        refine x_ret rfl ?_
        exact ⟨_, _, rfl, h⟩
      · replace h := h.2 c
        refine x_st rfl ?_
        refine x_st rfl ?_
        refine x_ret rfl ?_
        exact ⟨_, _, rfl, h⟩
theorem EX8_hasPlaces {D : Nat} {Q : Option Value → mI → mJ → Prop}  {v1 : Int32} {v2 : Int32} {v3 : Int32} {MI : mI} {ML : mJ} (h : VX8_hasPlaces_0 D Q v1 v2 v3 MI ML) : ∃ v MI' ML', Q v MI' ML' ∧ mrc (D + 1) 112 [.ref 10, .int v1, .int v2, .int v3] MI ML v MI' ML' := by
  refine x_en (n := 0) (T := TX8_hasPlaces) rfl rfl ?_
  refine x_kl ?_ h
  exact ⟨Or.inr rfl, ⟨Or.inr rfl, ⟨Or.inr rfl, ⟨Or.inr rfl, True.intro⟩⟩⟩⟩
def VX8_holdNothing_0 (D : Nat) (Q : Option Value → mI → mJ → Prop)  (v1 : Int32) (MI : mI) (ML : mJ) : Prop := mEx D TX8_holdNothing (mqS Q) (0, [some (.ref 10), some (.int v1)], [], (W0, Sh0, MI, ML))
theorem BX8_holdNothing_0 {D : Nat} {Q : Option Value → mI → mJ → Prop}  {v1 : Int32} {MI : mI} {ML : mJ} 
    (h : ∃ (M1 : mI) (N2 : mJ), mrc D 116 [.ref 10, .int v1, .int (nI 6)] MI ML none M1 N2 ∧ (Q none M1 N2)) :
    VX8_holdNothing_0 D Q v1 MI ML := by
  show mEx D TX8_holdNothing (mqS Q) (0, [some (.ref 10), some (.int v1)], [], (W0, Sh0, MI, ML))
  refine x_st rfl ?_
  refine x_st rfl ?_
  refine x_st rfl ?_
  obtain ⟨M1, N2, hc, h⟩ := h
  refine x_vv (y := 116) (n := 2) (ci := 8) (nx := 7) rfl (fun _ => rfl) sh_10 rfl hc ?_
  refine x_ret rfl ?_
  exact ⟨_, _, rfl, h⟩
theorem EX8_holdNothing {D : Nat} {Q : Option Value → mI → mJ → Prop}  {v1 : Int32} {MI : mI} {ML : mJ} (h : VX8_holdNothing_0 D Q v1 MI ML) : ∃ v MI' ML', Q v MI' ML' ∧ mrc (D + 1) 113 [.ref 10, .int v1] MI ML v MI' ML' := by
  refine x_en (n := 0) (T := TX8_holdNothing) rfl rfl ?_
  refine x_kl ?_ h
  exact ⟨Or.inr rfl, ⟨Or.inr rfl, True.intro⟩⟩
def VX8_holdNeedle_0 (D : Nat) (Q : Option Value → mI → mJ → Prop)  (v1 : Int32) (v2 : Int32) (MI : mI) (ML : mJ) : Prop := mEx D TX8_holdNeedle (mqS Q) (0, [some (.ref 10), some (.int v1), some (.int v2)], [], (W0, Sh0, MI, ML))
theorem BX8_holdNeedle_0 {D : Nat} {Q : Option Value → mI → mJ → Prop}  {v1 : Int32} {v2 : Int32} {MI : mI} {ML : mJ} 
    (h : ∃ (x3 : Int32) (M1 : mI) (N2 : mJ), mrc D 102 [.ref 10, .int v1] MI ML (some (.int x3)) M1 N2 ∧ ((x3 = nI 0 → Q none M1 N2) ∧ (¬ x3 = nI 0 → ∃ (M4 : mI) (N5 : mJ), mrc D 116 [.ref 10, .int v1, .int (nI 5)] M1 N2 none M4 N5 ∧ (∃ i6 : Nat, v1 = nI i6 ∧ i6 < 6 ∧ (Q none (mup M4 13 (mput (M4 13) i6 v2)) N5))))) :
    VX8_holdNeedle_0 D Q v1 v2 MI ML := by
  show mEx D TX8_holdNeedle (mqS Q) (0, [some (.ref 10), some (.int v1), some (.int v2)], [], (W0, Sh0, MI, ML))
  refine x_st rfl ?_
  refine x_st rfl ?_
  obtain ⟨x3, M1, N2, hc, h⟩ := h
  refine x_vi (y := 102) (n := 1) (ci := 8) (nx := 5) rfl (fun _ => rfl) sh_10 rfl hc ?_
  refine x_br rfl (fun c => ?_) (fun c => ?_)
  · replace h := h.1 c
    refine x_ret rfl ?_
    exact ⟨_, _, rfl, h⟩
  · replace h := h.2 c
    refine x_st rfl ?_
    refine x_st rfl ?_
    refine x_st rfl ?_
    obtain ⟨M4, N5, hc, h⟩ := h
    refine x_vv (y := 116) (n := 2) (ci := 8) (nx := 14) rfl (fun _ => rfl) sh_10 rfl hc ?_
    refine x_st rfl ?_
    refine x_gr (ci := 8) (k := 2) (nx := 18) rfl sh_10 rfl ?_
    refine x_st rfl ?_
    refine x_st rfl ?_
    obtain ⟨i6, hx, hi, h⟩ := h
    refine x_iast (i := i6) (nx := 21) rfl sh_13 hx hi (by decide) ?_
    refine x_ret rfl ?_
    exact ⟨_, _, rfl, h⟩
theorem EX8_holdNeedle {D : Nat} {Q : Option Value → mI → mJ → Prop}  {v1 : Int32} {v2 : Int32} {MI : mI} {ML : mJ} (h : VX8_holdNeedle_0 D Q v1 v2 MI ML) : ∃ v MI' ML', Q v MI' ML' ∧ mrc (D + 1) 114 [.ref 10, .int v1, .int v2] MI ML v MI' ML' := by
  refine x_en (n := 0) (T := TX8_holdNeedle) rfl rfl ?_
  refine x_kl ?_ h
  exact ⟨Or.inr rfl, ⟨Or.inr rfl, ⟨Or.inr rfl, True.intro⟩⟩⟩
def VX8_holdRow_0 (D : Nat) (Q : Option Value → mI → mJ → Prop)  (v1 : Int32) (v2 : Int32) (v3 : Int32) (MI : mI) (ML : mJ) : Prop := mEx D TX8_holdRow (mqS Q) (0, [some (.ref 10), some (.int v1), some (.int v2), some (.int v3), none], [], (W0, Sh0, MI, ML))
def VX8_holdRow_34 (D : Nat) (Q : Option Value → mI → mJ → Prop)  (v1 : Int32) (v3 : Int32) (v4 : Int32) (MI : mI) (ML : mJ) : Prop := mEx D TX8_holdRow (mqS Q) (34, [some (.ref 10), some (.int v1), none, some (.int v3), some (.int v4)], [], (W0, Sh0, MI, ML))
theorem BX8_holdRow_0 {D : Nat} {Q : Option Value → mI → mJ → Prop}  {v1 : Int32} {v2 : Int32} {v3 : Int32} {MI : mI} {ML : mJ} 
    (h : ∃ (x3 : Int32) (M1 : mI) (N2 : mJ), mrc D 102 [.ref 10, .int v1] MI ML (some (.int x3)) M1 N2 ∧ ((x3 = nI 0 → Q none M1 N2) ∧ (¬ x3 = nI 0 → (v3 < nI 0 → Q none M1 N2) ∧ (¬ v3 < nI 0 → ((nI 60) < v3 → Q none M1 N2) ∧ (¬ (nI 60) < v3 → ∃ (M4 : mI) (N5 : mJ), mrc D 116 [.ref 10, .int v1, .int v2] M1 N2 none M4 N5 ∧ (∃ i6 : Nat, v1 = nI i6 ∧ i6 < 6 ∧ (VX8_holdRow_34 D Q v1 v3 (nI 0) (mup M4 12 (mput (M4 12) i6 v3)) N5))))))) :
    VX8_holdRow_0 D Q v1 v2 v3 MI ML := by
  show mEx D TX8_holdRow (mqS Q) (0, [some (.ref 10), some (.int v1), some (.int v2), some (.int v3), none], [], (W0, Sh0, MI, ML))
  refine x_st rfl ?_
  refine x_st rfl ?_
  obtain ⟨x3, M1, N2, hc, h⟩ := h
  refine x_vi (y := 102) (n := 1) (ci := 8) (nx := 5) rfl (fun _ => rfl) sh_10 rfl hc ?_
  refine x_br rfl (fun c => ?_) (fun c => ?_)
  · replace h := h.1 c
    refine x_ret rfl ?_
    exact ⟨_, _, rfl, h⟩
  · replace h := h.2 c
    refine x_st rfl ?_
    refine x_br rfl (fun c => ?_) (fun c => ?_)
    · replace h := h.1 c
      refine x_ret rfl ?_
      exact ⟨_, _, rfl, h⟩
    · replace h := h.2 c
      refine x_st rfl ?_
      refine x_st rfl ?_
      refine x_br rfl (fun c => ?_) (fun c => ?_)
      · replace h := h.1 c
        refine x_ret rfl ?_
        exact ⟨_, _, rfl, h⟩
      · replace h := h.2 c
        refine x_st rfl ?_
        refine x_st rfl ?_
        refine x_st rfl ?_
        obtain ⟨M4, N5, hc, h⟩ := h
        refine x_vv (y := 116) (n := 2) (ci := 8) (nx := 24) rfl (fun _ => rfl) sh_10 rfl hc ?_
        refine x_st rfl ?_
        refine x_gr (ci := 8) (k := 1) (nx := 28) rfl sh_10 rfl ?_
        refine x_st rfl ?_
        refine x_st rfl ?_
        obtain ⟨i6, hx, hi, h⟩ := h
        refine x_iast (i := i6) (nx := 31) rfl sh_12 hx hi (by decide) ?_
        refine x_st rfl ?_
        refine x_st rfl ?_
        refine x_kl ?_ h
        exact ⟨Or.inr rfl, ⟨Or.inr rfl, ⟨Or.inl rfl, ⟨Or.inr rfl, ⟨Or.inr rfl, True.intro⟩⟩⟩⟩⟩
theorem BX8_holdRow_34 {D : Nat} {Q : Option Value → mI → mJ → Prop}  {v1 : Int32} {v3 : Int32} {v4 : Int32} {MI : mI} {ML : mJ} 
    (h : (v3 ≤ v4 → Q none MI ML) ∧ (¬ v3 ≤ v4 → ∃ i1 : Nat, ((v1 * (nI 60)) + v4) = nI i1 ∧ i1 < 360 ∧ (VX8_holdRow_34 D Q v1 v3 (v4 + (nI 1)) MI (mup ML 14 (mput (ML 14) i1 (0 : Int64)))))) :
    VX8_holdRow_34 D Q v1 v3 v4 MI ML := by
  show mEx D TX8_holdRow (mqS Q) (34, [some (.ref 10), some (.int v1), none, some (.int v3), some (.int v4)], [], (W0, Sh0, MI, ML))
  refine x_st rfl ?_
  refine x_st rfl ?_
  refine x_br rfl (fun c => ?_) (fun c => ?_)
  · replace h := h.1 c
    refine x_ret rfl ?_
    exact ⟨_, _, rfl, h⟩
  · replace h := h.2 c
    refine x_st rfl ?_
    refine x_gr (ci := 8) (k := 3) (nx := 44) rfl sh_10 rfl ?_
    refine x_st rfl ?_
    refine x_st rfl ?_
    refine x_st rfl ?_
    refine x_st rfl ?_
    refine x_st rfl ?_
    refine x_st rfl ?_
    obtain ⟨i1, hx, hi, h⟩ := h
    refine x_last (i := i1) (nx := 53) rfl sh_14 hx hi (by decide) ?_
    refine x_st rfl ?_
    refine x_st rfl ?_
    refine x_kl ?_ h
    exact ⟨Or.inr rfl, ⟨Or.inr rfl, ⟨Or.inl rfl, ⟨Or.inr rfl, ⟨Or.inr rfl, True.intro⟩⟩⟩⟩⟩
theorem EX8_holdRow {D : Nat} {Q : Option Value → mI → mJ → Prop}  {v1 : Int32} {v2 : Int32} {v3 : Int32} {MI : mI} {ML : mJ} (h : VX8_holdRow_0 D Q v1 v2 v3 MI ML) : ∃ v MI' ML', Q v MI' ML' ∧ mrc (D + 1) 115 [.ref 10, .int v1, .int v2, .int v3] MI ML v MI' ML' := by
  refine x_en (n := 1) (T := TX8_holdRow) rfl rfl ?_
  refine x_kl ?_ h
  exact ⟨Or.inr rfl, ⟨Or.inr rfl, ⟨Or.inr rfl, ⟨Or.inr rfl, ⟨Or.inl rfl, True.intro⟩⟩⟩⟩⟩
def VX8_hold_0 (D : Nat) (Q : Option Value → mI → mJ → Prop)  (v1 : Int32) (v2 : Int32) (MI : mI) (ML : mJ) : Prop := mEx D TX8_hold (mqS Q) (0, [some (.ref 10), some (.int v1), some (.int v2)], [], (W0, Sh0, MI, ML))
theorem BX8_hold_0 {D : Nat} {Q : Option Value → mI → mJ → Prop}  {v1 : Int32} {v2 : Int32} {MI : mI} {ML : mJ} 
    (h : ∃ (x3 : Int32) (M1 : mI) (N2 : mJ), mrc D 102 [.ref 10, .int v1] MI ML (some (.int x3)) M1 N2 ∧ ((x3 = nI 0 → Q none M1 N2) ∧ (¬ x3 = nI 0 → ∃ i4 : Nat, v1 = nI i4 ∧ i4 < 6 ∧ (∃ i5 : Nat, v1 = nI i5 ∧ i5 < 6 ∧ (Q none (mup (mup M1 11 (mput (M1 11) i4 v2)) 12 (mput ((mup M1 11 (mput (M1 11) i4 v2)) 12) i5 (nI 0))) N2))))) :
    VX8_hold_0 D Q v1 v2 MI ML := by
  show mEx D TX8_hold (mqS Q) (0, [some (.ref 10), some (.int v1), some (.int v2)], [], (W0, Sh0, MI, ML))
  refine x_st rfl ?_
  refine x_st rfl ?_
  obtain ⟨x3, M1, N2, hc, h⟩ := h
  refine x_vi (y := 102) (n := 1) (ci := 8) (nx := 5) rfl (fun _ => rfl) sh_10 rfl hc ?_
  refine x_br rfl (fun c => ?_) (fun c => ?_)
  · replace h := h.1 c
    refine x_ret rfl ?_
    exact ⟨_, _, rfl, h⟩
  · replace h := h.2 c
    refine x_st rfl ?_
    refine x_gr (ci := 8) (k := 0) (nx := 12) rfl sh_10 rfl ?_
    refine x_st rfl ?_
    refine x_st rfl ?_
    obtain ⟨i4, hx, hi, h⟩ := h
    refine x_iast (i := i4) (nx := 15) rfl sh_11 hx hi (by decide) ?_
    refine x_st rfl ?_
    refine x_gr (ci := 8) (k := 1) (nx := 19) rfl sh_10 rfl ?_
    refine x_st rfl ?_
    refine x_st rfl ?_
    obtain ⟨i5, hx, hi, h⟩ := h
    refine x_iast (i := i5) (nx := 22) rfl sh_12 hx hi (by decide) ?_
    refine x_ret rfl ?_
    exact ⟨_, _, rfl, h⟩
theorem EX8_hold {D : Nat} {Q : Option Value → mI → mJ → Prop}  {v1 : Int32} {v2 : Int32} {MI : mI} {ML : mJ} (h : VX8_hold_0 D Q v1 v2 MI ML) : ∃ v MI' ML', Q v MI' ML' ∧ mrc (D + 1) 116 [.ref 10, .int v1, .int v2] MI ML v MI' ML' := by
  refine x_en (n := 0) (T := TX8_hold) rfl rfl ?_
  refine x_kl ?_ h
  exact ⟨Or.inr rfl, ⟨Or.inr rfl, ⟨Or.inr rfl, True.intro⟩⟩⟩
def VX8_at_0 (D : Nat) (Q : Option Value → mI → mJ → Prop)  (v1 : Int32) (v2 : Int32) (MI : mI) (ML : mJ) : Prop := mEx D TX8_at (mqS Q) (0, [some (.ref 10), some (.int v1), some (.int v2)], [], (W0, Sh0, MI, ML))
theorem BX8_at_0 {D : Nat} {Q : Option Value → mI → mJ → Prop}  {v1 : Int32} {v2 : Int32} {MI : mI} {ML : mJ} 
    (h : ∃ (x3 : Int32) (M1 : mI) (N2 : mJ), mrc D 112 [.ref 10, .int v1, .int v2, .int (nI 1)] MI ML (some (.int x3)) M1 N2 ∧ ((x3 = nI 0 → Q (some (.long (0 : Int64))) M1 N2) ∧ (¬ x3 = nI 0 → ∃ i4 : Nat, ((v1 * (nI 60)) + v2) = nI i4 ∧ i4 < 360 ∧ (Q (some (.long (N2 14 i4))) M1 N2)))) :
    VX8_at_0 D Q v1 v2 MI ML := by
  show mEx D TX8_at (mqS Q) (0, [some (.ref 10), some (.int v1), some (.int v2)], [], (W0, Sh0, MI, ML))
  refine x_st rfl ?_
  refine x_st rfl ?_
  refine x_st rfl ?_
  refine x_st rfl ?_
  obtain ⟨x3, M1, N2, hc, h⟩ := h
  refine x_vi (y := 112) (n := 3) (ci := 8) (nx := 7) rfl (fun _ => rfl) sh_10 rfl hc ?_
  refine x_br rfl (fun c => ?_) (fun c => ?_)
  · replace h := h.1 c
    refine x_st rfl ?_
    refine x_ret rfl ?_
    exact ⟨_, _, rfl, h⟩
  · replace h := h.2 c
    refine x_st rfl ?_
    refine x_gr (ci := 8) (k := 3) (nx := 14) rfl sh_10 rfl ?_
    refine x_st rfl ?_
    refine x_st rfl ?_
    refine x_st rfl ?_
    refine x_st rfl ?_
    refine x_st rfl ?_
    obtain ⟨i4, hx, hi, h⟩ := h
    refine x_la (i := i4) (nx := 21) rfl sh_14 hx hi (by decide) ?_
    refine x_st rfl ?_
    refine x_ret rfl ?_
    exact ⟨_, _, rfl, h⟩
theorem EX8_at {D : Nat} {Q : Option Value → mI → mJ → Prop}  {v1 : Int32} {v2 : Int32} {MI : mI} {ML : mJ} (h : VX8_at_0 D Q v1 v2 MI ML) : ∃ v MI' ML', Q v MI' ML' ∧ mrc (D + 1) 117 [.ref 10, .int v1, .int v2] MI ML v MI' ML' := by
  refine x_en (n := 0) (T := TX8_at) rfl rfl ?_
  refine x_kl ?_ h
  exact ⟨Or.inr rfl, ⟨Or.inr rfl, ⟨Or.inr rfl, True.intro⟩⟩⟩
def VX8_setAt_0 (D : Nat) (Q : Option Value → mI → mJ → Prop)  (v1 : Int32) (v2 : Int32) (v3 : Int64) (MI : mI) (ML : mJ) : Prop := mEx D TX8_setAt (mqS Q) (0, [some (.ref 10), some (.int v1), some (.int v2), some (.long v3), none], [], (W0, Sh0, MI, ML))
theorem BX8_setAt_0 {D : Nat} {Q : Option Value → mI → mJ → Prop}  {v1 : Int32} {v2 : Int32} {v3 : Int64} {MI : mI} {ML : mJ} 
    (h : ∃ (x3 : Int32) (M1 : mI) (N2 : mJ), mrc D 112 [.ref 10, .int v1, .int v2, .int (nI 1)] MI ML (some (.int x3)) M1 N2 ∧ ((x3 = nI 0 → Q none M1 N2) ∧ (¬ x3 = nI 0 → ∃ (x6 : Int32) (M4 : mI) (N5 : mJ), mrc D 103 [.ref 10, .int v1] M1 N2 (some (.int x6)) M4 N5 ∧ (∃ (x9 : Int64) (M7 : mI) (N8 : mJ), mrc D 119 [.int x6, .long v3] M4 N5 (some (.long x9)) M7 N8 ∧ (∃ i10 : Nat, ((v1 * (nI 60)) + v2) = nI i10 ∧ i10 < 360 ∧ (Q none M7 (mup N8 14 (mput (N8 14) i10 x9)))))))) :
    VX8_setAt_0 D Q v1 v2 v3 MI ML := by
  show mEx D TX8_setAt (mqS Q) (0, [some (.ref 10), some (.int v1), some (.int v2), some (.long v3), none], [], (W0, Sh0, MI, ML))
  refine x_st rfl ?_
  refine x_st rfl ?_
  refine x_st rfl ?_
  refine x_st rfl ?_
  obtain ⟨x3, M1, N2, hc, h⟩ := h
  refine x_vi (y := 112) (n := 3) (ci := 8) (nx := 7) rfl (fun _ => rfl) sh_10 rfl hc ?_
  refine x_br rfl (fun c => ?_) (fun c => ?_)
  · replace h := h.1 c
    refine x_ret rfl ?_
    exact ⟨_, _, rfl, h⟩
  · replace h := h.2 c
    refine x_st rfl ?_
    refine x_gr (ci := 8) (k := 3) (nx := 14) rfl sh_10 rfl ?_
    refine x_st rfl ?_
    refine x_st rfl ?_
    refine x_st rfl ?_
    refine x_st rfl ?_
    refine x_st rfl ?_
    refine x_st rfl ?_
    refine x_st rfl ?_
    obtain ⟨x6, M4, N5, hc, h⟩ := h
    refine x_vi (y := 103) (n := 1) (ci := 8) (nx := 25) rfl (fun _ => rfl) sh_10 rfl hc ?_
    refine x_st rfl ?_
    obtain ⟨x9, M7, N8, hc, h⟩ := h
    refine x_ci rfl hc ?_
    obtain ⟨i10, hx, hi, h⟩ := h
    refine x_last (i := i10) (nx := 30) rfl sh_14 hx hi (by decide) ?_
    refine x_ret rfl ?_
    exact ⟨_, _, rfl, h⟩
theorem EX8_setAt {D : Nat} {Q : Option Value → mI → mJ → Prop}  {v1 : Int32} {v2 : Int32} {v3 : Int64} {MI : mI} {ML : mJ} (h : VX8_setAt_0 D Q v1 v2 v3 MI ML) : ∃ v MI' ML', Q v MI' ML' ∧ mrc (D + 1) 118 [.ref 10, .int v1, .int v2, .long v3] MI ML v MI' ML' := by
  refine x_en (n := 0) (T := TX8_setAt) rfl rfl ?_
  refine x_kl ?_ h
  exact ⟨Or.inr rfl, ⟨Or.inr rfl, ⟨Or.inr rfl, ⟨Or.inr rfl, ⟨Or.inl rfl, True.intro⟩⟩⟩⟩⟩
def VX8_lowestBits_0 (D : Nat) (Q : Option Value → mI → mJ → Prop)  (v0 : Int32) (v1 : Int64) (MI : mI) (ML : mJ) : Prop := mEx D TX8_lowestBits (mqS Q) (0, [some (.int v0), some (.long v1), none], [], (W0, Sh0, MI, ML))
theorem BX8_lowestBits_0 {D : Nat} {Q : Option Value → mI → mJ → Prop}  {v0 : Int32} {v1 : Int64} {MI : mI} {ML : mJ} 
    (h : (v0 = (nI 0) → Q (some (.long (((v1).toInt32).toInt8.toInt32).toInt64)) MI ML) ∧ (¬ v0 = (nI 0) → (v0 = (nI 1) → Q (some (.long (((v1).toInt32).toInt16.toInt32).toInt64)) MI ML) ∧ (¬ v0 = (nI 1) → (v0 = (nI 2) → Q (some (.long ((v1).toInt32).toInt64)) MI ML) ∧ (¬ v0 = (nI 2) → (v0 = (nI 3) → Q (some (.long v1)) MI ML) ∧ (¬ v0 = (nI 3) → (v0 = (nI 4) → ((lg_cmp v1 (0 : Int64)) = nI 0 → Q (some (.long (0 : Int64))) MI ML) ∧ (¬ (lg_cmp v1 (0 : Int64)) = nI 0 → Q (some (.long (1 : Int64))) MI ML)) ∧ (¬ v0 = (nI 4) → Q (some (.long v1)) MI ML)))))) :
    VX8_lowestBits_0 D Q v0 v1 MI ML := by
  show mEx D TX8_lowestBits (mqS Q) (0, [some (.int v0), some (.long v1), none], [], (W0, Sh0, MI, ML))
  refine x_st rfl ?_
  refine x_sw rfl ?_
  refine ⟨fun c => ?_, fun c => ?_⟩
  · replace h := h.1 c
    refine x_st rfl ?_
    refine x_st rfl ?_
    refine x_st rfl ?_
    refine x_st rfl ?_
    refine x_ret rfl ?_
    exact ⟨_, _, rfl, h⟩
  · replace h := h.2 c
    refine ⟨fun c => ?_, fun c => ?_⟩
    · replace h := h.1 c
      refine x_st rfl ?_
      refine x_st rfl ?_
      refine x_st rfl ?_
      refine x_st rfl ?_
      refine x_ret rfl ?_
      exact ⟨_, _, rfl, h⟩
    · replace h := h.2 c
      refine ⟨fun c => ?_, fun c => ?_⟩
      · replace h := h.1 c
        refine x_st rfl ?_
        refine x_st rfl ?_
        refine x_st rfl ?_
        refine x_ret rfl ?_
        exact ⟨_, _, rfl, h⟩
      · replace h := h.2 c
        refine ⟨fun c => ?_, fun c => ?_⟩
        · replace h := h.1 c
          refine x_st rfl ?_
          refine x_ret rfl ?_
          exact ⟨_, _, rfl, h⟩
        · replace h := h.2 c
          refine ⟨fun c => ?_, fun c => ?_⟩
          · replace h := h.1 c
            refine x_st rfl ?_
            refine x_st rfl ?_
            refine x_st rfl ?_
            refine x_br rfl (fun c => ?_) (fun c => ?_)
            · replace h := h.1 c
              refine x_st rfl ?_
              refine x_ret rfl ?_
              exact ⟨_, _, rfl, h⟩
            · replace h := h.2 c
              refine x_st rfl ?_
              refine x_st rfl ?_
              refine x_ret rfl ?_
              exact ⟨_, _, rfl, h⟩
          · replace h := h.2 c
            refine x_st rfl ?_
            refine x_ret rfl ?_
            exact ⟨_, _, rfl, h⟩
theorem EX8_lowestBits {D : Nat} {Q : Option Value → mI → mJ → Prop}  {v0 : Int32} {v1 : Int64} {MI : mI} {ML : mJ} (h : VX8_lowestBits_0 D Q v0 v1 MI ML) : ∃ v MI' ML', Q v MI' ML' ∧ mrc (D + 1) 119 [.int v0, .long v1] MI ML v MI' ML' := by
  refine x_en (n := 0) (T := TX8_lowestBits) rfl rfl ?_
  refine x_kl ?_ h
  exact ⟨Or.inr rfl, ⟨Or.inr rfl, ⟨Or.inl rfl, True.intro⟩⟩⟩
def VX8_copy_0 (D : Nat) (Q : Option Value → mI → mJ → Prop)  (v1 : Int32) (v2 : Int32) (v3 : Int32) (v4 : Int32) (v5 : Int32) (MI : mI) (ML : mJ) : Prop := mEx D TX8_copy (mqS Q) (0, [some (.ref 10), some (.int v1), some (.int v2), some (.int v3), some (.int v4), some (.int v5)], [], (W0, Sh0, MI, ML))
theorem BX8_copy_0 {D : Nat} {Q : Option Value → mI → mJ → Prop}  {v1 : Int32} {v2 : Int32} {v3 : Int32} {v4 : Int32} {v5 : Int32} {MI : mI} {ML : mJ} 
    (h : ∃ (x3 : Int32) (M1 : mI) (N2 : mJ), mrc D 112 [.ref 10, .int v1, .int v2, .int v5] MI ML (some (.int x3)) M1 N2 ∧ ((x3 = nI 0 → Q none M1 N2) ∧ (¬ x3 = nI 0 → ∃ (x6 : Int32) (M4 : mI) (N5 : mJ), mrc D 112 [.ref 10, .int v3, .int v4, .int v5] M1 N2 (some (.int x6)) M4 N5 ∧ ((x6 = nI 0 → Q none M4 N5) ∧ (¬ x6 = nI 0 → ∃ i7 i8 i9 : Nat, ((v1 * (nI 60)) + v2) = nI i7 ∧ ((v3 * (nI 60)) + v4) = nI i8 ∧ v5 = nI i9 ∧ i7 + i9 ≤ 360 ∧ i8 + i9 ≤ 360 ∧ (Q none M4 (mup N5 14 (va_cpy (N5 14) (N5 14) i7 i8 i9)))))))) :
    VX8_copy_0 D Q v1 v2 v3 v4 v5 MI ML := by
  show mEx D TX8_copy (mqS Q) (0, [some (.ref 10), some (.int v1), some (.int v2), some (.int v3), some (.int v4), some (.int v5)], [], (W0, Sh0, MI, ML))
  refine x_st rfl ?_
  refine x_st rfl ?_
  refine x_st rfl ?_
  refine x_st rfl ?_
  obtain ⟨x3, M1, N2, hc, h⟩ := h
  refine x_vi (y := 112) (n := 3) (ci := 8) (nx := 8) rfl (fun _ => rfl) sh_10 rfl hc ?_
  refine x_br rfl (fun c => ?_) (fun c => ?_)
  · replace h := h.1 c
    refine x_ret rfl ?_
    exact ⟨_, _, rfl, h⟩
  · replace h := h.2 c
    refine x_st rfl ?_
    refine x_st rfl ?_
    refine x_st rfl ?_
    refine x_st rfl ?_
    obtain ⟨x6, M4, N5, hc, h⟩ := h
    refine x_vi (y := 112) (n := 3) (ci := 8) (nx := 20) rfl (fun _ => rfl) sh_10 rfl hc ?_
    refine x_br rfl (fun c => ?_) (fun c => ?_)
    · replace h := h.1 c
      refine x_ret rfl ?_
      exact ⟨_, _, rfl, h⟩
    · replace h := h.2 c
      refine x_st rfl ?_
      refine x_gr (ci := 8) (k := 3) (nx := 27) rfl sh_10 rfl ?_
      refine x_st rfl ?_
      refine x_st rfl ?_
      refine x_st rfl ?_
      refine x_st rfl ?_
      refine x_st rfl ?_
      refine x_st rfl ?_
      refine x_gr (ci := 8) (k := 3) (nx := 37) rfl sh_10 rfl ?_
      refine x_st rfl ?_
      refine x_st rfl ?_
      refine x_st rfl ?_
      refine x_st rfl ?_
      refine x_st rfl ?_
      refine x_st rfl ?_
      obtain ⟨i7, i8, i9, e1, e2, e3, e4, e5, h⟩ := h
      refine x_cpj (nx := 49) rfl sh_14 sh_14 e1 e2 e3 e4 e5 (by decide) (by decide) rfl ?_
      refine x_ret rfl ?_
      exact ⟨_, _, rfl, h⟩
theorem EX8_copy {D : Nat} {Q : Option Value → mI → mJ → Prop}  {v1 : Int32} {v2 : Int32} {v3 : Int32} {v4 : Int32} {v5 : Int32} {MI : mI} {ML : mJ} (h : VX8_copy_0 D Q v1 v2 v3 v4 v5 MI ML) : ∃ v MI' ML', Q v MI' ML' ∧ mrc (D + 1) 120 [.ref 10, .int v1, .int v2, .int v3, .int v4, .int v5] MI ML v MI' ML' := by
  refine x_en (n := 0) (T := TX8_copy) rfl rfl ?_
  refine x_kl ?_ h
  exact ⟨Or.inr rfl, ⟨Or.inr rfl, ⟨Or.inr rfl, ⟨Or.inr rfl, ⟨Or.inr rfl, ⟨Or.inr rfl, True.intro⟩⟩⟩⟩⟩⟩
def VX9_begin_0 (D : Nat) (Q : Option Value → mI → mJ → Prop)  (MI : mI) (ML : mJ) : Prop := mEx D TX9_begin (mqS Q) (0, [some (.ref 15)], [], (W0, Sh0, MI, ML))
theorem BX9_begin_0 {D : Nat} {Q : Option Value → mI → mJ → Prop}  {MI : mI} {ML : mJ} 
    (h : ∃ (M1 : mI) (N2 : mJ), mrc D 26 [.ref 16, .ref 1] MI ML none M1 N2 ∧ (Q none M1 N2)) :
    VX9_begin_0 D Q  MI ML := by
  show mEx D TX9_begin (mqS Q) (0, [some (.ref 15)], [], (W0, Sh0, MI, ML))
  refine x_st rfl ?_
  refine x_gr (ci := 9) (k := 0) (nx := 4) rfl sh_15 rfl ?_
  refine x_st rfl ?_
  refine x_gr (ci := 9) (k := 7) (nx := 8) rfl sh_15 rfl ?_
  obtain ⟨M1, N2, hc, h⟩ := h
  refine x_vv (y := 26) (n := 1) (ci := 0) (nx := 11) rfl (fun _ => rfl) sh_16 rfl hc ?_
  refine x_ret rfl ?_
  exact ⟨_, _, rfl, h⟩
theorem EX9_begin {D : Nat} {Q : Option Value → mI → mJ → Prop}  {MI : mI} {ML : mJ} (h : VX9_begin_0 D Q  MI ML) : ∃ v MI' ML', Q v MI' ML' ∧ mrc (D + 1) 122 [.ref 15] MI ML v MI' ML' := by
  refine x_en (n := 0) (T := TX9_begin) rfl rfl ?_
  refine x_kl ?_ h
  exact ⟨Or.inr rfl, True.intro⟩
def VX9_goOn_0 (D : Nat) (Q : Option Value → mI → mJ → Prop)  (v1 : Int32) (MI : mI) (ML : mJ) : Prop := mEx D TX9_goOn (mqS Q) (0, [some (.ref 15), some (.int v1), none, none], [], (W0, Sh0, MI, ML))
def VX9_goOn_4 (D : Nat) (Q : Option Value → mI → mJ → Prop)  (v1 : Int32) (v2 : Int32) (v3 : Int32) (MI : mI) (ML : mJ) : Prop := mEx D TX9_goOn (mqS Q) (4, [some (.ref 15), some (.int v1), some (.int v2), some (.int v3)], [], (W0, Sh0, MI, ML))
theorem BX9_goOn_0 {D : Nat} {Q : Option Value → mI → mJ → Prop}  {v1 : Int32} {MI : mI} {ML : mJ} 
    (h : VX9_goOn_4 D Q v1 (nI 0) (nI 0) MI ML) :
    VX9_goOn_0 D Q v1 MI ML := by
  show mEx D TX9_goOn (mqS Q) (0, [some (.ref 15), some (.int v1), none, none], [], (W0, Sh0, MI, ML))
  refine x_st rfl ?_
  refine x_st rfl ?_
  refine x_st rfl ?_
  refine x_st rfl ?_
  refine x_kl ?_ h
  exact ⟨Or.inr rfl, ⟨Or.inr rfl, ⟨Or.inr rfl, ⟨Or.inr rfl, True.intro⟩⟩⟩⟩
theorem BX9_goOn_4 {D : Nat} {Q : Option Value → mI → mJ → Prop}  {v1 : Int32} {v2 : Int32} {v3 : Int32} {MI : mI} {ML : mJ} 
    (h : (v1 ≤ v3 → Q (some (.int v2)) MI ML) ∧ (¬ v1 ≤ v3 → ∃ (x3 : Int32) (M1 : mI) (N2 : mJ), mrc D 96 [.ref 18, .ref 16, .ref 6] MI ML (some (.int x3)) M1 N2 ∧ (VX9_goOn_4 D Q v1 (v2 + x3) (v3 + (nI 1)) M1 N2))) :
    VX9_goOn_4 D Q v1 v2 v3 MI ML := by
  show mEx D TX9_goOn (mqS Q) (4, [some (.ref 15), some (.int v1), some (.int v2), some (.int v3)], [], (W0, Sh0, MI, ML))
  refine x_st rfl ?_
  refine x_st rfl ?_
  refine x_br rfl (fun c => ?_) (fun c => ?_)
  · replace h := h.1 c
    refine x_st rfl ?_
    refine x_ret rfl ?_
    exact ⟨_, _, rfl, h⟩
  · replace h := h.2 c
    refine x_st rfl ?_
    refine x_st rfl ?_
    refine x_gr (ci := 9) (k := 10) (nx := 14) rfl sh_15 rfl ?_
    refine x_st rfl ?_
    refine x_gr (ci := 9) (k := 0) (nx := 18) rfl sh_15 rfl ?_
    refine x_st rfl ?_
    refine x_gr (ci := 9) (k := 8) (nx := 22) rfl sh_15 rfl ?_
    obtain ⟨x3, M1, N2, hc, h⟩ := h
    refine x_vi (y := 96) (n := 2) (ci := 7) (nx := 25) rfl (fun _ => rfl) sh_18 rfl hc ?_
    refine x_st rfl ?_
    refine x_st rfl ?_
    refine x_st rfl ?_
    refine x_st rfl ?_
    refine x_kl ?_ h
    exact ⟨Or.inr rfl, ⟨Or.inr rfl, ⟨Or.inr rfl, ⟨Or.inr rfl, True.intro⟩⟩⟩⟩
theorem EX9_goOn {D : Nat} {Q : Option Value → mI → mJ → Prop}  {v1 : Int32} {MI : mI} {ML : mJ} (h : VX9_goOn_0 D Q v1 MI ML) : ∃ v MI' ML', Q v MI' ML' ∧ mrc (D + 1) 123 [.ref 15, .int v1] MI ML v MI' ML' := by
  refine x_en (n := 2) (T := TX9_goOn) rfl rfl ?_
  refine x_kl ?_ h
  exact ⟨Or.inr rfl, ⟨Or.inr rfl, ⟨Or.inl rfl, ⟨Or.inl rfl, True.intro⟩⟩⟩⟩
def VX9_daysFed_0 (D : Nat) (Q : Option Value → mI → mJ → Prop)  (v1 : Int32) (MI : mI) (ML : mJ) : Prop := mEx D TX9_daysFed (mqS Q) (0, [some (.ref 15), some (.int v1), none], [], (W0, Sh0, MI, ML))
def VX9_daysFed_2 (D : Nat) (Q : Option Value → mI → mJ → Prop)  (v1 : Int32) (v2 : Int32) (MI : mI) (ML : mJ) : Prop := mEx D TX9_daysFed (mqS Q) (2, [some (.ref 15), some (.int v1), some (.int v2)], [], (W0, Sh0, MI, ML))
theorem BX9_daysFed_0 {D : Nat} {Q : Option Value → mI → mJ → Prop}  {v1 : Int32} {MI : mI} {ML : mJ} 
    (h : VX9_daysFed_2 D Q v1 (nI 0) MI ML) :
    VX9_daysFed_0 D Q v1 MI ML := by
  show mEx D TX9_daysFed (mqS Q) (0, [some (.ref 15), some (.int v1), none], [], (W0, Sh0, MI, ML))
  refine x_st rfl ?_
  refine x_st rfl ?_
  refine x_kl ?_ h
  exact ⟨Or.inr rfl, ⟨Or.inr rfl, ⟨Or.inr rfl, True.intro⟩⟩⟩
theorem BX9_daysFed_2 {D : Nat} {Q : Option Value → mI → mJ → Prop}  {v1 : Int32} {v2 : Int32} {MI : mI} {ML : mJ} 
    (h : ((nI 40) ≤ v2 → Q (some (.int (nI 40))) MI ML) ∧ (¬ (nI 40) ≤ v2 → ∃ (x3 : Int32) (M1 : mI) (N2 : mJ), mrc D 96 [.ref 18, .ref 16, .ref 6] MI ML (some (.int x3)) M1 N2 ∧ (∃ (x6 : Int32) (M4 : mI) (N5 : mJ), mrc D 99 [.ref 18, .int v1] M1 N2 (some (.int x6)) M4 N5 ∧ ((x6 = (nI 8) → Q (some (.int v2)) M4 N5) ∧ (¬ x6 = (nI 8) → VX9_daysFed_2 D Q v1 (v2 + (nI 1)) M4 N5))))) :
    VX9_daysFed_2 D Q v1 v2 MI ML := by
  show mEx D TX9_daysFed (mqS Q) (2, [some (.ref 15), some (.int v1), some (.int v2)], [], (W0, Sh0, MI, ML))
  refine x_st rfl ?_
  refine x_st rfl ?_
  refine x_br rfl (fun c => ?_) (fun c => ?_)
  · replace h := h.1 c
    refine x_st rfl ?_
    refine x_ret rfl ?_
    exact ⟨_, _, rfl, h⟩
  · replace h := h.2 c
    refine x_st rfl ?_
    refine x_gr (ci := 9) (k := 10) (nx := 12) rfl sh_15 rfl ?_
    refine x_st rfl ?_
    refine x_gr (ci := 9) (k := 0) (nx := 16) rfl sh_15 rfl ?_
    refine x_st rfl ?_
    refine x_gr (ci := 9) (k := 8) (nx := 20) rfl sh_15 rfl ?_
    obtain ⟨x3, M1, N2, hc, h⟩ := h
    refine x_vi (y := 96) (n := 2) (ci := 7) (nx := 23) rfl (fun _ => rfl) sh_18 rfl hc ?_
    refine x_st rfl ?_
    refine x_st rfl ?_
    refine x_gr (ci := 9) (k := 10) (nx := 28) rfl sh_15 rfl ?_
    refine x_st rfl ?_
    obtain ⟨x6, M4, N5, hc, h⟩ := h
    refine x_vi (y := 99) (n := 1) (ci := 7) (nx := 32) rfl (fun _ => rfl) sh_18 rfl hc ?_
    refine x_st rfl ?_
    refine x_br rfl (fun c => ?_) (fun c => ?_)
    · replace h := h.1 c
      refine x_st rfl ?_
      refine x_ret rfl ?_
      exact ⟨_, _, rfl, h⟩
    · replace h := h.2 c
      refine x_st rfl ?_
      refine x_st rfl ?_
      refine x_kl ?_ h
      exact ⟨Or.inr rfl, ⟨Or.inr rfl, ⟨Or.inr rfl, True.intro⟩⟩⟩
theorem EX9_daysFed {D : Nat} {Q : Option Value → mI → mJ → Prop}  {v1 : Int32} {MI : mI} {ML : mJ} (h : VX9_daysFed_0 D Q v1 MI ML) : ∃ v MI' ML', Q v MI' ML' ∧ mrc (D + 1) 124 [.ref 15, .int v1] MI ML v MI' ML' := by
  refine x_en (n := 1) (T := TX9_daysFed) rfl rfl ?_
  refine x_kl ?_ h
  exact ⟨Or.inr rfl, ⟨Or.inr rfl, ⟨Or.inl rfl, True.intro⟩⟩⟩
def VX9_seekWorth_0 (D : Nat) (Q : Option Value → mI → mJ → Prop)  (v1 : Int32) (v2 : Int32) (MI : mI) (ML : mJ) : Prop := mEx D TX9_seekWorth (mqS Q) (0, [some (.ref 15), some (.int v1), some (.int v2), none], [], (W0, Sh0, MI, ML))
def VX9_seekWorth_14 (D : Nat) (Q : Option Value → mI → mJ → Prop)  (v1 : Int32) (v2 : Int32) (v3 : Int32) (MI : mI) (ML : mJ) : Prop := mEx D TX9_seekWorth (mqS Q) (14, [some (.ref 15), some (.int v1), some (.int v2), some (.int v3)], [], (W0, Sh0, MI, ML))
theorem BX9_seekWorth_0 {D : Nat} {Q : Option Value → mI → mJ → Prop}  {v1 : Int32} {v2 : Int32} {MI : mI} {ML : mJ} 
    (h : VX9_seekWorth_14 D Q v1 v2 (nI 0) (mup (mup MI 15 (mput (MI 15) 1 (nI 8))) 15 (mput ((mup MI 15 (mput (MI 15) 1 (nI 8))) 15) 2 (nI 100))) ML) :
    VX9_seekWorth_0 D Q v1 v2 MI ML := by
  show mEx D TX9_seekWorth (mqS Q) (0, [some (.ref 15), some (.int v1), some (.int v2), none], [], (W0, Sh0, MI, ML))
  refine x_st rfl ?_
  refine x_st rfl ?_
  refine x_pi (ci := 9) (k := 1) (nx := 6) rfl sh_15 rfl ?_
  refine x_st rfl ?_
  refine x_st rfl ?_
  refine x_pi (ci := 9) (k := 2) (nx := 12) rfl sh_15 rfl ?_
  refine x_st rfl ?_
  refine x_st rfl ?_
  refine x_kl ?_ h
  exact ⟨Or.inr rfl, ⟨Or.inr rfl, ⟨Or.inr rfl, ⟨Or.inr rfl, True.intro⟩⟩⟩⟩
theorem BX9_seekWorth_14 {D : Nat} {Q : Option Value → mI → mJ → Prop}  {v1 : Int32} {v2 : Int32} {v3 : Int32} {MI : mI} {ML : mJ} 
    (h : ((MI 1 0) ≤ v3 → Q none MI ML) ∧ (¬ (MI 1 0) ≤ v3 → (v3 = v1 → VX9_seekWorth_14 D Q v1 v2 (v3 + (nI 1)) MI ML) ∧ (¬ v3 = v1 → ∃ (M1 : mI) (N2 : mJ), mrc D 122 [.ref 15] MI ML none M1 N2 ∧ (∃ (M3 : mI) (N4 : mJ), mrc D 15 [.ref 16, .int v3, .int v1, .int (-9 : Int32)] M1 N2 none M3 N4 ∧ (∃ (x7 : Int32) (M5 : mI) (N6 : mJ), mrc D 123 [.ref 15, .int v2] M3 N4 (some (.int x7)) M5 N6 ∧ (∃ (x10 : Int32) (M8 : mI) (N9 : mJ), mrc D 11 [.ref 16, .int v1] M5 N6 (some (.int x10)) M8 N9 ∧ (((M8 15 2) ≤ x10 → VX9_seekWorth_14 D Q v1 v2 (v3 + (nI 1)) M8 N9) ∧ (¬ (M8 15 2) ≤ x10 → ∃ (x13 : Int32) (M11 : mI) (N12 : mJ), mrc D 11 [.ref 16, .int v1] (mup M8 15 (mput (M8 15) 1 v3)) N9 (some (.int x13)) M11 N12 ∧ (VX9_seekWorth_14 D Q v1 v2 (v3 + (nI 1)) (mup M11 15 (mput (M11 15) 2 x13)) N12))))))))) :
    VX9_seekWorth_14 D Q v1 v2 v3 MI ML := by
  show mEx D TX9_seekWorth (mqS Q) (14, [some (.ref 15), some (.int v1), some (.int v2), some (.int v3)], [], (W0, Sh0, MI, ML))
  refine x_st rfl ?_
  refine x_st rfl ?_
  refine x_gr (ci := 9) (k := 7) (nx := 19) rfl sh_15 rfl ?_
  refine x_gi (ci := 0) (k := 0) (nx := 22) rfl sh_1 rfl ?_
  refine x_br rfl (fun c => ?_) (fun c => ?_)
  · replace h := h.1 c
    refine x_ret rfl ?_
    exact ⟨_, _, rfl, h⟩
  · replace h := h.2 c
    refine x_st rfl ?_
    refine x_st rfl ?_
    refine x_br rfl (fun c => ?_) (fun c => ?_)
    · replace h := h.1 c
      refine x_st rfl ?_
      refine x_st rfl ?_
      refine x_st rfl ?_
      refine x_kl ?_ h
      exact ⟨Or.inr rfl, ⟨Or.inr rfl, ⟨Or.inr rfl, ⟨Or.inr rfl, True.intro⟩⟩⟩⟩
    · replace h := h.2 c
      refine x_st rfl ?_
      obtain ⟨M1, N2, hc, h⟩ := h
      refine x_vv (y := 122) (n := 0) (ci := 9) (nx := 37) rfl (fun _ => rfl) sh_15 rfl hc ?_
      refine x_st rfl ?_
      refine x_gr (ci := 9) (k := 0) (nx := 41) rfl sh_15 rfl ?_
      refine x_st rfl ?_
      refine x_st rfl ?_
      refine x_st rfl ?_
      obtain ⟨M3, N4, hc, h⟩ := h
      refine x_vv (y := 15) (n := 3) (ci := 0) (nx := 48) rfl (fun _ => rfl) sh_16 rfl hc ?_
      refine x_st rfl ?_
      refine x_st rfl ?_
      obtain ⟨x7, M5, N6, hc, h⟩ := h
      refine x_vi (y := 123) (n := 1) (ci := 9) (nx := 53) rfl (fun _ => rfl) sh_15 rfl hc ?_
      refine x_st rfl ?_
      refine x_st rfl ?_
      refine x_gr (ci := 9) (k := 0) (nx := 58) rfl sh_15 rfl ?_
      refine x_st rfl ?_
      obtain ⟨x10, M8, N9, hc, h⟩ := h
      refine x_vi (y := 11) (n := 1) (ci := 0) (nx := 62) rfl (fun _ => rfl) sh_16 rfl hc ?_
      refine x_st rfl ?_
      refine x_gi (ci := 9) (k := 2) (nx := 66) rfl sh_15 rfl ?_
      refine x_br rfl (fun c => ?_) (fun c => ?_)
      · replace h := h.1 c
        refine x_st rfl ?_
        refine x_st rfl ?_
        refine x_kl ?_ h
        exact ⟨Or.inr rfl, ⟨Or.inr rfl, ⟨Or.inr rfl, ⟨Or.inr rfl, True.intro⟩⟩⟩⟩
      · replace h := h.2 c
        refine x_st rfl ?_
        refine x_st rfl ?_
        refine x_pi (ci := 9) (k := 1) (nx := 74) rfl sh_15 rfl ?_
        refine x_st rfl ?_
        refine x_st rfl ?_
        refine x_gr (ci := 9) (k := 0) (nx := 79) rfl sh_15 rfl ?_
        refine x_st rfl ?_
        obtain ⟨x13, M11, N12, hc, h⟩ := h
        refine x_vi (y := 11) (n := 1) (ci := 0) (nx := 83) rfl (fun _ => rfl) sh_16 rfl hc ?_
        refine x_pi (ci := 9) (k := 2) (nx := 86) rfl sh_15 rfl ?_
        refine x_st rfl ?_
        refine x_st rfl ?_
        refine x_kl ?_ h
        exact ⟨Or.inr rfl, ⟨Or.inr rfl, ⟨Or.inr rfl, ⟨Or.inr rfl, True.intro⟩⟩⟩⟩
theorem EX9_seekWorth {D : Nat} {Q : Option Value → mI → mJ → Prop}  {v1 : Int32} {v2 : Int32} {MI : mI} {ML : mJ} (h : VX9_seekWorth_0 D Q v1 v2 MI ML) : ∃ v MI' ML', Q v MI' ML' ∧ mrc (D + 1) 125 [.ref 15, .int v1, .int v2] MI ML v MI' ML' := by
  refine x_en (n := 1) (T := TX9_seekWorth) rfl rfl ?_
  refine x_kl ?_ h
  exact ⟨Or.inr rfl, ⟨Or.inr rfl, ⟨Or.inr rfl, ⟨Or.inl rfl, True.intro⟩⟩⟩⟩
