/-! bodies by blocks -/
def VX9_firstUnlike_0 (D : Nat) (Q : Option Value → mI → mJ → Prop)  (v1 : Int32) (v2 : Int32) (MI : mI) (ML : mJ) : Prop := mEx D TX9_firstUnlike (mqS Q) (0, [some (.ref 15), some (.int v1), some (.int v2), none, none, none, none], [], (W0, Sh0, MI, ML))
def VX9_firstUnlike_17 (D : Nat) (Q : Option Value → mI → mJ → Prop)  (v1 : Int32) (v2 : Int32) (v3 : Int32) (v4 : Int32) (MI : mI) (ML : mJ) : Prop := mEx D TX9_firstUnlike (mqS Q) (17, [some (.ref 15), some (.int v1), some (.int v2), some (.int v3), some (.int v4), none, none], [], (W0, Sh0, MI, ML))
theorem BX9_firstUnlike_0 {D : Nat} {Q : Option Value → mI → mJ → Prop}  {v1 : Int32} {v2 : Int32} {MI : mI} {ML : mJ} 
    (h : ∃ (x3 : Int32) (M1 : mI) (N2 : mJ), mrc D 109 [.ref 10, .int v1] MI ML (some (.int x3)) M1 N2 ∧ (VX9_firstUnlike_17 D Q v1 v2 (if (nI 40) < x3 then (nI 40) else x3) (nI 0) M1 N2)) :
    VX9_firstUnlike_0 D Q v1 v2 MI ML := by
  show mEx D TX9_firstUnlike (mqS Q) (0, [some (.ref 15), some (.int v1), some (.int v2), none, none, none, none], [], (W0, Sh0, MI, ML))
  refine x_st rfl ?_
  refine x_gr (ci := 9) (k := 9) (nx := 4) rfl sh_15 rfl ?_
  refine x_st rfl ?_
  obtain ⟨x3, M1, N2, hc, h⟩ := h
  refine x_vi (y := 109) (n := 1) (ci := 8) (nx := 8) rfl (fun _ => rfl) sh_10 rfl hc ?_
  refine x_st rfl ?_
  refine x_st rfl ?_
  refine x_st rfl ?_
  refine x_st rfl ?_
  refine x_st rfl ?_
  refine x_kl ?_ h
  exact ⟨Or.inr rfl, ⟨Or.inr rfl, ⟨Or.inr rfl, ⟨Or.inr rfl, ⟨Or.inr rfl, ⟨Or.inl rfl, ⟨Or.inl rfl, True.intro⟩⟩⟩⟩⟩⟩⟩
theorem BX9_firstUnlike_17 {D : Nat} {Q : Option Value → mI → mJ → Prop}  {v1 : Int32} {v2 : Int32} {v3 : Int32} {v4 : Int32} {MI : mI} {ML : mJ} 
    (h : (v3 ≤ v4 → Q (some (.int (-2 : Int32))) MI ML) ∧ (¬ v3 ≤ v4 → ∃ (x3 : Int64) (M1 : mI) (N2 : mJ), mrc D 117 [.ref 10, .int v1, .int v4] MI ML (some (.long x3)) M1 N2 ∧ (∃ (x6 : Int32) (M4 : mI) (N5 : mJ), mrc D 96 [.ref 18, .ref 16, .ref 6] M1 N2 (some (.int x6)) M4 N5 ∧ (((lg_cmp x3 (9 : Int64)) = nI 0 → VX9_firstUnlike_17 D Q v1 v2 v3 (v4 + (nI 1)) M4 N5) ∧ (¬ (lg_cmp x3 (9 : Int64)) = nI 0 → ∃ (x9 : Int32) (M7 : mI) (N8 : mJ), mrc D 99 [.ref 18, .int v2] M4 N5 (some (.int x9)) M7 N8 ∧ (((lg_cmp x3 (x9).toInt64) = nI 0 → VX9_firstUnlike_17 D Q v1 v2 v3 (v4 + (nI 1)) M7 N8) ∧ (¬ (lg_cmp x3 (x9).toInt64) = nI 0 → Q (some (.int v4)) M7 N8))))))) :
    VX9_firstUnlike_17 D Q v1 v2 v3 v4 MI ML := by
  show mEx D TX9_firstUnlike (mqS Q) (17, [some (.ref 15), some (.int v1), some (.int v2), some (.int v3), some (.int v4), none, none], [], (W0, Sh0, MI, ML))
  refine x_st rfl ?_
  refine x_st rfl ?_
  refine x_br rfl (fun c => ?_) (fun c => ?_)
  · replace h := h.1 c
    refine x_st rfl ?_
    refine x_ret rfl ?_
    exact ⟨_, _, rfl, h⟩
  · replace h := h.2 c
    refine x_st rfl ?_
    refine x_gr (ci := 9) (k := 9) (nx := 27) rfl sh_15 rfl ?_
    refine x_st rfl ?_
    refine x_st rfl ?_
    obtain ⟨x3, M1, N2, hc, h⟩ := h
    refine x_vi (y := 117) (n := 2) (ci := 8) (nx := 33) rfl (fun _ => rfl) sh_10 rfl hc ?_
    refine x_st rfl ?_
    refine x_st rfl ?_
    refine x_gr (ci := 9) (k := 10) (nx := 39) rfl sh_15 rfl ?_
    refine x_st rfl ?_
    refine x_gr (ci := 9) (k := 0) (nx := 43) rfl sh_15 rfl ?_
    refine x_st rfl ?_
    refine x_gr (ci := 9) (k := 8) (nx := 47) rfl sh_15 rfl ?_
    obtain ⟨x6, M4, N5, hc, h⟩ := h
    refine x_vi (y := 96) (n := 2) (ci := 7) (nx := 50) rfl (fun _ => rfl) sh_18 rfl hc ?_
    refine x_st rfl ?_
    refine x_st rfl ?_
    refine x_st rfl ?_
    refine x_st rfl ?_
    refine x_br rfl (fun c => ?_) (fun c => ?_)
    · replace h := h.1 c
      refine x_st rfl ?_
      refine x_st rfl ?_
      refine x_kl ?_ h
      exact ⟨Or.inr rfl, ⟨Or.inr rfl, ⟨Or.inr rfl, ⟨Or.inr rfl, ⟨Or.inr rfl, ⟨Or.inl rfl, ⟨Or.inl rfl, True.intro⟩⟩⟩⟩⟩⟩⟩
    · replace h := h.2 c
      refine x_st rfl ?_
      refine x_st rfl ?_
      refine x_gr (ci := 9) (k := 10) (nx := 66) rfl sh_15 rfl ?_
      refine x_st rfl ?_
      obtain ⟨x9, M7, N8, hc, h⟩ := h
      refine x_vi (y := 99) (n := 1) (ci := 7) (nx := 70) rfl (fun _ => rfl) sh_18 rfl hc ?_
      refine x_st rfl ?_
      refine x_st rfl ?_
      refine x_br rfl (fun c => ?_) (fun c => ?_)
      · replace h := h.1 c
        refine x_st rfl ?_
        refine x_st rfl ?_
        refine x_kl ?_ h
        exact ⟨Or.inr rfl, ⟨Or.inr rfl, ⟨Or.inr rfl, ⟨Or.inr rfl, ⟨Or.inr rfl, ⟨Or.inl rfl, ⟨Or.inl rfl, True.intro⟩⟩⟩⟩⟩⟩⟩
      · replace h := h.2 c
        refine x_st rfl ?_
        refine x_ret rfl ?_
        exact ⟨_, _, rfl, h⟩
theorem EX9_firstUnlike {D : Nat} {Q : Option Value → mI → mJ → Prop}  {v1 : Int32} {v2 : Int32} {MI : mI} {ML : mJ} (h : VX9_firstUnlike_0 D Q v1 v2 MI ML) : ∃ v MI' ML', Q v MI' ML' ∧ mrc (D + 1) 126 [.ref 15, .int v1, .int v2] MI ML v MI' ML' := by
  refine x_en (n := 4) (T := TX9_firstUnlike) rfl rfl ?_
  refine x_kl ?_ h
  exact ⟨Or.inr rfl, ⟨Or.inr rfl, ⟨Or.inr rfl, ⟨Or.inl rfl, ⟨Or.inl rfl, ⟨Or.inl rfl, ⟨Or.inl rfl, True.intro⟩⟩⟩⟩⟩⟩⟩
def VX9_tryNumbers_0 (D : Nat) (Q : Option Value → mI → mJ → Prop)  (v1 : Int32) (v2 : Int32) (v3 : Int32) (v4 : Int32) (v5 : Int32) (MI : mI) (ML : mJ) : Prop := mEx D TX9_tryNumbers (mqS Q) (0, [some (.ref 15), some (.int v1), some (.int v2), some (.int v3), some (.int v4), some (.int v5), none], [], (W0, Sh0, MI, ML))
def VX9_tryNumbers_15 (D : Nat) (Q : Option Value → mI → mJ → Prop)  (v1 : Int32) (v2 : Int32) (v3 : Int32) (v4 : Int32) (v6 : Int32) (MI : mI) (ML : mJ) : Prop := mEx D TX9_tryNumbers (mqS Q) (15, [some (.ref 15), some (.int v1), some (.int v2), some (.int v3), some (.int v4), none, some (.int v6)], [], (W0, Sh0, MI, ML))
theorem BX9_tryNumbers_0 {D : Nat} {Q : Option Value → mI → mJ → Prop}  {v1 : Int32} {v2 : Int32} {v3 : Int32} {v4 : Int32} {v5 : Int32} {MI : mI} {ML : mJ} 
    (h : VX9_tryNumbers_15 D Q v1 v2 v3 v4 v5 (mup (mup MI 15 (mput (MI 15) 5 (nI 0))) 15 (mput ((mup MI 15 (mput (MI 15) 5 (nI 0))) 15) 6 v5)) ML) :
    VX9_tryNumbers_0 D Q v1 v2 v3 v4 v5 MI ML := by
  show mEx D TX9_tryNumbers (mqS Q) (0, [some (.ref 15), some (.int v1), some (.int v2), some (.int v3), some (.int v4), some (.int v5), none], [], (W0, Sh0, MI, ML))
  refine x_st rfl ?_
  refine x_st rfl ?_
  refine x_pi (ci := 9) (k := 5) (nx := 5) rfl sh_15 rfl ?_
  refine x_st rfl ?_
  refine x_st rfl ?_
  refine x_pi (ci := 9) (k := 6) (nx := 11) rfl sh_15 rfl ?_
  refine x_st rfl ?_
  refine x_st rfl ?_
  refine x_kl ?_ h
  exact ⟨Or.inr rfl, ⟨Or.inr rfl, ⟨Or.inr rfl, ⟨Or.inr rfl, ⟨Or.inr rfl, ⟨Or.inl rfl, ⟨Or.inr rfl, True.intro⟩⟩⟩⟩⟩⟩⟩
theorem BX9_tryNumbers_15 {D : Nat} {Q : Option Value → mI → mJ → Prop}  {v1 : Int32} {v2 : Int32} {v3 : Int32} {v4 : Int32} {v6 : Int32} {MI : mI} {ML : mJ} 
    (h : (v6 < v4 → Q none MI ML) ∧ (¬ v6 < v4 → ∃ (M1 : mI) (N2 : mJ), mrc D 122 [.ref 15] MI ML none M1 N2 ∧ (∃ (M3 : mI) (N4 : mJ), mrc D 10 [.ref 16, .int v3, .int v6] M1 N2 none M3 N4 ∧ (∃ (x7 : Int32) (M5 : mI) (N6 : mJ), mrc D 126 [.ref 15, .int v1, .int v2] M3 N4 (some (.int x7)) M5 N6 ∧ ((x7 = (-2 : Int32) → VX9_tryNumbers_15 D Q v1 v2 v3 v4 (v6 + (-1 : Int32)) (mup (mup M5 15 (mput (M5 15) 5 ((M5 15 5) + (nI 1)))) 15 (mput ((mup M5 15 (mput (M5 15) 5 ((M5 15 5) + (nI 1)))) 15) 6 v6)) N6) ∧ (¬ x7 = (-2 : Int32) → VX9_tryNumbers_15 D Q v1 v2 v3 v4 (v6 + (-1 : Int32)) M5 N6)))))) :
    VX9_tryNumbers_15 D Q v1 v2 v3 v4 v6 MI ML := by
  show mEx D TX9_tryNumbers (mqS Q) (15, [some (.ref 15), some (.int v1), some (.int v2), some (.int v3), some (.int v4), none, some (.int v6)], [], (W0, Sh0, MI, ML))
  refine x_st rfl ?_
  refine x_st rfl ?_
  refine x_br rfl (fun c => ?_) (fun c => ?_)
  · replace h := h.1 c
    refine x_ret rfl ?_
    exact ⟨_, _, rfl, h⟩
  · replace h := h.2 c
    refine x_st rfl ?_
    obtain ⟨M1, N2, hc, h⟩ := h
    refine x_vv (y := 122) (n := 0) (ci := 9) (nx := 26) rfl (fun _ => rfl) sh_15 rfl hc ?_
    refine x_st rfl ?_
    refine x_gr (ci := 9) (k := 0) (nx := 30) rfl sh_15 rfl ?_
    refine x_st rfl ?_
    refine x_st rfl ?_
    obtain ⟨M3, N4, hc, h⟩ := h
    refine x_vv (y := 10) (n := 2) (ci := 0) (nx := 36) rfl (fun _ => rfl) sh_16 rfl hc ?_
    refine x_st rfl ?_
    refine x_st rfl ?_
    refine x_st rfl ?_
    obtain ⟨x7, M5, N6, hc, h⟩ := h
    refine x_vi (y := 126) (n := 2) (ci := 9) (nx := 42) rfl (fun _ => rfl) sh_15 rfl hc ?_
    refine x_st rfl ?_
    refine x_br rfl (fun c => ?_) (fun c => ?_)
    · replace h := h.1 c
      refine x_st rfl ?_
      refine x_st rfl ?_
      refine x_gi (ci := 9) (k := 5) (nx := 52) rfl sh_15 rfl ?_
      refine x_st rfl ?_
      refine x_st rfl ?_
      refine x_pi (ci := 9) (k := 5) (nx := 57) rfl sh_15 rfl ?_
      refine x_st rfl ?_
      refine x_st rfl ?_
      refine x_pi (ci := 9) (k := 6) (nx := 63) rfl sh_15 rfl ?_
      refine x_st rfl ?_
      refine x_st rfl ?_
      refine x_kl ?_ h
      exact ⟨Or.inr rfl, ⟨Or.inr rfl, ⟨Or.inr rfl, ⟨Or.inr rfl, ⟨Or.inr rfl, ⟨Or.inl rfl, ⟨Or.inr rfl, True.intro⟩⟩⟩⟩⟩⟩⟩
    · replace h := h.2 c
      refine x_st rfl ?_
      refine x_st rfl ?_
      refine x_kl ?_ h
      exact ⟨Or.inr rfl, ⟨Or.inr rfl, ⟨Or.inr rfl, ⟨Or.inr rfl, ⟨Or.inr rfl, ⟨Or.inl rfl, ⟨Or.inr rfl, True.intro⟩⟩⟩⟩⟩⟩⟩
theorem EX9_tryNumbers {D : Nat} {Q : Option Value → mI → mJ → Prop}  {v1 : Int32} {v2 : Int32} {v3 : Int32} {v4 : Int32} {v5 : Int32} {MI : mI} {ML : mJ} (h : VX9_tryNumbers_0 D Q v1 v2 v3 v4 v5 MI ML) : ∃ v MI' ML', Q v MI' ML' ∧ mrc (D + 1) 127 [.ref 15, .int v1, .int v2, .int v3, .int v4, .int v5] MI ML v MI' ML' := by
  refine x_en (n := 1) (T := TX9_tryNumbers) rfl rfl ?_
  refine x_kl ?_ h
  exact ⟨Or.inr rfl, ⟨Or.inr rfl, ⟨Or.inr rfl, ⟨Or.inr rfl, ⟨Or.inr rfl, ⟨Or.inr rfl, ⟨Or.inl rfl, True.intro⟩⟩⟩⟩⟩⟩⟩
def VX9_playTurns_0 (D : Nat) (Q : Option Value → mI → mJ → Prop)  (v1 : Int32) (v2 : Int32) (v3 : Int32) (MI : mI) (ML : mJ) : Prop := mEx D TX9_playTurns (mqS Q) (0, [some (.ref 15), some (.int v1), some (.int v2), some (.int v3), none, none, none], [], (W0, Sh0, MI, ML))
def VX9_playTurns_3 (D : Nat) (Q : Option Value → mI → mJ → Prop)  (v1 : Int32) (v2 : Int32) (v3 : Int32) (v4 : Int32) (MI : mI) (ML : mJ) : Prop := mEx D TX9_playTurns (mqS Q) (3, [some (.ref 15), some (.int v1), some (.int v2), some (.int v3), some (.int v4), none, none], [], (W0, Sh0, MI, ML))
def VX9_playTurns_60 (D : Nat) (Q : Option Value → mI → mJ → Prop)  (v1 : Int32) (v2 : Int32) (v4 : Int32) (MI : mI) (ML : mJ) : Prop := mEx D TX9_playTurns (mqS Q) (60, [some (.ref 15), some (.int v1), some (.int v2), none, some (.int v4), none, none], [], (W0, Sh0, MI, ML))
theorem BX9_playTurns_0 {D : Nat} {Q : Option Value → mI → mJ → Prop}  {v1 : Int32} {v2 : Int32} {v3 : Int32} {MI : mI} {ML : mJ} 
    (h : VX9_playTurns_3 D Q v1 v2 v3 (nI 0) MI ML) :
    VX9_playTurns_0 D Q v1 v2 v3 MI ML := by
  show mEx D TX9_playTurns (mqS Q) (0, [some (.ref 15), some (.int v1), some (.int v2), some (.int v3), none, none, none], [], (W0, Sh0, MI, ML))
  refine x_st rfl ?_
  refine x_st rfl ?_
  refine x_kl ?_ h
  exact ⟨Or.inr rfl, ⟨Or.inr rfl, ⟨Or.inr rfl, ⟨Or.inr rfl, ⟨Or.inr rfl, ⟨Or.inl rfl, ⟨Or.inl rfl, True.intro⟩⟩⟩⟩⟩⟩⟩
theorem BX9_playTurns_3 {D : Nat} {Q : Option Value → mI → mJ → Prop}  {v1 : Int32} {v2 : Int32} {v3 : Int32} {v4 : Int32} {MI : mI} {ML : mJ} 
    (h : ((nI 19) ≤ v4 → VX9_playTurns_60 D Q v1 v2 (v3 - (nI 1)) MI ML) ∧ (¬ (nI 19) ≤ v4 → ∃ (M1 : mI) (N2 : mJ), mrc D 122 [.ref 15] MI ML none M1 N2 ∧ (∃ (M3 : mI) (N4 : mJ), mrc D 15 [.ref 16, .int v2, .int v1, .int (v4 - (nI 9))] M1 N2 none M3 N4 ∧ (∃ (x7 : Int32) (M5 : mI) (N6 : mJ), mrc D 123 [.ref 15, .int (nI 1)] M3 N4 (some (.int x7)) M5 N6 ∧ (∃ (x10 : Int32) (M8 : mI) (N9 : mJ), mrc D 11 [.ref 16, .int v1] M5 N6 (some (.int x10)) M8 N9 ∧ (∃ i11 : Nat, v4 = nI i11 ∧ i11 < 19 ∧ (VX9_playTurns_3 D Q v1 v2 v3 (v4 + (nI 1)) (mup M8 23 (mput (M8 23) i11 x10)) N9))))))) :
    VX9_playTurns_3 D Q v1 v2 v3 v4 MI ML := by
  show mEx D TX9_playTurns (mqS Q) (3, [some (.ref 15), some (.int v1), some (.int v2), some (.int v3), some (.int v4), none, none], [], (W0, Sh0, MI, ML))
  refine x_st rfl ?_
  refine x_st rfl ?_
  refine x_br rfl (fun c => ?_) (fun c => ?_)
  · replace h := h.1 c
    refine x_st rfl ?_
    refine x_st rfl ?_
    refine x_st rfl ?_
    refine x_st rfl ?_
    refine x_kl ?_ h
    exact ⟨Or.inr rfl, ⟨Or.inr rfl, ⟨Or.inr rfl, ⟨Or.inl rfl, ⟨Or.inr rfl, ⟨Or.inl rfl, ⟨Or.inl rfl, True.intro⟩⟩⟩⟩⟩⟩⟩
  · replace h := h.2 c
    refine x_st rfl ?_
    obtain ⟨M1, N2, hc, h⟩ := h
    refine x_vv (y := 122) (n := 0) (ci := 9) (nx := 14) rfl (fun _ => rfl) sh_15 rfl hc ?_
    refine x_st rfl ?_
    refine x_gr (ci := 9) (k := 0) (nx := 18) rfl sh_15 rfl ?_
    refine x_st rfl ?_
    refine x_st rfl ?_
    refine x_st rfl ?_
    refine x_st rfl ?_
    refine x_st rfl ?_
    obtain ⟨M3, N4, hc, h⟩ := h
    refine x_vv (y := 15) (n := 3) (ci := 0) (nx := 28) rfl (fun _ => rfl) sh_16 rfl hc ?_
    refine x_st rfl ?_
    refine x_st rfl ?_
    obtain ⟨x7, M5, N6, hc, h⟩ := h
    refine x_vi (y := 123) (n := 1) (ci := 9) (nx := 33) rfl (fun _ => rfl) sh_15 rfl hc ?_
    refine x_st rfl ?_
    refine x_st rfl ?_
    refine x_gr (ci := 9) (k := 11) (nx := 38) rfl sh_15 rfl ?_
    refine x_st rfl ?_
    refine x_st rfl ?_
    refine x_gr (ci := 9) (k := 0) (nx := 44) rfl sh_15 rfl ?_
    refine x_st rfl ?_
    obtain ⟨x10, M8, N9, hc, h⟩ := h
    refine x_vi (y := 11) (n := 1) (ci := 0) (nx := 48) rfl (fun _ => rfl) sh_16 rfl hc ?_
    obtain ⟨i11, hx, hi, h⟩ := h
    refine x_iast (i := i11) (nx := 49) rfl sh_23 hx hi (by decide) ?_
    refine x_st rfl ?_
    refine x_st rfl ?_
    refine x_kl ?_ h
    exact ⟨Or.inr rfl, ⟨Or.inr rfl, ⟨Or.inr rfl, ⟨Or.inr rfl, ⟨Or.inr rfl, ⟨Or.inl rfl, ⟨Or.inl rfl, True.intro⟩⟩⟩⟩⟩⟩⟩
theorem BX9_playTurns_60 {D : Nat} {Q : Option Value → mI → mJ → Prop}  {v1 : Int32} {v2 : Int32} {v4 : Int32} {MI : mI} {ML : mJ} 
    (h : (v4 ≤ nI 0 → ∃ (x3 : Int32) (M1 : mI) (N2 : mJ), mrc D 14 [.ref 1, .int v2, .int v1] MI ML (some (.int x3)) M1 N2 ∧ (∃ (x6 : Int32) (M4 : mI) (N5 : mJ), mrc D 131 [.ref 15, .int x3] M1 N2 (some (.int x6)) M4 N5 ∧ (∃ (x9 : Int32) (M7 : mI) (N8 : mJ), mrc D 131 [.ref 15, .int (x3 - (nI 2))] M4 N5 (some (.int x9)) M7 N8 ∧ ((x6 ≤ x9 → Q none (mup (mup M7 15 (mput (M7 15) 4 (nI 0))) 15 (mput ((mup M7 15 (mput (M7 15) 4 (nI 0))) 15) 3 (if x6 < x9 then x6 else x9))) N8) ∧ (¬ x6 ≤ x9 → Q none (mup (mup M7 15 (mput (M7 15) 4 (nI 1))) 15 (mput ((mup M7 15 (mput (M7 15) 4 (nI 1))) 15) 3 (if x6 < x9 then x6 else x9))) N8))))) ∧ (¬ v4 ≤ nI 0 → ((v4 - v4 / (nI 2) * (nI 2)) = nI 0 → ∃ (M10 : mI) (N11 : mJ), mrc D 129 [.ref 15] MI ML none M10 N11 ∧ (VX9_playTurns_60 D Q v1 v2 (v4 + (-1 : Int32)) M10 N11)) ∧ (¬ (v4 - v4 / (nI 2) * (nI 2)) = nI 0 → ∃ (M12 : mI) (N13 : mJ), mrc D 130 [.ref 15] MI ML none M12 N13 ∧ (VX9_playTurns_60 D Q v1 v2 (v4 + (-1 : Int32)) M12 N13)))) :
    VX9_playTurns_60 D Q v1 v2 v4 MI ML := by
  show mEx D TX9_playTurns (mqS Q) (60, [some (.ref 15), some (.int v1), some (.int v2), none, some (.int v4), none, none], [], (W0, Sh0, MI, ML))
  refine x_st rfl ?_
  refine x_br rfl (fun c => ?_) (fun c => ?_)
  · replace h := h.1 c
    refine x_st rfl ?_
    refine x_gr (ci := 9) (k := 7) (nx := 93) rfl sh_15 rfl ?_
    refine x_st rfl ?_
    refine x_st rfl ?_
    obtain ⟨x3, M1, N2, hc, h⟩ := h
    refine x_vi (y := 14) (n := 2) (ci := 0) (nx := 98) rfl (fun _ => rfl) sh_1 rfl hc ?_
    refine x_st rfl ?_
    refine x_st rfl ?_
    refine x_st rfl ?_
    obtain ⟨x6, M4, N5, hc, h⟩ := h
    refine x_vi (y := 131) (n := 1) (ci := 9) (nx := 106) rfl (fun _ => rfl) sh_15 rfl hc ?_
    refine x_st rfl ?_
    refine x_st rfl ?_
    refine x_st rfl ?_
    refine x_st rfl ?_
    refine x_st rfl ?_
    obtain ⟨x9, M7, N8, hc, h⟩ := h
    refine x_vi (y := 131) (n := 1) (ci := 9) (nx := 116) rfl (fun _ => rfl) sh_15 rfl hc ?_
    refine x_st rfl ?_
    refine x_st rfl ?_
    refine x_st rfl ?_
    refine x_st rfl ?_
    refine x_br rfl (fun c => ?_) (fun c => ?_)
    · replace h := h.1 c
      refine x_st rfl ?_
      refine x_pi (ci := 9) (k := 4) (nx := 134) rfl sh_15 rfl ?_
      refine x_st rfl ?_
      refine x_st rfl ?_
      refine x_st rfl ?_
      refine x_st rfl ?_
      refine x_pi (ci := 9) (k := 3) (nx := 145) rfl sh_15 rfl ?_
      refine x_ret rfl ?_
      exact ⟨_, _, rfl, h⟩
    · replace h := h.2 c
      refine x_st rfl ?_
      refine x_st rfl ?_
      refine x_pi (ci := 9) (k := 4) (nx := 134) rfl sh_15 rfl ?_
      refine x_st rfl ?_
      refine x_st rfl ?_
      refine x_st rfl ?_
      refine x_st rfl ?_
      refine x_pi (ci := 9) (k := 3) (nx := 145) rfl sh_15 rfl ?_
      refine x_ret rfl ?_
      exact ⟨_, _, rfl, h⟩
  · replace h := h.2 c
    refine x_st rfl ?_
    refine x_st rfl ?_
    refine x_st rfl ?_
    refine x_br rfl (fun c => ?_) (fun c => ?_)
    · replace h := h.1 c
      refine x_st rfl ?_
      obtain ⟨M10, N11, hc, h⟩ := h
      refine x_vv (y := 129) (n := 0) (ci := 9) (nx := 76) rfl (fun _ => rfl) sh_15 rfl hc ?_
      refine x_st rfl ?_
      refine x_st rfl ?_
      refine x_st rfl ?_
      refine x_kl ?_ h
      exact ⟨Or.inr rfl, ⟨Or.inr rfl, ⟨Or.inr rfl, ⟨Or.inl rfl, ⟨Or.inr rfl, ⟨Or.inl rfl, ⟨Or.inl rfl, True.intro⟩⟩⟩⟩⟩⟩⟩
    · replace h := h.2 c
      refine x_st rfl ?_
      obtain ⟨M12, N13, hc, h⟩ := h
      refine x_vv (y := 130) (n := 0) (ci := 9) (nx := 83) rfl (fun _ => rfl) sh_15 rfl hc ?_
      refine x_st rfl ?_
      refine x_st rfl ?_
      refine x_kl ?_ h
      exact ⟨Or.inr rfl, ⟨Or.inr rfl, ⟨Or.inr rfl, ⟨Or.inl rfl, ⟨Or.inr rfl, ⟨Or.inl rfl, ⟨Or.inl rfl, True.intro⟩⟩⟩⟩⟩⟩⟩
theorem EX9_playTurns {D : Nat} {Q : Option Value → mI → mJ → Prop}  {v1 : Int32} {v2 : Int32} {v3 : Int32} {MI : mI} {ML : mJ} (h : VX9_playTurns_0 D Q v1 v2 v3 MI ML) : ∃ v MI' ML', Q v MI' ML' ∧ mrc (D + 1) 128 [.ref 15, .int v1, .int v2, .int v3] MI ML v MI' ML' := by
  refine x_en (n := 3) (T := TX9_playTurns) rfl rfl ?_
  refine x_kl ?_ h
  exact ⟨Or.inr rfl, ⟨Or.inr rfl, ⟨Or.inr rfl, ⟨Or.inr rfl, ⟨Or.inl rfl, ⟨Or.inl rfl, ⟨Or.inl rfl, True.intro⟩⟩⟩⟩⟩⟩⟩
def VX9_playWrong_0 (D : Nat) (Q : Option Value → mI → mJ → Prop)  (MI : mI) (ML : mJ) : Prop := mEx D TX9_playWrong (mqS Q) (0, [some (.ref 15), none], [], (W0, Sh0, MI, ML))
def VX9_playWrong_3 (D : Nat) (Q : Option Value → mI → mJ → Prop)  (v1 : Int32) (MI : mI) (ML : mJ) : Prop := mEx D TX9_playWrong (mqS Q) (3, [some (.ref 15), some (.int v1)], [], (W0, Sh0, MI, ML))
theorem BX9_playWrong_0 {D : Nat} {Q : Option Value → mI → mJ → Prop}  {MI : mI} {ML : mJ} 
    (h : VX9_playWrong_3 D Q (nI 18) MI ML) :
    VX9_playWrong_0 D Q  MI ML := by
  show mEx D TX9_playWrong (mqS Q) (0, [some (.ref 15), none], [], (W0, Sh0, MI, ML))
  refine x_st rfl ?_
  refine x_st rfl ?_
  refine x_kl ?_ h
  exact ⟨Or.inr rfl, ⟨Or.inr rfl, True.intro⟩⟩
theorem BX9_playWrong_3 {D : Nat} {Q : Option Value → mI → mJ → Prop}  {v1 : Int32} {MI : mI} {ML : mJ} 
    (h : (v1 < nI 0 → Q none MI ML) ∧ (¬ v1 < nI 0 → ∃ i1 : Nat, v1 = nI i1 ∧ i1 < 19 ∧ (∃ (x4 : Int32) (M2 : mI) (N3 : mJ), mrc D 131 [.ref 15, .int ((v1 - (nI 9)) - (nI 2))] MI ML (some (.int x4)) M2 N3 ∧ (∃ i5 : Nat, v1 = nI i5 ∧ i5 < 19 ∧ (VX9_playWrong_3 D Q (v1 + (-1 : Int32)) (mup M2 23 (mput (M2 23) i5 (if x4 < (MI 23 i1) then x4 else (MI 23 i1)))) N3))))) :
    VX9_playWrong_3 D Q v1 MI ML := by
  show mEx D TX9_playWrong (mqS Q) (3, [some (.ref 15), some (.int v1)], [], (W0, Sh0, MI, ML))
  refine x_st rfl ?_
  refine x_br rfl (fun c => ?_) (fun c => ?_)
  · replace h := h.1 c
    refine x_ret rfl ?_
    exact ⟨_, _, rfl, h⟩
  · replace h := h.2 c
    refine x_st rfl ?_
    refine x_gr (ci := 9) (k := 11) (nx := 11) rfl sh_15 rfl ?_
    refine x_st rfl ?_
    refine x_st rfl ?_
    refine x_gr (ci := 9) (k := 11) (nx := 16) rfl sh_15 rfl ?_
    refine x_st rfl ?_
    obtain ⟨i1, hx, hi, h⟩ := h
    refine x_ia (i := i1) (nx := 18) rfl sh_23 hx hi (by decide) ?_
    refine x_st rfl ?_
    refine x_st rfl ?_
    refine x_st rfl ?_
    refine x_st rfl ?_
    refine x_st rfl ?_
    refine x_st rfl ?_
    obtain ⟨x4, M2, N3, hc, h⟩ := h
    refine x_vi (y := 131) (n := 1) (ci := 9) (nx := 28) rfl (fun _ => rfl) sh_15 rfl hc ?_
    refine x_st rfl ?_
    obtain ⟨i5, hx, hi, h⟩ := h
    refine x_iast (i := i5) (nx := 32) rfl sh_23 hx hi (by decide) ?_
    refine x_st rfl ?_
    refine x_st rfl ?_
    refine x_kl ?_ h
    exact ⟨Or.inr rfl, ⟨Or.inr rfl, True.intro⟩⟩
theorem EX9_playWrong {D : Nat} {Q : Option Value → mI → mJ → Prop}  {MI : mI} {ML : mJ} (h : VX9_playWrong_0 D Q  MI ML) : ∃ v MI' ML', Q v MI' ML' ∧ mrc (D + 1) 129 [.ref 15] MI ML v MI' ML' := by
  refine x_en (n := 1) (T := TX9_playWrong) rfl rfl ?_
  refine x_kl ?_ h
  exact ⟨Or.inr rfl, ⟨Or.inl rfl, True.intro⟩⟩
def VX9_playForgive_0 (D : Nat) (Q : Option Value → mI → mJ → Prop)  (MI : mI) (ML : mJ) : Prop := mEx D TX9_playForgive (mqS Q) (0, [some (.ref 15), none], [], (W0, Sh0, MI, ML))
def VX9_playForgive_2 (D : Nat) (Q : Option Value → mI → mJ → Prop)  (v1 : Int32) (MI : mI) (ML : mJ) : Prop := mEx D TX9_playForgive (mqS Q) (2, [some (.ref 15), some (.int v1)], [], (W0, Sh0, MI, ML))
theorem BX9_playForgive_0 {D : Nat} {Q : Option Value → mI → mJ → Prop}  {MI : mI} {ML : mJ} 
    (h : VX9_playForgive_2 D Q (nI 0) MI ML) :
    VX9_playForgive_0 D Q  MI ML := by
  show mEx D TX9_playForgive (mqS Q) (0, [some (.ref 15), none], [], (W0, Sh0, MI, ML))
  refine x_st rfl ?_
  refine x_st rfl ?_
  refine x_kl ?_ h
  exact ⟨Or.inr rfl, ⟨Or.inr rfl, True.intro⟩⟩
theorem BX9_playForgive_2 {D : Nat} {Q : Option Value → mI → mJ → Prop}  {v1 : Int32} {MI : mI} {ML : mJ} 
    (h : ((nI 19) ≤ v1 → Q none MI ML) ∧ (¬ (nI 19) ≤ v1 → ∃ i1 : Nat, v1 = nI i1 ∧ i1 < 19 ∧ (∃ (x4 : Int32) (M2 : mI) (N3 : mJ), mrc D 131 [.ref 15, .int ((v1 - (nI 9)) + (nI 2))] MI ML (some (.int x4)) M2 N3 ∧ (∃ i5 : Nat, v1 = nI i5 ∧ i5 < 19 ∧ (VX9_playForgive_2 D Q (v1 + (nI 1)) (mup M2 23 (mput (M2 23) i5 (if (MI 23 i1) < x4 then x4 else (MI 23 i1)))) N3))))) :
    VX9_playForgive_2 D Q v1 MI ML := by
  show mEx D TX9_playForgive (mqS Q) (2, [some (.ref 15), some (.int v1)], [], (W0, Sh0, MI, ML))
  refine x_st rfl ?_
  refine x_st rfl ?_
  refine x_br rfl (fun c => ?_) (fun c => ?_)
  · replace h := h.1 c
    refine x_ret rfl ?_
    exact ⟨_, _, rfl, h⟩
  · replace h := h.2 c
    refine x_st rfl ?_
    refine x_gr (ci := 9) (k := 11) (nx := 12) rfl sh_15 rfl ?_
    refine x_st rfl ?_
    refine x_st rfl ?_
    refine x_gr (ci := 9) (k := 11) (nx := 17) rfl sh_15 rfl ?_
    refine x_st rfl ?_
    obtain ⟨i1, hx, hi, h⟩ := h
    refine x_ia (i := i1) (nx := 19) rfl sh_23 hx hi (by decide) ?_
    refine x_st rfl ?_
    refine x_st rfl ?_
    refine x_st rfl ?_
    refine x_st rfl ?_
    refine x_st rfl ?_
    refine x_st rfl ?_
    obtain ⟨x4, M2, N3, hc, h⟩ := h
    refine x_vi (y := 131) (n := 1) (ci := 9) (nx := 29) rfl (fun _ => rfl) sh_15 rfl hc ?_
    refine x_st rfl ?_
    obtain ⟨i5, hx, hi, h⟩ := h
    refine x_iast (i := i5) (nx := 33) rfl sh_23 hx hi (by decide) ?_
    refine x_st rfl ?_
    refine x_st rfl ?_
    refine x_kl ?_ h
    exact ⟨Or.inr rfl, ⟨Or.inr rfl, True.intro⟩⟩
theorem EX9_playForgive {D : Nat} {Q : Option Value → mI → mJ → Prop}  {MI : mI} {ML : mJ} (h : VX9_playForgive_0 D Q  MI ML) : ∃ v MI' ML', Q v MI' ML' ∧ mrc (D + 1) 130 [.ref 15] MI ML v MI' ML' := by
  refine x_en (n := 1) (T := TX9_playForgive) rfl rfl ?_
  refine x_kl ?_ h
  exact ⟨Or.inr rfl, ⟨Or.inl rfl, True.intro⟩⟩
def VX9_hungerAt_0 (D : Nat) (Q : Option Value → mI → mJ → Prop)  (v1 : Int32) (MI : mI) (ML : mJ) : Prop := mEx D TX9_hungerAt (mqS Q) (0, [some (.ref 15), some (.int v1), none], [], (W0, Sh0, MI, ML))
theorem BX9_hungerAt_0 {D : Nat} {Q : Option Value → mI → mJ → Prop}  {v1 : Int32} {MI : mI} {ML : mJ} 
    (h : ∃ i1 : Nat, ((if (-9 : Int32) < (if (nI 9) < v1 then (nI 9) else v1) then (if (nI 9) < v1 then (nI 9) else v1) else (-9 : Int32)) + (nI 9)) = nI i1 ∧ i1 < 19 ∧ (Q (some (.int (MI 23 i1))) MI ML)) :
    VX9_hungerAt_0 D Q v1 MI ML := by
  show mEx D TX9_hungerAt (mqS Q) (0, [some (.ref 15), some (.int v1), none], [], (W0, Sh0, MI, ML))
  refine x_st rfl ?_
  refine x_st rfl ?_
  refine x_st rfl ?_
  refine x_st rfl ?_
  refine x_st rfl ?_
  refine x_st rfl ?_
  refine x_st rfl ?_
  refine x_gr (ci := 9) (k := 11) (nx := 16) rfl sh_15 rfl ?_
  refine x_st rfl ?_
  refine x_st rfl ?_
  refine x_st rfl ?_
  obtain ⟨i1, hx, hi, h⟩ := h
  refine x_ia (i := i1) (nx := 21) rfl sh_23 hx hi (by decide) ?_
  refine x_ret rfl ?_
  exact ⟨_, _, rfl, h⟩
theorem EX9_hungerAt {D : Nat} {Q : Option Value → mI → mJ → Prop}  {v1 : Int32} {MI : mI} {ML : mJ} (h : VX9_hungerAt_0 D Q v1 MI ML) : ∃ v MI' ML', Q v MI' ML' ∧ mrc (D + 1) 131 [.ref 15, .int v1] MI ML v MI' ML' := by
  refine x_en (n := 1) (T := TX9_hungerAt) rfl rfl ?_
  refine x_kl ?_ h
  exact ⟨Or.inr rfl, ⟨Or.inr rfl, ⟨Or.inl rfl, True.intro⟩⟩⟩
def VX9_drawBazaars_0 (D : Nat) (Q : Option Value → mI → mJ → Prop)  (v1 : Int32) (v2 : Int32) (v3 : Int32) (v4 : Int32) (v5 : Int32) (MI : mI) (ML : mJ) : Prop := mEx D TX9_drawBazaars (mqS Q) (0, [some (.ref 15), some (.int v1), some (.int v2), some (.int v3), some (.int v4), some (.int v5), none, none, none, none, none], [], (W0, Sh0, MI, ML))
def VX9_drawBazaars_12 (D : Nat) (Q : Option Value → mI → mJ → Prop)  (v2 : Int32) (v3 : Int32) (v4 : Int32) (v5 : Int32) (v6 : Int32) (v7 : Int32) (v8 : Int32) (v9 : Int32) (MI : mI) (ML : mJ) : Prop := mEx D TX9_drawBazaars (mqS Q) (12, [some (.ref 15), none, some (.int v2), some (.int v3), some (.int v4), some (.int v5), some (.int v6), some (.int v7), some (.int v8), some (.int v9), none], [], (W0, Sh0, MI, ML))
def VX9_drawBazaars_25 (D : Nat) (Q : Option Value → mI → mJ → Prop)  (v2 : Int32) (v3 : Int32) (v4 : Int32) (v5 : Int32) (v6 : Int32) (v7 : Int32) (v8 : Int32) (v9 : Int32) (v10 : Int32) (MI : mI) (ML : mJ) : Prop := mEx D TX9_drawBazaars (mqS Q) (25, [some (.ref 15), none, some (.int v2), some (.int v3), some (.int v4), some (.int v5), some (.int v6), some (.int v7), some (.int v8), some (.int v9), some (.int v10)], [], (W0, Sh0, MI, ML))
def VX9_drawBazaars_61 (D : Nat) (Q : Option Value → mI → mJ → Prop)  (v2 : Int32) (v3 : Int32) (v4 : Int32) (v5 : Int32) (v6 : Int32) (v7 : Int32) (v8 : Int32) (v9 : Int32) (v10 : Int32) (MI : mI) (ML : mJ) : Prop := mEx D TX9_drawBazaars (mqS Q) (61, [some (.ref 15), none, some (.int v2), some (.int v3), some (.int v4), some (.int v5), some (.int v6), some (.int v7), some (.int v8), some (.int v9), some (.int v10)], [], (W0, Sh0, MI, ML))
theorem BX9_drawBazaars_0 {D : Nat} {Q : Option Value → mI → mJ → Prop}  {v1 : Int32} {v2 : Int32} {v3 : Int32} {v4 : Int32} {v5 : Int32} {MI : mI} {ML : mJ} 
    (h : VX9_drawBazaars_12 D Q v2 v3 v4 v5 v1 (nI 0) (nI 0) (nI 0) MI ML) :
    VX9_drawBazaars_0 D Q v1 v2 v3 v4 v5 MI ML := by
  show mEx D TX9_drawBazaars (mqS Q) (0, [some (.ref 15), some (.int v1), some (.int v2), some (.int v3), some (.int v4), some (.int v5), none, none, none, none, none], [], (W0, Sh0, MI, ML))
  refine x_st rfl ?_
  refine x_st rfl ?_
  refine x_st rfl ?_
  refine x_st rfl ?_
  refine x_st rfl ?_
  refine x_st rfl ?_
  refine x_st rfl ?_
  refine x_st rfl ?_
  refine x_kl ?_ h
  exact ⟨Or.inr rfl, ⟨Or.inl rfl, ⟨Or.inr rfl, ⟨Or.inr rfl, ⟨Or.inr rfl, ⟨Or.inr rfl, ⟨Or.inr rfl, ⟨Or.inr rfl, ⟨Or.inr rfl, ⟨Or.inr rfl, ⟨Or.inl rfl, True.intro⟩⟩⟩⟩⟩⟩⟩⟩⟩⟩⟩
theorem BX9_drawBazaars_12 {D : Nat} {Q : Option Value → mI → mJ → Prop}  {v2 : Int32} {v3 : Int32} {v4 : Int32} {v5 : Int32} {v6 : Int32} {v7 : Int32} {v8 : Int32} {v9 : Int32} {MI : mI} {ML : mJ} 
    (h : (v2 ≤ v9 → (v5 = (-1 : Int32) → Q (some (.int v8)) MI ML) ∧ (¬ v5 = (-1 : Int32) → Q (some (.int v7)) MI ML)) ∧ (¬ v2 ≤ v9 → ∃ (M1 : mI) (N2 : mJ), mrc D 122 [.ref 15] MI ML none M1 N2 ∧ (VX9_drawBazaars_25 D Q v2 v3 v4 v5 v6 v7 v8 v9 (nI 0) M1 N2))) :
    VX9_drawBazaars_12 D Q v2 v3 v4 v5 v6 v7 v8 v9 MI ML := by
  show mEx D TX9_drawBazaars (mqS Q) (12, [some (.ref 15), none, some (.int v2), some (.int v3), some (.int v4), some (.int v5), some (.int v6), some (.int v7), some (.int v8), some (.int v9), none], [], (W0, Sh0, MI, ML))
  refine x_st rfl ?_
  refine x_st rfl ?_
  refine x_br rfl (fun c => ?_) (fun c => ?_)
  · replace h := h.1 c
    refine x_st rfl ?_
    refine x_st rfl ?_
    refine x_br rfl (fun c => ?_) (fun c => ?_)
    · replace h := h.1 c
      refine x_st rfl ?_
      refine x_st rfl ?_
      refine x_ret rfl ?_
      exact ⟨_, _, rfl, h⟩
    · replace h := h.2 c
      refine x_st rfl ?_
      refine x_ret rfl ?_
      exact ⟨_, _, rfl, h⟩
  · replace h := h.2 c
    refine x_st rfl ?_
    obtain ⟨M1, N2, hc, h⟩ := h
    refine x_vv (y := 122) (n := 0) (ci := 9) (nx := 22) rfl (fun _ => rfl) sh_15 rfl hc ?_
    refine x_st rfl ?_
    refine x_st rfl ?_
    refine x_kl ?_ h
    exact ⟨Or.inr rfl, ⟨Or.inl rfl, ⟨Or.inr rfl, ⟨Or.inr rfl, ⟨Or.inr rfl, ⟨Or.inr rfl, ⟨Or.inr rfl, ⟨Or.inr rfl, ⟨Or.inr rfl, ⟨Or.inr rfl, ⟨Or.inr rfl, True.intro⟩⟩⟩⟩⟩⟩⟩⟩⟩⟩⟩
theorem BX9_drawBazaars_25 {D : Nat} {Q : Option Value → mI → mJ → Prop}  {v2 : Int32} {v3 : Int32} {v4 : Int32} {v5 : Int32} {v6 : Int32} {v7 : Int32} {v8 : Int32} {v9 : Int32} {v10 : Int32} {MI : mI} {ML : mJ} 
    (h : (v3 ≤ v10 → ∃ (x3 : Int32) (M1 : mI) (N2 : mJ), mrc D 11 [.ref 16, .int v5] MI ML (some (.int x3)) M1 N2 ∧ (VX9_drawBazaars_12 D Q v2 v3 v4 v5 v6 (v7 + x3) v8 (v9 + (nI 1)) M1 N2)) ∧ (¬ v3 ≤ v10 → ∀ z4 : Int32, z4 = v6 * (1103515245 : Int32) → ((v4 ≤ (((((z4 + (nI 12345))).toUInt32 >>> (((nI 16)).toUInt32 &&& Int32.toUInt32 31)).toInt32) - ((((z4 + (nI 12345))).toUInt32 >>> (((nI 16)).toUInt32 &&& Int32.toUInt32 31)).toInt32) / (nI 12) * (nI 12)) → VX9_drawBazaars_61 D Q v2 v3 v4 v5 (z4 + (nI 12345)) v7 v8 v9 v10 MI ML) ∧ (¬ v4 ≤ (((((z4 + (nI 12345))).toUInt32 >>> (((nI 16)).toUInt32 &&& Int32.toUInt32 31)).toInt32) - ((((z4 + (nI 12345))).toUInt32 >>> (((nI 16)).toUInt32 &&& Int32.toUInt32 31)).toInt32) / (nI 12) * (nI 12)) → ∃ (M5 : mI) (N6 : mJ), mrc D 133 [.ref 15, .int (z4 + (nI 12345))] MI ML none M5 N6 ∧ (VX9_drawBazaars_61 D Q v2 v3 v4 v5 (z4 + (nI 12345)) v7 v8 v9 v10 M5 N6))))) :
    VX9_drawBazaars_25 D Q v2 v3 v4 v5 v6 v7 v8 v9 v10 MI ML := by
  show mEx D TX9_drawBazaars (mqS Q) (25, [some (.ref 15), none, some (.int v2), some (.int v3), some (.int v4), some (.int v5), some (.int v6), some (.int v7), some (.int v8), some (.int v9), some (.int v10)], [], (W0, Sh0, MI, ML))
  refine x_st rfl ?_
  refine x_st rfl ?_
  refine x_br rfl (fun c => ?_) (fun c => ?_)
  · replace h := h.1 c
    refine x_st rfl ?_
    refine x_st rfl ?_
    refine x_gr (ci := 9) (k := 0) (nx := 83) rfl sh_15 rfl ?_
    refine x_st rfl ?_
    obtain ⟨x3, M1, N2, hc, h⟩ := h
    refine x_vi (y := 11) (n := 1) (ci := 0) (nx := 88) rfl (fun _ => rfl) sh_16 rfl hc ?_
    refine x_st rfl ?_
    refine x_st rfl ?_
    refine x_st rfl ?_
    refine x_st rfl ?_
    refine x_kl ?_ h
    exact ⟨Or.inr rfl, ⟨Or.inl rfl, ⟨Or.inr rfl, ⟨Or.inr rfl, ⟨Or.inr rfl, ⟨Or.inr rfl, ⟨Or.inr rfl, ⟨Or.inr rfl, ⟨Or.inr rfl, ⟨Or.inr rfl, ⟨Or.inl rfl, True.intro⟩⟩⟩⟩⟩⟩⟩⟩⟩⟩⟩
  · replace h := h.2 c
    refine x_st rfl ?_
    refine x_st rfl ?_
    refine x_mulv (nx := 36) rfl (fun z4 hz => ?_)
    replace h := h z4 hz
    refine x_st rfl ?_
    refine x_st rfl ?_
    refine x_st rfl ?_
    refine x_st rfl ?_
    refine x_st rfl ?_
    refine x_st rfl ?_
    refine x_st rfl ?_
    refine x_st rfl ?_
    refine x_st rfl ?_
    refine x_br rfl (fun c => ?_) (fun c => ?_)
    · replace h := h.1 c
      refine x_kl ?_ h
      exact ⟨Or.inr rfl, ⟨Or.inl rfl, ⟨Or.inr rfl, ⟨Or.inr rfl, ⟨Or.inr rfl, ⟨Or.inr rfl, ⟨Or.inr rfl, ⟨Or.inr rfl, ⟨Or.inr rfl, ⟨Or.inr rfl, ⟨Or.inr rfl, True.intro⟩⟩⟩⟩⟩⟩⟩⟩⟩⟩⟩
    · replace h := h.2 c
      refine x_st rfl ?_
      refine x_st rfl ?_
      obtain ⟨M5, N6, hc, h⟩ := h
      refine x_vv (y := 133) (n := 1) (ci := 9) (nx := 61) rfl (fun _ => rfl) sh_15 rfl hc ?_
      refine x_kl ?_ h
      exact ⟨Or.inr rfl, ⟨Or.inl rfl, ⟨Or.inr rfl, ⟨Or.inr rfl, ⟨Or.inr rfl, ⟨Or.inr rfl, ⟨Or.inr rfl, ⟨Or.inr rfl, ⟨Or.inr rfl, ⟨Or.inr rfl, ⟨Or.inr rfl, True.intro⟩⟩⟩⟩⟩⟩⟩⟩⟩⟩⟩
theorem BX9_drawBazaars_61 {D : Nat} {Q : Option Value → mI → mJ → Prop}  {v2 : Int32} {v3 : Int32} {v4 : Int32} {v5 : Int32} {v6 : Int32} {v7 : Int32} {v8 : Int32} {v9 : Int32} {v10 : Int32} {MI : mI} {ML : mJ} 
    (h : ∃ (x3 : Int32) (M1 : mI) (N2 : mJ), mrc D 123 [.ref 15, .int (nI 1)] MI ML (some (.int x3)) M1 N2 ∧ (VX9_drawBazaars_25 D Q v2 v3 v4 v5 v6 v7 (v8 + x3) v9 (v10 + (nI 1)) M1 N2)) :
    VX9_drawBazaars_61 D Q v2 v3 v4 v5 v6 v7 v8 v9 v10 MI ML := by
  show mEx D TX9_drawBazaars (mqS Q) (61, [some (.ref 15), none, some (.int v2), some (.int v3), some (.int v4), some (.int v5), some (.int v6), some (.int v7), some (.int v8), some (.int v9), some (.int v10)], [], (W0, Sh0, MI, ML))
  refine x_st rfl ?_
  refine x_st rfl ?_
  refine x_st rfl ?_
  obtain ⟨x3, M1, N2, hc, h⟩ := h
  refine x_vi (y := 123) (n := 1) (ci := 9) (nx := 68) rfl (fun _ => rfl) sh_15 rfl hc ?_
  refine x_st rfl ?_
  refine x_st rfl ?_
  refine x_st rfl ?_
  refine x_st rfl ?_
  refine x_kl ?_ h
  exact ⟨Or.inr rfl, ⟨Or.inl rfl, ⟨Or.inr rfl, ⟨Or.inr rfl, ⟨Or.inr rfl, ⟨Or.inr rfl, ⟨Or.inr rfl, ⟨Or.inr rfl, ⟨Or.inr rfl, ⟨Or.inr rfl, ⟨Or.inr rfl, True.intro⟩⟩⟩⟩⟩⟩⟩⟩⟩⟩⟩
theorem EX9_drawBazaars {D : Nat} {Q : Option Value → mI → mJ → Prop}  {v1 : Int32} {v2 : Int32} {v3 : Int32} {v4 : Int32} {v5 : Int32} {MI : mI} {ML : mJ} (h : VX9_drawBazaars_0 D Q v1 v2 v3 v4 v5 MI ML) : ∃ v MI' ML', Q v MI' ML' ∧ mrc (D + 1) 132 [.ref 15, .int v1, .int v2, .int v3, .int v4, .int v5] MI ML v MI' ML' := by
  refine x_en (n := 5) (T := TX9_drawBazaars) rfl rfl ?_
  refine x_kl ?_ h
  exact ⟨Or.inr rfl, ⟨Or.inr rfl, ⟨Or.inr rfl, ⟨Or.inr rfl, ⟨Or.inr rfl, ⟨Or.inr rfl, ⟨Or.inl rfl, ⟨Or.inl rfl, ⟨Or.inl rfl, ⟨Or.inl rfl, ⟨Or.inl rfl, True.intro⟩⟩⟩⟩⟩⟩⟩⟩⟩⟩⟩
def VX9_drawHate_0 (D : Nat) (Q : Option Value → mI → mJ → Prop)  (v1 : Int32) (MI : mI) (ML : mJ) : Prop := mEx D TX9_drawHate (mqS Q) (0, [some (.ref 15), some (.int v1), none, none, none], [], (W0, Sh0, MI, ML))
theorem BX9_drawHate_0 {D : Nat} {Q : Option Value → mI → mJ → Prop}  {v1 : Int32} {MI : mI} {ML : mJ} 
    (h : ((MI 16 0) < (nI 2) → Q none MI ML) ∧ (¬ (MI 16 0) < (nI 2) → ¬ (MI 16 0) = nI 0 ∧ (¬ ((MI 16 0) - (nI 1)) = nI 0 ∧ (¬ (MI 16 0) = nI 0 ∧ (∃ (M1 : mI) (N2 : mJ), mrc D 15 [.ref 16, .int ((((v1).toUInt32 >>> (((nI 8)).toUInt32 &&& Int32.toUInt32 31)).toInt32) - (((v1).toUInt32 >>> (((nI 8)).toUInt32 &&& Int32.toUInt32 31)).toInt32) / (MI 16 0) * (MI 16 0)), .int (((((((v1).toUInt32 >>> (((nI 8)).toUInt32 &&& Int32.toUInt32 31)).toInt32) - (((v1).toUInt32 >>> (((nI 8)).toUInt32 &&& Int32.toUInt32 31)).toInt32) / (MI 16 0) * (MI 16 0)) + (nI 1)) + ((((v1).toUInt32 >>> (((nI 4)).toUInt32 &&& Int32.toUInt32 31)).toInt32) - (((v1).toUInt32 >>> (((nI 4)).toUInt32 &&& Int32.toUInt32 31)).toInt32) / ((MI 16 0) - (nI 1)) * ((MI 16 0) - (nI 1)))) - ((((((v1).toUInt32 >>> (((nI 8)).toUInt32 &&& Int32.toUInt32 31)).toInt32) - (((v1).toUInt32 >>> (((nI 8)).toUInt32 &&& Int32.toUInt32 31)).toInt32) / (MI 16 0) * (MI 16 0)) + (nI 1)) + ((((v1).toUInt32 >>> (((nI 4)).toUInt32 &&& Int32.toUInt32 31)).toInt32) - (((v1).toUInt32 >>> (((nI 4)).toUInt32 &&& Int32.toUInt32 31)).toInt32) / ((MI 16 0) - (nI 1)) * ((MI 16 0) - (nI 1)))) / (MI 16 0) * (MI 16 0)), .int (-5 : Int32)] MI ML none M1 N2 ∧ (Q none M1 N2)))))) :
    VX9_drawHate_0 D Q v1 MI ML := by
  show mEx D TX9_drawHate (mqS Q) (0, [some (.ref 15), some (.int v1), none, none, none], [], (W0, Sh0, MI, ML))
  refine x_st rfl ?_
  refine x_gr (ci := 9) (k := 0) (nx := 4) rfl sh_15 rfl ?_
  refine x_gi (ci := 0) (k := 0) (nx := 7) rfl sh_16 rfl ?_
  refine x_st rfl ?_
  refine x_st rfl ?_
  refine x_st rfl ?_
  refine x_br rfl (fun c => ?_) (fun c => ?_)
  · replace h := h.1 c
    refine x_ret rfl ?_
    exact ⟨_, _, rfl, h⟩
  · replace h := h.2 c
    refine x_st rfl ?_
    refine x_st rfl ?_
    refine x_st rfl ?_
    refine x_st rfl ?_
    refine x_ck rfl h.1 ?_
    have h := h.2
    refine x_st rfl ?_
    refine x_st rfl ?_
    refine x_st rfl ?_
    refine x_st rfl ?_
    refine x_st rfl ?_
    refine x_st rfl ?_
    refine x_st rfl ?_
    refine x_st rfl ?_
    refine x_st rfl ?_
    refine x_st rfl ?_
    refine x_ck rfl h.1 ?_
    have h := h.2
    refine x_st rfl ?_
    refine x_st rfl ?_
    refine x_ck rfl h.1 ?_
    have h := h.2
    refine x_st rfl ?_
    refine x_st rfl ?_
    refine x_gr (ci := 9) (k := 0) (nx := 39) rfl sh_15 rfl ?_
    refine x_st rfl ?_
    refine x_st rfl ?_
    refine x_st rfl ?_
    obtain ⟨M1, N2, hc, h⟩ := h
    refine x_vv (y := 15) (n := 3) (ci := 0) (nx := 47) rfl (fun _ => rfl) sh_16 rfl hc ?_
    refine x_ret rfl ?_
    exact ⟨_, _, rfl, h⟩
theorem EX9_drawHate {D : Nat} {Q : Option Value → mI → mJ → Prop}  {v1 : Int32} {MI : mI} {ML : mJ} (h : VX9_drawHate_0 D Q v1 MI ML) : ∃ v MI' ML', Q v MI' ML' ∧ mrc (D + 1) 133 [.ref 15, .int v1] MI ML v MI' ML' := by
  refine x_en (n := 3) (T := TX9_drawHate) rfl rfl ?_
  refine x_kl ?_ h
  exact ⟨Or.inr rfl, ⟨Or.inr rfl, ⟨Or.inl rfl, ⟨Or.inl rfl, ⟨Or.inl rfl, True.intro⟩⟩⟩⟩⟩
def VX10_person_0 (D : Nat) (Q : Option Value → mI → mJ → Prop)  (v1 : Int32) (v2 : Int32) (MI : mI) (ML : mJ) : Prop := mEx D TX10_person (mqS Q) (0, [some (.ref 0), some (.int v1), some (.int v2)], [], (W0, Sh0, MI, ML))
theorem BX10_person_0 {D : Nat} {Q : Option Value → mI → mJ → Prop}  {v1 : Int32} {v2 : Int32} {MI : mI} {ML : mJ} 
    (h : ∃ (x3 : Int32) (M1 : mI) (N2 : mJ), mrc D 1 [.int v1, .int v2] MI ML (some (.int x3)) M1 N2 ∧ ((x3 = nI 0 → Q (some (.int (-1 : Int32))) M1 N2) ∧ (¬ x3 = nI 0 → ∃ (x6 : Int32) (M4 : mI) (N5 : mJ), mrc D 5 [.ref 1, .int v1, .int v2] M1 N2 (some (.int x6)) M4 N5 ∧ (Q (some (.int x6)) M4 N5)))) :
    VX10_person_0 D Q v1 v2 MI ML := by
  show mEx D TX10_person (mqS Q) (0, [some (.ref 0), some (.int v1), some (.int v2)], [], (W0, Sh0, MI, ML))
  refine x_st rfl ?_
  refine x_st rfl ?_
  obtain ⟨x3, M1, N2, hc, h⟩ := h
  refine x_ci rfl hc ?_
  refine x_br rfl (fun c => ?_) (fun c => ?_)
  · replace h := h.1 c
    refine x_st rfl ?_
    refine x_ret rfl ?_
    exact ⟨_, _, rfl, h⟩
  · replace h := h.2 c
    refine x_st rfl ?_
    refine x_gr (ci := 10) (k := 0) (nx := 12) rfl sh_0 rfl ?_
    refine x_st rfl ?_
    refine x_st rfl ?_
    obtain ⟨x6, M4, N5, hc, h⟩ := h
    refine x_vi (y := 5) (n := 2) (ci := 0) (nx := 17) rfl (fun _ => rfl) sh_1 rfl hc ?_
    refine x_st rfl ?_
    refine x_ret rfl ?_
    exact ⟨_, _, rfl, h⟩
theorem EX10_person {D : Nat} {Q : Option Value → mI → mJ → Prop}  {v1 : Int32} {v2 : Int32} {MI : mI} {ML : mJ} (h : VX10_person_0 D Q v1 v2 MI ML) : ∃ v MI' ML', Q v MI' ML' ∧ mrc (D + 1) 135 [.ref 0, .int v1, .int v2] MI ML v MI' ML' := by
  refine x_en (n := 0) (T := TX10_person) rfl rfl ?_
  refine x_kl ?_ h
  exact ⟨Or.inr rfl, ⟨Or.inr rfl, ⟨Or.inr rfl, True.intro⟩⟩⟩
def VX10_people_0 (D : Nat) (Q : Option Value → mI → mJ → Prop)  (v1 : Int32) (v2 : Int32) (v3 : Int32) (MI : mI) (ML : mJ) : Prop := mEx D TX10_people (mqS Q) (0, [some (.ref 0), some (.int v1), some (.int v2), some (.int v3), none, none, none, none], [], (W0, Sh0, MI, ML))
def VX10_people_57 (D : Nat) (Q : Option Value → mI → mJ → Prop)  (v1 : Int32) (v3 : Int32) (v4 : Int32) (v5 : Int32) (MI : mI) (ML : mJ) : Prop := mEx D TX10_people (mqS Q) (57, [some (.ref 0), some (.int v1), none, some (.int v3), some (.int v4), some (.int v5), none, none], [], (W0, Sh0, MI, ML))
theorem BX10_people_0 {D : Nat} {Q : Option Value → mI → mJ → Prop}  {v1 : Int32} {v2 : Int32} {v3 : Int32} {MI : mI} {ML : mJ} 
    (h : ∃ (x3 : Int32) (M1 : mI) (N2 : mJ), mrc D 102 [.ref 10, .int v1] MI ML (some (.int x3)) M1 N2 ∧ ((x3 = nI 0 → Q (some (.int (-1 : Int32))) M1 N2) ∧ (¬ x3 = nI 0 → (v3 < (nI 1) → Q (some (.int (-1 : Int32))) M1 N2) ∧ (¬ v3 < (nI 1) → (v3 ≤ (nI 8) → ∃ (x6 : Int32) (M4 : mI) (N5 : mJ), mrc D 104 [.ref 10, .int v1] M1 N2 (some (.int x6)) M4 N5 ∧ ((x6 = nI 0 → ∃ (x9 : Int32) (M7 : mI) (N8 : mJ), mrc D 106 [.ref 10, .int v1] M4 N5 (some (.int x9)) M7 N8 ∧ ((x9 = nI 0 → Q (some (.int (-12 : Int32))) M7 N8) ∧ (¬ x9 = nI 0 → VX10_people_57 D Q v1 v3 (nI 0) v2 M7 N8))) ∧ (¬ x6 = nI 0 → Q (some (.int (nI 0))) M4 N5))) ∧ (¬ v3 ≤ (nI 8) → Q (some (.int (-1 : Int32))) M1 N2))))) :
    VX10_people_0 D Q v1 v2 v3 MI ML := by
  show mEx D TX10_people (mqS Q) (0, [some (.ref 0), some (.int v1), some (.int v2), some (.int v3), none, none, none, none], [], (W0, Sh0, MI, ML))
  refine x_st rfl ?_
  refine x_gr (ci := 10) (k := 9) (nx := 4) rfl sh_0 rfl ?_
  refine x_st rfl ?_
  obtain ⟨x3, M1, N2, hc, h⟩ := h
  refine x_vi (y := 102) (n := 1) (ci := 8) (nx := 8) rfl (fun _ => rfl) sh_10 rfl hc ?_
  refine x_br rfl (fun c => ?_) (fun c => ?_)
  · replace h := h.1 c
    refine x_st rfl ?_
    refine x_ret rfl ?_
    exact ⟨_, _, rfl, h⟩
  · replace h := h.2 c
    refine x_st rfl ?_
    refine x_st rfl ?_
    refine x_br rfl (fun c => ?_) (fun c => ?_)
    · replace h := h.1 c
      refine x_st rfl ?_
      refine x_ret rfl ?_
      exact ⟨_, _, rfl, h⟩
    · replace h := h.2 c
      refine x_st rfl ?_
      refine x_st rfl ?_
      refine x_br rfl (fun c => ?_) (fun c => ?_)
      · replace h := h.1 c
        refine x_st rfl ?_
        refine x_gr (ci := 10) (k := 9) (nx := 28) rfl sh_0 rfl ?_
        refine x_st rfl ?_
        obtain ⟨x6, M4, N5, hc, h⟩ := h
        refine x_vi (y := 104) (n := 1) (ci := 8) (nx := 32) rfl (fun _ => rfl) sh_10 rfl hc ?_
        refine x_br rfl (fun c => ?_) (fun c => ?_)
        · replace h := h.1 c
          refine x_st rfl ?_
          refine x_gr (ci := 10) (k := 9) (nx := 41) rfl sh_0 rfl ?_
          refine x_st rfl ?_
          obtain ⟨x9, M7, N8, hc, h⟩ := h
          refine x_vi (y := 106) (n := 1) (ci := 8) (nx := 45) rfl (fun _ => rfl) sh_10 rfl hc ?_
          refine x_br rfl (fun c => ?_) (fun c => ?_)
          · replace h := h.1 c
            refine x_st rfl ?_
            refine x_ret rfl ?_
            exact ⟨_, _, rfl, h⟩
          · replace h := h.2 c
            refine x_st rfl ?_
            refine x_st rfl ?_
            refine x_st rfl ?_
            refine x_st rfl ?_
            refine x_kl ?_ h
            exact ⟨Or.inr rfl, ⟨Or.inr rfl, ⟨Or.inl rfl, ⟨Or.inr rfl, ⟨Or.inr rfl, ⟨Or.inr rfl, ⟨Or.inl rfl, ⟨Or.inl rfl, True.intro⟩⟩⟩⟩⟩⟩⟩⟩
        · replace h := h.2 c
          refine x_st rfl ?_
          refine x_ret rfl ?_
          exact ⟨_, _, rfl, h⟩
      · replace h := h.2 c
        refine x_st rfl ?_
        refine x_ret rfl ?_
        exact ⟨_, _, rfl, h⟩
theorem BX10_people_57 {D : Nat} {Q : Option Value → mI → mJ → Prop}  {v1 : Int32} {v3 : Int32} {v4 : Int32} {v5 : Int32} {MI : mI} {ML : mJ} 
    (h : (v3 ≤ v4 → Q (some (.int v4)) MI ML) ∧ (¬ v3 ≤ v4 → (v5 < nI 0 → Q (some (.int v4)) MI ML) ∧ (¬ v5 < nI 0 → ∃ (x3 : Int32) (M1 : mI) (N2 : mJ), mrc D 109 [.ref 10, .int v1] MI ML (some (.int x3)) M1 N2 ∧ (((x3 - (nI 1)) ≤ v5 → Q (some (.int v4)) M1 N2) ∧ (¬ (x3 - (nI 1)) ≤ v5 → ∃ (x6 : Int64) (M4 : mI) (N5 : mJ), mrc D 117 [.ref 10, .int v1, .int v5] M1 N2 (some (.long x6)) M4 N5 ∧ (∃ (x9 : Int64) (M7 : mI) (N8 : mJ), mrc D 117 [.ref 10, .int v1, .int (v5 + (nI 1))] M4 N5 (some (.long x9)) M7 N8 ∧ (∃ (x12 : Int32) (M10 : mI) (N11 : mJ), mrc D 1 [.int (x6).toInt32, .int (x9).toInt32] M7 N8 (some (.int x12)) M10 N11 ∧ ((x12 = nI 0 → Q (some (.int v4)) M10 N11) ∧ (¬ x12 = nI 0 → ∃ (x15 : Int32) (M13 : mI) (N14 : mJ), mrc D 5 [.ref 1, .int (x6).toInt32, .int (x9).toInt32] M10 N11 (some (.int x15)) M13 N14 ∧ ((x15 = (-3 : Int32) → Q (some (.int v4)) M13 N14) ∧ (¬ x15 = (-3 : Int32) → VX10_people_57 D Q v1 v3 (v4 + (nI 1)) (v5 + (nI 2)) M13 N14))))))))))) :
    VX10_people_57 D Q v1 v3 v4 v5 MI ML := by
  show mEx D TX10_people (mqS Q) (57, [some (.ref 0), some (.int v1), none, some (.int v3), some (.int v4), some (.int v5), none, none], [], (W0, Sh0, MI, ML))
  refine x_st rfl ?_
  refine x_st rfl ?_
  refine x_br rfl (fun c => ?_) (fun c => ?_)
  · replace h := h.1 c
    refine x_st rfl ?_
    refine x_ret rfl ?_
    exact ⟨_, _, rfl, h⟩
  · replace h := h.2 c
    refine x_st rfl ?_
    refine x_br rfl (fun c => ?_) (fun c => ?_)
    · replace h := h.1 c
      refine x_st rfl ?_
      refine x_ret rfl ?_
      exact ⟨_, _, rfl, h⟩
    · replace h := h.2 c
      refine x_st rfl ?_
      refine x_st rfl ?_
      refine x_gr (ci := 10) (k := 9) (nx := 74) rfl sh_0 rfl ?_
      refine x_st rfl ?_
      obtain ⟨x3, M1, N2, hc, h⟩ := h
      refine x_vi (y := 109) (n := 1) (ci := 8) (nx := 78) rfl (fun _ => rfl) sh_10 rfl hc ?_
      refine x_st rfl ?_
      refine x_st rfl ?_
      refine x_br rfl (fun c => ?_) (fun c => ?_)
      · replace h := h.1 c
        refine x_st rfl ?_
        refine x_ret rfl ?_
        exact ⟨_, _, rfl, h⟩
      · replace h := h.2 c
        refine x_st rfl ?_
        refine x_gr (ci := 10) (k := 9) (nx := 87) rfl sh_0 rfl ?_
        refine x_st rfl ?_
        refine x_st rfl ?_
        obtain ⟨x6, M4, N5, hc, h⟩ := h
        refine x_vi (y := 117) (n := 2) (ci := 8) (nx := 93) rfl (fun _ => rfl) sh_10 rfl hc ?_
        refine x_st rfl ?_
        refine x_st rfl ?_
        refine x_st rfl ?_
        refine x_gr (ci := 10) (k := 9) (nx := 100) rfl sh_0 rfl ?_
        refine x_st rfl ?_
        refine x_st rfl ?_
        refine x_st rfl ?_
        refine x_st rfl ?_
        obtain ⟨x9, M7, N8, hc, h⟩ := h
        refine x_vi (y := 117) (n := 2) (ci := 8) (nx := 108) rfl (fun _ => rfl) sh_10 rfl hc ?_
        refine x_st rfl ?_
        refine x_st rfl ?_
        refine x_st rfl ?_
        refine x_st rfl ?_
        obtain ⟨x12, M10, N11, hc, h⟩ := h
        refine x_ci rfl hc ?_
        refine x_br rfl (fun c => ?_) (fun c => ?_)
        · replace h := h.1 c
          refine x_st rfl ?_
          refine x_ret rfl ?_
          exact ⟨_, _, rfl, h⟩
        · replace h := h.2 c
          refine x_st rfl ?_
          refine x_gr (ci := 10) (k := 0) (nx := 125) rfl sh_0 rfl ?_
          refine x_st rfl ?_
          refine x_st rfl ?_
          obtain ⟨x15, M13, N14, hc, h⟩ := h
          refine x_vi (y := 5) (n := 2) (ci := 0) (nx := 132) rfl (fun _ => rfl) sh_1 rfl hc ?_
          refine x_st rfl ?_
          refine x_br rfl (fun c => ?_) (fun c => ?_)
          · replace h := h.1 c
            refine x_st rfl ?_
            refine x_st rfl ?_
            refine x_ret rfl ?_
            exact ⟨_, _, rfl, h⟩
          · replace h := h.2 c
            refine x_st rfl ?_
            refine x_st rfl ?_
            refine x_st rfl ?_
            refine x_kl ?_ h
            exact ⟨Or.inr rfl, ⟨Or.inr rfl, ⟨Or.inl rfl, ⟨Or.inr rfl, ⟨Or.inr rfl, ⟨Or.inr rfl, ⟨Or.inl rfl, ⟨Or.inl rfl, True.intro⟩⟩⟩⟩⟩⟩⟩⟩
theorem EX10_people {D : Nat} {Q : Option Value → mI → mJ → Prop}  {v1 : Int32} {v2 : Int32} {v3 : Int32} {MI : mI} {ML : mJ} (h : VX10_people_0 D Q v1 v2 v3 MI ML) : ∃ v MI' ML', Q v MI' ML' ∧ mrc (D + 1) 136 [.ref 0, .int v1, .int v2, .int v3] MI ML v MI' ML' := by
  refine x_en (n := 4) (T := TX10_people) rfl rfl ?_
  refine x_kl ?_ h
  exact ⟨Or.inr rfl, ⟨Or.inr rfl, ⟨Or.inr rfl, ⟨Or.inr rfl, ⟨Or.inl rfl, ⟨Or.inl rfl, ⟨Or.inl rfl, ⟨Or.inl rfl, True.intro⟩⟩⟩⟩⟩⟩⟩⟩
def VX10_mend_0 (D : Nat) (Q : Option Value → mI → mJ → Prop)  (v1 : Int32) (v2 : Int32) (v3 : Int32) (MI : mI) (ML : mJ) : Prop := mEx D TX10_mend (mqS Q) (0, [some (.ref 0), some (.int v1), some (.int v2), some (.int v3), none], [], (W0, Sh0, MI, ML))
theorem BX10_mend_0 {D : Nat} {Q : Option Value → mI → mJ → Prop}  {v1 : Int32} {v2 : Int32} {v3 : Int32} {MI : mI} {ML : mJ} 
    (h : ∃ (x3 : Int32) (M1 : mI) (N2 : mJ), mrc D 8 [.ref 1, .int v1, .int v2] MI ML (some (.int x3)) M1 N2 ∧ ((x3 < nI 0 → Q (some (.int (-1 : Int32))) M1 N2) ∧ (¬ x3 < nI 0 → (v3 < nI 0 → Q (some (.int (-1 : Int32))) M1 N2) ∧ (¬ v3 < nI 0 → ∃ (x6 : Int32) (M4 : mI) (N5 : mJ), mrc D 3 [.int v2] M1 N2 (some (.int x6)) M4 N5 ∧ ((v3 ≤ x6 → ∃ (x9 : Int32) (M7 : mI) (N8 : mJ), mrc D 143 [.ref 0, .int x3, .int v3] M4 N5 (some (.int x9)) M7 N8 ∧ (Q (some (.int x9)) M7 N8)) ∧ (¬ v3 ≤ x6 → Q (some (.int (-1 : Int32))) M4 N5)))))) :
    VX10_mend_0 D Q v1 v2 v3 MI ML := by
  show mEx D TX10_mend (mqS Q) (0, [some (.ref 0), some (.int v1), some (.int v2), some (.int v3), none], [], (W0, Sh0, MI, ML))
  refine x_st rfl ?_
  refine x_gr (ci := 10) (k := 0) (nx := 4) rfl sh_0 rfl ?_
  refine x_st rfl ?_
  refine x_st rfl ?_
  obtain ⟨x3, M1, N2, hc, h⟩ := h
  refine x_vi (y := 8) (n := 2) (ci := 0) (nx := 9) rfl (fun _ => rfl) sh_1 rfl hc ?_
  refine x_st rfl ?_
  refine x_st rfl ?_
  refine x_br rfl (fun c => ?_) (fun c => ?_)
  · replace h := h.1 c
    refine x_st rfl ?_
    refine x_ret rfl ?_
    exact ⟨_, _, rfl, h⟩
  · replace h := h.2 c
    refine x_st rfl ?_
    refine x_br rfl (fun c => ?_) (fun c => ?_)
    · replace h := h.1 c
      refine x_st rfl ?_
      refine x_ret rfl ?_
      exact ⟨_, _, rfl, h⟩
    · replace h := h.2 c
      refine x_st rfl ?_
      refine x_st rfl ?_
      obtain ⟨x6, M4, N5, hc, h⟩ := h
      refine x_ci rfl hc ?_
      refine x_br rfl (fun c => ?_) (fun c => ?_)
      · replace h := h.1 c
        refine x_st rfl ?_
        refine x_st rfl ?_
        refine x_st rfl ?_
        obtain ⟨x9, M7, N8, hc, h⟩ := h
        refine x_vi (y := 143) (n := 2) (ci := 10) (nx := 37) rfl (fun _ => rfl) sh_0 rfl hc ?_
        refine x_ret rfl ?_
        exact ⟨_, _, rfl, h⟩
      · replace h := h.2 c
        refine x_st rfl ?_
        refine x_ret rfl ?_
        exact ⟨_, _, rfl, h⟩
theorem EX10_mend {D : Nat} {Q : Option Value → mI → mJ → Prop}  {v1 : Int32} {v2 : Int32} {v3 : Int32} {MI : mI} {ML : mJ} (h : VX10_mend_0 D Q v1 v2 v3 MI ML) : ∃ v MI' ML', Q v MI' ML' ∧ mrc (D + 1) 137 [.ref 0, .int v1, .int v2, .int v3] MI ML v MI' ML' := by
  refine x_en (n := 1) (T := TX10_mend) rfl rfl ?_
  refine x_kl ?_ h
  exact ⟨Or.inr rfl, ⟨Or.inr rfl, ⟨Or.inr rfl, ⟨Or.inr rfl, ⟨Or.inl rfl, True.intro⟩⟩⟩⟩⟩
def VX10_of_0 (D : Nat) (Q : Option Value → mI → mJ → Prop)  (v1 : Int32) (v2 : Int32) (MI : mI) (ML : mJ) : Prop := mEx D TX10_of (mqS Q) (0, [some (.ref 0), some (.int v1), some (.int v2), none], [], (W0, Sh0, MI, ML))
theorem BX10_of_0 {D : Nat} {Q : Option Value → mI → mJ → Prop}  {v1 : Int32} {v2 : Int32} {MI : mI} {ML : mJ} 
    (h : ∃ (x3 : Int32) (M1 : mI) (N2 : mJ), mrc D 8 [.ref 1, .int v1, .int v2] MI ML (some (.int x3)) M1 N2 ∧ ((nI 0 ≤ x3 → ∃ (x6 : Int32) (M4 : mI) (N5 : mJ), mrc D 9 [.ref 1, .int x3] M1 N2 (some (.int x6)) M4 N5 ∧ (Q (some (.int x6)) M4 N5)) ∧ (¬ nI 0 ≤ x3 → Q (some (.int (-1 : Int32))) M1 N2))) :
    VX10_of_0 D Q v1 v2 MI ML := by
  show mEx D TX10_of (mqS Q) (0, [some (.ref 0), some (.int v1), some (.int v2), none], [], (W0, Sh0, MI, ML))
  refine x_st rfl ?_
  refine x_gr (ci := 10) (k := 0) (nx := 4) rfl sh_0 rfl ?_
  refine x_st rfl ?_
  refine x_st rfl ?_
  obtain ⟨x3, M1, N2, hc, h⟩ := h
  refine x_vi (y := 8) (n := 2) (ci := 0) (nx := 9) rfl (fun _ => rfl) sh_1 rfl hc ?_
  refine x_st rfl ?_
  refine x_st rfl ?_
  refine x_br rfl (fun c => ?_) (fun c => ?_)
  · replace h := h.1 c
    refine x_st rfl ?_
    refine x_gr (ci := 10) (k := 0) (nx := 22) rfl sh_0 rfl ?_
    refine x_st rfl ?_
    obtain ⟨x6, M4, N5, hc, h⟩ := h
    refine x_vi (y := 9) (n := 1) (ci := 0) (nx := 26) rfl (fun _ => rfl) sh_1 rfl hc ?_
    refine x_ret rfl ?_
    exact ⟨_, _, rfl, h⟩
  · replace h := h.2 c
    refine x_st rfl ?_
    refine x_st rfl ?_
    refine x_ret rfl ?_
    exact ⟨_, _, rfl, h⟩
theorem EX10_of {D : Nat} {Q : Option Value → mI → mJ → Prop}  {v1 : Int32} {v2 : Int32} {MI : mI} {ML : mJ} (h : VX10_of_0 D Q v1 v2 MI ML) : ∃ v MI' ML', Q v MI' ML' ∧ mrc (D + 1) 138 [.ref 0, .int v1, .int v2] MI ML v MI' ML' := by
  refine x_en (n := 1) (T := TX10_of) rfl rfl ?_
  refine x_kl ?_ h
  exact ⟨Or.inr rfl, ⟨Or.inr rfl, ⟨Or.inr rfl, ⟨Or.inl rfl, True.intro⟩⟩⟩⟩
def VX10_feel_0 (D : Nat) (Q : Option Value → mI → mJ → Prop)  (v1 : Int32) (v2 : Int32) (MI : mI) (ML : mJ) : Prop := mEx D TX10_feel (mqS Q) (0, [some (.ref 0), some (.int v1), some (.int v2)], [], (W0, Sh0, MI, ML))
theorem BX10_feel_0 {D : Nat} {Q : Option Value → mI → mJ → Prop}  {v1 : Int32} {v2 : Int32} {MI : mI} {ML : mJ} 
    (h : ∃ (x3 : Int32) (M1 : mI) (N2 : mJ), mrc D 7 [.ref 1, .int v1] MI ML (some (.int x3)) M1 N2 ∧ ((x3 = nI 0 → Q (some (.int (-1 : Int32))) M1 N2) ∧ (¬ x3 = nI 0 → ∃ (x6 : Int32) (M4 : mI) (N5 : mJ), mrc D 2 [.int v2] M1 N2 (some (.int x6)) M4 N5 ∧ ((x6 = nI 0 → Q (some (.int (-1 : Int32))) M4 N5) ∧ (¬ x6 = nI 0 → ∃ (x9 : Int32) (M7 : mI) (N8 : mJ), mrc D 4 [.int (v1 / (nI 10)), .int (v1 - v1 / (nI 10) * (nI 10))] M4 N5 (some (.int x9)) M7 N8 ∧ (∃ (x12 : Int32) (M10 : mI) (N11 : mJ), mrc D 143 [.ref 0, .int x9, .int v2] M7 N8 (some (.int x12)) M10 N11 ∧ (Q (some (.int (x12 + (nI 100)))) M10 N11))))))) :
    VX10_feel_0 D Q v1 v2 MI ML := by
  show mEx D TX10_feel (mqS Q) (0, [some (.ref 0), some (.int v1), some (.int v2)], [], (W0, Sh0, MI, ML))
  refine x_st rfl ?_
  refine x_gr (ci := 10) (k := 0) (nx := 4) rfl sh_0 rfl ?_
  refine x_st rfl ?_
  obtain ⟨x3, M1, N2, hc, h⟩ := h
  refine x_vi (y := 7) (n := 1) (ci := 0) (nx := 8) rfl (fun _ => rfl) sh_1 rfl hc ?_
  refine x_br rfl (fun c => ?_) (fun c => ?_)
  · replace h := h.1 c
    refine x_st rfl ?_
    refine x_ret rfl ?_
    exact ⟨_, _, rfl, h⟩
  · replace h := h.2 c
    refine x_st rfl ?_
    obtain ⟨x6, M4, N5, hc, h⟩ := h
    refine x_ci rfl hc ?_
    refine x_br rfl (fun c => ?_) (fun c => ?_)
    · replace h := h.1 c
      refine x_st rfl ?_
      refine x_ret rfl ?_
      exact ⟨_, _, rfl, h⟩
    · replace h := h.2 c
      refine x_st rfl ?_
      refine x_st rfl ?_
      refine x_st rfl ?_
      refine x_st rfl ?_
      refine x_st rfl ?_
      refine x_st rfl ?_
      refine x_st rfl ?_
      obtain ⟨x9, M7, N8, hc, h⟩ := h
      refine x_ci rfl hc ?_
      refine x_st rfl ?_
      obtain ⟨x12, M10, N11, hc, h⟩ := h
      refine x_vi (y := 143) (n := 2) (ci := 10) (nx := 36) rfl (fun _ => rfl) sh_0 rfl hc ?_
      refine x_st rfl ?_
      refine x_st rfl ?_
      refine x_ret rfl ?_
      exact ⟨_, _, rfl, h⟩
theorem EX10_feel {D : Nat} {Q : Option Value → mI → mJ → Prop}  {v1 : Int32} {v2 : Int32} {MI : mI} {ML : mJ} (h : VX10_feel_0 D Q v1 v2 MI ML) : ∃ v MI' ML', Q v MI' ML' ∧ mrc (D + 1) 139 [.ref 0, .int v1, .int v2] MI ML v MI' ML' := by
  refine x_en (n := 0) (T := TX10_feel) rfl rfl ?_
  refine x_kl ?_ h
  exact ⟨Or.inr rfl, ⟨Or.inr rfl, ⟨Or.inr rfl, True.intro⟩⟩⟩
def VX10_feeling_0 (D : Nat) (Q : Option Value → mI → mJ → Prop)  (v1 : Int32) (MI : mI) (ML : mJ) : Prop := mEx D TX10_feeling (mqS Q) (0, [some (.ref 0), some (.int v1)], [], (W0, Sh0, MI, ML))
theorem BX10_feeling_0 {D : Nat} {Q : Option Value → mI → mJ → Prop}  {v1 : Int32} {MI : mI} {ML : mJ} 
    (h : ∃ (x3 : Int32) (M1 : mI) (N2 : mJ), mrc D 7 [.ref 1, .int v1] MI ML (some (.int x3)) M1 N2 ∧ ((x3 = nI 0 → Q (some (.int (-1 : Int32))) M1 N2) ∧ (¬ x3 = nI 0 → ∃ (x6 : Int32) (M4 : mI) (N5 : mJ), mrc D 14 [.ref 1, .int (v1 / (nI 10)), .int (v1 - v1 / (nI 10) * (nI 10))] M1 N2 (some (.int x6)) M4 N5 ∧ (Q (some (.int (x6 + (nI 100)))) M4 N5)))) :
    VX10_feeling_0 D Q v1 MI ML := by
  show mEx D TX10_feeling (mqS Q) (0, [some (.ref 0), some (.int v1)], [], (W0, Sh0, MI, ML))
  refine x_st rfl ?_
  refine x_gr (ci := 10) (k := 0) (nx := 4) rfl sh_0 rfl ?_
  refine x_st rfl ?_
  obtain ⟨x3, M1, N2, hc, h⟩ := h
  refine x_vi (y := 7) (n := 1) (ci := 0) (nx := 8) rfl (fun _ => rfl) sh_1 rfl hc ?_
  refine x_br rfl (fun c => ?_) (fun c => ?_)
  · replace h := h.1 c
    refine x_st rfl ?_
    refine x_ret rfl ?_
    exact ⟨_, _, rfl, h⟩
  · replace h := h.2 c
    refine x_st rfl ?_
    refine x_gr (ci := 10) (k := 0) (nx := 15) rfl sh_0 rfl ?_
    refine x_st rfl ?_
    refine x_st rfl ?_
    refine x_st rfl ?_
    refine x_st rfl ?_
    refine x_st rfl ?_
    refine x_st rfl ?_
    obtain ⟨x6, M4, N5, hc, h⟩ := h
    refine x_vi (y := 14) (n := 2) (ci := 0) (nx := 26) rfl (fun _ => rfl) sh_1 rfl hc ?_
    refine x_st rfl ?_
    refine x_st rfl ?_
    refine x_st rfl ?_
    refine x_ret rfl ?_
    exact ⟨_, _, rfl, h⟩
theorem EX10_feeling {D : Nat} {Q : Option Value → mI → mJ → Prop}  {v1 : Int32} {MI : mI} {ML : mJ} (h : VX10_feeling_0 D Q v1 MI ML) : ∃ v MI' ML', Q v MI' ML' ∧ mrc (D + 1) 140 [.ref 0, .int v1] MI ML v MI' ML' := by
  refine x_en (n := 0) (T := TX10_feeling) rfl rfl ?_
  refine x_kl ?_ h
  exact ⟨Or.inr rfl, ⟨Or.inr rfl, True.intro⟩⟩
def VX10_feed_0 (D : Nat) (Q : Option Value → mI → mJ → Prop)  (v1 : Int32) (MI : mI) (ML : mJ) : Prop := mEx D TX10_feed (mqS Q) (0, [some (.ref 0), some (.int v1)], [], (W0, Sh0, MI, ML))
theorem BX10_feed_0 {D : Nat} {Q : Option Value → mI → mJ → Prop}  {v1 : Int32} {MI : mI} {ML : mJ} 
    (h : (v1 < nI 0 → Q (some (.int (-1 : Int32))) MI ML) ∧ (¬ v1 < nI 0 → (v1 ≤ (nI 255) → ∃ (x3 : Int32) (M1 : mI) (N2 : mJ), mrc D 52 [.ref 3, .int v1] MI ML (some (.int x3)) M1 N2 ∧ (Q (some (.int x3)) M1 N2)) ∧ (¬ v1 ≤ (nI 255) → Q (some (.int (-1 : Int32))) MI ML))) :
    VX10_feed_0 D Q v1 MI ML := by
  show mEx D TX10_feed (mqS Q) (0, [some (.ref 0), some (.int v1)], [], (W0, Sh0, MI, ML))
  refine x_st rfl ?_
  refine x_br rfl (fun c => ?_) (fun c => ?_)
  · replace h := h.1 c
    refine x_st rfl ?_
    refine x_st rfl ?_
    refine x_ret rfl ?_
    exact ⟨_, _, rfl, h⟩
  · replace h := h.2 c
    refine x_st rfl ?_
    refine x_st rfl ?_
    refine x_br rfl (fun c => ?_) (fun c => ?_)
    · replace h := h.1 c
      refine x_st rfl ?_
      refine x_gr (ci := 10) (k := 1) (nx := 19) rfl sh_0 rfl ?_
      refine x_st rfl ?_
      obtain ⟨x3, M1, N2, hc, h⟩ := h
      refine x_vi (y := 52) (n := 1) (ci := 4) (nx := 23) rfl (fun _ => rfl) sh_3 rfl hc ?_
      refine x_ret rfl ?_
      exact ⟨_, _, rfl, h⟩
    · replace h := h.2 c
      refine x_st rfl ?_
      refine x_st rfl ?_
      refine x_ret rfl ?_
      exact ⟨_, _, rfl, h⟩
theorem EX10_feed {D : Nat} {Q : Option Value → mI → mJ → Prop}  {v1 : Int32} {MI : mI} {ML : mJ} (h : VX10_feed_0 D Q v1 MI ML) : ∃ v MI' ML', Q v MI' ML' ∧ mrc (D + 1) 141 [.ref 0, .int v1] MI ML v MI' ML' := by
  refine x_en (n := 0) (T := TX10_feed) rfl rfl ?_
  refine x_kl ?_ h
  exact ⟨Or.inr rfl, ⟨Or.inr rfl, True.intro⟩⟩
def VX10_law_0 (D : Nat) (Q : Option Value → mI → mJ → Prop)  (MI : mI) (ML : mJ) : Prop := mEx D TX10_law (mqS Q) (0, [some (.ref 0), none], [], (W0, Sh0, MI, ML))
def VX10_law_24 (D : Nat) (Q : Option Value → mI → mJ → Prop)  (v1 : Int32) (MI : mI) (ML : mJ) : Prop := mEx D TX10_law (mqS Q) (24, [some (.ref 0), some (.int v1)], [], (W0, Sh0, MI, ML))
theorem BX10_law_0 {D : Nat} {Q : Option Value → mI → mJ → Prop}  {MI : mI} {ML : mJ} 
    (h : ∃ (x3 : Int32) (M1 : mI) (N2 : mJ), mrc D 55 [.ref 3] MI ML (some (.int x3)) M1 N2 ∧ ((x3 = (-1 : Int32) → ∃ (M4 : mI) (N5 : mJ), mrc D 46 [.ref 6, .ref 3] M1 N2 none M4 N5 ∧ (VX10_law_24 D Q x3 M4 N5)) ∧ (¬ x3 = (-1 : Int32) → VX10_law_24 D Q x3 M1 N2))) :
    VX10_law_0 D Q  MI ML := by
  show mEx D TX10_law (mqS Q) (0, [some (.ref 0), none], [], (W0, Sh0, MI, ML))
  refine x_st rfl ?_
  refine x_gr (ci := 10) (k := 1) (nx := 4) rfl sh_0 rfl ?_
  obtain ⟨x3, M1, N2, hc, h⟩ := h
  refine x_vi (y := 55) (n := 0) (ci := 4) (nx := 7) rfl (fun _ => rfl) sh_3 rfl hc ?_
  refine x_st rfl ?_
  refine x_st rfl ?_
  refine x_st rfl ?_
  refine x_br rfl (fun c => ?_) (fun c => ?_)
  · replace h := h.1 c
    refine x_st rfl ?_
    refine x_gr (ci := 10) (k := 2) (nx := 17) rfl sh_0 rfl ?_
    refine x_st rfl ?_
    refine x_gr (ci := 10) (k := 1) (nx := 21) rfl sh_0 rfl ?_
    obtain ⟨M4, N5, hc, h⟩ := h
    refine x_vv (y := 46) (n := 1) (ci := 3) (nx := 24) rfl (fun _ => rfl) sh_6 rfl hc ?_
    refine x_kl ?_ h
    exact ⟨Or.inr rfl, ⟨Or.inr rfl, True.intro⟩⟩
  · replace h := h.2 c
    refine x_kl ?_ h
    exact ⟨Or.inr rfl, ⟨Or.inr rfl, True.intro⟩⟩
theorem BX10_law_24 {D : Nat} {Q : Option Value → mI → mJ → Prop}  {v1 : Int32} {MI : mI} {ML : mJ} 
    (h : ∃ (M1 : mI) (N2 : mJ), mrc D 54 [.ref 3] MI ML none M1 N2 ∧ ((v1 = (-1 : Int32) → Q (some (.int (nI 1))) M1 N2) ∧ (¬ v1 = (-1 : Int32) → Q (some (.int ((-100 : Int32) - v1))) M1 N2))) :
    VX10_law_24 D Q v1 MI ML := by
  show mEx D TX10_law (mqS Q) (24, [some (.ref 0), some (.int v1)], [], (W0, Sh0, MI, ML))
  refine x_st rfl ?_
  refine x_gr (ci := 10) (k := 1) (nx := 28) rfl sh_0 rfl ?_
  obtain ⟨M1, N2, hc, h⟩ := h
  refine x_vv (y := 54) (n := 0) (ci := 4) (nx := 31) rfl (fun _ => rfl) sh_3 rfl hc ?_
  refine x_st rfl ?_
  refine x_st rfl ?_
  refine x_br rfl (fun c => ?_) (fun c => ?_)
  · replace h := h.1 c
    refine x_st rfl ?_
    refine x_st rfl ?_
    refine x_ret rfl ?_
    exact ⟨_, _, rfl, h⟩
  · replace h := h.2 c
    refine x_st rfl ?_
    refine x_st rfl ?_
    refine x_st rfl ?_
    refine x_ret rfl ?_
    exact ⟨_, _, rfl, h⟩
theorem EX10_law {D : Nat} {Q : Option Value → mI → mJ → Prop}  {MI : mI} {ML : mJ} (h : VX10_law_0 D Q  MI ML) : ∃ v MI' ML', Q v MI' ML' ∧ mrc (D + 1) 142 [.ref 0] MI ML v MI' ML' := by
  refine x_en (n := 1) (T := TX10_law) rfl rfl ?_
  refine x_kl ?_ h
  exact ⟨Or.inr rfl, ⟨Or.inl rfl, True.intro⟩⟩
def VX10_changeTo_0 (D : Nat) (Q : Option Value → mI → mJ → Prop)  (v1 : Int32) (v2 : Int32) (MI : mI) (ML : mJ) : Prop := mEx D TX10_changeTo (mqS Q) (0, [some (.ref 0), some (.int v1), some (.int v2), none], [], (W0, Sh0, MI, ML))
theorem BX10_changeTo_0 {D : Nat} {Q : Option Value → mI → mJ → Prop}  {v1 : Int32} {v2 : Int32} {MI : mI} {ML : mJ} 
    (h : ∃ (x3 : Int32) (M1 : mI) (N2 : mJ), mrc D 9 [.ref 1, .int v1] MI ML (some (.int x3)) M1 N2 ∧ ((x3 = v2 → Q (some (.int x3)) M1 N2) ∧ (¬ x3 = v2 → ∃ (M4 : mI) (N5 : mJ), mrc D 39 [.ref 39, .int v1, .int x3, .int v2] M1 N2 none M4 N5 ∧ (∃ (M6 : mI) (N7 : mJ), mrc D 10 [.ref 1, .int v1, .int v2] M4 N5 none M6 N7 ∧ (Q (some (.int x3)) M6 N7))))) :
    VX10_changeTo_0 D Q v1 v2 MI ML := by
  show mEx D TX10_changeTo (mqS Q) (0, [some (.ref 0), some (.int v1), some (.int v2), none], [], (W0, Sh0, MI, ML))
  refine x_st rfl ?_
  refine x_gr (ci := 10) (k := 0) (nx := 4) rfl sh_0 rfl ?_
  refine x_st rfl ?_
  obtain ⟨x3, M1, N2, hc, h⟩ := h
  refine x_vi (y := 9) (n := 1) (ci := 0) (nx := 8) rfl (fun _ => rfl) sh_1 rfl hc ?_
  refine x_st rfl ?_
  refine x_st rfl ?_
  refine x_st rfl ?_
  refine x_br rfl (fun c => ?_) (fun c => ?_)
  · replace h := h.1 c
    refine x_st rfl ?_
    refine x_ret rfl ?_
    exact ⟨_, _, rfl, h⟩
  · replace h := h.2 c
    refine x_st rfl ?_
    refine x_gr (ci := 10) (k := 7) (nx := 18) rfl sh_0 rfl ?_
    refine x_st rfl ?_
    refine x_st rfl ?_
    refine x_st rfl ?_
    obtain ⟨M4, N5, hc, h⟩ := h
    refine x_vv (y := 39) (n := 3) (ci := 2) (nx := 24) rfl (fun _ => rfl) sh_39 rfl hc ?_
    refine x_st rfl ?_
    refine x_gr (ci := 10) (k := 0) (nx := 28) rfl sh_0 rfl ?_
    refine x_st rfl ?_
    refine x_st rfl ?_
    obtain ⟨M6, N7, hc, h⟩ := h
    refine x_vv (y := 10) (n := 2) (ci := 0) (nx := 33) rfl (fun _ => rfl) sh_1 rfl hc ?_
    refine x_st rfl ?_
    refine x_ret rfl ?_
    exact ⟨_, _, rfl, h⟩
theorem EX10_changeTo {D : Nat} {Q : Option Value → mI → mJ → Prop}  {v1 : Int32} {v2 : Int32} {MI : mI} {ML : mJ} (h : VX10_changeTo_0 D Q v1 v2 MI ML) : ∃ v MI' ML', Q v MI' ML' ∧ mrc (D + 1) 143 [.ref 0, .int v1, .int v2] MI ML v MI' ML' := by
  refine x_en (n := 1) (T := TX10_changeTo) rfl rfl ?_
  refine x_kl ?_ h
  exact ⟨Or.inr rfl, ⟨Or.inr rfl, ⟨Or.inr rfl, ⟨Or.inl rfl, True.intro⟩⟩⟩⟩
def VX10_paired_0 (D : Nat) (Q : Option Value → mI → mJ → Prop)  (v1 : Int32) (MI : mI) (ML : mJ) : Prop := mEx D TX10_paired (mqS Q) (0, [some (.ref 0), some (.int v1)], [], (W0, Sh0, MI, ML))
theorem BX10_paired_0 {D : Nat} {Q : Option Value → mI → mJ → Prop}  {v1 : Int32} {MI : mI} {ML : mJ} 
    (h : ∃ (x3 : Int32) (M1 : mI) (N2 : mJ), mrc D 153 [.ref 0, .int v1] MI ML (some (.int x3)) M1 N2 ∧ ((x3 = nI 0 → Q (some (.int (-1 : Int32))) M1 N2) ∧ (¬ x3 = nI 0 → ∃ (M4 : mI) (N5 : mJ), mrc D 84 [.ref 24] M1 N2 none M4 N5 ∧ ((v1 = (-1 : Int32) → ∃ (x8 : Int32) (M6 : mI) (N7 : mJ), mrc D 87 [.ref 24] M4 N5 (some (.int x8)) M6 N7 ∧ (Q (some (.int ((M4 1 0) - x8))) M6 N7)) ∧ (¬ v1 = (-1 : Int32) → ∃ (x11 : Int32) (M9 : mI) (N10 : mJ), mrc D 88 [.ref 24, .int v1] M4 N5 (some (.int x11)) M9 N10 ∧ (Q (some (.int x11)) M9 N10)))))) :
    VX10_paired_0 D Q v1 MI ML := by
  show mEx D TX10_paired (mqS Q) (0, [some (.ref 0), some (.int v1)], [], (W0, Sh0, MI, ML))
  refine x_st rfl ?_
  refine x_st rfl ?_
  obtain ⟨x3, M1, N2, hc, h⟩ := h
  refine x_vi (y := 153) (n := 1) (ci := 10) (nx := 5) rfl (fun _ => rfl) sh_0 rfl hc ?_
  refine x_br rfl (fun c => ?_) (fun c => ?_)
  · replace h := h.1 c
    refine x_st rfl ?_
    refine x_ret rfl ?_
    exact ⟨_, _, rfl, h⟩
  · replace h := h.2 c
    refine x_st rfl ?_
    refine x_gr (ci := 10) (k := 4) (nx := 14) rfl sh_0 rfl ?_
    obtain ⟨M4, N5, hc, h⟩ := h
    refine x_vv (y := 84) (n := 0) (ci := 6) (nx := 17) rfl (fun _ => rfl) sh_24 rfl hc ?_
    refine x_st rfl ?_
    refine x_st rfl ?_
    refine x_br rfl (fun c => ?_) (fun c => ?_)
    · replace h := h.1 c
      refine x_st rfl ?_
      refine x_gr (ci := 10) (k := 0) (nx := 26) rfl sh_0 rfl ?_
      refine x_gi (ci := 0) (k := 0) (nx := 29) rfl sh_1 rfl ?_
      refine x_st rfl ?_
      refine x_gr (ci := 10) (k := 4) (nx := 33) rfl sh_0 rfl ?_
      obtain ⟨x8, M6, N7, hc, h⟩ := h
      refine x_vi (y := 87) (n := 0) (ci := 6) (nx := 36) rfl (fun _ => rfl) sh_24 rfl hc ?_
      refine x_st rfl ?_
      refine x_st rfl ?_
      refine x_ret rfl ?_
      exact ⟨_, _, rfl, h⟩
    · replace h := h.2 c
      refine x_st rfl ?_
      refine x_gr (ci := 10) (k := 4) (nx := 44) rfl sh_0 rfl ?_
      refine x_st rfl ?_
      obtain ⟨x11, M9, N10, hc, h⟩ := h
      refine x_vi (y := 88) (n := 1) (ci := 6) (nx := 48) rfl (fun _ => rfl) sh_24 rfl hc ?_
      refine x_ret rfl ?_
      exact ⟨_, _, rfl, h⟩
theorem EX10_paired {D : Nat} {Q : Option Value → mI → mJ → Prop}  {v1 : Int32} {MI : mI} {ML : mJ} (h : VX10_paired_0 D Q v1 MI ML) : ∃ v MI' ML', Q v MI' ML' ∧ mrc (D + 1) 144 [.ref 0, .int v1] MI ML v MI' ML' := by
  refine x_en (n := 0) (T := TX10_paired) rfl rfl ?_
  refine x_kl ?_ h
  exact ⟨Or.inr rfl, ⟨Or.inr rfl, True.intro⟩⟩
def VX10_harm_0 (D : Nat) (Q : Option Value → mI → mJ → Prop)  (v1 : Int32) (MI : mI) (ML : mJ) : Prop := mEx D TX10_harm (mqS Q) (0, [some (.ref 0), some (.int v1)], [], (W0, Sh0, MI, ML))
theorem BX10_harm_0 {D : Nat} {Q : Option Value → mI → mJ → Prop}  {v1 : Int32} {MI : mI} {ML : mJ} 
    (h : ∃ (x3 : Int32) (M1 : mI) (N2 : mJ), mrc D 153 [.ref 0, .int v1] MI ML (some (.int x3)) M1 N2 ∧ ((x3 = nI 0 → Q (some (.int (-1 : Int32))) M1 N2) ∧ (¬ x3 = nI 0 → ∃ (M4 : mI) (N5 : mJ), mrc D 85 [.ref 24] M1 N2 none M4 N5 ∧ (∃ (x8 : Int32) (M6 : mI) (N7 : mJ), mrc D 86 [.ref 24] M4 N5 (some (.int x8)) M6 N7 ∧ ((x8 = nI 0 → Q (some (.int (-2 : Int32))) M6 N7) ∧ (¬ x8 = nI 0 → (v1 = (-1 : Int32) → ∃ (x11 : Int32) (M9 : mI) (N10 : mJ), mrc D 87 [.ref 24] M6 N7 (some (.int x11)) M9 N10 ∧ (Q (some (.int x11)) M9 N10)) ∧ (¬ v1 = (-1 : Int32) → ∃ (x14 : Int32) (M12 : mI) (N13 : mJ), mrc D 88 [.ref 24, .int v1] M6 N7 (some (.int x14)) M12 N13 ∧ (Q (some (.int x14)) M12 N13)))))))) :
    VX10_harm_0 D Q v1 MI ML := by
  show mEx D TX10_harm (mqS Q) (0, [some (.ref 0), some (.int v1)], [], (W0, Sh0, MI, ML))
  refine x_st rfl ?_
  refine x_st rfl ?_
  obtain ⟨x3, M1, N2, hc, h⟩ := h
  refine x_vi (y := 153) (n := 1) (ci := 10) (nx := 5) rfl (fun _ => rfl) sh_0 rfl hc ?_
  refine x_br rfl (fun c => ?_) (fun c => ?_)
  · replace h := h.1 c
    refine x_st rfl ?_
    refine x_ret rfl ?_
    exact ⟨_, _, rfl, h⟩
  · replace h := h.2 c
    refine x_st rfl ?_
    refine x_gr (ci := 10) (k := 4) (nx := 14) rfl sh_0 rfl ?_
    obtain ⟨M4, N5, hc, h⟩ := h
    refine x_vv (y := 85) (n := 0) (ci := 6) (nx := 17) rfl (fun _ => rfl) sh_24 rfl hc ?_
    refine x_st rfl ?_
    refine x_gr (ci := 10) (k := 4) (nx := 21) rfl sh_0 rfl ?_
    obtain ⟨x8, M6, N7, hc, h⟩ := h
    refine x_vi (y := 86) (n := 0) (ci := 6) (nx := 24) rfl (fun _ => rfl) sh_24 rfl hc ?_
    refine x_br rfl (fun c => ?_) (fun c => ?_)
    · replace h := h.1 c
      refine x_st rfl ?_
      refine x_ret rfl ?_
      exact ⟨_, _, rfl, h⟩
    · replace h := h.2 c
      refine x_st rfl ?_
      refine x_st rfl ?_
      refine x_br rfl (fun c => ?_) (fun c => ?_)
      · replace h := h.1 c
        refine x_st rfl ?_
        refine x_gr (ci := 10) (k := 4) (nx := 39) rfl sh_0 rfl ?_
        obtain ⟨x11, M9, N10, hc, h⟩ := h
        refine x_vi (y := 87) (n := 0) (ci := 6) (nx := 42) rfl (fun _ => rfl) sh_24 rfl hc ?_
        refine x_st rfl ?_
        refine x_ret rfl ?_
        exact ⟨_, _, rfl, h⟩
      · replace h := h.2 c
        refine x_st rfl ?_
        refine x_gr (ci := 10) (k := 4) (nx := 49) rfl sh_0 rfl ?_
        refine x_st rfl ?_
        obtain ⟨x14, M12, N13, hc, h⟩ := h
        refine x_vi (y := 88) (n := 1) (ci := 6) (nx := 53) rfl (fun _ => rfl) sh_24 rfl hc ?_
        refine x_ret rfl ?_
        exact ⟨_, _, rfl, h⟩
theorem EX10_harm {D : Nat} {Q : Option Value → mI → mJ → Prop}  {v1 : Int32} {MI : mI} {ML : mJ} (h : VX10_harm_0 D Q v1 MI ML) : ∃ v MI' ML', Q v MI' ML' ∧ mrc (D + 1) 145 [.ref 0, .int v1] MI ML v MI' ML' := by
  refine x_en (n := 0) (T := TX10_harm) rfl rfl ?_
  refine x_kl ?_ h
  exact ⟨Or.inr rfl, ⟨Or.inr rfl, True.intro⟩⟩
def VX10_lacks_0 (D : Nat) (Q : Option Value → mI → mJ → Prop)  (v1 : Int32) (v2 : Int32) (MI : mI) (ML : mJ) : Prop := mEx D TX10_lacks (mqS Q) (0, [some (.ref 0), some (.int v1), some (.int v2)], [], (W0, Sh0, MI, ML))
theorem BX10_lacks_0 {D : Nat} {Q : Option Value → mI → mJ → Prop}  {v1 : Int32} {v2 : Int32} {MI : mI} {ML : mJ} 
    (h : (v2 = nI 0 → (v1 = nI 0 → ∃ (x3 : Int32) (M1 : mI) (N2 : mJ), mrc D 19 [.ref 1] MI ML (some (.int x3)) M1 N2 ∧ (Q (some (.int x3)) M1 N2)) ∧ (¬ v1 = nI 0 → Q (some (.int (-1 : Int32))) MI ML)) ∧ (¬ v2 = nI 0 → (v2 < nI 0 → Q (some (.int (-1 : Int32))) MI ML) ∧ (¬ v2 < nI 0 → ((nI 2) < v2 → Q (some (.int (-1 : Int32))) MI ML) ∧ (¬ (nI 2) < v2 → ∃ (x6 : Int32) (M4 : mI) (N5 : mJ), mrc D 6 [.ref 1, .int v1] MI ML (some (.int x6)) M4 N5 ∧ ((x6 = nI 0 → Q (some (.int (-1 : Int32))) M4 N5) ∧ (¬ x6 = nI 0 → (v2 = (nI 1) → ∃ (x9 : Int32) (M7 : mI) (N8 : mJ), mrc D 17 [.ref 1, .int v1] M4 N5 (some (.int x9)) M7 N8 ∧ (Q (some (.int x9)) M7 N8)) ∧ (¬ v2 = (nI 1) → ∃ (x12 : Int32) (M10 : mI) (N11 : mJ), mrc D 18 [.ref 1, .int v1] M4 N5 (some (.int x12)) M10 N11 ∧ (Q (some (.int x12)) M10 N11)))))))) :
    VX10_lacks_0 D Q v1 v2 MI ML := by
  show mEx D TX10_lacks (mqS Q) (0, [some (.ref 0), some (.int v1), some (.int v2)], [], (W0, Sh0, MI, ML))
  refine x_st rfl ?_
  refine x_br rfl (fun c => ?_) (fun c => ?_)
  · replace h := h.1 c
    refine x_st rfl ?_
    refine x_br rfl (fun c => ?_) (fun c => ?_)
    · replace h := h.1 c
      refine x_st rfl ?_
      refine x_gr (ci := 10) (k := 0) (nx := 12) rfl sh_0 rfl ?_
      obtain ⟨x3, M1, N2, hc, h⟩ := h
      refine x_vi (y := 19) (n := 0) (ci := 0) (nx := 15) rfl (fun _ => rfl) sh_1 rfl hc ?_
      refine x_st rfl ?_
      refine x_ret rfl ?_
      exact ⟨_, _, rfl, h⟩
    · replace h := h.2 c
      refine x_st rfl ?_
      refine x_ret rfl ?_
      exact ⟨_, _, rfl, h⟩
  · replace h := h.2 c
    refine x_st rfl ?_
    refine x_br rfl (fun c => ?_) (fun c => ?_)
    · replace h := h.1 c
      refine x_st rfl ?_
      refine x_ret rfl ?_
      exact ⟨_, _, rfl, h⟩
    · replace h := h.2 c
      refine x_st rfl ?_
      refine x_st rfl ?_
      refine x_br rfl (fun c => ?_) (fun c => ?_)
      · replace h := h.1 c
        refine x_st rfl ?_
        refine x_ret rfl ?_
        exact ⟨_, _, rfl, h⟩
      · replace h := h.2 c
        refine x_st rfl ?_
        refine x_gr (ci := 10) (k := 0) (nx := 33) rfl sh_0 rfl ?_
        refine x_st rfl ?_
        obtain ⟨x6, M4, N5, hc, h⟩ := h
        refine x_vi (y := 6) (n := 1) (ci := 0) (nx := 37) rfl (fun _ => rfl) sh_1 rfl hc ?_
        refine x_br rfl (fun c => ?_) (fun c => ?_)
        · replace h := h.1 c
          refine x_st rfl ?_
          refine x_ret rfl ?_
          exact ⟨_, _, rfl, h⟩
        · replace h := h.2 c
          refine x_st rfl ?_
          refine x_st rfl ?_
          refine x_br rfl (fun c => ?_) (fun c => ?_)
          · replace h := h.1 c
            refine x_st rfl ?_
            refine x_gr (ci := 10) (k := 0) (nx := 51) rfl sh_0 rfl ?_
            refine x_st rfl ?_
            obtain ⟨x9, M7, N8, hc, h⟩ := h
            refine x_vi (y := 17) (n := 1) (ci := 0) (nx := 55) rfl (fun _ => rfl) sh_1 rfl hc ?_
            refine x_st rfl ?_
            refine x_ret rfl ?_
            exact ⟨_, _, rfl, h⟩
          · replace h := h.2 c
            refine x_st rfl ?_
            refine x_gr (ci := 10) (k := 0) (nx := 62) rfl sh_0 rfl ?_
            refine x_st rfl ?_
            obtain ⟨x12, M10, N11, hc, h⟩ := h
            refine x_vi (y := 18) (n := 1) (ci := 0) (nx := 66) rfl (fun _ => rfl) sh_1 rfl hc ?_
            refine x_ret rfl ?_
            exact ⟨_, _, rfl, h⟩
theorem EX10_lacks {D : Nat} {Q : Option Value → mI → mJ → Prop}  {v1 : Int32} {v2 : Int32} {MI : mI} {ML : mJ} (h : VX10_lacks_0 D Q v1 v2 MI ML) : ∃ v MI' ML', Q v MI' ML' ∧ mrc (D + 1) 146 [.ref 0, .int v1, .int v2] MI ML v MI' ML' := by
  refine x_en (n := 0) (T := TX10_lacks) rfl rfl ?_
  refine x_kl ?_ h
  exact ⟨Or.inr rfl, ⟨Or.inr rfl, ⟨Or.inr rfl, True.intro⟩⟩⟩
def VX10_later_0 (D : Nat) (Q : Option Value → mI → mJ → Prop)  (v1 : Int32) (v2 : Int32) (MI : mI) (ML : mJ) : Prop := mEx D TX10_later (mqS Q) (0, [some (.ref 0), some (.int v1), some (.int v2), none], [], (W0, Sh0, MI, ML))
theorem BX10_later_0 {D : Nat} {Q : Option Value → mI → mJ → Prop}  {v1 : Int32} {v2 : Int32} {MI : mI} {ML : mJ} 
    (h : (v1 < nI 0 → Q (some (.int (-1 : Int32))) MI ML) ∧ (¬ v1 < nI 0 → ((nI 40) < v1 → Q (some (.int (-1 : Int32))) MI ML) ∧ (¬ (nI 40) < v1 → ∃ (x3 : Int32) (M1 : mI) (N2 : mJ), mrc D 153 [.ref 0, .int v2] MI ML (some (.int x3)) M1 N2 ∧ ((x3 = nI 0 → Q (some (.int (-1 : Int32))) M1 N2) ∧ (¬ x3 = nI 0 → ∃ (M4 : mI) (N5 : mJ), mrc D 122 [.ref 15] M1 N2 none M4 N5 ∧ (∃ (x8 : Int32) (M6 : mI) (N7 : mJ), mrc D 123 [.ref 15, .int v1] M4 N5 (some (.int x8)) M6 N7 ∧ ((v2 = (-1 : Int32) → Q (some (.int x8)) M6 N7) ∧ (¬ v2 = (-1 : Int32) → ∃ (x11 : Int32) (M9 : mI) (N10 : mJ), mrc D 11 [.ref 16, .int v2] M6 N7 (some (.int x11)) M9 N10 ∧ (Q (some (.int x11)) M9 N10))))))))) :
    VX10_later_0 D Q v1 v2 MI ML := by
  show mEx D TX10_later (mqS Q) (0, [some (.ref 0), some (.int v1), some (.int v2), none], [], (W0, Sh0, MI, ML))
  refine x_st rfl ?_
  refine x_br rfl (fun c => ?_) (fun c => ?_)
  · replace h := h.1 c
    refine x_st rfl ?_
    refine x_ret rfl ?_
    exact ⟨_, _, rfl, h⟩
  · replace h := h.2 c
    refine x_st rfl ?_
    refine x_st rfl ?_
    refine x_br rfl (fun c => ?_) (fun c => ?_)
    · replace h := h.1 c
      refine x_st rfl ?_
      refine x_ret rfl ?_
      exact ⟨_, _, rfl, h⟩
    · replace h := h.2 c
      refine x_st rfl ?_
      refine x_st rfl ?_
      obtain ⟨x3, M1, N2, hc, h⟩ := h
      refine x_vi (y := 153) (n := 1) (ci := 10) (nx := 15) rfl (fun _ => rfl) sh_0 rfl hc ?_
      refine x_br rfl (fun c => ?_) (fun c => ?_)
      · replace h := h.1 c
        refine x_st rfl ?_
        refine x_ret rfl ?_
        exact ⟨_, _, rfl, h⟩
      · replace h := h.2 c
        refine x_st rfl ?_
        refine x_gr (ci := 10) (k := 3) (nx := 24) rfl sh_0 rfl ?_
        obtain ⟨M4, N5, hc, h⟩ := h
        refine x_vv (y := 122) (n := 0) (ci := 9) (nx := 27) rfl (fun _ => rfl) sh_15 rfl hc ?_
        refine x_st rfl ?_
        refine x_gr (ci := 10) (k := 3) (nx := 31) rfl sh_0 rfl ?_
        refine x_st rfl ?_
        obtain ⟨x8, M6, N7, hc, h⟩ := h
        refine x_vi (y := 123) (n := 1) (ci := 9) (nx := 35) rfl (fun _ => rfl) sh_15 rfl hc ?_
        refine x_st rfl ?_
        refine x_st rfl ?_
        refine x_st rfl ?_
        refine x_br rfl (fun c => ?_) (fun c => ?_)
        · replace h := h.1 c
          refine x_st rfl ?_
          refine x_st rfl ?_
          refine x_ret rfl ?_
          exact ⟨_, _, rfl, h⟩
        · replace h := h.2 c
          refine x_st rfl ?_
          refine x_gr (ci := 10) (k := 3) (nx := 49) rfl sh_0 rfl ?_
          refine x_gr (ci := 9) (k := 0) (nx := 52) rfl sh_15 rfl ?_
          refine x_st rfl ?_
          obtain ⟨x11, M9, N10, hc, h⟩ := h
          refine x_vi (y := 11) (n := 1) (ci := 0) (nx := 56) rfl (fun _ => rfl) sh_16 rfl hc ?_
          refine x_ret rfl ?_
          exact ⟨_, _, rfl, h⟩
theorem EX10_later {D : Nat} {Q : Option Value → mI → mJ → Prop}  {v1 : Int32} {v2 : Int32} {MI : mI} {ML : mJ} (h : VX10_later_0 D Q v1 v2 MI ML) : ∃ v MI' ML', Q v MI' ML' ∧ mrc (D + 1) 147 [.ref 0, .int v1, .int v2] MI ML v MI' ML' := by
  refine x_en (n := 1) (T := TX10_later) rfl rfl ?_
  refine x_kl ?_ h
  exact ⟨Or.inr rfl, ⟨Or.inr rfl, ⟨Or.inr rfl, ⟨Or.inl rfl, True.intro⟩⟩⟩⟩
def VX10_feltLater_0 (D : Nat) (Q : Option Value → mI → mJ → Prop)  (v1 : Int32) (v2 : Int32) (MI : mI) (ML : mJ) : Prop := mEx D TX10_feltLater (mqS Q) (0, [some (.ref 0), some (.int v1), some (.int v2)], [], (W0, Sh0, MI, ML))
theorem BX10_feltLater_0 {D : Nat} {Q : Option Value → mI → mJ → Prop}  {v1 : Int32} {v2 : Int32} {MI : mI} {ML : mJ} 
    (h : (v1 < nI 0 → Q (some (.int (-1 : Int32))) MI ML) ∧ (¬ v1 < nI 0 → ((nI 40) < v1 → Q (some (.int (-1 : Int32))) MI ML) ∧ (¬ (nI 40) < v1 → ∃ (x3 : Int32) (M1 : mI) (N2 : mJ), mrc D 7 [.ref 1, .int v2] MI ML (some (.int x3)) M1 N2 ∧ ((x3 = nI 0 → Q (some (.int (-1 : Int32))) M1 N2) ∧ (¬ x3 = nI 0 → ∃ (M4 : mI) (N5 : mJ), mrc D 122 [.ref 15] M1 N2 none M4 N5 ∧ (∃ (x8 : Int32) (M6 : mI) (N7 : mJ), mrc D 123 [.ref 15, .int v1] M4 N5 (some (.int x8)) M6 N7 ∧ (∃ (x11 : Int32) (M9 : mI) (N10 : mJ), mrc D 14 [.ref 16, .int (v2 / (nI 10)), .int (v2 - v2 / (nI 10) * (nI 10))] M6 N7 (some (.int x11)) M9 N10 ∧ (Q (some (.int (x11 + (nI 100)))) M9 N10)))))))) :
    VX10_feltLater_0 D Q v1 v2 MI ML := by
  show mEx D TX10_feltLater (mqS Q) (0, [some (.ref 0), some (.int v1), some (.int v2)], [], (W0, Sh0, MI, ML))
  refine x_st rfl ?_
  refine x_br rfl (fun c => ?_) (fun c => ?_)
  · replace h := h.1 c
    refine x_st rfl ?_
    refine x_ret rfl ?_
    exact ⟨_, _, rfl, h⟩
  · replace h := h.2 c
    refine x_st rfl ?_
    refine x_st rfl ?_
    refine x_br rfl (fun c => ?_) (fun c => ?_)
    · replace h := h.1 c
      refine x_st rfl ?_
      refine x_ret rfl ?_
      exact ⟨_, _, rfl, h⟩
    · replace h := h.2 c
      refine x_st rfl ?_
      refine x_gr (ci := 10) (k := 0) (nx := 14) rfl sh_0 rfl ?_
      refine x_st rfl ?_
      obtain ⟨x3, M1, N2, hc, h⟩ := h
      refine x_vi (y := 7) (n := 1) (ci := 0) (nx := 18) rfl (fun _ => rfl) sh_1 rfl hc ?_
      refine x_br rfl (fun c => ?_) (fun c => ?_)
      · replace h := h.1 c
        refine x_st rfl ?_
        refine x_ret rfl ?_
        exact ⟨_, _, rfl, h⟩
      · replace h := h.2 c
        refine x_st rfl ?_
        refine x_gr (ci := 10) (k := 3) (nx := 27) rfl sh_0 rfl ?_
        obtain ⟨M4, N5, hc, h⟩ := h
        refine x_vv (y := 122) (n := 0) (ci := 9) (nx := 30) rfl (fun _ => rfl) sh_15 rfl hc ?_
        refine x_st rfl ?_
        refine x_gr (ci := 10) (k := 3) (nx := 34) rfl sh_0 rfl ?_
        refine x_st rfl ?_
        obtain ⟨x8, M6, N7, hc, h⟩ := h
        refine x_vi (y := 123) (n := 1) (ci := 9) (nx := 38) rfl (fun _ => rfl) sh_15 rfl hc ?_
        refine x_st rfl ?_
        refine x_st rfl ?_
        refine x_gr (ci := 10) (k := 3) (nx := 43) rfl sh_0 rfl ?_
        refine x_gr (ci := 9) (k := 0) (nx := 46) rfl sh_15 rfl ?_
        refine x_st rfl ?_
        refine x_st rfl ?_
        refine x_st rfl ?_
        refine x_st rfl ?_
        refine x_st rfl ?_
        refine x_st rfl ?_
        obtain ⟨x11, M9, N10, hc, h⟩ := h
        refine x_vi (y := 14) (n := 2) (ci := 0) (nx := 57) rfl (fun _ => rfl) sh_16 rfl hc ?_
        refine x_st rfl ?_
        refine x_st rfl ?_
        refine x_ret rfl ?_
        exact ⟨_, _, rfl, h⟩
theorem EX10_feltLater {D : Nat} {Q : Option Value → mI → mJ → Prop}  {v1 : Int32} {v2 : Int32} {MI : mI} {ML : mJ} (h : VX10_feltLater_0 D Q v1 v2 MI ML) : ∃ v MI' ML', Q v MI' ML' ∧ mrc (D + 1) 148 [.ref 0, .int v1, .int v2] MI ML v MI' ML' := by
  refine x_en (n := 0) (T := TX10_feltLater) rfl rfl ?_
  refine x_kl ?_ h
  exact ⟨Or.inr rfl, ⟨Or.inr rfl, ⟨Or.inr rfl, True.intro⟩⟩⟩
def VX10_lasts_0 (D : Nat) (Q : Option Value → mI → mJ → Prop)  (v1 : Int32) (MI : mI) (ML : mJ) : Prop := mEx D TX10_lasts (mqS Q) (0, [some (.ref 0), some (.int v1)], [], (W0, Sh0, MI, ML))
theorem BX10_lasts_0 {D : Nat} {Q : Option Value → mI → mJ → Prop}  {v1 : Int32} {MI : mI} {ML : mJ} 
    (h : ∃ (x3 : Int32) (M1 : mI) (N2 : mJ), mrc D 6 [.ref 1, .int v1] MI ML (some (.int x3)) M1 N2 ∧ ((x3 = nI 0 → Q (some (.int (-1 : Int32))) M1 N2) ∧ (¬ x3 = nI 0 → ∃ (M4 : mI) (N5 : mJ), mrc D 122 [.ref 15] M1 N2 none M4 N5 ∧ (∃ (x8 : Int32) (M6 : mI) (N7 : mJ), mrc D 124 [.ref 15, .int v1] M4 N5 (some (.int x8)) M6 N7 ∧ (Q (some (.int x8)) M6 N7))))) :
    VX10_lasts_0 D Q v1 MI ML := by
  show mEx D TX10_lasts (mqS Q) (0, [some (.ref 0), some (.int v1)], [], (W0, Sh0, MI, ML))
  refine x_st rfl ?_
  refine x_gr (ci := 10) (k := 0) (nx := 4) rfl sh_0 rfl ?_
  refine x_st rfl ?_
  obtain ⟨x3, M1, N2, hc, h⟩ := h
  refine x_vi (y := 6) (n := 1) (ci := 0) (nx := 8) rfl (fun _ => rfl) sh_1 rfl hc ?_
  refine x_br rfl (fun c => ?_) (fun c => ?_)
  · replace h := h.1 c
    refine x_st rfl ?_
    refine x_ret rfl ?_
    exact ⟨_, _, rfl, h⟩
  · replace h := h.2 c
    refine x_st rfl ?_
    refine x_gr (ci := 10) (k := 3) (nx := 17) rfl sh_0 rfl ?_
    obtain ⟨M4, N5, hc, h⟩ := h
    refine x_vv (y := 122) (n := 0) (ci := 9) (nx := 20) rfl (fun _ => rfl) sh_15 rfl hc ?_
    refine x_st rfl ?_
    refine x_gr (ci := 10) (k := 3) (nx := 24) rfl sh_0 rfl ?_
    refine x_st rfl ?_
    obtain ⟨x8, M6, N7, hc, h⟩ := h
    refine x_vi (y := 124) (n := 1) (ci := 9) (nx := 28) rfl (fun _ => rfl) sh_15 rfl hc ?_
    refine x_ret rfl ?_
    exact ⟨_, _, rfl, h⟩
theorem EX10_lasts {D : Nat} {Q : Option Value → mI → mJ → Prop}  {v1 : Int32} {MI : mI} {ML : mJ} (h : VX10_lasts_0 D Q v1 MI ML) : ∃ v MI' ML', Q v MI' ML' ∧ mrc (D + 1) 149 [.ref 0, .int v1] MI ML v MI' ML' := by
  refine x_en (n := 0) (T := TX10_lasts) rfl rfl ?_
  refine x_kl ?_ h
  exact ⟨Or.inr rfl, ⟨Or.inr rfl, True.intro⟩⟩
def VX10_renewed_0 (D : Nat) (Q : Option Value → mI → mJ → Prop)  (v1 : Int32) (v2 : Int32) (MI : mI) (ML : mJ) : Prop := mEx D TX10_renewed (mqS Q) (0, [some (.ref 0), some (.int v1), some (.int v2)], [], (W0, Sh0, MI, ML))
theorem BX10_renewed_0 {D : Nat} {Q : Option Value → mI → mJ → Prop}  {v1 : Int32} {v2 : Int32} {MI : mI} {ML : mJ} 
    (h : ∃ (x3 : Int32) (M1 : mI) (N2 : mJ), mrc D 7 [.ref 1, .int v1] MI ML (some (.int x3)) M1 N2 ∧ ((x3 = nI 0 → Q (some (.int (-1 : Int32))) M1 N2) ∧ (¬ x3 = nI 0 → ∃ (x6 : Int32) (M4 : mI) (N5 : mJ), mrc D 2 [.int v2] M1 N2 (some (.int x6)) M4 N5 ∧ ((x6 = nI 0 → Q (some (.int (-1 : Int32))) M4 N5) ∧ (¬ x6 = nI 0 → ∃ (M7 : mI) (N8 : mJ), mrc D 122 [.ref 15] M4 N5 none M7 N8 ∧ (∃ (M9 : mI) (N10 : mJ), mrc D 15 [.ref 16, .int (v1 / (nI 10)), .int (v1 - v1 / (nI 10) * (nI 10)), .int v2] M7 N8 none M9 N10 ∧ (∃ (x13 : Int32) (M11 : mI) (N12 : mJ), mrc D 124 [.ref 15, .int (v1 - v1 / (nI 10) * (nI 10))] M9 N10 (some (.int x13)) M11 N12 ∧ (Q (some (.int x13)) M11 N12)))))))) :
    VX10_renewed_0 D Q v1 v2 MI ML := by
  show mEx D TX10_renewed (mqS Q) (0, [some (.ref 0), some (.int v1), some (.int v2)], [], (W0, Sh0, MI, ML))
  refine x_st rfl ?_
  refine x_gr (ci := 10) (k := 0) (nx := 4) rfl sh_0 rfl ?_
  refine x_st rfl ?_
  obtain ⟨x3, M1, N2, hc, h⟩ := h
  refine x_vi (y := 7) (n := 1) (ci := 0) (nx := 8) rfl (fun _ => rfl) sh_1 rfl hc ?_
  refine x_br rfl (fun c => ?_) (fun c => ?_)
  · replace h := h.1 c
    refine x_st rfl ?_
    refine x_ret rfl ?_
    exact ⟨_, _, rfl, h⟩
  · replace h := h.2 c
    refine x_st rfl ?_
    obtain ⟨x6, M4, N5, hc, h⟩ := h
    refine x_ci rfl hc ?_
    refine x_br rfl (fun c => ?_) (fun c => ?_)
    · replace h := h.1 c
      refine x_st rfl ?_
      refine x_ret rfl ?_
      exact ⟨_, _, rfl, h⟩
    · replace h := h.2 c
      refine x_st rfl ?_
      refine x_gr (ci := 10) (k := 3) (nx := 24) rfl sh_0 rfl ?_
      obtain ⟨M7, N8, hc, h⟩ := h
      refine x_vv (y := 122) (n := 0) (ci := 9) (nx := 27) rfl (fun _ => rfl) sh_15 rfl hc ?_
      refine x_st rfl ?_
      refine x_gr (ci := 10) (k := 3) (nx := 31) rfl sh_0 rfl ?_
      refine x_gr (ci := 9) (k := 0) (nx := 34) rfl sh_15 rfl ?_
      refine x_st rfl ?_
      refine x_st rfl ?_
      refine x_st rfl ?_
      refine x_st rfl ?_
      refine x_st rfl ?_
      refine x_st rfl ?_
      refine x_st rfl ?_
      obtain ⟨M9, N10, hc, h⟩ := h
      refine x_vv (y := 15) (n := 3) (ci := 0) (nx := 46) rfl (fun _ => rfl) sh_16 rfl hc ?_
      refine x_st rfl ?_
      refine x_gr (ci := 10) (k := 3) (nx := 50) rfl sh_0 rfl ?_
      refine x_st rfl ?_
      refine x_st rfl ?_
      refine x_st rfl ?_
      obtain ⟨x13, M11, N12, hc, h⟩ := h
      refine x_vi (y := 124) (n := 1) (ci := 9) (nx := 57) rfl (fun _ => rfl) sh_15 rfl hc ?_
      refine x_ret rfl ?_
      exact ⟨_, _, rfl, h⟩
theorem EX10_renewed {D : Nat} {Q : Option Value → mI → mJ → Prop}  {v1 : Int32} {v2 : Int32} {MI : mI} {ML : mJ} (h : VX10_renewed_0 D Q v1 v2 MI ML) : ∃ v MI' ML', Q v MI' ML' ∧ mrc (D + 1) 150 [.ref 0, .int v1, .int v2] MI ML v MI' ML' := by
  refine x_en (n := 0) (T := TX10_renewed) rfl rfl ?_
  refine x_kl ?_ h
  exact ⟨Or.inr rfl, ⟨Or.inr rfl, ⟨Or.inr rfl, True.intro⟩⟩⟩
def VX10_worth_0 (D : Nat) (Q : Option Value → mI → mJ → Prop)  (v1 : Int32) (v2 : Int32) (v3 : Int32) (MI : mI) (ML : mJ) : Prop := mEx D TX10_worth (mqS Q) (0, [some (.ref 0), some (.int v1), some (.int v2), some (.int v3)], [], (W0, Sh0, MI, ML))
theorem BX10_worth_0 {D : Nat} {Q : Option Value → mI → mJ → Prop}  {v1 : Int32} {v2 : Int32} {v3 : Int32} {MI : mI} {ML : mJ} 
    (h : ∃ (x3 : Int32) (M1 : mI) (N2 : mJ), mrc D 6 [.ref 1, .int v1] MI ML (some (.int x3)) M1 N2 ∧ ((x3 = nI 0 → Q (some (.int (-1 : Int32))) M1 N2) ∧ (¬ x3 = nI 0 → (v2 < nI 0 → Q (some (.int (-1 : Int32))) M1 N2) ∧ (¬ v2 < nI 0 → ((nI 40) < v2 → Q (some (.int (-1 : Int32))) M1 N2) ∧ (¬ (nI 40) < v2 → (v3 < nI 0 → Q (some (.int (-1 : Int32))) M1 N2) ∧ (¬ v3 < nI 0 → (v3 ≤ (nI 1) → ∃ (M4 : mI) (N5 : mJ), mrc D 125 [.ref 15, .int v1, .int v2] M1 N2 none M4 N5 ∧ (((M4 15 1) = (nI 8) → Q (some (.int (-2 : Int32))) M4 N5) ∧ (¬ (M4 15 1) = (nI 8) → (v3 = nI 0 → Q (some (.int (M4 15 1))) M4 N5) ∧ (¬ v3 = nI 0 → Q (some (.int (M4 15 2))) M4 N5)))) ∧ (¬ v3 ≤ (nI 1) → Q (some (.int (-1 : Int32))) M1 N2))))))) :
    VX10_worth_0 D Q v1 v2 v3 MI ML := by
  show mEx D TX10_worth (mqS Q) (0, [some (.ref 0), some (.int v1), some (.int v2), some (.int v3)], [], (W0, Sh0, MI, ML))
  refine x_st rfl ?_
  refine x_gr (ci := 10) (k := 0) (nx := 4) rfl sh_0 rfl ?_
  refine x_st rfl ?_
  obtain ⟨x3, M1, N2, hc, h⟩ := h
  refine x_vi (y := 6) (n := 1) (ci := 0) (nx := 8) rfl (fun _ => rfl) sh_1 rfl hc ?_
  refine x_br rfl (fun c => ?_) (fun c => ?_)
  · replace h := h.1 c
    refine x_st rfl ?_
    refine x_ret rfl ?_
    exact ⟨_, _, rfl, h⟩
  · replace h := h.2 c
    refine x_st rfl ?_
    refine x_br rfl (fun c => ?_) (fun c => ?_)
    · replace h := h.1 c
      refine x_st rfl ?_
      refine x_ret rfl ?_
      exact ⟨_, _, rfl, h⟩
    · replace h := h.2 c
      refine x_st rfl ?_
      refine x_st rfl ?_
      refine x_br rfl (fun c => ?_) (fun c => ?_)
      · replace h := h.1 c
        refine x_st rfl ?_
        refine x_ret rfl ?_
        exact ⟨_, _, rfl, h⟩
      · replace h := h.2 c
        refine x_st rfl ?_
        refine x_br rfl (fun c => ?_) (fun c => ?_)
        · replace h := h.1 c
          refine x_st rfl ?_
          refine x_ret rfl ?_
          exact ⟨_, _, rfl, h⟩
        · replace h := h.2 c
          refine x_st rfl ?_
          refine x_st rfl ?_
          refine x_br rfl (fun c => ?_) (fun c => ?_)
          · replace h := h.1 c
            refine x_st rfl ?_
            refine x_gr (ci := 10) (k := 3) (nx := 36) rfl sh_0 rfl ?_
            refine x_st rfl ?_
            refine x_st rfl ?_
            obtain ⟨M4, N5, hc, h⟩ := h
            refine x_vv (y := 125) (n := 2) (ci := 9) (nx := 41) rfl (fun _ => rfl) sh_15 rfl hc ?_
            refine x_st rfl ?_
            refine x_gr (ci := 10) (k := 3) (nx := 45) rfl sh_0 rfl ?_
            refine x_gi (ci := 9) (k := 1) (nx := 48) rfl sh_15 rfl ?_
            refine x_st rfl ?_
            refine x_br rfl (fun c => ?_) (fun c => ?_)
            · replace h := h.1 c
              refine x_st rfl ?_
              refine x_ret rfl ?_
              exact ⟨_, _, rfl, h⟩
            · replace h := h.2 c
              refine x_st rfl ?_
              refine x_br rfl (fun c => ?_) (fun c => ?_)
              · replace h := h.1 c
                refine x_st rfl ?_
                refine x_gr (ci := 10) (k := 3) (nx := 64) rfl sh_0 rfl ?_
                refine x_gi (ci := 9) (k := 1) (nx := 67) rfl sh_15 rfl ?_
                refine x_st rfl ?_
                refine x_ret rfl ?_
                exact ⟨_, _, rfl, h⟩
              · replace h := h.2 c
                refine x_st rfl ?_
                refine x_gr (ci := 10) (k := 3) (nx := 74) rfl sh_0 rfl ?_
                refine x_gi (ci := 9) (k := 2) (nx := 77) rfl sh_15 rfl ?_
                refine x_ret rfl ?_
                exact ⟨_, _, rfl, h⟩
          · replace h := h.2 c
            refine x_st rfl ?_
            refine x_ret rfl ?_
            exact ⟨_, _, rfl, h⟩
theorem EX10_worth {D : Nat} {Q : Option Value → mI → mJ → Prop}  {v1 : Int32} {v2 : Int32} {v3 : Int32} {MI : mI} {ML : mJ} (h : VX10_worth_0 D Q v1 v2 v3 MI ML) : ∃ v MI' ML', Q v MI' ML' ∧ mrc (D + 1) 151 [.ref 0, .int v1, .int v2, .int v3] MI ML v MI' ML' := by
  refine x_en (n := 0) (T := TX10_worth) rfl rfl ?_
  refine x_kl ?_ h
  exact ⟨Or.inr rfl, ⟨Or.inr rfl, ⟨Or.inr rfl, ⟨Or.inr rfl, True.intro⟩⟩⟩⟩
def VX10_ring_0 (D : Nat) (Q : Option Value → mI → mJ → Prop)  (MI : mI) (ML : mJ) : Prop := mEx D TX10_ring (mqS Q) (0, [some (.ref 0)], [], (W0, Sh0, MI, ML))
theorem BX10_ring_0 {D : Nat} {Q : Option Value → mI → mJ → Prop}  {MI : mI} {ML : mJ} 
    (h : ∃ (x3 : Int32) (M1 : mI) (N2 : mJ), mrc D 21 [.ref 1] MI ML (some (.int x3)) M1 N2 ∧ (Q (some (.int x3)) M1 N2)) :
    VX10_ring_0 D Q  MI ML := by
  show mEx D TX10_ring (mqS Q) (0, [some (.ref 0)], [], (W0, Sh0, MI, ML))
  refine x_st rfl ?_
  refine x_gr (ci := 10) (k := 0) (nx := 4) rfl sh_0 rfl ?_
  obtain ⟨x3, M1, N2, hc, h⟩ := h
  refine x_vi (y := 21) (n := 0) (ci := 0) (nx := 7) rfl (fun _ => rfl) sh_1 rfl hc ?_
  refine x_ret rfl ?_
  exact ⟨_, _, rfl, h⟩
theorem EX10_ring {D : Nat} {Q : Option Value → mI → mJ → Prop}  {MI : mI} {ML : mJ} (h : VX10_ring_0 D Q  MI ML) : ∃ v MI' ML', Q v MI' ML' ∧ mrc (D + 1) 152 [.ref 0] MI ML v MI' ML' := by
  refine x_en (n := 0) (T := TX10_ring) rfl rfl ?_
  refine x_kl ?_ h
  exact ⟨Or.inr rfl, True.intro⟩
