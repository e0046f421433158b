/-! bodies by blocks -/
def VX7_weigherOf_0 (D : Nat) (Q : Option Value → mI → mJ → Prop) (r r1 r2 r3 r4 : Nat) (v1 : Int32) (MI : mI) (ML : mJ) : Prop := mEx (mrn D) TX7_weigherOf (mqS Q) (0, [some (.ref r), some (.int v1), none], [], (W0, Sh0, MI, ML))
def VX7_weigherOf_2 (D : Nat) (Q : Option Value → mI → mJ → Prop) (r r1 r2 r3 r4 : Nat) (v1 : Int32) (v2 : Int32) (MI : mI) (ML : mJ) : Prop := mEx (mrn D) TX7_weigherOf (mqS Q) (2, [some (.ref r), some (.int v1), some (.int v2)], [], (W0, Sh0, MI, ML))
theorem BX7_weigherOf_0 {D : Nat} {Q : Option Value → mI → mJ → Prop} {r r1 r2 r3 r4 : Nat} {v1 : Int32} {MI : mI} {ML : mJ} (hR : rd r r1 r2 r3 r4)
    (h : VX7_weigherOf_2 D Q r r1 r2 r3 r4 v1 (nI 0) MI ML) :
    VX7_weigherOf_0 D Q r r1 r2 r3 r4 v1 MI ML := by
  show mEx (mrn D) TX7_weigherOf (mqS Q) (0, [some (.ref r), some (.int v1), none], [], (W0, Sh0, MI, ML))
  refine x_st rfl ?_
  refine x_st rfl ?_
  refine x_kl ?_ h
  exact ⟨Or.inr rfl, ⟨Or.inr rfl, ⟨Or.inr rfl, True.intro⟩⟩⟩
theorem BX7_weigherOf_2 {D : Nat} {Q : Option Value → mI → mJ → Prop} {r r1 r2 r3 r4 : Nat} {v1 : Int32} {v2 : Int32} {MI : mI} {ML : mJ} (hR : rd r r1 r2 r3 r4)
    (h : ((MI r 0) ≤ v2 → Q (some (.int (nI 8))) MI ML) ∧ (¬ (MI r 0) ≤ v2 → ((nI 8) ≤ v2 → Q (some (.int (nI 8))) MI ML) ∧ (¬ (nI 8) ≤ v2 → ∃ i1 : Nat, v2 = nI i1 ∧ i1 < 8 ∧ (((MI r1 i1) = v1 → ∃ i2 : Nat, v2 = nI i2 ∧ i2 < 8 ∧ (Q (some (.int (MI r2 i2))) MI ML)) ∧ (¬ (MI r1 i1) = v1 → VX7_weigherOf_2 D Q r r1 r2 r3 r4 v1 (v2 + (nI 1)) MI ML))))) :
    VX7_weigherOf_2 D Q r r1 r2 r3 r4 v1 v2 MI ML := by
  show mEx (mrn D) TX7_weigherOf (mqS Q) (2, [some (.ref r), some (.int v1), some (.int v2)], [], (W0, Sh0, MI, ML))
  refine x_st rfl ?_
  refine x_st rfl ?_
  refine x_gi (ci := 7) (k := 0) (nx := 7) rfl (rd_o hR) rfl ?_
  refine x_br rfl (fun c => ?_) (fun c => ?_)
  · replace h := h.1 c
    refine x_st rfl ?_
    refine x_ret rfl ?_
    exact ⟨_, _, rfl, h⟩
  · replace h := h.2 c
    refine x_st rfl ?_
    refine x_st rfl ?_
    refine x_br rfl (fun c => ?_) (fun c => ?_)
    · replace h := h.1 c
      refine x_st rfl ?_
      refine x_ret rfl ?_
      exact ⟨_, _, rfl, h⟩
    · replace h := h.2 c
      refine x_st rfl ?_
      refine x_gr (ci := 7) (k := 1) (nx := 20) rfl (rd_o hR) rfl ?_
      refine x_st rfl ?_
      obtain ⟨i1, hx, hi, h⟩ := h
      refine x_ia (i := i1) (nx := 22) rfl (rd_1 hR) hx hi (by decide) ?_
      refine x_st rfl ?_
      refine x_br rfl (fun c => ?_) (fun c => ?_)
      · replace h := h.1 c
        refine x_st rfl ?_
        refine x_gr (ci := 7) (k := 2) (nx := 30) rfl (rd_o hR) rfl ?_
        refine x_st rfl ?_
        obtain ⟨i2, hx, hi, h⟩ := h
        refine x_ia (i := i2) (nx := 32) rfl (rd_2 hR) hx hi (by decide) ?_
        refine x_ret rfl ?_
        exact ⟨_, _, rfl, h⟩
      · replace h := h.2 c
        refine x_st rfl ?_
        refine x_st rfl ?_
        refine x_kl ?_ h
        exact ⟨Or.inr rfl, ⟨Or.inr rfl, ⟨Or.inr rfl, True.intro⟩⟩⟩
theorem EX7_weigherOf {D : Nat} {Q : Option Value → mI → mJ → Prop} {r r1 r2 r3 r4 : Nat} {v1 : Int32} {MI : mI} {ML : mJ} (h : VX7_weigherOf_0 D Q r r1 r2 r3 r4 v1 MI ML) : ∃ v MI' ML', Q v MI' ML' ∧ mrc (D + 1) 99 [.ref r, .int v1] MI ML v MI' ML' := by
  refine x_en (n := 1) (T := TX7_weigherOf) rfl rfl ?_
  refine x_kl ?_ h
  exact ⟨Or.inr rfl, ⟨Or.inr rfl, ⟨Or.inl rfl, True.intro⟩⟩⟩
def VX9_begin_0 (D : Nat) (Q : Option Value → mI → mJ → Prop)  (MI : mI) (ML : mJ) : Prop := mEx (mrn D) TX9_begin (mqS Q) (0, [some (.ref 15)], [], (W0, Sh0, MI, ML))
theorem BX9_begin_0 {D : Nat} {Q : Option Value → mI → mJ → Prop}  {MI : mI} {ML : mJ} 
    (h : ∃ (M1 : mI) (N2 : mJ), mrc D 26 [.ref 16, .ref 1] MI ML none M1 N2 ∧ (Q none M1 N2)) :
    VX9_begin_0 D Q  MI ML := by
  show mEx (mrn D) TX9_begin (mqS Q) (0, [some (.ref 15)], [], (W0, Sh0, MI, ML))
  refine x_st rfl ?_
  refine x_gr (ci := 9) (k := 0) (nx := 4) rfl sh_15 rfl ?_
  refine x_st rfl ?_
  refine x_gr (ci := 9) (k := 7) (nx := 8) rfl sh_15 rfl ?_
  obtain ⟨M1, N2, hc, h⟩ := h
  refine x_vv (y := 26) (n := 1) (ci := 0) (nx := 11) rfl (fun _ => rfl) sh_16 rfl hc ?_
  refine x_ret rfl ?_
  exact ⟨_, _, rfl, h⟩
theorem EX9_begin {D : Nat} {Q : Option Value → mI → mJ → Prop}  {MI : mI} {ML : mJ} (h : VX9_begin_0 D Q  MI ML) : ∃ v MI' ML', Q v MI' ML' ∧ mrc (D + 1) 122 [.ref 15] MI ML v MI' ML' := by
  refine x_en (n := 0) (T := TX9_begin) rfl rfl ?_
  refine x_kl ?_ h
  exact ⟨Or.inr rfl, True.intro⟩
def VX9_goOn_0 (D : Nat) (Q : Option Value → mI → mJ → Prop)  (v1 : Int32) (MI : mI) (ML : mJ) : Prop := mEx (mrn D) TX9_goOn (mqS Q) (0, [some (.ref 15), some (.int v1), none, none], [], (W0, Sh0, MI, ML))
def VX9_goOn_4 (D : Nat) (Q : Option Value → mI → mJ → Prop)  (v1 : Int32) (v2 : Int32) (v3 : Int32) (MI : mI) (ML : mJ) : Prop := mEx (mrn D) TX9_goOn (mqS Q) (4, [some (.ref 15), some (.int v1), some (.int v2), some (.int v3)], [], (W0, Sh0, MI, ML))
theorem BX9_goOn_0 {D : Nat} {Q : Option Value → mI → mJ → Prop}  {v1 : Int32} {MI : mI} {ML : mJ} 
    (h : VX9_goOn_4 D Q v1 (nI 0) (nI 0) MI ML) :
    VX9_goOn_0 D Q v1 MI ML := by
  show mEx (mrn D) TX9_goOn (mqS Q) (0, [some (.ref 15), some (.int v1), none, none], [], (W0, Sh0, MI, ML))
  refine x_st rfl ?_
  refine x_st rfl ?_
  refine x_st rfl ?_
  refine x_st rfl ?_
  refine x_kl ?_ h
  exact ⟨Or.inr rfl, ⟨Or.inr rfl, ⟨Or.inr rfl, ⟨Or.inr rfl, True.intro⟩⟩⟩⟩
theorem BX9_goOn_4 {D : Nat} {Q : Option Value → mI → mJ → Prop}  {v1 : Int32} {v2 : Int32} {v3 : Int32} {MI : mI} {ML : mJ} 
    (h : (v1 ≤ v3 → Q (some (.int v2)) MI ML) ∧ (¬ v1 ≤ v3 → ∃ (x3 : Int32) (M1 : mI) (N2 : mJ), mrc D 96 [.ref 18, .ref 16, .ref 6] MI ML (some (.int x3)) M1 N2 ∧ (VX9_goOn_4 D Q v1 (v2 + x3) (v3 + (nI 1)) M1 N2))) :
    VX9_goOn_4 D Q v1 v2 v3 MI ML := by
  show mEx (mrn D) TX9_goOn (mqS Q) (4, [some (.ref 15), some (.int v1), some (.int v2), some (.int v3)], [], (W0, Sh0, MI, ML))
  refine x_st rfl ?_
  refine x_st rfl ?_
  refine x_br rfl (fun c => ?_) (fun c => ?_)
  · replace h := h.1 c
    refine x_st rfl ?_
    refine x_ret rfl ?_
    exact ⟨_, _, rfl, h⟩
  · replace h := h.2 c
    refine x_st rfl ?_
    refine x_st rfl ?_
    refine x_gr (ci := 9) (k := 10) (nx := 14) rfl sh_15 rfl ?_
    refine x_st rfl ?_
    refine x_gr (ci := 9) (k := 0) (nx := 18) rfl sh_15 rfl ?_
    refine x_st rfl ?_
    refine x_gr (ci := 9) (k := 8) (nx := 22) rfl sh_15 rfl ?_
    obtain ⟨x3, M1, N2, hc, h⟩ := h
    refine x_vi (y := 96) (n := 2) (ci := 7) (nx := 25) rfl (fun _ => rfl) sh_18 rfl hc ?_
    refine x_st rfl ?_
    refine x_st rfl ?_
    refine x_st rfl ?_
    refine x_st rfl ?_
    refine x_kl ?_ h
    exact ⟨Or.inr rfl, ⟨Or.inr rfl, ⟨Or.inr rfl, ⟨Or.inr rfl, True.intro⟩⟩⟩⟩
theorem EX9_goOn {D : Nat} {Q : Option Value → mI → mJ → Prop}  {v1 : Int32} {MI : mI} {ML : mJ} (h : VX9_goOn_0 D Q v1 MI ML) : ∃ v MI' ML', Q v MI' ML' ∧ mrc (D + 1) 123 [.ref 15, .int v1] MI ML v MI' ML' := by
  refine x_en (n := 2) (T := TX9_goOn) rfl rfl ?_
  refine x_kl ?_ h
  exact ⟨Or.inr rfl, ⟨Or.inr rfl, ⟨Or.inl rfl, ⟨Or.inl rfl, True.intro⟩⟩⟩⟩
def VX9_daysFed_0 (D : Nat) (Q : Option Value → mI → mJ → Prop)  (v1 : Int32) (MI : mI) (ML : mJ) : Prop := mEx (mrn D) TX9_daysFed (mqS Q) (0, [some (.ref 15), some (.int v1), none], [], (W0, Sh0, MI, ML))
def VX9_daysFed_2 (D : Nat) (Q : Option Value → mI → mJ → Prop)  (v1 : Int32) (v2 : Int32) (MI : mI) (ML : mJ) : Prop := mEx (mrn D) TX9_daysFed (mqS Q) (2, [some (.ref 15), some (.int v1), some (.int v2)], [], (W0, Sh0, MI, ML))
theorem BX9_daysFed_0 {D : Nat} {Q : Option Value → mI → mJ → Prop}  {v1 : Int32} {MI : mI} {ML : mJ} 
    (h : VX9_daysFed_2 D Q v1 (nI 0) MI ML) :
    VX9_daysFed_0 D Q v1 MI ML := by
  show mEx (mrn D) TX9_daysFed (mqS Q) (0, [some (.ref 15), some (.int v1), none], [], (W0, Sh0, MI, ML))
  refine x_st rfl ?_
  refine x_st rfl ?_
  refine x_kl ?_ h
  exact ⟨Or.inr rfl, ⟨Or.inr rfl, ⟨Or.inr rfl, True.intro⟩⟩⟩
theorem BX9_daysFed_2 {D : Nat} {Q : Option Value → mI → mJ → Prop}  {v1 : Int32} {v2 : Int32} {MI : mI} {ML : mJ} 
    (h : ((nI 40) ≤ v2 → Q (some (.int (nI 40))) MI ML) ∧ (¬ (nI 40) ≤ v2 → ∃ (x3 : Int32) (M1 : mI) (N2 : mJ), mrc D 96 [.ref 18, .ref 16, .ref 6] MI ML (some (.int x3)) M1 N2 ∧ (∃ (x6 : Int32) (M4 : mI) (N5 : mJ), mrc D 99 [.ref 18, .int v1] M1 N2 (some (.int x6)) M4 N5 ∧ ((x6 = (nI 8) → Q (some (.int v2)) M4 N5) ∧ (¬ x6 = (nI 8) → VX9_daysFed_2 D Q v1 (v2 + (nI 1)) M4 N5))))) :
    VX9_daysFed_2 D Q v1 v2 MI ML := by
  show mEx (mrn D) TX9_daysFed (mqS Q) (2, [some (.ref 15), some (.int v1), some (.int v2)], [], (W0, Sh0, MI, ML))
  refine x_st rfl ?_
  refine x_st rfl ?_
  refine x_br rfl (fun c => ?_) (fun c => ?_)
  · replace h := h.1 c
    refine x_st rfl ?_
    refine x_ret rfl ?_
    exact ⟨_, _, rfl, h⟩
  · replace h := h.2 c
    refine x_st rfl ?_
    refine x_gr (ci := 9) (k := 10) (nx := 12) rfl sh_15 rfl ?_
    refine x_st rfl ?_
    refine x_gr (ci := 9) (k := 0) (nx := 16) rfl sh_15 rfl ?_
    refine x_st rfl ?_
    refine x_gr (ci := 9) (k := 8) (nx := 20) rfl sh_15 rfl ?_
    obtain ⟨x3, M1, N2, hc, h⟩ := h
    refine x_vi (y := 96) (n := 2) (ci := 7) (nx := 23) rfl (fun _ => rfl) sh_18 rfl hc ?_
    refine x_st rfl ?_
    refine x_st rfl ?_
    refine x_gr (ci := 9) (k := 10) (nx := 28) rfl sh_15 rfl ?_
    refine x_st rfl ?_
    obtain ⟨x6, M4, N5, hc, h⟩ := h
    refine x_vi (y := 99) (n := 1) (ci := 7) (nx := 32) rfl (fun _ => rfl) sh_18 rfl hc ?_
    refine x_st rfl ?_
    refine x_br rfl (fun c => ?_) (fun c => ?_)
    · replace h := h.1 c
      refine x_st rfl ?_
      refine x_ret rfl ?_
      exact ⟨_, _, rfl, h⟩
    · replace h := h.2 c
      refine x_st rfl ?_
      refine x_st rfl ?_
      refine x_kl ?_ h
      exact ⟨Or.inr rfl, ⟨Or.inr rfl, ⟨Or.inr rfl, True.intro⟩⟩⟩
theorem EX9_daysFed {D : Nat} {Q : Option Value → mI → mJ → Prop}  {v1 : Int32} {MI : mI} {ML : mJ} (h : VX9_daysFed_0 D Q v1 MI ML) : ∃ v MI' ML', Q v MI' ML' ∧ mrc (D + 1) 124 [.ref 15, .int v1] MI ML v MI' ML' := by
  refine x_en (n := 1) (T := TX9_daysFed) rfl rfl ?_
  refine x_kl ?_ h
  exact ⟨Or.inr rfl, ⟨Or.inr rfl, ⟨Or.inl rfl, True.intro⟩⟩⟩
def VX10_person_0 (D : Nat) (Q : Option Value → mI → mJ → Prop)  (v1 : Int32) (v2 : Int32) (MI : mI) (ML : mJ) : Prop := mEx (mrn D) TX10_person (mqS Q) (0, [some (.ref 0), some (.int v1), some (.int v2)], [], (W0, Sh0, MI, ML))
theorem BX10_person_0 {D : Nat} {Q : Option Value → mI → mJ → Prop}  {v1 : Int32} {v2 : Int32} {MI : mI} {ML : mJ} 
    (h : ∃ (x3 : Int32) (M1 : mI) (N2 : mJ), mrc D 1 [.int v1, .int v2] MI ML (some (.int x3)) M1 N2 ∧ ((x3 = nI 0 → Q (some (.int (-1 : Int32))) M1 N2) ∧ (¬ x3 = nI 0 → ∃ (x6 : Int32) (M4 : mI) (N5 : mJ), mrc D 5 [.ref 1, .int v1, .int v2] M1 N2 (some (.int x6)) M4 N5 ∧ (Q (some (.int x6)) M4 N5)))) :
    VX10_person_0 D Q v1 v2 MI ML := by
  show mEx (mrn D) TX10_person (mqS Q) (0, [some (.ref 0), some (.int v1), some (.int v2)], [], (W0, Sh0, MI, ML))
  refine x_st rfl ?_
  refine x_st rfl ?_
  obtain ⟨x3, M1, N2, hc, h⟩ := h
  refine x_ci rfl hc ?_
  refine x_br rfl (fun c => ?_) (fun c => ?_)
  · replace h := h.1 c
    refine x_st rfl ?_
    refine x_ret rfl ?_
    exact ⟨_, _, rfl, h⟩
  · replace h := h.2 c
    refine x_st rfl ?_
    refine x_gr (ci := 10) (k := 0) (nx := 12) rfl sh_0 rfl ?_
    refine x_st rfl ?_
    refine x_st rfl ?_
    obtain ⟨x6, M4, N5, hc, h⟩ := h
    refine x_vi (y := 5) (n := 2) (ci := 0) (nx := 17) rfl (fun _ => rfl) sh_1 rfl hc ?_
    refine x_st rfl ?_
    refine x_ret rfl ?_
    exact ⟨_, _, rfl, h⟩
theorem EX10_person {D : Nat} {Q : Option Value → mI → mJ → Prop}  {v1 : Int32} {v2 : Int32} {MI : mI} {ML : mJ} (h : VX10_person_0 D Q v1 v2 MI ML) : ∃ v MI' ML', Q v MI' ML' ∧ mrc (D + 1) 135 [.ref 0, .int v1, .int v2] MI ML v MI' ML' := by
  refine x_en (n := 0) (T := TX10_person) rfl rfl ?_
  refine x_kl ?_ h
  exact ⟨Or.inr rfl, ⟨Or.inr rfl, ⟨Or.inr rfl, True.intro⟩⟩⟩
def VX10_mend_0 (D : Nat) (Q : Option Value → mI → mJ → Prop)  (v1 : Int32) (v2 : Int32) (v3 : Int32) (MI : mI) (ML : mJ) : Prop := mEx (mrn D) TX10_mend (mqS Q) (0, [some (.ref 0), some (.int v1), some (.int v2), some (.int v3), none], [], (W0, Sh0, MI, ML))
theorem BX10_mend_0 {D : Nat} {Q : Option Value → mI → mJ → Prop}  {v1 : Int32} {v2 : Int32} {v3 : Int32} {MI : mI} {ML : mJ} 
    (h : ∃ (x3 : Int32) (M1 : mI) (N2 : mJ), mrc D 8 [.ref 1, .int v1, .int v2] MI ML (some (.int x3)) M1 N2 ∧ ((x3 < nI 0 → Q (some (.int (-1 : Int32))) M1 N2) ∧ (¬ x3 < nI 0 → (v3 < nI 0 → Q (some (.int (-1 : Int32))) M1 N2) ∧ (¬ v3 < nI 0 → ∃ (x6 : Int32) (M4 : mI) (N5 : mJ), mrc D 3 [.int v2] M1 N2 (some (.int x6)) M4 N5 ∧ ((v3 ≤ x6 → ∃ (x9 : Int32) (M7 : mI) (N8 : mJ), mrc D 143 [.ref 0, .int x3, .int v3] M4 N5 (some (.int x9)) M7 N8 ∧ (Q (some (.int x9)) M7 N8)) ∧ (¬ v3 ≤ x6 → Q (some (.int (-1 : Int32))) M4 N5)))))) :
    VX10_mend_0 D Q v1 v2 v3 MI ML := by
  show mEx (mrn D) TX10_mend (mqS Q) (0, [some (.ref 0), some (.int v1), some (.int v2), some (.int v3), none], [], (W0, Sh0, MI, ML))
  refine x_st rfl ?_
  refine x_gr (ci := 10) (k := 0) (nx := 4) rfl sh_0 rfl ?_
  refine x_st rfl ?_
  refine x_st rfl ?_
  obtain ⟨x3, M1, N2, hc, h⟩ := h
  refine x_vi (y := 8) (n := 2) (ci := 0) (nx := 9) rfl (fun _ => rfl) sh_1 rfl hc ?_
  refine x_st rfl ?_
  refine x_st rfl ?_
  refine x_br rfl (fun c => ?_) (fun c => ?_)
  · replace h := h.1 c
    refine x_st rfl ?_
    refine x_ret rfl ?_
    exact ⟨_, _, rfl, h⟩
  · replace h := h.2 c
    refine x_st rfl ?_
    refine x_br rfl (fun c => ?_) (fun c => ?_)
    · replace h := h.1 c
      refine x_st rfl ?_
      refine x_ret rfl ?_
      exact ⟨_, _, rfl, h⟩
    · replace h := h.2 c
      refine x_st rfl ?_
      refine x_st rfl ?_
      obtain ⟨x6, M4, N5, hc, h⟩ := h
      refine x_ci rfl hc ?_
      refine x_br rfl (fun c => ?_) (fun c => ?_)
      · replace h := h.1 c
        refine x_st rfl ?_
        refine x_st rfl ?_
        refine x_st rfl ?_
        obtain ⟨x9, M7, N8, hc, h⟩ := h
        refine x_vi (y := 143) (n := 2) (ci := 10) (nx := 37) rfl (fun _ => rfl) sh_0 rfl hc ?_
        refine x_ret rfl ?_
        exact ⟨_, _, rfl, h⟩
      · replace h := h.2 c
        refine x_st rfl ?_
        refine x_ret rfl ?_
        exact ⟨_, _, rfl, h⟩
theorem EX10_mend {D : Nat} {Q : Option Value → mI → mJ → Prop}  {v1 : Int32} {v2 : Int32} {v3 : Int32} {MI : mI} {ML : mJ} (h : VX10_mend_0 D Q v1 v2 v3 MI ML) : ∃ v MI' ML', Q v MI' ML' ∧ mrc (D + 1) 137 [.ref 0, .int v1, .int v2, .int v3] MI ML v MI' ML' := by
  refine x_en (n := 1) (T := TX10_mend) rfl rfl ?_
  refine x_kl ?_ h
  exact ⟨Or.inr rfl, ⟨Or.inr rfl, ⟨Or.inr rfl, ⟨Or.inr rfl, ⟨Or.inl rfl, True.intro⟩⟩⟩⟩⟩
def VX10_of_0 (D : Nat) (Q : Option Value → mI → mJ → Prop)  (v1 : Int32) (v2 : Int32) (MI : mI) (ML : mJ) : Prop := mEx (mrn D) TX10_of (mqS Q) (0, [some (.ref 0), some (.int v1), some (.int v2), none], [], (W0, Sh0, MI, ML))
theorem BX10_of_0 {D : Nat} {Q : Option Value → mI → mJ → Prop}  {v1 : Int32} {v2 : Int32} {MI : mI} {ML : mJ} 
    (h : ∃ (x3 : Int32) (M1 : mI) (N2 : mJ), mrc D 8 [.ref 1, .int v1, .int v2] MI ML (some (.int x3)) M1 N2 ∧ ((nI 0 ≤ x3 → ∃ (x6 : Int32) (M4 : mI) (N5 : mJ), mrc D 9 [.ref 1, .int x3] M1 N2 (some (.int x6)) M4 N5 ∧ (Q (some (.int x6)) M4 N5)) ∧ (¬ nI 0 ≤ x3 → Q (some (.int (-1 : Int32))) M1 N2))) :
    VX10_of_0 D Q v1 v2 MI ML := by
  show mEx (mrn D) TX10_of (mqS Q) (0, [some (.ref 0), some (.int v1), some (.int v2), none], [], (W0, Sh0, MI, ML))
  refine x_st rfl ?_
  refine x_gr (ci := 10) (k := 0) (nx := 4) rfl sh_0 rfl ?_
  refine x_st rfl ?_
  refine x_st rfl ?_
  obtain ⟨x3, M1, N2, hc, h⟩ := h
  refine x_vi (y := 8) (n := 2) (ci := 0) (nx := 9) rfl (fun _ => rfl) sh_1 rfl hc ?_
  refine x_st rfl ?_
  refine x_st rfl ?_
  refine x_br rfl (fun c => ?_) (fun c => ?_)
  · replace h := h.1 c
    refine x_st rfl ?_
    refine x_gr (ci := 10) (k := 0) (nx := 22) rfl sh_0 rfl ?_
    refine x_st rfl ?_
    obtain ⟨x6, M4, N5, hc, h⟩ := h
    refine x_vi (y := 9) (n := 1) (ci := 0) (nx := 26) rfl (fun _ => rfl) sh_1 rfl hc ?_
    refine x_ret rfl ?_
    exact ⟨_, _, rfl, h⟩
  · replace h := h.2 c
    refine x_st rfl ?_
    refine x_st rfl ?_
    refine x_ret rfl ?_
    exact ⟨_, _, rfl, h⟩
theorem EX10_of {D : Nat} {Q : Option Value → mI → mJ → Prop}  {v1 : Int32} {v2 : Int32} {MI : mI} {ML : mJ} (h : VX10_of_0 D Q v1 v2 MI ML) : ∃ v MI' ML', Q v MI' ML' ∧ mrc (D + 1) 138 [.ref 0, .int v1, .int v2] MI ML v MI' ML' := by
  refine x_en (n := 1) (T := TX10_of) rfl rfl ?_
  refine x_kl ?_ h
  exact ⟨Or.inr rfl, ⟨Or.inr rfl, ⟨Or.inr rfl, ⟨Or.inl rfl, True.intro⟩⟩⟩⟩
def VX10_feel_0 (D : Nat) (Q : Option Value → mI → mJ → Prop)  (v1 : Int32) (v2 : Int32) (MI : mI) (ML : mJ) : Prop := mEx (mrn D) TX10_feel (mqS Q) (0, [some (.ref 0), some (.int v1), some (.int v2)], [], (W0, Sh0, MI, ML))
theorem BX10_feel_0 {D : Nat} {Q : Option Value → mI → mJ → Prop}  {v1 : Int32} {v2 : Int32} {MI : mI} {ML : mJ} 
    (h : ∃ (x3 : Int32) (M1 : mI) (N2 : mJ), mrc D 7 [.ref 1, .int v1] MI ML (some (.int x3)) M1 N2 ∧ ((x3 = nI 0 → Q (some (.int (-1 : Int32))) M1 N2) ∧ (¬ x3 = nI 0 → ∃ (x6 : Int32) (M4 : mI) (N5 : mJ), mrc D 2 [.int v2] M1 N2 (some (.int x6)) M4 N5 ∧ ((x6 = nI 0 → Q (some (.int (-1 : Int32))) M4 N5) ∧ (¬ x6 = nI 0 → ∃ (x9 : Int32) (M7 : mI) (N8 : mJ), mrc D 4 [.int (v1 / (nI 10)), .int (v1 - v1 / (nI 10) * (nI 10))] M4 N5 (some (.int x9)) M7 N8 ∧ (∃ (x12 : Int32) (M10 : mI) (N11 : mJ), mrc D 143 [.ref 0, .int x9, .int v2] M7 N8 (some (.int x12)) M10 N11 ∧ (Q (some (.int (x12 + (nI 100)))) M10 N11))))))) :
    VX10_feel_0 D Q v1 v2 MI ML := by
  show mEx (mrn D) TX10_feel (mqS Q) (0, [some (.ref 0), some (.int v1), some (.int v2)], [], (W0, Sh0, MI, ML))
  refine x_st rfl ?_
  refine x_gr (ci := 10) (k := 0) (nx := 4) rfl sh_0 rfl ?_
  refine x_st rfl ?_
  obtain ⟨x3, M1, N2, hc, h⟩ := h
  refine x_vi (y := 7) (n := 1) (ci := 0) (nx := 8) rfl (fun _ => rfl) sh_1 rfl hc ?_
  refine x_br rfl (fun c => ?_) (fun c => ?_)
  · replace h := h.1 c
    refine x_st rfl ?_
    refine x_ret rfl ?_
    exact ⟨_, _, rfl, h⟩
  · replace h := h.2 c
    refine x_st rfl ?_
    obtain ⟨x6, M4, N5, hc, h⟩ := h
    refine x_ci rfl hc ?_
    refine x_br rfl (fun c => ?_) (fun c => ?_)
    · replace h := h.1 c
      refine x_st rfl ?_
      refine x_ret rfl ?_
      exact ⟨_, _, rfl, h⟩
    · replace h := h.2 c
      refine x_st rfl ?_
      refine x_st rfl ?_
      refine x_st rfl ?_
      refine x_st rfl ?_
      refine x_st rfl ?_
      refine x_st rfl ?_
      refine x_st rfl ?_
      obtain ⟨x9, M7, N8, hc, h⟩ := h
      refine x_ci rfl hc ?_
      refine x_st rfl ?_
      obtain ⟨x12, M10, N11, hc, h⟩ := h
      refine x_vi (y := 143) (n := 2) (ci := 10) (nx := 36) rfl (fun _ => rfl) sh_0 rfl hc ?_
      refine x_st rfl ?_
      refine x_st rfl ?_
      refine x_ret rfl ?_
      exact ⟨_, _, rfl, h⟩
theorem EX10_feel {D : Nat} {Q : Option Value → mI → mJ → Prop}  {v1 : Int32} {v2 : Int32} {MI : mI} {ML : mJ} (h : VX10_feel_0 D Q v1 v2 MI ML) : ∃ v MI' ML', Q v MI' ML' ∧ mrc (D + 1) 139 [.ref 0, .int v1, .int v2] MI ML v MI' ML' := by
  refine x_en (n := 0) (T := TX10_feel) rfl rfl ?_
  refine x_kl ?_ h
  exact ⟨Or.inr rfl, ⟨Or.inr rfl, ⟨Or.inr rfl, True.intro⟩⟩⟩
def VX10_feeling_0 (D : Nat) (Q : Option Value → mI → mJ → Prop)  (v1 : Int32) (MI : mI) (ML : mJ) : Prop := mEx (mrn D) TX10_feeling (mqS Q) (0, [some (.ref 0), some (.int v1)], [], (W0, Sh0, MI, ML))
theorem BX10_feeling_0 {D : Nat} {Q : Option Value → mI → mJ → Prop}  {v1 : Int32} {MI : mI} {ML : mJ} 
    (h : ∃ (x3 : Int32) (M1 : mI) (N2 : mJ), mrc D 7 [.ref 1, .int v1] MI ML (some (.int x3)) M1 N2 ∧ ((x3 = nI 0 → Q (some (.int (-1 : Int32))) M1 N2) ∧ (¬ x3 = nI 0 → ∃ (x6 : Int32) (M4 : mI) (N5 : mJ), mrc D 14 [.ref 1, .int (v1 / (nI 10)), .int (v1 - v1 / (nI 10) * (nI 10))] M1 N2 (some (.int x6)) M4 N5 ∧ (Q (some (.int (x6 + (nI 100)))) M4 N5)))) :
    VX10_feeling_0 D Q v1 MI ML := by
  show mEx (mrn D) TX10_feeling (mqS Q) (0, [some (.ref 0), some (.int v1)], [], (W0, Sh0, MI, ML))
  refine x_st rfl ?_
  refine x_gr (ci := 10) (k := 0) (nx := 4) rfl sh_0 rfl ?_
  refine x_st rfl ?_
  obtain ⟨x3, M1, N2, hc, h⟩ := h
  refine x_vi (y := 7) (n := 1) (ci := 0) (nx := 8) rfl (fun _ => rfl) sh_1 rfl hc ?_
  refine x_br rfl (fun c => ?_) (fun c => ?_)
  · replace h := h.1 c
    refine x_st rfl ?_
    refine x_ret rfl ?_
    exact ⟨_, _, rfl, h⟩
  · replace h := h.2 c
    refine x_st rfl ?_
    refine x_gr (ci := 10) (k := 0) (nx := 15) rfl sh_0 rfl ?_
    refine x_st rfl ?_
    refine x_st rfl ?_
    refine x_st rfl ?_
    refine x_st rfl ?_
    refine x_st rfl ?_
    refine x_st rfl ?_
    obtain ⟨x6, M4, N5, hc, h⟩ := h
    refine x_vi (y := 14) (n := 2) (ci := 0) (nx := 26) rfl (fun _ => rfl) sh_1 rfl hc ?_
    refine x_st rfl ?_
    refine x_st rfl ?_
    refine x_st rfl ?_
    refine x_ret rfl ?_
    exact ⟨_, _, rfl, h⟩
theorem EX10_feeling {D : Nat} {Q : Option Value → mI → mJ → Prop}  {v1 : Int32} {MI : mI} {ML : mJ} (h : VX10_feeling_0 D Q v1 MI ML) : ∃ v MI' ML', Q v MI' ML' ∧ mrc (D + 1) 140 [.ref 0, .int v1] MI ML v MI' ML' := by
  refine x_en (n := 0) (T := TX10_feeling) rfl rfl ?_
  refine x_kl ?_ h
  exact ⟨Or.inr rfl, ⟨Or.inr rfl, True.intro⟩⟩
def VX10_feed_0 (D : Nat) (Q : Option Value → mI → mJ → Prop)  (v1 : Int32) (MI : mI) (ML : mJ) : Prop := mEx (mrn D) TX10_feed (mqS Q) (0, [some (.ref 0), some (.int v1)], [], (W0, Sh0, MI, ML))
theorem BX10_feed_0 {D : Nat} {Q : Option Value → mI → mJ → Prop}  {v1 : Int32} {MI : mI} {ML : mJ} 
    (h : (v1 < nI 0 → Q (some (.int (-1 : Int32))) MI ML) ∧ (¬ v1 < nI 0 → (v1 ≤ (nI 255) → ∃ (x3 : Int32) (M1 : mI) (N2 : mJ), mrc D 52 [.ref 3, .int v1] MI ML (some (.int x3)) M1 N2 ∧ (Q (some (.int x3)) M1 N2)) ∧ (¬ v1 ≤ (nI 255) → Q (some (.int (-1 : Int32))) MI ML))) :
    VX10_feed_0 D Q v1 MI ML := by
  show mEx (mrn D) TX10_feed (mqS Q) (0, [some (.ref 0), some (.int v1)], [], (W0, Sh0, MI, ML))
  refine x_st rfl ?_
  refine x_br rfl (fun c => ?_) (fun c => ?_)
  · replace h := h.1 c
    refine x_st rfl ?_
    refine x_st rfl ?_
    refine x_ret rfl ?_
    exact ⟨_, _, rfl, h⟩
  · replace h := h.2 c
    refine x_st rfl ?_
    refine x_st rfl ?_
    refine x_br rfl (fun c => ?_) (fun c => ?_)
    · replace h := h.1 c
      refine x_st rfl ?_
      refine x_gr (ci := 10) (k := 1) (nx := 19) rfl sh_0 rfl ?_
      refine x_st rfl ?_
      obtain ⟨x3, M1, N2, hc, h⟩ := h
      refine x_vi (y := 52) (n := 1) (ci := 4) (nx := 23) rfl (fun _ => rfl) sh_3 rfl hc ?_
      refine x_ret rfl ?_
      exact ⟨_, _, rfl, h⟩
    · replace h := h.2 c
      refine x_st rfl ?_
      refine x_st rfl ?_
      refine x_ret rfl ?_
      exact ⟨_, _, rfl, h⟩
theorem EX10_feed {D : Nat} {Q : Option Value → mI → mJ → Prop}  {v1 : Int32} {MI : mI} {ML : mJ} (h : VX10_feed_0 D Q v1 MI ML) : ∃ v MI' ML', Q v MI' ML' ∧ mrc (D + 1) 141 [.ref 0, .int v1] MI ML v MI' ML' := by
  refine x_en (n := 0) (T := TX10_feed) rfl rfl ?_
  refine x_kl ?_ h
  exact ⟨Or.inr rfl, ⟨Or.inr rfl, True.intro⟩⟩
def VX10_law_0 (D : Nat) (Q : Option Value → mI → mJ → Prop)  (MI : mI) (ML : mJ) : Prop := mEx (mrn D) TX10_law (mqS Q) (0, [some (.ref 0), none], [], (W0, Sh0, MI, ML))
def VX10_law_24 (D : Nat) (Q : Option Value → mI → mJ → Prop)  (v1 : Int32) (MI : mI) (ML : mJ) : Prop := mEx (mrn D) TX10_law (mqS Q) (24, [some (.ref 0), some (.int v1)], [], (W0, Sh0, MI, ML))
theorem BX10_law_0 {D : Nat} {Q : Option Value → mI → mJ → Prop}  {MI : mI} {ML : mJ} 
    (h : ∃ (x3 : Int32) (M1 : mI) (N2 : mJ), mrc D 55 [.ref 3] MI ML (some (.int x3)) M1 N2 ∧ ((x3 = (-1 : Int32) → ∃ (M4 : mI) (N5 : mJ), mrc D 46 [.ref 6, .ref 3] M1 N2 none M4 N5 ∧ (VX10_law_24 D Q x3 M4 N5)) ∧ (¬ x3 = (-1 : Int32) → VX10_law_24 D Q x3 M1 N2))) :
    VX10_law_0 D Q  MI ML := by
  show mEx (mrn D) TX10_law (mqS Q) (0, [some (.ref 0), none], [], (W0, Sh0, MI, ML))
  refine x_st rfl ?_
  refine x_gr (ci := 10) (k := 1) (nx := 4) rfl sh_0 rfl ?_
  obtain ⟨x3, M1, N2, hc, h⟩ := h
  refine x_vi (y := 55) (n := 0) (ci := 4) (nx := 7) rfl (fun _ => rfl) sh_3 rfl hc ?_
  refine x_st rfl ?_
  refine x_st rfl ?_
  refine x_st rfl ?_
  refine x_br rfl (fun c => ?_) (fun c => ?_)
  · replace h := h.1 c
    refine x_st rfl ?_
    refine x_gr (ci := 10) (k := 2) (nx := 17) rfl sh_0 rfl ?_
    refine x_st rfl ?_
    refine x_gr (ci := 10) (k := 1) (nx := 21) rfl sh_0 rfl ?_
    obtain ⟨M4, N5, hc, h⟩ := h
    refine x_vv (y := 46) (n := 1) (ci := 3) (nx := 24) rfl (fun _ => rfl) sh_6 rfl hc ?_
    refine x_kl ?_ h
    exact ⟨Or.inr rfl, ⟨Or.inr rfl, True.intro⟩⟩
  · replace h := h.2 c
    refine x_kl ?_ h
    exact ⟨Or.inr rfl, ⟨Or.inr rfl, True.intro⟩⟩
theorem BX10_law_24 {D : Nat} {Q : Option Value → mI → mJ → Prop}  {v1 : Int32} {MI : mI} {ML : mJ} 
    (h : ∃ (M1 : mI) (N2 : mJ), mrc D 54 [.ref 3] MI ML none M1 N2 ∧ ((v1 = (-1 : Int32) → Q (some (.int (nI 1))) M1 N2) ∧ (¬ v1 = (-1 : Int32) → Q (some (.int ((-100 : Int32) - v1))) M1 N2))) :
    VX10_law_24 D Q v1 MI ML := by
  show mEx (mrn D) TX10_law (mqS Q) (24, [some (.ref 0), some (.int v1)], [], (W0, Sh0, MI, ML))
  refine x_st rfl ?_
  refine x_gr (ci := 10) (k := 1) (nx := 28) rfl sh_0 rfl ?_
  obtain ⟨M1, N2, hc, h⟩ := h
  refine x_vv (y := 54) (n := 0) (ci := 4) (nx := 31) rfl (fun _ => rfl) sh_3 rfl hc ?_
  refine x_st rfl ?_
  refine x_st rfl ?_
  refine x_br rfl (fun c => ?_) (fun c => ?_)
  · replace h := h.1 c
    refine x_st rfl ?_
    refine x_st rfl ?_
    refine x_ret rfl ?_
    exact ⟨_, _, rfl, h⟩
  · replace h := h.2 c
    refine x_st rfl ?_
    refine x_st rfl ?_
    refine x_st rfl ?_
    refine x_ret rfl ?_
    exact ⟨_, _, rfl, h⟩
theorem EX10_law {D : Nat} {Q : Option Value → mI → mJ → Prop}  {MI : mI} {ML : mJ} (h : VX10_law_0 D Q  MI ML) : ∃ v MI' ML', Q v MI' ML' ∧ mrc (D + 1) 142 [.ref 0] MI ML v MI' ML' := by
  refine x_en (n := 1) (T := TX10_law) rfl rfl ?_
  refine x_kl ?_ h
  exact ⟨Or.inr rfl, ⟨Or.inl rfl, True.intro⟩⟩
def VX10_changeTo_0 (D : Nat) (Q : Option Value → mI → mJ → Prop)  (v1 : Int32) (v2 : Int32) (MI : mI) (ML : mJ) : Prop := mEx (mrn D) TX10_changeTo (mqS Q) (0, [some (.ref 0), some (.int v1), some (.int v2), none], [], (W0, Sh0, MI, ML))
theorem BX10_changeTo_0 {D : Nat} {Q : Option Value → mI → mJ → Prop}  {v1 : Int32} {v2 : Int32} {MI : mI} {ML : mJ} 
    (h : ∃ (x3 : Int32) (M1 : mI) (N2 : mJ), mrc D 9 [.ref 1, .int v1] MI ML (some (.int x3)) M1 N2 ∧ ((x3 = v2 → Q (some (.int x3)) M1 N2) ∧ (¬ x3 = v2 → ∃ (M4 : mI) (N5 : mJ), mrc D 39 [.ref 39, .int v1, .int x3, .int v2] M1 N2 none M4 N5 ∧ (∃ (M6 : mI) (N7 : mJ), mrc D 10 [.ref 1, .int v1, .int v2] M4 N5 none M6 N7 ∧ (Q (some (.int x3)) M6 N7))))) :
    VX10_changeTo_0 D Q v1 v2 MI ML := by
  show mEx (mrn D) TX10_changeTo (mqS Q) (0, [some (.ref 0), some (.int v1), some (.int v2), none], [], (W0, Sh0, MI, ML))
  refine x_st rfl ?_
  refine x_gr (ci := 10) (k := 0) (nx := 4) rfl sh_0 rfl ?_
  refine x_st rfl ?_
  obtain ⟨x3, M1, N2, hc, h⟩ := h
  refine x_vi (y := 9) (n := 1) (ci := 0) (nx := 8) rfl (fun _ => rfl) sh_1 rfl hc ?_
  refine x_st rfl ?_
  refine x_st rfl ?_
  refine x_st rfl ?_
  refine x_br rfl (fun c => ?_) (fun c => ?_)
  · replace h := h.1 c
    refine x_st rfl ?_
    refine x_ret rfl ?_
    exact ⟨_, _, rfl, h⟩
  · replace h := h.2 c
    refine x_st rfl ?_
    refine x_gr (ci := 10) (k := 7) (nx := 18) rfl sh_0 rfl ?_
    refine x_st rfl ?_
    refine x_st rfl ?_
    refine x_st rfl ?_
    obtain ⟨M4, N5, hc, h⟩ := h
    refine x_vv (y := 39) (n := 3) (ci := 2) (nx := 24) rfl (fun _ => rfl) sh_39 rfl hc ?_
    refine x_st rfl ?_
    refine x_gr (ci := 10) (k := 0) (nx := 28) rfl sh_0 rfl ?_
    refine x_st rfl ?_
    refine x_st rfl ?_
    obtain ⟨M6, N7, hc, h⟩ := h
    refine x_vv (y := 10) (n := 2) (ci := 0) (nx := 33) rfl (fun _ => rfl) sh_1 rfl hc ?_
    refine x_st rfl ?_
    refine x_ret rfl ?_
    exact ⟨_, _, rfl, h⟩
theorem EX10_changeTo {D : Nat} {Q : Option Value → mI → mJ → Prop}  {v1 : Int32} {v2 : Int32} {MI : mI} {ML : mJ} (h : VX10_changeTo_0 D Q v1 v2 MI ML) : ∃ v MI' ML', Q v MI' ML' ∧ mrc (D + 1) 143 [.ref 0, .int v1, .int v2] MI ML v MI' ML' := by
  refine x_en (n := 1) (T := TX10_changeTo) rfl rfl ?_
  refine x_kl ?_ h
  exact ⟨Or.inr rfl, ⟨Or.inr rfl, ⟨Or.inr rfl, ⟨Or.inl rfl, True.intro⟩⟩⟩⟩
def VX10_later_0 (D : Nat) (Q : Option Value → mI → mJ → Prop)  (v1 : Int32) (v2 : Int32) (MI : mI) (ML : mJ) : Prop := mEx (mrn D) TX10_later (mqS Q) (0, [some (.ref 0), some (.int v1), some (.int v2), none], [], (W0, Sh0, MI, ML))
theorem BX10_later_0 {D : Nat} {Q : Option Value → mI → mJ → Prop}  {v1 : Int32} {v2 : Int32} {MI : mI} {ML : mJ} 
    (h : (v1 < nI 0 → Q (some (.int (-1 : Int32))) MI ML) ∧ (¬ v1 < nI 0 → ((nI 40) < v1 → Q (some (.int (-1 : Int32))) MI ML) ∧ (¬ (nI 40) < v1 → ∃ (x3 : Int32) (M1 : mI) (N2 : mJ), mrc D 153 [.ref 0, .int v2] MI ML (some (.int x3)) M1 N2 ∧ ((x3 = nI 0 → Q (some (.int (-1 : Int32))) M1 N2) ∧ (¬ x3 = nI 0 → ∃ (M4 : mI) (N5 : mJ), mrc D 122 [.ref 15] M1 N2 none M4 N5 ∧ (∃ (x8 : Int32) (M6 : mI) (N7 : mJ), mrc D 123 [.ref 15, .int v1] M4 N5 (some (.int x8)) M6 N7 ∧ ((v2 = (-1 : Int32) → Q (some (.int x8)) M6 N7) ∧ (¬ v2 = (-1 : Int32) → ∃ (x11 : Int32) (M9 : mI) (N10 : mJ), mrc D 11 [.ref 16, .int v2] M6 N7 (some (.int x11)) M9 N10 ∧ (Q (some (.int x11)) M9 N10))))))))) :
    VX10_later_0 D Q v1 v2 MI ML := by
  show mEx (mrn D) TX10_later (mqS Q) (0, [some (.ref 0), some (.int v1), some (.int v2), none], [], (W0, Sh0, MI, ML))
  refine x_st rfl ?_
  refine x_br rfl (fun c => ?_) (fun c => ?_)
  · replace h := h.1 c
    refine x_st rfl ?_
    refine x_ret rfl ?_
    exact ⟨_, _, rfl, h⟩
  · replace h := h.2 c
    refine x_st rfl ?_
    refine x_st rfl ?_
    refine x_br rfl (fun c => ?_) (fun c => ?_)
    · replace h := h.1 c
      refine x_st rfl ?_
      refine x_ret rfl ?_
      exact ⟨_, _, rfl, h⟩
    · replace h := h.2 c
      refine x_st rfl ?_
      refine x_st rfl ?_
      obtain ⟨x3, M1, N2, hc, h⟩ := h
      refine x_vi (y := 153) (n := 1) (ci := 10) (nx := 15) rfl (fun _ => rfl) sh_0 rfl hc ?_
      refine x_br rfl (fun c => ?_) (fun c => ?_)
      · replace h := h.1 c
        refine x_st rfl ?_
        refine x_ret rfl ?_
        exact ⟨_, _, rfl, h⟩
      · replace h := h.2 c
        refine x_st rfl ?_
        refine x_gr (ci := 10) (k := 3) (nx := 24) rfl sh_0 rfl ?_
        obtain ⟨M4, N5, hc, h⟩ := h
        refine x_vv (y := 122) (n := 0) (ci := 9) (nx := 27) rfl (fun _ => rfl) sh_15 rfl hc ?_
        refine x_st rfl ?_
        refine x_gr (ci := 10) (k := 3) (nx := 31) rfl sh_0 rfl ?_
        refine x_st rfl ?_
        obtain ⟨x8, M6, N7, hc, h⟩ := h
        refine x_vi (y := 123) (n := 1) (ci := 9) (nx := 35) rfl (fun _ => rfl) sh_15 rfl hc ?_
        refine x_st rfl ?_
        refine x_st rfl ?_
        refine x_st rfl ?_
        refine x_br rfl (fun c => ?_) (fun c => ?_)
        · replace h := h.1 c
          refine x_st rfl ?_
          refine x_st rfl ?_
          refine x_ret rfl ?_
          exact ⟨_, _, rfl, h⟩
        · replace h := h.2 c
          refine x_st rfl ?_
          refine x_gr (ci := 10) (k := 3) (nx := 49) rfl sh_0 rfl ?_
          refine x_gr (ci := 9) (k := 0) (nx := 52) rfl sh_15 rfl ?_
          refine x_st rfl ?_
          obtain ⟨x11, M9, N10, hc, h⟩ := h
          refine x_vi (y := 11) (n := 1) (ci := 0) (nx := 56) rfl (fun _ => rfl) sh_16 rfl hc ?_
          refine x_ret rfl ?_
          exact ⟨_, _, rfl, h⟩
theorem EX10_later {D : Nat} {Q : Option Value → mI → mJ → Prop}  {v1 : Int32} {v2 : Int32} {MI : mI} {ML : mJ} (h : VX10_later_0 D Q v1 v2 MI ML) : ∃ v MI' ML', Q v MI' ML' ∧ mrc (D + 1) 147 [.ref 0, .int v1, .int v2] MI ML v MI' ML' := by
  refine x_en (n := 1) (T := TX10_later) rfl rfl ?_
  refine x_kl ?_ h
  exact ⟨Or.inr rfl, ⟨Or.inr rfl, ⟨Or.inr rfl, ⟨Or.inl rfl, True.intro⟩⟩⟩⟩
def VX10_feltLater_0 (D : Nat) (Q : Option Value → mI → mJ → Prop)  (v1 : Int32) (v2 : Int32) (MI : mI) (ML : mJ) : Prop := mEx (mrn D) TX10_feltLater (mqS Q) (0, [some (.ref 0), some (.int v1), some (.int v2)], [], (W0, Sh0, MI, ML))
theorem BX10_feltLater_0 {D : Nat} {Q : Option Value → mI → mJ → Prop}  {v1 : Int32} {v2 : Int32} {MI : mI} {ML : mJ} 
    (h : (v1 < nI 0 → Q (some (.int (-1 : Int32))) MI ML) ∧ (¬ v1 < nI 0 → ((nI 40) < v1 → Q (some (.int (-1 : Int32))) MI ML) ∧ (¬ (nI 40) < v1 → ∃ (x3 : Int32) (M1 : mI) (N2 : mJ), mrc D 7 [.ref 1, .int v2] MI ML (some (.int x3)) M1 N2 ∧ ((x3 = nI 0 → Q (some (.int (-1 : Int32))) M1 N2) ∧ (¬ x3 = nI 0 → ∃ (M4 : mI) (N5 : mJ), mrc D 122 [.ref 15] M1 N2 none M4 N5 ∧ (∃ (x8 : Int32) (M6 : mI) (N7 : mJ), mrc D 123 [.ref 15, .int v1] M4 N5 (some (.int x8)) M6 N7 ∧ (∃ (x11 : Int32) (M9 : mI) (N10 : mJ), mrc D 14 [.ref 16, .int (v2 / (nI 10)), .int (v2 - v2 / (nI 10) * (nI 10))] M6 N7 (some (.int x11)) M9 N10 ∧ (Q (some (.int (x11 + (nI 100)))) M9 N10)))))))) :
    VX10_feltLater_0 D Q v1 v2 MI ML := by
  show mEx (mrn D) TX10_feltLater (mqS Q) (0, [some (.ref 0), some (.int v1), some (.int v2)], [], (W0, Sh0, MI, ML))
  refine x_st rfl ?_
  refine x_br rfl (fun c => ?_) (fun c => ?_)
  · replace h := h.1 c
    refine x_st rfl ?_
    refine x_ret rfl ?_
    exact ⟨_, _, rfl, h⟩
  · replace h := h.2 c
    refine x_st rfl ?_
    refine x_st rfl ?_
    refine x_br rfl (fun c => ?_) (fun c => ?_)
    · replace h := h.1 c
      refine x_st rfl ?_
      refine x_ret rfl ?_
      exact ⟨_, _, rfl, h⟩
    · replace h := h.2 c
      refine x_st rfl ?_
      refine x_gr (ci := 10) (k := 0) (nx := 14) rfl sh_0 rfl ?_
      refine x_st rfl ?_
      obtain ⟨x3, M1, N2, hc, h⟩ := h
      refine x_vi (y := 7) (n := 1) (ci := 0) (nx := 18) rfl (fun _ => rfl) sh_1 rfl hc ?_
      refine x_br rfl (fun c => ?_) (fun c => ?_)
      · replace h := h.1 c
        refine x_st rfl ?_
        refine x_ret rfl ?_
        exact ⟨_, _, rfl, h⟩
      · replace h := h.2 c
        refine x_st rfl ?_
        refine x_gr (ci := 10) (k := 3) (nx := 27) rfl sh_0 rfl ?_
        obtain ⟨M4, N5, hc, h⟩ := h
        refine x_vv (y := 122) (n := 0) (ci := 9) (nx := 30) rfl (fun _ => rfl) sh_15 rfl hc ?_
        refine x_st rfl ?_
        refine x_gr (ci := 10) (k := 3) (nx := 34) rfl sh_0 rfl ?_
        refine x_st rfl ?_
        obtain ⟨x8, M6, N7, hc, h⟩ := h
        refine x_vi (y := 123) (n := 1) (ci := 9) (nx := 38) rfl (fun _ => rfl) sh_15 rfl hc ?_
        refine x_st rfl ?_
        refine x_st rfl ?_
        refine x_gr (ci := 10) (k := 3) (nx := 43) rfl sh_0 rfl ?_
        refine x_gr (ci := 9) (k := 0) (nx := 46) rfl sh_15 rfl ?_
        refine x_st rfl ?_
        refine x_st rfl ?_
        refine x_st rfl ?_
        refine x_st rfl ?_
        refine x_st rfl ?_
        refine x_st rfl ?_
        obtain ⟨x11, M9, N10, hc, h⟩ := h
        refine x_vi (y := 14) (n := 2) (ci := 0) (nx := 57) rfl (fun _ => rfl) sh_16 rfl hc ?_
        refine x_st rfl ?_
        refine x_st rfl ?_
        refine x_ret rfl ?_
        exact ⟨_, _, rfl, h⟩
theorem EX10_feltLater {D : Nat} {Q : Option Value → mI → mJ → Prop}  {v1 : Int32} {v2 : Int32} {MI : mI} {ML : mJ} (h : VX10_feltLater_0 D Q v1 v2 MI ML) : ∃ v MI' ML', Q v MI' ML' ∧ mrc (D + 1) 148 [.ref 0, .int v1, .int v2] MI ML v MI' ML' := by
  refine x_en (n := 0) (T := TX10_feltLater) rfl rfl ?_
  refine x_kl ?_ h
  exact ⟨Or.inr rfl, ⟨Or.inr rfl, ⟨Or.inr rfl, True.intro⟩⟩⟩
def VX10_lasts_0 (D : Nat) (Q : Option Value → mI → mJ → Prop)  (v1 : Int32) (MI : mI) (ML : mJ) : Prop := mEx (mrn D) TX10_lasts (mqS Q) (0, [some (.ref 0), some (.int v1)], [], (W0, Sh0, MI, ML))
theorem BX10_lasts_0 {D : Nat} {Q : Option Value → mI → mJ → Prop}  {v1 : Int32} {MI : mI} {ML : mJ} 
    (h : ∃ (x3 : Int32) (M1 : mI) (N2 : mJ), mrc D 6 [.ref 1, .int v1] MI ML (some (.int x3)) M1 N2 ∧ ((x3 = nI 0 → Q (some (.int (-1 : Int32))) M1 N2) ∧ (¬ x3 = nI 0 → ∃ (M4 : mI) (N5 : mJ), mrc D 122 [.ref 15] M1 N2 none M4 N5 ∧ (∃ (x8 : Int32) (M6 : mI) (N7 : mJ), mrc D 124 [.ref 15, .int v1] M4 N5 (some (.int x8)) M6 N7 ∧ (Q (some (.int x8)) M6 N7))))) :
    VX10_lasts_0 D Q v1 MI ML := by
  show mEx (mrn D) TX10_lasts (mqS Q) (0, [some (.ref 0), some (.int v1)], [], (W0, Sh0, MI, ML))
  refine x_st rfl ?_
  refine x_gr (ci := 10) (k := 0) (nx := 4) rfl sh_0 rfl ?_
  refine x_st rfl ?_
  obtain ⟨x3, M1, N2, hc, h⟩ := h
  refine x_vi (y := 6) (n := 1) (ci := 0) (nx := 8) rfl (fun _ => rfl) sh_1 rfl hc ?_
  refine x_br rfl (fun c => ?_) (fun c => ?_)
  · replace h := h.1 c
    refine x_st rfl ?_
    refine x_ret rfl ?_
    exact ⟨_, _, rfl, h⟩
  · replace h := h.2 c
    refine x_st rfl ?_
    refine x_gr (ci := 10) (k := 3) (nx := 17) rfl sh_0 rfl ?_
    obtain ⟨M4, N5, hc, h⟩ := h
    refine x_vv (y := 122) (n := 0) (ci := 9) (nx := 20) rfl (fun _ => rfl) sh_15 rfl hc ?_
    refine x_st rfl ?_
    refine x_gr (ci := 10) (k := 3) (nx := 24) rfl sh_0 rfl ?_
    refine x_st rfl ?_
    obtain ⟨x8, M6, N7, hc, h⟩ := h
    refine x_vi (y := 124) (n := 1) (ci := 9) (nx := 28) rfl (fun _ => rfl) sh_15 rfl hc ?_
    refine x_ret rfl ?_
    exact ⟨_, _, rfl, h⟩
theorem EX10_lasts {D : Nat} {Q : Option Value → mI → mJ → Prop}  {v1 : Int32} {MI : mI} {ML : mJ} (h : VX10_lasts_0 D Q v1 MI ML) : ∃ v MI' ML', Q v MI' ML' ∧ mrc (D + 1) 149 [.ref 0, .int v1] MI ML v MI' ML' := by
  refine x_en (n := 0) (T := TX10_lasts) rfl rfl ?_
  refine x_kl ?_ h
  exact ⟨Or.inr rfl, ⟨Or.inr rfl, True.intro⟩⟩
def VX10_isOneOrAll_0 (D : Nat) (Q : Option Value → mI → mJ → Prop)  (v1 : Int32) (MI : mI) (ML : mJ) : Prop := mEx (mrn D) TX10_isOneOrAll (mqS Q) (0, [some (.ref 0), some (.int v1)], [], (W0, Sh0, MI, ML))
theorem BX10_isOneOrAll_0 {D : Nat} {Q : Option Value → mI → mJ → Prop}  {v1 : Int32} {MI : mI} {ML : mJ} 
    (h : (v1 = (-1 : Int32) → Q (some (.int (nI 1))) MI ML) ∧ (¬ v1 = (-1 : Int32) → ∃ (x3 : Int32) (M1 : mI) (N2 : mJ), mrc D 6 [.ref 1, .int v1] MI ML (some (.int x3)) M1 N2 ∧ ((x3 = nI 0 → Q (some (.int (nI 0))) M1 N2) ∧ (¬ x3 = nI 0 → Q (some (.int (nI 1))) M1 N2)))) :
    VX10_isOneOrAll_0 D Q v1 MI ML := by
  show mEx (mrn D) TX10_isOneOrAll (mqS Q) (0, [some (.ref 0), some (.int v1)], [], (W0, Sh0, MI, ML))
  refine x_st rfl ?_
  refine x_st rfl ?_
  refine x_br rfl (fun c => ?_) (fun c => ?_)
  · replace h := h.1 c
    refine x_st rfl ?_
    refine x_st rfl ?_
    refine x_ret rfl ?_
    exact ⟨_, _, rfl, h⟩
  · replace h := h.2 c
    refine x_st rfl ?_
    refine x_gr (ci := 10) (k := 0) (nx := 9) rfl sh_0 rfl ?_
    refine x_st rfl ?_
    obtain ⟨x3, M1, N2, hc, h⟩ := h
    refine x_vi (y := 6) (n := 1) (ci := 0) (nx := 13) rfl (fun _ => rfl) sh_1 rfl hc ?_
    refine x_br rfl (fun c => ?_) (fun c => ?_)
    · replace h := h.1 c
      refine x_st rfl ?_
      refine x_ret rfl ?_
      exact ⟨_, _, rfl, h⟩
    · replace h := h.2 c
      refine x_st rfl ?_
      refine x_st rfl ?_
      refine x_ret rfl ?_
      exact ⟨_, _, rfl, h⟩
theorem EX10_isOneOrAll {D : Nat} {Q : Option Value → mI → mJ → Prop}  {v1 : Int32} {MI : mI} {ML : mJ} (h : VX10_isOneOrAll_0 D Q v1 MI ML) : ∃ v MI' ML', Q v MI' ML' ∧ mrc (D + 1) 153 [.ref 0, .int v1] MI ML v MI' ML' := by
  refine x_en (n := 0) (T := TX10_isOneOrAll) rfl rfl ?_
  refine x_kl ?_ h
  exact ⟨Or.inr rfl, ⟨Or.inr rfl, True.intro⟩⟩
def VX10_day_0 (D : Nat) (Q : Option Value → mI → mJ → Prop)  (MI : mI) (ML : mJ) : Prop := mEx (mrn D) TX10_day (mqS Q) (0, [some (.ref 0), none], [], (W0, Sh0, MI, ML))
theorem BX10_day_0 {D : Nat} {Q : Option Value → mI → mJ → Prop}  {MI : mI} {ML : mJ} 
    (h : ∃ (x3 : Int32) (M1 : mI) (N2 : mJ), mrc D 96 [.ref 28, .ref 1, .ref 6] MI ML (some (.int x3)) M1 N2 ∧ (∃ (M4 : mI) (N5 : mJ), mrc D 31 [.ref 33, .ref 28, .int (M1 1 0)] M1 N2 none M4 N5 ∧ (Q (some (.int x3)) M4 N5))) :
    VX10_day_0 D Q  MI ML := by
  show mEx (mrn D) TX10_day (mqS Q) (0, [some (.ref 0), none], [], (W0, Sh0, MI, ML))
  refine x_st rfl ?_
  refine x_gr (ci := 10) (k := 5) (nx := 4) rfl sh_0 rfl ?_
  refine x_st rfl ?_
  refine x_gr (ci := 10) (k := 0) (nx := 8) rfl sh_0 rfl ?_
  refine x_st rfl ?_
  refine x_gr (ci := 10) (k := 2) (nx := 12) rfl sh_0 rfl ?_
  obtain ⟨x3, M1, N2, hc, h⟩ := h
  refine x_vi (y := 96) (n := 2) (ci := 7) (nx := 15) rfl (fun _ => rfl) sh_28 rfl hc ?_
  refine x_st rfl ?_
  refine x_st rfl ?_
  refine x_gr (ci := 10) (k := 6) (nx := 20) rfl sh_0 rfl ?_
  refine x_st rfl ?_
  refine x_gr (ci := 10) (k := 5) (nx := 24) rfl sh_0 rfl ?_
  refine x_st rfl ?_
  refine x_gr (ci := 10) (k := 0) (nx := 28) rfl sh_0 rfl ?_
  refine x_gi (ci := 0) (k := 0) (nx := 31) rfl sh_1 rfl ?_
  obtain ⟨M4, N5, hc, h⟩ := h
  refine x_vv (y := 31) (n := 2) (ci := 1) (nx := 34) rfl (fun _ => rfl) sh_33 rfl hc ?_
  refine x_st rfl ?_
  refine x_ret rfl ?_
  exact ⟨_, _, rfl, h⟩
theorem EX10_day {D : Nat} {Q : Option Value → mI → mJ → Prop}  {MI : mI} {ML : mJ} (h : VX10_day_0 D Q  MI ML) : ∃ v MI' ML', Q v MI' ML' ∧ mrc (D + 1) 158 [.ref 0] MI ML v MI' ML' := by
  refine x_en (n := 1) (T := TX10_day) rfl rfl ?_
  refine x_kl ?_ h
  exact ⟨Or.inr rfl, ⟨Or.inl rfl, True.intro⟩⟩
def VX10_wrong_0 (D : Nat) (Q : Option Value → mI → mJ → Prop)  (v1 : Int32) (v2 : Int32) (MI : mI) (ML : mJ) : Prop := mEx (mrn D) TX10_wrong (mqS Q) (0, [some (.ref 0), some (.int v1), some (.int v2), none], [], (W0, Sh0, MI, ML))
theorem BX10_wrong_0 {D : Nat} {Q : Option Value → mI → mJ → Prop}  {v1 : Int32} {v2 : Int32} {MI : mI} {ML : mJ} 
    (h : ∃ (x3 : Int32) (M1 : mI) (N2 : mJ), mrc D 7 [.ref 1, .int v1] MI ML (some (.int x3)) M1 N2 ∧ ((x3 = nI 0 → Q (some (.int (-1 : Int32))) M1 N2) ∧ (¬ x3 = nI 0 → (v2 < (nI 1) → Q (some (.int (-1 : Int32))) M1 N2) ∧ (¬ v2 < (nI 1) → (v2 ≤ (nI 9) → ∃ (x6 : Int32) (M4 : mI) (N5 : mJ), mrc D 14 [.ref 1, .int (v1 - v1 / (nI 10) * (nI 10)), .int (v1 / (nI 10))] M1 N2 (some (.int x6)) M4 N5 ∧ (∃ (M7 : mI) (N8 : mJ), mrc D 15 [.ref 1, .int (v1 - v1 / (nI 10) * (nI 10)), .int (v1 / (nI 10)), .int (if (x6 - v2) < (-9 : Int32) then (-9 : Int32) else (x6 - v2))] M4 N5 none M7 N8 ∧ (∃ (M9 : mI) (N10 : mJ), mrc D 29 [.ref 33, .int (nI 3), .int (nI 1)] M7 N8 none M9 N10 ∧ (Q (some (.int ((if (x6 - v2) < (-9 : Int32) then (-9 : Int32) else (x6 - v2)) + (nI 100)))) M9 N10)))) ∧ (¬ v2 ≤ (nI 9) → Q (some (.int (-1 : Int32))) M1 N2))))) :
    VX10_wrong_0 D Q v1 v2 MI ML := by
  show mEx (mrn D) TX10_wrong (mqS Q) (0, [some (.ref 0), some (.int v1), some (.int v2), none], [], (W0, Sh0, MI, ML))
  refine x_st rfl ?_
  refine x_gr (ci := 10) (k := 0) (nx := 4) rfl sh_0 rfl ?_
  refine x_st rfl ?_
  obtain ⟨x3, M1, N2, hc, h⟩ := h
  refine x_vi (y := 7) (n := 1) (ci := 0) (nx := 8) rfl (fun _ => rfl) sh_1 rfl hc ?_
  refine x_br rfl (fun c => ?_) (fun c => ?_)
  · replace h := h.1 c
    refine x_st rfl ?_
    refine x_ret rfl ?_
    exact ⟨_, _, rfl, h⟩
  · replace h := h.2 c
    refine x_st rfl ?_
    refine x_st rfl ?_
    refine x_br rfl (fun c => ?_) (fun c => ?_)
    · replace h := h.1 c
      refine x_st rfl ?_
      refine x_ret rfl ?_
      exact ⟨_, _, rfl, h⟩
    · replace h := h.2 c
      refine x_st rfl ?_
      refine x_st rfl ?_
      refine x_br rfl (fun c => ?_) (fun c => ?_)
      · replace h := h.1 c
        refine x_st rfl ?_
        refine x_gr (ci := 10) (k := 0) (nx := 28) rfl sh_0 rfl ?_
        refine x_st rfl ?_
        refine x_st rfl ?_
        refine x_st rfl ?_
        refine x_st rfl ?_
        refine x_st rfl ?_
        refine x_st rfl ?_
        obtain ⟨x6, M4, N5, hc, h⟩ := h
        refine x_vi (y := 14) (n := 2) (ci := 0) (nx := 39) rfl (fun _ => rfl) sh_1 rfl hc ?_
        refine x_st rfl ?_
        refine x_st rfl ?_
        refine x_st rfl ?_
        refine x_st rfl ?_
        refine x_st rfl ?_
        refine x_st rfl ?_
        refine x_gr (ci := 10) (k := 0) (nx := 51) rfl sh_0 rfl ?_
        refine x_st rfl ?_
        refine x_st rfl ?_
        refine x_st rfl ?_
        refine x_st rfl ?_
        refine x_st rfl ?_
        refine x_st rfl ?_
        refine x_st rfl ?_
        obtain ⟨M7, N8, hc, h⟩ := h
        refine x_vv (y := 15) (n := 3) (ci := 0) (nx := 63) rfl (fun _ => rfl) sh_1 rfl hc ?_
        refine x_st rfl ?_
        refine x_gr (ci := 10) (k := 6) (nx := 67) rfl sh_0 rfl ?_
        refine x_st rfl ?_
        refine x_st rfl ?_
        obtain ⟨M9, N10, hc, h⟩ := h
        refine x_vv (y := 29) (n := 2) (ci := 1) (nx := 72) rfl (fun _ => rfl) sh_33 rfl hc ?_
        refine x_st rfl ?_
        refine x_st rfl ?_
        refine x_st rfl ?_
        refine x_ret rfl ?_
        exact ⟨_, _, rfl, h⟩
      · replace h := h.2 c
        refine x_st rfl ?_
        refine x_ret rfl ?_
        exact ⟨_, _, rfl, h⟩
theorem EX10_wrong {D : Nat} {Q : Option Value → mI → mJ → Prop}  {v1 : Int32} {v2 : Int32} {MI : mI} {ML : mJ} (h : VX10_wrong_0 D Q v1 v2 MI ML) : ∃ v MI' ML', Q v MI' ML' ∧ mrc (D + 1) 159 [.ref 0, .int v1, .int v2] MI ML v MI' ML' := by
  refine x_en (n := 1) (T := TX10_wrong) rfl rfl ?_
  refine x_kl ?_ h
  exact ⟨Or.inr rfl, ⟨Or.inr rfl, ⟨Or.inr rfl, ⟨Or.inl rfl, True.intro⟩⟩⟩⟩
def VX10_lease_0 (D : Nat) (Q : Option Value → mI → mJ → Prop)  (v1 : Int32) (v2 : Int32) (MI : mI) (ML : mJ) : Prop := mEx (mrn D) TX10_lease (mqS Q) (0, [some (.ref 0), some (.int v1), some (.int v2), none, none, none], [], (W0, Sh0, MI, ML))
theorem BX10_lease_0 {D : Nat} {Q : Option Value → mI → mJ → Prop}  {v1 : Int32} {v2 : Int32} {MI : mI} {ML : mJ} 
    (h : ∃ (x3 : Int32) (M1 : mI) (N2 : mJ), mrc D 7 [.ref 1, .int v1] MI ML (some (.int x3)) M1 N2 ∧ ((x3 = nI 0 → Q (some (.int (-1 : Int32))) M1 N2) ∧ (¬ x3 = nI 0 → ∃ (x6 : Int32) (M4 : mI) (N5 : mJ), mrc D 6 [.ref 1, .int v2] M1 N2 (some (.int x6)) M4 N5 ∧ ((x6 = nI 0 → Q (some (.int (-1 : Int32))) M4 N5) ∧ (¬ x6 = nI 0 → (v2 = (v1 / (nI 10)) → Q (some (.int (-1 : Int32))) M4 N5) ∧ (¬ v2 = (v1 / (nI 10)) → (v2 = (v1 - v1 / (nI 10) * (nI 10)) → Q (some (.int (-1 : Int32))) M4 N5) ∧ (¬ v2 = (v1 - v1 / (nI 10) * (nI 10)) → ∃ (x9 : Int32) (M7 : mI) (N8 : mJ), mrc D 14 [.ref 1, .int (v1 - v1 / (nI 10) * (nI 10)), .int v2] M4 N5 (some (.int x9)) M7 N8 ∧ ((x9 < nI 0 → ∃ (M10 : mI) (N11 : mJ), mrc D 15 [.ref 1, .int (v1 / (nI 10)), .int v2, .int x9] M7 N8 none M10 N11 ∧ (∃ (M12 : mI) (N13 : mJ), mrc D 15 [.ref 1, .int (v1 - v1 / (nI 10) * (nI 10)), .int v2, .int (nI 0)] M10 N11 none M12 N13 ∧ (∃ (M14 : mI) (N15 : mJ), mrc D 29 [.ref 33, .int (nI 4), .int (nI 1)] M12 N13 none M14 N15 ∧ (Q (some (.int (x9 + (nI 100)))) M14 N15)))) ∧ (¬ x9 < nI 0 → Q (some (.int (-5 : Int32))) M7 N8))))))))) :
    VX10_lease_0 D Q v1 v2 MI ML := by
  show mEx (mrn D) TX10_lease (mqS Q) (0, [some (.ref 0), some (.int v1), some (.int v2), none, none, none], [], (W0, Sh0, MI, ML))
  refine x_st rfl ?_
  refine x_st rfl ?_
  refine x_st rfl ?_
  refine x_st rfl ?_
  refine x_st rfl ?_
  refine x_st rfl ?_
  refine x_st rfl ?_
  refine x_st rfl ?_
  refine x_st rfl ?_
  refine x_gr (ci := 10) (k := 0) (nx := 15) rfl sh_0 rfl ?_
  refine x_st rfl ?_
  obtain ⟨x3, M1, N2, hc, h⟩ := h
  refine x_vi (y := 7) (n := 1) (ci := 0) (nx := 19) rfl (fun _ => rfl) sh_1 rfl hc ?_
  refine x_br rfl (fun c => ?_) (fun c => ?_)
  · replace h := h.1 c
    refine x_st rfl ?_
    refine x_ret rfl ?_
    exact ⟨_, _, rfl, h⟩
  · replace h := h.2 c
    refine x_st rfl ?_
    refine x_gr (ci := 10) (k := 0) (nx := 26) rfl sh_0 rfl ?_
    refine x_st rfl ?_
    obtain ⟨x6, M4, N5, hc, h⟩ := h
    refine x_vi (y := 6) (n := 1) (ci := 0) (nx := 30) rfl (fun _ => rfl) sh_1 rfl hc ?_
    refine x_br rfl (fun c => ?_) (fun c => ?_)
    · replace h := h.1 c
      refine x_st rfl ?_
      refine x_ret rfl ?_
      exact ⟨_, _, rfl, h⟩
    · replace h := h.2 c
      refine x_st rfl ?_
      refine x_st rfl ?_
      refine x_br rfl (fun c => ?_) (fun c => ?_)
      · replace h := h.1 c
        refine x_st rfl ?_
        refine x_ret rfl ?_
        exact ⟨_, _, rfl, h⟩
      · replace h := h.2 c
        refine x_st rfl ?_
        refine x_st rfl ?_
        refine x_br rfl (fun c => ?_) (fun c => ?_)
        · replace h := h.1 c
          refine x_st rfl ?_
          refine x_ret rfl ?_
          exact ⟨_, _, rfl, h⟩
        · replace h := h.2 c
          refine x_st rfl ?_
          refine x_gr (ci := 10) (k := 0) (nx := 50) rfl sh_0 rfl ?_
          refine x_st rfl ?_
          refine x_st rfl ?_
          obtain ⟨x9, M7, N8, hc, h⟩ := h
          refine x_vi (y := 14) (n := 2) (ci := 0) (nx := 56) rfl (fun _ => rfl) sh_1 rfl hc ?_
          refine x_st rfl ?_
          refine x_st rfl ?_
          refine x_br rfl (fun c => ?_) (fun c => ?_)
          · replace h := h.1 c
            refine x_st rfl ?_
            refine x_gr (ci := 10) (k := 0) (nx := 70) rfl sh_0 rfl ?_
            refine x_st rfl ?_
            refine x_st rfl ?_
            refine x_st rfl ?_
            obtain ⟨M10, N11, hc, h⟩ := h
            refine x_vv (y := 15) (n := 3) (ci := 0) (nx := 77) rfl (fun _ => rfl) sh_1 rfl hc ?_
            refine x_st rfl ?_
            refine x_gr (ci := 10) (k := 0) (nx := 81) rfl sh_0 rfl ?_
            refine x_st rfl ?_
            refine x_st rfl ?_
            refine x_st rfl ?_
            obtain ⟨M12, N13, hc, h⟩ := h
            refine x_vv (y := 15) (n := 3) (ci := 0) (nx := 88) rfl (fun _ => rfl) sh_1 rfl hc ?_
            refine x_st rfl ?_
            refine x_gr (ci := 10) (k := 6) (nx := 92) rfl sh_0 rfl ?_
            refine x_st rfl ?_
            refine x_st rfl ?_
            obtain ⟨M14, N15, hc, h⟩ := h
            refine x_vv (y := 29) (n := 2) (ci := 1) (nx := 97) rfl (fun _ => rfl) sh_33 rfl hc ?_
            refine x_st rfl ?_
            refine x_st rfl ?_
            refine x_st rfl ?_
            refine x_ret rfl ?_
            exact ⟨_, _, rfl, h⟩
          · replace h := h.2 c
            refine x_st rfl ?_
            refine x_ret rfl ?_
            exact ⟨_, _, rfl, h⟩
theorem EX10_lease {D : Nat} {Q : Option Value → mI → mJ → Prop}  {v1 : Int32} {v2 : Int32} {MI : mI} {ML : mJ} (h : VX10_lease_0 D Q v1 v2 MI ML) : ∃ v MI' ML', Q v MI' ML' ∧ mrc (D + 1) 160 [.ref 0, .int v1, .int v2] MI ML v MI' ML' := by
  refine x_en (n := 3) (T := TX10_lease) rfl rfl ?_
  refine x_kl ?_ h
  exact ⟨Or.inr rfl, ⟨Or.inr rfl, ⟨Or.inr rfl, ⟨Or.inl rfl, ⟨Or.inl rfl, ⟨Or.inl rfl, True.intro⟩⟩⟩⟩⟩⟩
def VX10_gift_0 (D : Nat) (Q : Option Value → mI → mJ → Prop)  (v1 : Int32) (v2 : Int32) (MI : mI) (ML : mJ) : Prop := mEx (mrn D) TX10_gift (mqS Q) (0, [some (.ref 0), some (.int v1), some (.int v2)], [], (W0, Sh0, MI, ML))
theorem BX10_gift_0 {D : Nat} {Q : Option Value → mI → mJ → Prop}  {v1 : Int32} {v2 : Int32} {MI : mI} {ML : mJ} 
    (h : ∃ (x3 : Int32) (M1 : mI) (N2 : mJ), mrc D 7 [.ref 1, .int v1] MI ML (some (.int x3)) M1 N2 ∧ ((x3 = nI 0 → Q (some (.int (-1 : Int32))) M1 N2) ∧ (¬ x3 = nI 0 → (v2 < (nI 1) → Q (some (.int (-1 : Int32))) M1 N2) ∧ (¬ v2 < (nI 1) → (v2 ≤ (nI 99) → ∃ (M4 : mI) (N5 : mJ), mrc D 12 [.ref 1, .int (v1 / (nI 10)), .int v2] M1 N2 none M4 N5 ∧ (∃ (M6 : mI) (N7 : mJ), mrc D 13 [.ref 1, .int (v1 - v1 / (nI 10) * (nI 10)), .int v2] M4 N5 none M6 N7 ∧ (∃ (M8 : mI) (N9 : mJ), mrc D 29 [.ref 33, .int (nI 5), .int (nI 1)] M6 N7 none M8 N9 ∧ (∃ (x12 : Int32) (M10 : mI) (N11 : mJ), mrc D 11 [.ref 1, .int (v1 / (nI 10))] M8 N9 (some (.int x12)) M10 N11 ∧ (Q (some (.int x12)) M10 N11))))) ∧ (¬ v2 ≤ (nI 99) → Q (some (.int (-1 : Int32))) M1 N2))))) :
    VX10_gift_0 D Q v1 v2 MI ML := by
  show mEx (mrn D) TX10_gift (mqS Q) (0, [some (.ref 0), some (.int v1), some (.int v2)], [], (W0, Sh0, MI, ML))
  refine x_st rfl ?_
  refine x_gr (ci := 10) (k := 0) (nx := 4) rfl sh_0 rfl ?_
  refine x_st rfl ?_
  obtain ⟨x3, M1, N2, hc, h⟩ := h
  refine x_vi (y := 7) (n := 1) (ci := 0) (nx := 8) rfl (fun _ => rfl) sh_1 rfl hc ?_
  refine x_br rfl (fun c => ?_) (fun c => ?_)
  · replace h := h.1 c
    refine x_st rfl ?_
    refine x_ret rfl ?_
    exact ⟨_, _, rfl, h⟩
  · replace h := h.2 c
    refine x_st rfl ?_
    refine x_st rfl ?_
    refine x_br rfl (fun c => ?_) (fun c => ?_)
    · replace h := h.1 c
      refine x_st rfl ?_
      refine x_ret rfl ?_
      exact ⟨_, _, rfl, h⟩
    · replace h := h.2 c
      refine x_st rfl ?_
      refine x_st rfl ?_
      refine x_br rfl (fun c => ?_) (fun c => ?_)
      · replace h := h.1 c
        refine x_st rfl ?_
        refine x_gr (ci := 10) (k := 0) (nx := 28) rfl sh_0 rfl ?_
        refine x_st rfl ?_
        refine x_st rfl ?_
        refine x_st rfl ?_
        refine x_st rfl ?_
        obtain ⟨M4, N5, hc, h⟩ := h
        refine x_vv (y := 12) (n := 2) (ci := 0) (nx := 36) rfl (fun _ => rfl) sh_1 rfl hc ?_
        refine x_st rfl ?_
        refine x_gr (ci := 10) (k := 0) (nx := 40) rfl sh_0 rfl ?_
        refine x_st rfl ?_
        refine x_st rfl ?_
        refine x_st rfl ?_
        refine x_st rfl ?_
        obtain ⟨M6, N7, hc, h⟩ := h
        refine x_vv (y := 13) (n := 2) (ci := 0) (nx := 48) rfl (fun _ => rfl) sh_1 rfl hc ?_
        refine x_st rfl ?_
        refine x_gr (ci := 10) (k := 6) (nx := 52) rfl sh_0 rfl ?_
        refine x_st rfl ?_
        refine x_st rfl ?_
        obtain ⟨M8, N9, hc, h⟩ := h
        refine x_vv (y := 29) (n := 2) (ci := 1) (nx := 57) rfl (fun _ => rfl) sh_33 rfl hc ?_
        refine x_st rfl ?_
        refine x_gr (ci := 10) (k := 0) (nx := 61) rfl sh_0 rfl ?_
        refine x_st rfl ?_
        refine x_st rfl ?_
        refine x_st rfl ?_
        obtain ⟨x12, M10, N11, hc, h⟩ := h
        refine x_vi (y := 11) (n := 1) (ci := 0) (nx := 68) rfl (fun _ => rfl) sh_1 rfl hc ?_
        refine x_ret rfl ?_
        exact ⟨_, _, rfl, h⟩
      · replace h := h.2 c
        refine x_st rfl ?_
        refine x_ret rfl ?_
        exact ⟨_, _, rfl, h⟩
theorem EX10_gift {D : Nat} {Q : Option Value → mI → mJ → Prop}  {v1 : Int32} {v2 : Int32} {MI : mI} {ML : mJ} (h : VX10_gift_0 D Q v1 v2 MI ML) : ∃ v MI' ML', Q v MI' ML' ∧ mrc (D + 1) 161 [.ref 0, .int v1, .int v2] MI ML v MI' ML' := by
  refine x_en (n := 0) (T := TX10_gift) rfl rfl ?_
  refine x_kl ?_ h
  exact ⟨Or.inr rfl, ⟨Or.inr rfl, ⟨Or.inr rfl, True.intro⟩⟩⟩
def VX10_tale_0 (D : Nat) (Q : Option Value → mI → mJ → Prop)  (v1 : Int32) (MI : mI) (ML : mJ) : Prop := mEx (mrn D) TX10_tale (mqS Q) (0, [some (.ref 0), some (.int v1)], [], (W0, Sh0, MI, ML))
theorem BX10_tale_0 {D : Nat} {Q : Option Value → mI → mJ → Prop}  {v1 : Int32} {MI : mI} {ML : mJ} 
    (h : ((-1 : Int32) ≤ v1 → (v1 = (-1 : Int32) → ∃ (x3 : Int32) (M1 : mI) (N2 : mJ), mrc D 33 [.ref 33] MI ML (some (.int x3)) M1 N2 ∧ (Q (some (.int x3)) M1 N2)) ∧ (¬ v1 = (-1 : Int32) → ∃ (x6 : Int32) (M4 : mI) (N5 : mJ), mrc D 34 [.ref 33, .int v1] MI ML (some (.int x6)) M4 N5 ∧ (Q (some (.int x6)) M4 N5))) ∧ (¬ (-1 : Int32) ≤ v1 → Q (some (.int (-1 : Int32))) MI ML)) :
    VX10_tale_0 D Q v1 MI ML := by
  show mEx (mrn D) TX10_tale (mqS Q) (0, [some (.ref 0), some (.int v1)], [], (W0, Sh0, MI, ML))
  refine x_st rfl ?_
  refine x_st rfl ?_
  refine x_br rfl (fun c => ?_) (fun c => ?_)
  · replace h := h.1 c
    refine x_st rfl ?_
    refine x_st rfl ?_
    refine x_br rfl (fun c => ?_) (fun c => ?_)
    · replace h := h.1 c
      refine x_st rfl ?_
      refine x_gr (ci := 10) (k := 6) (nx := 16) rfl sh_0 rfl ?_
      obtain ⟨x3, M1, N2, hc, h⟩ := h
      refine x_vi (y := 33) (n := 0) (ci := 1) (nx := 19) rfl (fun _ => rfl) sh_33 rfl hc ?_
      refine x_st rfl ?_
      refine x_ret rfl ?_
      exact ⟨_, _, rfl, h⟩
    · replace h := h.2 c
      refine x_st rfl ?_
      refine x_gr (ci := 10) (k := 6) (nx := 26) rfl sh_0 rfl ?_
      refine x_st rfl ?_
      obtain ⟨x6, M4, N5, hc, h⟩ := h
      refine x_vi (y := 34) (n := 1) (ci := 1) (nx := 30) rfl (fun _ => rfl) sh_33 rfl hc ?_
      refine x_ret rfl ?_
      exact ⟨_, _, rfl, h⟩
  · replace h := h.2 c
    refine x_st rfl ?_
    refine x_ret rfl ?_
    exact ⟨_, _, rfl, h⟩
theorem EX10_tale {D : Nat} {Q : Option Value → mI → mJ → Prop}  {v1 : Int32} {MI : mI} {ML : mJ} (h : VX10_tale_0 D Q v1 MI ML) : ∃ v MI' ML', Q v MI' ML' ∧ mrc (D + 1) 162 [.ref 0, .int v1] MI ML v MI' ML' := by
  refine x_en (n := 0) (T := TX10_tale) rfl rfl ?_
  refine x_kl ?_ h
  exact ⟨Or.inr rfl, ⟨Or.inr rfl, True.intro⟩⟩
def VX10_led_0 (D : Nat) (Q : Option Value → mI → mJ → Prop)  (v1 : Int32) (MI : mI) (ML : mJ) : Prop := mEx (mrn D) TX10_led (mqS Q) (0, [some (.ref 0), some (.int v1)], [], (W0, Sh0, MI, ML))
theorem BX10_led_0 {D : Nat} {Q : Option Value → mI → mJ → Prop}  {v1 : Int32} {MI : mI} {ML : mJ} 
    (h : (v1 < nI 0 → Q (some (.int (-1 : Int32))) MI ML) ∧ (¬ v1 < nI 0 → (v1 < (nI 6) → ∃ (x3 : Int32) (M1 : mI) (N2 : mJ), mrc D 30 [.ref 33, .int v1] MI ML (some (.int x3)) M1 N2 ∧ (Q (some (.int x3)) M1 N2)) ∧ (¬ v1 < (nI 6) → Q (some (.int (-1 : Int32))) MI ML))) :
    VX10_led_0 D Q v1 MI ML := by
  show mEx (mrn D) TX10_led (mqS Q) (0, [some (.ref 0), some (.int v1)], [], (W0, Sh0, MI, ML))
  refine x_st rfl ?_
  refine x_br rfl (fun c => ?_) (fun c => ?_)
  · replace h := h.1 c
    refine x_st rfl ?_
    refine x_st rfl ?_
    refine x_ret rfl ?_
    exact ⟨_, _, rfl, h⟩
  · replace h := h.2 c
    refine x_st rfl ?_
    refine x_st rfl ?_
    refine x_br rfl (fun c => ?_) (fun c => ?_)
    · replace h := h.1 c
      refine x_st rfl ?_
      refine x_gr (ci := 10) (k := 6) (nx := 18) rfl sh_0 rfl ?_
      refine x_st rfl ?_
      obtain ⟨x3, M1, N2, hc, h⟩ := h
      refine x_vi (y := 30) (n := 1) (ci := 1) (nx := 22) rfl (fun _ => rfl) sh_33 rfl hc ?_
      refine x_ret rfl ?_
      exact ⟨_, _, rfl, h⟩
    · replace h := h.2 c
      refine x_st rfl ?_
      refine x_st rfl ?_
      refine x_ret rfl ?_
      exact ⟨_, _, rfl, h⟩
theorem EX10_led {D : Nat} {Q : Option Value → mI → mJ → Prop}  {v1 : Int32} {MI : mI} {ML : mJ} (h : VX10_led_0 D Q v1 MI ML) : ∃ v MI' ML', Q v MI' ML' ∧ mrc (D + 1) 163 [.ref 0, .int v1] MI ML v MI' ML' := by
  refine x_en (n := 0) (T := TX10_led) rfl rfl ?_
  refine x_kl ?_ h
  exact ⟨Or.inr rfl, ⟨Or.inr rfl, True.intro⟩⟩
def VX10_count_0 (D : Nat) (Q : Option Value → mI → mJ → Prop)  (v1 : Int32) (MI : mI) (ML : mJ) : Prop := mEx (mrn D) TX10_count (mqS Q) (0, [some (.ref 0), some (.int v1)], [], (W0, Sh0, MI, ML))
theorem BX10_count_0 {D : Nat} {Q : Option Value → mI → mJ → Prop}  {v1 : Int32} {MI : mI} {ML : mJ} 
    (h : (v1 = (nI 0) → Q (some (.int (MI 1 0))) MI ML) ∧ (¬ v1 = (nI 0) → (v1 = (nI 1) → ∃ (x15 : Int32) (M13 : mI) (N14 : mJ), mrc D 53 [.ref 3] MI ML (some (.int x15)) M13 N14 ∧ (Q (some (.int x15)) M13 N14)) ∧ (¬ v1 = (nI 1) → (v1 = (nI 2) → ∃ (x12 : Int32) (M10 : mI) (N11 : mJ), mrc D 41 [.ref 39] MI ML (some (.int x12)) M10 N11 ∧ (Q (some (.int x12)) M10 N11)) ∧ (¬ v1 = (nI 2) → (v1 = (nI 3) → ∃ (x9 : Int32) (M7 : mI) (N8 : mJ), mrc D 74 [.ref 43] MI ML (some (.int x9)) M7 N8 ∧ (Q (some (.int x9)) M7 N8)) ∧ (¬ v1 = (nI 3) → (v1 = (nI 4) → ∃ (x6 : Int32) (M4 : mI) (N5 : mJ), mrc D 77 [.ref 43] MI ML (some (.int x6)) M4 N5 ∧ (Q (some (.int x6)) M4 N5)) ∧ (¬ v1 = (nI 4) → (v1 = (nI 5) → ∃ (x3 : Int32) (M1 : mI) (N2 : mJ), mrc D 20 [.ref 1] MI ML (some (.int x3)) M1 N2 ∧ (Q (some (.int x3)) M1 N2)) ∧ (¬ v1 = (nI 5) → Q (some (.int (-1 : Int32))) MI ML))))))) :
    VX10_count_0 D Q v1 MI ML := by
  show mEx (mrn D) TX10_count (mqS Q) (0, [some (.ref 0), some (.int v1)], [], (W0, Sh0, MI, ML))
  refine x_st rfl ?_
  refine x_sw rfl ?_
  refine ⟨fun c => ?_, fun c => ?_⟩
  · replace h := h.1 c
    refine x_st rfl ?_
    refine x_gr (ci := 10) (k := 0) (nx := 44) rfl sh_0 rfl ?_
    refine x_gi (ci := 0) (k := 0) (nx := 47) rfl sh_1 rfl ?_
    refine x_ret rfl ?_
    exact ⟨_, _, rfl, h⟩
  · replace h := h.2 c
    refine ⟨fun c => ?_, fun c => ?_⟩
    · replace h := h.1 c
      refine x_st rfl ?_
      refine x_gr (ci := 10) (k := 1) (nx := 52) rfl sh_0 rfl ?_
      obtain ⟨x15, M13, N14, hc, h⟩ := h
      refine x_vi (y := 53) (n := 0) (ci := 4) (nx := 55) rfl (fun _ => rfl) sh_3 rfl hc ?_
      refine x_ret rfl ?_
      exact ⟨_, _, rfl, h⟩
    · replace h := h.2 c
      refine ⟨fun c => ?_, fun c => ?_⟩
      · replace h := h.1 c
        refine x_st rfl ?_
        refine x_gr (ci := 10) (k := 7) (nx := 60) rfl sh_0 rfl ?_
        obtain ⟨x12, M10, N11, hc, h⟩ := h
        refine x_vi (y := 41) (n := 0) (ci := 2) (nx := 63) rfl (fun _ => rfl) sh_39 rfl hc ?_
        refine x_ret rfl ?_
        exact ⟨_, _, rfl, h⟩
      · replace h := h.2 c
        refine ⟨fun c => ?_, fun c => ?_⟩
        · replace h := h.1 c
          refine x_st rfl ?_
          refine x_gr (ci := 10) (k := 8) (nx := 68) rfl sh_0 rfl ?_
          obtain ⟨x9, M7, N8, hc, h⟩ := h
          refine x_vi (y := 74) (n := 0) (ci := 5) (nx := 71) rfl (fun _ => rfl) sh_43 rfl hc ?_
          refine x_ret rfl ?_
          exact ⟨_, _, rfl, h⟩
        · replace h := h.2 c
          refine ⟨fun c => ?_, fun c => ?_⟩
          · replace h := h.1 c
            refine x_st rfl ?_
            refine x_gr (ci := 10) (k := 8) (nx := 76) rfl sh_0 rfl ?_
            obtain ⟨x6, M4, N5, hc, h⟩ := h
            refine x_vi (y := 77) (n := 0) (ci := 5) (nx := 79) rfl (fun _ => rfl) sh_43 rfl hc ?_
            refine x_ret rfl ?_
            exact ⟨_, _, rfl, h⟩
          · replace h := h.2 c
            refine ⟨fun c => ?_, fun c => ?_⟩
            · replace h := h.1 c
              refine x_st rfl ?_
              refine x_gr (ci := 10) (k := 0) (nx := 84) rfl sh_0 rfl ?_
              obtain ⟨x3, M1, N2, hc, h⟩ := h
              refine x_vi (y := 20) (n := 0) (ci := 0) (nx := 87) rfl (fun _ => rfl) sh_1 rfl hc ?_
              refine x_ret rfl ?_
              exact ⟨_, _, rfl, h⟩
            · replace h := h.2 c
              refine x_st rfl ?_
              refine x_ret rfl ?_
              exact ⟨_, _, rfl, h⟩
theorem EX10_count {D : Nat} {Q : Option Value → mI → mJ → Prop}  {v1 : Int32} {MI : mI} {ML : mJ} (h : VX10_count_0 D Q v1 MI ML) : ∃ v MI' ML', Q v MI' ML' ∧ mrc (D + 1) 177 [.ref 0, .int v1] MI ML v MI' ML' := by
  refine x_en (n := 0) (T := TX10_count) rfl rfl ?_
  refine x_kl ?_ h
  exact ⟨Or.inr rfl, ⟨Or.inr rfl, True.intro⟩⟩
