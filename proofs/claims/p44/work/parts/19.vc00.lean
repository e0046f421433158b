/-! bodies by blocks -/
def VX0_mayCome_0 (D : Nat) (Q : Option Value → mI → mJ → Prop)  (v0 : Int32) (v1 : Int32) (MI : mI) (ML : mJ) : Prop := mEx (mrn D) TX0_mayCome (mqS Q) (0, [some (.int v0), some (.int v1)], [], (W0, Sh0, MI, ML))
theorem BX0_mayCome_0 {D : Nat} {Q : Option Value → mI → mJ → Prop}  {v0 : Int32} {v1 : Int32} {MI : mI} {ML : mJ} 
    (h : (v0 < nI 0 → Q (some (.int (nI 0))) MI ML) ∧ (¬ v0 < nI 0 → ((nI 99) < v0 → Q (some (.int (nI 0))) MI ML) ∧ (¬ (nI 99) < v0 → (v1 < nI 0 → Q (some (.int (nI 0))) MI ML) ∧ (¬ v1 < nI 0 → ((nI 9) < v1 → Q (some (.int (nI 0))) MI ML) ∧ (¬ (nI 9) < v1 → Q (some (.int (nI 1))) MI ML))))) :
    VX0_mayCome_0 D Q v0 v1 MI ML := by
  show mEx (mrn D) TX0_mayCome (mqS Q) (0, [some (.int v0), some (.int v1)], [], (W0, Sh0, MI, ML))
  refine x_st rfl ?_
  refine x_br rfl (fun c => ?_) (fun c => ?_)
  · replace h := h.1 c
    refine x_st rfl ?_
    refine x_ret rfl ?_
    exact ⟨_, _, rfl, h⟩
  · replace h := h.2 c
    refine x_st rfl ?_
    refine x_st rfl ?_
    refine x_br rfl (fun c => ?_) (fun c => ?_)
    · replace h := h.1 c
      refine x_st rfl ?_
      refine x_ret rfl ?_
      exact ⟨_, _, rfl, h⟩
    · replace h := h.2 c
      refine x_st rfl ?_
      refine x_br rfl (fun c => ?_) (fun c => ?_)
      · replace h := h.1 c
        refine x_st rfl ?_
        refine x_ret rfl ?_
        exact ⟨_, _, rfl, h⟩
      · replace h := h.2 c
        refine x_st rfl ?_
        refine x_st rfl ?_
        refine x_br rfl (fun c => ?_) (fun c => ?_)
        · replace h := h.1 c
          refine x_st rfl ?_
          refine x_ret rfl ?_
          exact ⟨_, _, rfl, h⟩
        · replace h := h.2 c
          refine x_st rfl ?_
          refine x_st rfl ?_
          refine x_ret rfl ?_
          exact ⟨_, _, rfl, h⟩
theorem EX0_mayCome {D : Nat} {Q : Option Value → mI → mJ → Prop}  {v0 : Int32} {v1 : Int32} {MI : mI} {ML : mJ} (h : VX0_mayCome_0 D Q v0 v1 MI ML) : ∃ v MI' ML', Q v MI' ML' ∧ mrc (D + 1) 1 [.int v0, .int v1] MI ML v MI' ML' := by
  refine x_en (n := 0) (T := TX0_mayCome) rfl rfl ?_
  refine x_kl ?_ h
  exact ⟨Or.inr rfl, ⟨Or.inr rfl, True.intro⟩⟩
def VX0_isFeeling_0 (D : Nat) (Q : Option Value → mI → mJ → Prop)  (v0 : Int32) (MI : mI) (ML : mJ) : Prop := mEx (mrn D) TX0_isFeeling (mqS Q) (0, [some (.int v0)], [], (W0, Sh0, MI, ML))
theorem BX0_isFeeling_0 {D : Nat} {Q : Option Value → mI → mJ → Prop}  {v0 : Int32} {MI : mI} {ML : mJ} 
    (h : (v0 < (-9 : Int32) → Q (some (.int (nI 0))) MI ML) ∧ (¬ v0 < (-9 : Int32) → ((nI 9) < v0 → Q (some (.int (nI 0))) MI ML) ∧ (¬ (nI 9) < v0 → Q (some (.int (nI 1))) MI ML))) :
    VX0_isFeeling_0 D Q v0 MI ML := by
  show mEx (mrn D) TX0_isFeeling (mqS Q) (0, [some (.int v0)], [], (W0, Sh0, MI, ML))
  refine x_st rfl ?_
  refine x_st rfl ?_
  refine x_br rfl (fun c => ?_) (fun c => ?_)
  · replace h := h.1 c
    refine x_st rfl ?_
    refine x_ret rfl ?_
    exact ⟨_, _, rfl, h⟩
  · replace h := h.2 c
    refine x_st rfl ?_
    refine x_st rfl ?_
    refine x_br rfl (fun c => ?_) (fun c => ?_)
    · replace h := h.1 c
      refine x_st rfl ?_
      refine x_ret rfl ?_
      exact ⟨_, _, rfl, h⟩
    · replace h := h.2 c
      refine x_st rfl ?_
      refine x_st rfl ?_
      refine x_ret rfl ?_
      exact ⟨_, _, rfl, h⟩
theorem EX0_isFeeling {D : Nat} {Q : Option Value → mI → mJ → Prop}  {v0 : Int32} {MI : mI} {ML : mJ} (h : VX0_isFeeling_0 D Q v0 MI ML) : ∃ v MI' ML', Q v MI' ML' ∧ mrc (D + 1) 2 [.int v0] MI ML v MI' ML' := by
  refine x_en (n := 0) (T := TX0_isFeeling) rfl rfl ?_
  refine x_kl ?_ h
  exact ⟨Or.inr rfl, True.intro⟩
def VX0_mostOf_0 (D : Nat) (Q : Option Value → mI → mJ → Prop)  (v0 : Int32) (MI : mI) (ML : mJ) : Prop := mEx (mrn D) TX0_mostOf (mqS Q) (0, [some (.int v0)], [], (W0, Sh0, MI, ML))
theorem BX0_mostOf_0 {D : Nat} {Q : Option Value → mI → mJ → Prop}  {v0 : Int32} {MI : mI} {ML : mJ} 
    (h : (v0 < nI 0 → Q (some (.int (-1 : Int32))) MI ML) ∧ (¬ v0 < nI 0 → ((nI 6) ≤ v0 → Q (some (.int (-1 : Int32))) MI ML) ∧ (¬ (nI 6) ≤ v0 → ∃ i1 : Nat, v0 = nI i1 ∧ i1 < 6 ∧ (Q (some (.int (mtab1 i1))) MI ML)))) :
    VX0_mostOf_0 D Q v0 MI ML := by
  show mEx (mrn D) TX0_mostOf (mqS Q) (0, [some (.int v0)], [], (W0, Sh0, MI, ML))
  refine x_st rfl ?_
  refine x_br rfl (fun c => ?_) (fun c => ?_)
  · replace h := h.1 c
    refine x_st rfl ?_
    refine x_ret rfl ?_
    exact ⟨_, _, rfl, h⟩
  · replace h := h.2 c
    refine x_st rfl ?_
    refine x_st rfl ?_
    refine x_st rfl ?_
    refine x_br rfl (fun c => ?_) (fun c => ?_)
    · replace h := h.1 c
      refine x_st rfl ?_
      refine x_ret rfl ?_
      exact ⟨_, _, rfl, h⟩
    · replace h := h.2 c
      refine x_st rfl ?_
      refine x_st rfl ?_
      obtain ⟨i1, hx, hi, h⟩ := h
      refine x_tl (j := 1) (N := 6) (f := mtab1) (nx := 17) (i := i1) rfl hx hi (by decide) ?_
      refine x_st rfl ?_
      refine x_ret rfl ?_
      exact ⟨_, _, rfl, h⟩
theorem EX0_mostOf {D : Nat} {Q : Option Value → mI → mJ → Prop}  {v0 : Int32} {MI : mI} {ML : mJ} (h : VX0_mostOf_0 D Q v0 MI ML) : ∃ v MI' ML', Q v MI' ML' ∧ mrc (D + 1) 3 [.int v0] MI ML v MI' ML' := by
  refine x_en (n := 0) (T := TX0_mostOf) rfl rfl ?_
  refine x_kl ?_ h
  exact ⟨Or.inr rfl, True.intro⟩
def VX0_placeOfFeeling_0 (D : Nat) (Q : Option Value → mI → mJ → Prop)  (v0 : Int32) (v1 : Int32) (MI : mI) (ML : mJ) : Prop := mEx (mrn D) TX0_placeOfFeeling (mqS Q) (0, [some (.int v0), some (.int v1)], [], (W0, Sh0, MI, ML))
theorem BX0_placeOfFeeling_0 {D : Nat} {Q : Option Value → mI → mJ → Prop}  {v0 : Int32} {v1 : Int32} {MI : mI} {ML : mJ} 
    (h : Q (some (.int (((nI 20) + (v0 * (nI 8))) + v1))) MI ML) :
    VX0_placeOfFeeling_0 D Q v0 v1 MI ML := by
  show mEx (mrn D) TX0_placeOfFeeling (mqS Q) (0, [some (.int v0), some (.int v1)], [], (W0, Sh0, MI, ML))
  refine x_st rfl ?_
  refine x_st rfl ?_
  refine x_st rfl ?_
  refine x_st rfl ?_
  refine x_st rfl ?_
  refine x_st rfl ?_
  refine x_st rfl ?_
  refine x_ret rfl ?_
  exact ⟨_, _, rfl, h⟩
theorem EX0_placeOfFeeling {D : Nat} {Q : Option Value → mI → mJ → Prop}  {v0 : Int32} {v1 : Int32} {MI : mI} {ML : mJ} (h : VX0_placeOfFeeling_0 D Q v0 v1 MI ML) : ∃ v MI' ML', Q v MI' ML' ∧ mrc (D + 1) 4 [.int v0, .int v1] MI ML v MI' ML' := by
  refine x_en (n := 0) (T := TX0_placeOfFeeling) rfl rfl ?_
  refine x_kl ?_ h
  exact ⟨Or.inr rfl, ⟨Or.inr rfl, True.intro⟩⟩
def VX0_admit_0 (D : Nat) (Q : Option Value → mI → mJ → Prop) (k a : Nat) (v1 : Int32) (v2 : Int32) (MI : mI) (ML : mJ) : Prop := mEx (mrn D) TX0_admit (mqS Q) (0, [some (.ref k), some (.int v1), some (.int v2)], [], (W0, Sh0, MI, ML))
theorem BX0_admit_0 {D : Nat} {Q : Option Value → mI → mJ → Prop} {k a : Nat} {v1 : Int32} {v2 : Int32} {MI : mI} {ML : mJ} (hB : bz k a)
    (h : ((MI k 0) < (nI 8) → ∃ i1 : Nat, ((nI 0) + (MI k 0)) = nI i1 ∧ i1 < 84 ∧ (∃ i2 : Nat, ((nI 8) + ((mup MI a (mput (MI a) i1 v1)) k 0)) = nI i2 ∧ i2 < 84 ∧ (Q (some (.int (((mup (mup (mup MI a (mput (MI a) i1 v1)) a (mput ((mup MI a (mput (MI a) i1 v1)) a) i2 v2)) k (mput ((mup (mup MI a (mput (MI a) i1 v1)) a (mput ((mup MI a (mput (MI a) i1 v1)) a) i2 v2)) k) 0 (((mup (mup MI a (mput (MI a) i1 v1)) a (mput ((mup MI a (mput (MI a) i1 v1)) a) i2 v2)) k 0) + (nI 1)))) k 0) - (nI 1)))) (mup (mup (mup MI a (mput (MI a) i1 v1)) a (mput ((mup MI a (mput (MI a) i1 v1)) a) i2 v2)) k (mput ((mup (mup MI a (mput (MI a) i1 v1)) a (mput ((mup MI a (mput (MI a) i1 v1)) a) i2 v2)) k) 0 (((mup (mup MI a (mput (MI a) i1 v1)) a (mput ((mup MI a (mput (MI a) i1 v1)) a) i2 v2)) k 0) + (nI 1)))) ML))) ∧ (¬ (MI k 0) < (nI 8) → Q (some (.int (-3 : Int32))) MI ML)) :
    VX0_admit_0 D Q k a v1 v2 MI ML := by
  show mEx (mrn D) TX0_admit (mqS Q) (0, [some (.ref k), some (.int v1), some (.int v2)], [], (W0, Sh0, MI, ML))
  refine x_st rfl ?_
  refine x_gi (ci := 0) (k := 0) (nx := 4) rfl (bz_o hB) rfl ?_
  refine x_st rfl ?_
  refine x_br rfl (fun c => ?_) (fun c => ?_)
  · replace h := h.1 c
    refine x_st rfl ?_
    refine x_gr (ci := 0) (k := 1) (nx := 16) rfl (bz_o hB) rfl ?_
    refine x_st rfl ?_
    refine x_st rfl ?_
    refine x_gi (ci := 0) (k := 0) (nx := 21) rfl (bz_o hB) rfl ?_
    refine x_st rfl ?_
    refine x_st rfl ?_
    obtain ⟨i1, hx, hi, h⟩ := h
    refine x_iast (i := i1) (nx := 24) rfl (bz_a hB) hx hi (by decide) ?_
    refine x_st rfl ?_
    refine x_gr (ci := 0) (k := 1) (nx := 28) rfl (bz_o hB) rfl ?_
    refine x_st rfl ?_
    refine x_st rfl ?_
    refine x_gi (ci := 0) (k := 0) (nx := 34) rfl (bz_o hB) rfl ?_
    refine x_st rfl ?_
    refine x_st rfl ?_
    obtain ⟨i2, hx, hi, h⟩ := h
    refine x_iast (i := i2) (nx := 37) rfl (bz_a hB) hx hi (by decide) ?_
    refine x_st rfl ?_
    refine x_st rfl ?_
    refine x_gi (ci := 0) (k := 0) (nx := 42) rfl (bz_o hB) rfl ?_
    refine x_st rfl ?_
    refine x_st rfl ?_
    refine x_pi (ci := 0) (k := 0) (nx := 47) rfl (bz_o hB) rfl ?_
    refine x_st rfl ?_
    refine x_gi (ci := 0) (k := 0) (nx := 51) rfl (bz_o hB) rfl ?_
    refine x_st rfl ?_
    refine x_st rfl ?_
    refine x_ret rfl ?_
    exact ⟨_, _, rfl, h⟩
  · replace h := h.2 c
    refine x_st rfl ?_
    refine x_ret rfl ?_
    exact ⟨_, _, rfl, h⟩
theorem EX0_admit {D : Nat} {Q : Option Value → mI → mJ → Prop} {k a : Nat} {v1 : Int32} {v2 : Int32} {MI : mI} {ML : mJ} (h : VX0_admit_0 D Q k a v1 v2 MI ML) : ∃ v MI' ML', Q v MI' ML' ∧ mrc (D + 1) 5 [.ref k, .int v1, .int v2] MI ML v MI' ML' := by
  refine x_en (n := 0) (T := TX0_admit) rfl rfl ?_
  refine x_kl ?_ h
  exact ⟨Or.inr rfl, ⟨Or.inr rfl, ⟨Or.inr rfl, True.intro⟩⟩⟩
def VX0_has_0 (D : Nat) (Q : Option Value → mI → mJ → Prop) (k a : Nat) (v1 : Int32) (MI : mI) (ML : mJ) : Prop := mEx (mrn D) TX0_has (mqS Q) (0, [some (.ref k), some (.int v1)], [], (W0, Sh0, MI, ML))
theorem BX0_has_0 {D : Nat} {Q : Option Value → mI → mJ → Prop} {k a : Nat} {v1 : Int32} {MI : mI} {ML : mJ} (hB : bz k a)
    (h : (v1 < nI 0 → Q (some (.int (nI 0))) MI ML) ∧ (¬ v1 < nI 0 → ((MI k 0) ≤ v1 → Q (some (.int (nI 0))) MI ML) ∧ (¬ (MI k 0) ≤ v1 → Q (some (.int (nI 1))) MI ML))) :
    VX0_has_0 D Q k a v1 MI ML := by
  show mEx (mrn D) TX0_has (mqS Q) (0, [some (.ref k), some (.int v1)], [], (W0, Sh0, MI, ML))
  refine x_st rfl ?_
  refine x_br rfl (fun c => ?_) (fun c => ?_)
  · replace h := h.1 c
    refine x_st rfl ?_
    refine x_ret rfl ?_
    exact ⟨_, _, rfl, h⟩
  · replace h := h.2 c
    refine x_st rfl ?_
    refine x_st rfl ?_
    refine x_gi (ci := 0) (k := 0) (nx := 9) rfl (bz_o hB) rfl ?_
    refine x_br rfl (fun c => ?_) (fun c => ?_)
    · replace h := h.1 c
      refine x_st rfl ?_
      refine x_ret rfl ?_
      exact ⟨_, _, rfl, h⟩
    · replace h := h.2 c
      refine x_st rfl ?_
      refine x_st rfl ?_
      refine x_ret rfl ?_
      exact ⟨_, _, rfl, h⟩
theorem EX0_has {D : Nat} {Q : Option Value → mI → mJ → Prop} {k a : Nat} {v1 : Int32} {MI : mI} {ML : mJ} (h : VX0_has_0 D Q k a v1 MI ML) : ∃ v MI' ML', Q v MI' ML' ∧ mrc (D + 1) 6 [.ref k, .int v1] MI ML v MI' ML' := by
  refine x_en (n := 0) (T := TX0_has) rfl rfl ?_
  refine x_kl ?_ h
  exact ⟨Or.inr rfl, ⟨Or.inr rfl, True.intro⟩⟩
def VX0_hasPair_0 (D : Nat) (Q : Option Value → mI → mJ → Prop) (k a : Nat) (v1 : Int32) (MI : mI) (ML : mJ) : Prop := mEx (mrn D) TX0_hasPair (mqS Q) (0, [some (.ref k), some (.int v1)], [], (W0, Sh0, MI, ML))
theorem BX0_hasPair_0 {D : Nat} {Q : Option Value → mI → mJ → Prop} {k a : Nat} {v1 : Int32} {MI : mI} {ML : mJ} (hB : bz k a)
    (h : (v1 < nI 0 → Q (some (.int (nI 0))) MI ML) ∧ (¬ v1 < nI 0 → ∃ (x3 : Int32) (M1 : mI) (N2 : mJ), mrc D 6 [.ref k, .int (v1 / (nI 10))] MI ML (some (.int x3)) M1 N2 ∧ ((x3 = nI 0 → Q (some (.int (nI 0))) M1 N2) ∧ (¬ x3 = nI 0 → ∃ (x6 : Int32) (M4 : mI) (N5 : mJ), mrc D 6 [.ref k, .int (v1 - v1 / (nI 10) * (nI 10))] M1 N2 (some (.int x6)) M4 N5 ∧ ((x6 = nI 0 → Q (some (.int (nI 0))) M4 N5) ∧ (¬ x6 = nI 0 → ((v1 / (nI 10)) = (v1 - v1 / (nI 10) * (nI 10)) → Q (some (.int (nI 0))) M4 N5) ∧ (¬ (v1 / (nI 10)) = (v1 - v1 / (nI 10) * (nI 10)) → Q (some (.int (nI 1))) M4 N5))))))) :
    VX0_hasPair_0 D Q k a v1 MI ML := by
  show mEx (mrn D) TX0_hasPair (mqS Q) (0, [some (.ref k), some (.int v1)], [], (W0, Sh0, MI, ML))
  refine x_st rfl ?_
  refine x_br rfl (fun c => ?_) (fun c => ?_)
  · replace h := h.1 c
    refine x_st rfl ?_
    refine x_ret rfl ?_
    exact ⟨_, _, rfl, h⟩
  · replace h := h.2 c
    refine x_st rfl ?_
    refine x_st rfl ?_
    refine x_st rfl ?_
    refine x_st rfl ?_
    obtain ⟨x3, M1, N2, hc, h⟩ := h
    refine x_vi (y := 6) (n := 1) (ci := 0) (nx := 12) rfl (fun _ => rfl) (bz_o hB) rfl hc ?_
    refine x_br rfl (fun c => ?_) (fun c => ?_)
    · replace h := h.1 c
      refine x_st rfl ?_
      refine x_ret rfl ?_
      exact ⟨_, _, rfl, h⟩
    · replace h := h.2 c
      refine x_st rfl ?_
      refine x_st rfl ?_
      refine x_st rfl ?_
      refine x_st rfl ?_
      obtain ⟨x6, M4, N5, hc, h⟩ := h
      refine x_vi (y := 6) (n := 1) (ci := 0) (nx := 23) rfl (fun _ => rfl) (bz_o hB) rfl hc ?_
      refine x_br rfl (fun c => ?_) (fun c => ?_)
      · replace h := h.1 c
        refine x_st rfl ?_
        refine x_ret rfl ?_
        exact ⟨_, _, rfl, h⟩
      · replace h := h.2 c
        refine x_st rfl ?_
        refine x_st rfl ?_
        refine x_st rfl ?_
        refine x_st rfl ?_
        refine x_st rfl ?_
        refine x_st rfl ?_
        refine x_br rfl (fun c => ?_) (fun c => ?_)
        · replace h := h.1 c
          refine x_st rfl ?_
          refine x_ret rfl ?_
          exact ⟨_, _, rfl, h⟩
        · replace h := h.2 c
          refine x_st rfl ?_
          refine x_st rfl ?_
          refine x_ret rfl ?_
          exact ⟨_, _, rfl, h⟩
theorem EX0_hasPair {D : Nat} {Q : Option Value → mI → mJ → Prop} {k a : Nat} {v1 : Int32} {MI : mI} {ML : mJ} (h : VX0_hasPair_0 D Q k a v1 MI ML) : ∃ v MI' ML', Q v MI' ML' ∧ mrc (D + 1) 7 [.ref k, .int v1] MI ML v MI' ML' := by
  refine x_en (n := 0) (T := TX0_hasPair) rfl rfl ?_
  refine x_kl ?_ h
  exact ⟨Or.inr rfl, ⟨Or.inr rfl, True.intro⟩⟩
def VX0_placeOf_0 (D : Nat) (Q : Option Value → mI → mJ → Prop) (k a : Nat) (v1 : Int32) (v2 : Int32) (MI : mI) (ML : mJ) : Prop := mEx (mrn D) TX0_placeOf (mqS Q) (0, [some (.ref k), some (.int v1), some (.int v2)], [], (W0, Sh0, MI, ML))
def VX0_placeOf_9 (D : Nat) (Q : Option Value → mI → mJ → Prop) (k a : Nat) (v1 : Int32) (v2 : Int32) (MI : mI) (ML : mJ) : Prop := mEx (mrn D) TX0_placeOf (mqS Q) (9, [some (.ref k), some (.int v1), some (.int v2)], [], (W0, Sh0, MI, ML))
theorem BX0_placeOf_0 {D : Nat} {Q : Option Value → mI → mJ → Prop} {k a : Nat} {v1 : Int32} {v2 : Int32} {MI : mI} {ML : mJ} (hB : bz k a)
    (h : (v2 = nI 0 → VX0_placeOf_9 D Q k a v1 v2 MI ML) ∧ (¬ v2 = nI 0 → (v2 = (nI 1) → VX0_placeOf_9 D Q k a v1 v2 MI ML) ∧ (¬ v2 = (nI 1) → (v2 < (nI 2) → Q (some (.int (-1 : Int32))) MI ML) ∧ (¬ v2 < (nI 2) → ((nI 5) < v2 → Q (some (.int (-1 : Int32))) MI ML) ∧ (¬ (nI 5) < v2 → (v1 = nI 0 → Q (some (.int (((nI 16) + v2) - (nI 2)))) MI ML) ∧ (¬ v1 = nI 0 → Q (some (.int (-1 : Int32))) MI ML)))))) :
    VX0_placeOf_0 D Q k a v1 v2 MI ML := by
  show mEx (mrn D) TX0_placeOf (mqS Q) (0, [some (.ref k), some (.int v1), some (.int v2)], [], (W0, Sh0, MI, ML))
  refine x_st rfl ?_
  refine x_br rfl (fun c => ?_) (fun c => ?_)
  · replace h := h.1 c
    refine x_kl ?_ h
    exact ⟨Or.inr rfl, ⟨Or.inr rfl, ⟨Or.inr rfl, True.intro⟩⟩⟩
  · replace h := h.2 c
    refine x_st rfl ?_
    refine x_st rfl ?_
    refine x_br rfl (fun c => ?_) (fun c => ?_)
    · replace h := h.1 c
      refine x_kl ?_ h
      exact ⟨Or.inr rfl, ⟨Or.inr rfl, ⟨Or.inr rfl, True.intro⟩⟩⟩
    · replace h := h.2 c
      refine x_st rfl ?_
      refine x_st rfl ?_
      refine x_br rfl (fun c => ?_) (fun c => ?_)
      · replace h := h.1 c
        refine x_st rfl ?_
        refine x_ret rfl ?_
        exact ⟨_, _, rfl, h⟩
      · replace h := h.2 c
        refine x_st rfl ?_
        refine x_st rfl ?_
        refine x_br rfl (fun c => ?_) (fun c => ?_)
        · replace h := h.1 c
          refine x_st rfl ?_
          refine x_ret rfl ?_
          exact ⟨_, _, rfl, h⟩
        · replace h := h.2 c
          refine x_st rfl ?_
          refine x_br rfl (fun c => ?_) (fun c => ?_)
          · replace h := h.1 c
            refine x_st rfl ?_
            refine x_st rfl ?_
            refine x_st rfl ?_
            refine x_st rfl ?_
            refine x_st rfl ?_
            refine x_st rfl ?_
            refine x_ret rfl ?_
            exact ⟨_, _, rfl, h⟩
          · replace h := h.2 c
            refine x_st rfl ?_
            refine x_ret rfl ?_
            exact ⟨_, _, rfl, h⟩
theorem BX0_placeOf_9 {D : Nat} {Q : Option Value → mI → mJ → Prop} {k a : Nat} {v1 : Int32} {v2 : Int32} {MI : mI} {ML : mJ} (hB : bz k a)
    (h : ∃ (x3 : Int32) (M1 : mI) (N2 : mJ), mrc D 6 [.ref k, .int v1] MI ML (some (.int x3)) M1 N2 ∧ ((x3 = nI 0 → Q (some (.int (-1 : Int32))) M1 N2) ∧ (¬ x3 = nI 0 → (v2 = nI 0 → Q (some (.int ((nI 0) + v1))) M1 N2) ∧ (¬ v2 = nI 0 → Q (some (.int ((nI 8) + v1))) M1 N2)))) :
    VX0_placeOf_9 D Q k a v1 v2 MI ML := by
  show mEx (mrn D) TX0_placeOf (mqS Q) (9, [some (.ref k), some (.int v1), some (.int v2)], [], (W0, Sh0, MI, ML))
  refine x_st rfl ?_
  refine x_st rfl ?_
  obtain ⟨x3, M1, N2, hc, h⟩ := h
  refine x_vi (y := 6) (n := 1) (ci := 0) (nx := 14) rfl (fun _ => rfl) (bz_o hB) rfl hc ?_
  refine x_br rfl (fun c => ?_) (fun c => ?_)
  · replace h := h.1 c
    refine x_st rfl ?_
    refine x_ret rfl ?_
    exact ⟨_, _, rfl, h⟩
  · replace h := h.2 c
    refine x_st rfl ?_
    refine x_br rfl (fun c => ?_) (fun c => ?_)
    · replace h := h.1 c
      refine x_st rfl ?_
      refine x_st rfl ?_
      refine x_st rfl ?_
      refine x_st rfl ?_
      refine x_st rfl ?_
      refine x_ret rfl ?_
      exact ⟨_, _, rfl, h⟩
    · replace h := h.2 c
      refine x_st rfl ?_
      refine x_st rfl ?_
      refine x_st rfl ?_
      refine x_st rfl ?_
      refine x_ret rfl ?_
      exact ⟨_, _, rfl, h⟩
theorem EX0_placeOf {D : Nat} {Q : Option Value → mI → mJ → Prop} {k a : Nat} {v1 : Int32} {v2 : Int32} {MI : mI} {ML : mJ} (h : VX0_placeOf_0 D Q k a v1 v2 MI ML) : ∃ v MI' ML', Q v MI' ML' ∧ mrc (D + 1) 8 [.ref k, .int v1, .int v2] MI ML v MI' ML' := by
  refine x_en (n := 0) (T := TX0_placeOf) rfl rfl ?_
  refine x_kl ?_ h
  exact ⟨Or.inr rfl, ⟨Or.inr rfl, ⟨Or.inr rfl, True.intro⟩⟩⟩
def VX0_numberAt_0 (D : Nat) (Q : Option Value → mI → mJ → Prop) (k a : Nat) (v1 : Int32) (MI : mI) (ML : mJ) : Prop := mEx (mrn D) TX0_numberAt (mqS Q) (0, [some (.ref k), some (.int v1)], [], (W0, Sh0, MI, ML))
theorem BX0_numberAt_0 {D : Nat} {Q : Option Value → mI → mJ → Prop} {k a : Nat} {v1 : Int32} {MI : mI} {ML : mJ} (hB : bz k a)
    (h : (v1 < nI 0 → Q (some (.int (nI 0))) MI ML) ∧ (¬ v1 < nI 0 → ((nI 84) ≤ v1 → Q (some (.int (nI 0))) MI ML) ∧ (¬ (nI 84) ≤ v1 → ∃ i1 : Nat, v1 = nI i1 ∧ i1 < 84 ∧ (Q (some (.int (MI a i1))) MI ML)))) :
    VX0_numberAt_0 D Q k a v1 MI ML := by
  show mEx (mrn D) TX0_numberAt (mqS Q) (0, [some (.ref k), some (.int v1)], [], (W0, Sh0, MI, ML))
  refine x_st rfl ?_
  refine x_br rfl (fun c => ?_) (fun c => ?_)
  · replace h := h.1 c
    refine x_st rfl ?_
    refine x_ret rfl ?_
    exact ⟨_, _, rfl, h⟩
  · replace h := h.2 c
    refine x_st rfl ?_
    refine x_st rfl ?_
    refine x_br rfl (fun c => ?_) (fun c => ?_)
    · replace h := h.1 c
      refine x_st rfl ?_
      refine x_ret rfl ?_
      exact ⟨_, _, rfl, h⟩
    · replace h := h.2 c
      refine x_st rfl ?_
      refine x_gr (ci := 0) (k := 1) (nx := 14) rfl (bz_o hB) rfl ?_
      refine x_st rfl ?_
      obtain ⟨i1, hx, hi, h⟩ := h
      refine x_ia (i := i1) (nx := 16) rfl (bz_a hB) hx hi (by decide) ?_
      refine x_st rfl ?_
      refine x_ret rfl ?_
      exact ⟨_, _, rfl, h⟩
theorem EX0_numberAt {D : Nat} {Q : Option Value → mI → mJ → Prop} {k a : Nat} {v1 : Int32} {MI : mI} {ML : mJ} (h : VX0_numberAt_0 D Q k a v1 MI ML) : ∃ v MI' ML', Q v MI' ML' ∧ mrc (D + 1) 9 [.ref k, .int v1] MI ML v MI' ML' := by
  refine x_en (n := 0) (T := TX0_numberAt) rfl rfl ?_
  refine x_kl ?_ h
  exact ⟨Or.inr rfl, ⟨Or.inr rfl, True.intro⟩⟩
def VX0_setNumber_0 (D : Nat) (Q : Option Value → mI → mJ → Prop) (k a : Nat) (v1 : Int32) (v2 : Int32) (MI : mI) (ML : mJ) : Prop := mEx (mrn D) TX0_setNumber (mqS Q) (0, [some (.ref k), some (.int v1), some (.int v2)], [], (W0, Sh0, MI, ML))
theorem BX0_setNumber_0 {D : Nat} {Q : Option Value → mI → mJ → Prop} {k a : Nat} {v1 : Int32} {v2 : Int32} {MI : mI} {ML : mJ} (hB : bz k a)
    (h : (v1 < nI 0 → Q none MI ML) ∧ (¬ v1 < nI 0 → ((nI 84) ≤ v1 → Q none MI ML) ∧ (¬ (nI 84) ≤ v1 → ∃ i1 : Nat, v1 = nI i1 ∧ i1 < 84 ∧ (Q none (mup MI a (mput (MI a) i1 v2)) ML)))) :
    VX0_setNumber_0 D Q k a v1 v2 MI ML := by
  show mEx (mrn D) TX0_setNumber (mqS Q) (0, [some (.ref k), some (.int v1), some (.int v2)], [], (W0, Sh0, MI, ML))
  refine x_st rfl ?_
  refine x_br rfl (fun c => ?_) (fun c => ?_)
  · replace h := h.1 c
    refine x_ret rfl ?_
    exact ⟨_, _, rfl, h⟩
  · replace h := h.2 c
    refine x_st rfl ?_
    refine x_st rfl ?_
    refine x_br rfl (fun c => ?_) (fun c => ?_)
    · replace h := h.1 c
      refine x_ret rfl ?_
      exact ⟨_, _, rfl, h⟩
    · replace h := h.2 c
      refine x_st rfl ?_
      refine x_gr (ci := 0) (k := 1) (nx := 14) rfl (bz_o hB) rfl ?_
      refine x_st rfl ?_
      refine x_st rfl ?_
      obtain ⟨i1, hx, hi, h⟩ := h
      refine x_iast (i := i1) (nx := 17) rfl (bz_a hB) hx hi (by decide) ?_
      refine x_ret rfl ?_
      exact ⟨_, _, rfl, h⟩
theorem EX0_setNumber {D : Nat} {Q : Option Value → mI → mJ → Prop} {k a : Nat} {v1 : Int32} {v2 : Int32} {MI : mI} {ML : mJ} (h : VX0_setNumber_0 D Q k a v1 v2 MI ML) : ∃ v MI' ML', Q v MI' ML' ∧ mrc (D + 1) 10 [.ref k, .int v1, .int v2] MI ML v MI' ML' := by
  refine x_en (n := 0) (T := TX0_setNumber) rfl rfl ?_
  refine x_kl ?_ h
  exact ⟨Or.inr rfl, ⟨Or.inr rfl, ⟨Or.inr rfl, True.intro⟩⟩⟩
def VX0_hungerOf_0 (D : Nat) (Q : Option Value → mI → mJ → Prop) (k a : Nat) (v1 : Int32) (MI : mI) (ML : mJ) : Prop := mEx (mrn D) TX0_hungerOf (mqS Q) (0, [some (.ref k), some (.int v1)], [], (W0, Sh0, MI, ML))
theorem BX0_hungerOf_0 {D : Nat} {Q : Option Value → mI → mJ → Prop} {k a : Nat} {v1 : Int32} {MI : mI} {ML : mJ} (hB : bz k a)
    (h : (v1 < nI 0 → Q (some (.int (nI 0))) MI ML) ∧ (¬ v1 < nI 0 → ((nI 8) ≤ v1 → Q (some (.int (nI 0))) MI ML) ∧ (¬ (nI 8) ≤ v1 → ∃ i1 : Nat, ((nI 0) + v1) = nI i1 ∧ i1 < 84 ∧ (Q (some (.int (MI a i1))) MI ML)))) :
    VX0_hungerOf_0 D Q k a v1 MI ML := by
  show mEx (mrn D) TX0_hungerOf (mqS Q) (0, [some (.ref k), some (.int v1)], [], (W0, Sh0, MI, ML))
  refine x_st rfl ?_
  refine x_br rfl (fun c => ?_) (fun c => ?_)
  · replace h := h.1 c
    refine x_st rfl ?_
    refine x_ret rfl ?_
    exact ⟨_, _, rfl, h⟩
  · replace h := h.2 c
    refine x_st rfl ?_
    refine x_st rfl ?_
    refine x_br rfl (fun c => ?_) (fun c => ?_)
    · replace h := h.1 c
      refine x_st rfl ?_
      refine x_ret rfl ?_
      exact ⟨_, _, rfl, h⟩
    · replace h := h.2 c
      refine x_st rfl ?_
      refine x_gr (ci := 0) (k := 1) (nx := 14) rfl (bz_o hB) rfl ?_
      refine x_st rfl ?_
      refine x_st rfl ?_
      refine x_st rfl ?_
      obtain ⟨i1, hx, hi, h⟩ := h
      refine x_ia (i := i1) (nx := 18) rfl (bz_a hB) hx hi (by decide) ?_
      refine x_st rfl ?_
      refine x_ret rfl ?_
      exact ⟨_, _, rfl, h⟩
theorem EX0_hungerOf {D : Nat} {Q : Option Value → mI → mJ → Prop} {k a : Nat} {v1 : Int32} {MI : mI} {ML : mJ} (h : VX0_hungerOf_0 D Q k a v1 MI ML) : ∃ v MI' ML', Q v MI' ML' ∧ mrc (D + 1) 11 [.ref k, .int v1] MI ML v MI' ML' := by
  refine x_en (n := 0) (T := TX0_hungerOf) rfl rfl ?_
  refine x_kl ?_ h
  exact ⟨Or.inr rfl, ⟨Or.inr rfl, True.intro⟩⟩
def VX0_hungerMore_0 (D : Nat) (Q : Option Value → mI → mJ → Prop) (k a : Nat) (v1 : Int32) (v2 : Int32) (MI : mI) (ML : mJ) : Prop := mEx (mrn D) TX0_hungerMore (mqS Q) (0, [some (.ref k), some (.int v1), some (.int v2)], [], (W0, Sh0, MI, ML))
theorem BX0_hungerMore_0 {D : Nat} {Q : Option Value → mI → mJ → Prop} {k a : Nat} {v1 : Int32} {v2 : Int32} {MI : mI} {ML : mJ} (hB : bz k a)
    (h : ∃ (x3 : Int32) (M1 : mI) (N2 : mJ), mrc D 11 [.ref k, .int v1] MI ML (some (.int x3)) M1 N2 ∧ (∃ (M4 : mI) (N5 : mJ), mrc D 10 [.ref k, .int ((nI 0) + v1), .int (if (nI 99) < (x3 + v2) then (nI 99) else (x3 + v2))] M1 N2 none M4 N5 ∧ (Q none M4 N5))) :
    VX0_hungerMore_0 D Q k a v1 v2 MI ML := by
  show mEx (mrn D) TX0_hungerMore (mqS Q) (0, [some (.ref k), some (.int v1), some (.int v2)], [], (W0, Sh0, MI, ML))
  refine x_st rfl ?_
  refine x_st rfl ?_
  refine x_st rfl ?_
  refine x_st rfl ?_
  refine x_st rfl ?_
  refine x_st rfl ?_
  obtain ⟨x3, M1, N2, hc, h⟩ := h
  refine x_vi (y := 11) (n := 1) (ci := 0) (nx := 9) rfl (fun _ => rfl) (bz_o hB) rfl hc ?_
  refine x_st rfl ?_
  refine x_st rfl ?_
  refine x_st rfl ?_
  refine x_st rfl ?_
  obtain ⟨M4, N5, hc, h⟩ := h
  refine x_vv (y := 10) (n := 2) (ci := 0) (nx := 19) rfl (fun _ => rfl) (bz_o hB) rfl hc ?_
  refine x_ret rfl ?_
  exact ⟨_, _, rfl, h⟩
theorem EX0_hungerMore {D : Nat} {Q : Option Value → mI → mJ → Prop} {k a : Nat} {v1 : Int32} {v2 : Int32} {MI : mI} {ML : mJ} (h : VX0_hungerMore_0 D Q k a v1 v2 MI ML) : ∃ v MI' ML', Q v MI' ML' ∧ mrc (D + 1) 12 [.ref k, .int v1, .int v2] MI ML v MI' ML' := by
  refine x_en (n := 0) (T := TX0_hungerMore) rfl rfl ?_
  refine x_kl ?_ h
  exact ⟨Or.inr rfl, ⟨Or.inr rfl, ⟨Or.inr rfl, True.intro⟩⟩⟩
def VX0_hungerLess_0 (D : Nat) (Q : Option Value → mI → mJ → Prop) (k a : Nat) (v1 : Int32) (v2 : Int32) (MI : mI) (ML : mJ) : Prop := mEx (mrn D) TX0_hungerLess (mqS Q) (0, [some (.ref k), some (.int v1), some (.int v2)], [], (W0, Sh0, MI, ML))
theorem BX0_hungerLess_0 {D : Nat} {Q : Option Value → mI → mJ → Prop} {k a : Nat} {v1 : Int32} {v2 : Int32} {MI : mI} {ML : mJ} (hB : bz k a)
    (h : ∃ (x3 : Int32) (M1 : mI) (N2 : mJ), mrc D 11 [.ref k, .int v1] MI ML (some (.int x3)) M1 N2 ∧ (∃ (M4 : mI) (N5 : mJ), mrc D 10 [.ref k, .int ((nI 0) + v1), .int (if (x3 - v2) < (nI 0) then (nI 0) else (x3 - v2))] M1 N2 none M4 N5 ∧ (Q none M4 N5))) :
    VX0_hungerLess_0 D Q k a v1 v2 MI ML := by
  show mEx (mrn D) TX0_hungerLess (mqS Q) (0, [some (.ref k), some (.int v1), some (.int v2)], [], (W0, Sh0, MI, ML))
  refine x_st rfl ?_
  refine x_st rfl ?_
  refine x_st rfl ?_
  refine x_st rfl ?_
  refine x_st rfl ?_
  refine x_st rfl ?_
  obtain ⟨x3, M1, N2, hc, h⟩ := h
  refine x_vi (y := 11) (n := 1) (ci := 0) (nx := 9) rfl (fun _ => rfl) (bz_o hB) rfl hc ?_
  refine x_st rfl ?_
  refine x_st rfl ?_
  refine x_st rfl ?_
  refine x_st rfl ?_
  obtain ⟨M4, N5, hc, h⟩ := h
  refine x_vv (y := 10) (n := 2) (ci := 0) (nx := 18) rfl (fun _ => rfl) (bz_o hB) rfl hc ?_
  refine x_ret rfl ?_
  exact ⟨_, _, rfl, h⟩
theorem EX0_hungerLess {D : Nat} {Q : Option Value → mI → mJ → Prop} {k a : Nat} {v1 : Int32} {v2 : Int32} {MI : mI} {ML : mJ} (h : VX0_hungerLess_0 D Q k a v1 v2 MI ML) : ∃ v MI' ML', Q v MI' ML' ∧ mrc (D + 1) 13 [.ref k, .int v1, .int v2] MI ML v MI' ML' := by
  refine x_en (n := 0) (T := TX0_hungerLess) rfl rfl ?_
  refine x_kl ?_ h
  exact ⟨Or.inr rfl, ⟨Or.inr rfl, ⟨Or.inr rfl, True.intro⟩⟩⟩
def VX0_felt_0 (D : Nat) (Q : Option Value → mI → mJ → Prop) (k a : Nat) (v1 : Int32) (v2 : Int32) (MI : mI) (ML : mJ) : Prop := mEx (mrn D) TX0_felt (mqS Q) (0, [some (.ref k), some (.int v1), some (.int v2), none], [], (W0, Sh0, MI, ML))
theorem BX0_felt_0 {D : Nat} {Q : Option Value → mI → mJ → Prop} {k a : Nat} {v1 : Int32} {v2 : Int32} {MI : mI} {ML : mJ} (hB : bz k a)
    (h : ((((nI 20) + (v1 * (nI 8))) + v2) < (nI 20) → Q (some (.int (nI 0))) MI ML) ∧ (¬ (((nI 20) + (v1 * (nI 8))) + v2) < (nI 20) → ((nI 84) ≤ (((nI 20) + (v1 * (nI 8))) + v2) → Q (some (.int (nI 0))) MI ML) ∧ (¬ (nI 84) ≤ (((nI 20) + (v1 * (nI 8))) + v2) → ∃ i1 : Nat, (((nI 20) + (v1 * (nI 8))) + v2) = nI i1 ∧ i1 < 84 ∧ (Q (some (.int (MI a i1))) MI ML)))) :
    VX0_felt_0 D Q k a v1 v2 MI ML := by
  show mEx (mrn D) TX0_felt (mqS Q) (0, [some (.ref k), some (.int v1), some (.int v2), none], [], (W0, Sh0, MI, ML))
  refine x_st rfl ?_
  refine x_st rfl ?_
  refine x_st rfl ?_
  refine x_st rfl ?_
  refine x_st rfl ?_
  refine x_st rfl ?_
  refine x_st rfl ?_
  refine x_st rfl ?_
  refine x_st rfl ?_
  refine x_st rfl ?_
  refine x_br rfl (fun c => ?_) (fun c => ?_)
  · replace h := h.1 c
    refine x_st rfl ?_
    refine x_ret rfl ?_
    exact ⟨_, _, rfl, h⟩
  · replace h := h.2 c
    refine x_st rfl ?_
    refine x_st rfl ?_
    refine x_br rfl (fun c => ?_) (fun c => ?_)
    · replace h := h.1 c
      refine x_st rfl ?_
      refine x_ret rfl ?_
      exact ⟨_, _, rfl, h⟩
    · replace h := h.2 c
      refine x_st rfl ?_
      refine x_gr (ci := 0) (k := 1) (nx := 26) rfl (bz_o hB) rfl ?_
      refine x_st rfl ?_
      obtain ⟨i1, hx, hi, h⟩ := h
      refine x_ia (i := i1) (nx := 28) rfl (bz_a hB) hx hi (by decide) ?_
      refine x_st rfl ?_
      refine x_ret rfl ?_
      exact ⟨_, _, rfl, h⟩
theorem EX0_felt {D : Nat} {Q : Option Value → mI → mJ → Prop} {k a : Nat} {v1 : Int32} {v2 : Int32} {MI : mI} {ML : mJ} (h : VX0_felt_0 D Q k a v1 v2 MI ML) : ∃ v MI' ML', Q v MI' ML' ∧ mrc (D + 1) 14 [.ref k, .int v1, .int v2] MI ML v MI' ML' := by
  refine x_en (n := 1) (T := TX0_felt) rfl rfl ?_
  refine x_kl ?_ h
  exact ⟨Or.inr rfl, ⟨Or.inr rfl, ⟨Or.inr rfl, ⟨Or.inl rfl, True.intro⟩⟩⟩⟩
def VX0_setFelt_0 (D : Nat) (Q : Option Value → mI → mJ → Prop) (k a : Nat) (v1 : Int32) (v2 : Int32) (v3 : Int32) (MI : mI) (ML : mJ) : Prop := mEx (mrn D) TX0_setFelt (mqS Q) (0, [some (.ref k), some (.int v1), some (.int v2), some (.int v3)], [], (W0, Sh0, MI, ML))
theorem BX0_setFelt_0 {D : Nat} {Q : Option Value → mI → mJ → Prop} {k a : Nat} {v1 : Int32} {v2 : Int32} {v3 : Int32} {MI : mI} {ML : mJ} (hB : bz k a)
    (h : ∃ (x3 : Int32) (M1 : mI) (N2 : mJ), mrc D 4 [.int v1, .int v2] MI ML (some (.int x3)) M1 N2 ∧ (∃ (M4 : mI) (N5 : mJ), mrc D 10 [.ref k, .int x3, .int v3] M1 N2 none M4 N5 ∧ (Q none M4 N5))) :
    VX0_setFelt_0 D Q k a v1 v2 v3 MI ML := by
  show mEx (mrn D) TX0_setFelt (mqS Q) (0, [some (.ref k), some (.int v1), some (.int v2), some (.int v3)], [], (W0, Sh0, MI, ML))
  refine x_st rfl ?_
  refine x_st rfl ?_
  refine x_st rfl ?_
  obtain ⟨x3, M1, N2, hc, h⟩ := h
  refine x_ci rfl hc ?_
  refine x_st rfl ?_
  obtain ⟨M4, N5, hc, h⟩ := h
  refine x_vv (y := 10) (n := 2) (ci := 0) (nx := 10) rfl (fun _ => rfl) (bz_o hB) rfl hc ?_
  refine x_ret rfl ?_
  exact ⟨_, _, rfl, h⟩
theorem EX0_setFelt {D : Nat} {Q : Option Value → mI → mJ → Prop} {k a : Nat} {v1 : Int32} {v2 : Int32} {v3 : Int32} {MI : mI} {ML : mJ} (h : VX0_setFelt_0 D Q k a v1 v2 v3 MI ML) : ∃ v MI' ML', Q v MI' ML' ∧ mrc (D + 1) 15 [.ref k, .int v1, .int v2, .int v3] MI ML v MI' ML' := by
  refine x_en (n := 0) (T := TX0_setFelt) rfl rfl ?_
  refine x_kl ?_ h
  exact ⟨Or.inr rfl, ⟨Or.inr rfl, ⟨Or.inr rfl, ⟨Or.inr rfl, True.intro⟩⟩⟩⟩
def VX0_friendOf_0 (D : Nat) (Q : Option Value → mI → mJ → Prop) (k a : Nat) (v1 : Int32) (v2 : Int32) (MI : mI) (ML : mJ) : Prop := mEx (mrn D) TX0_friendOf (mqS Q) (0, [some (.ref k), some (.int v1), some (.int v2), none, none, none, none], [], (W0, Sh0, MI, ML))
def VX0_friendOf_9 (D : Nat) (Q : Option Value → mI → mJ → Prop) (k a : Nat) (v1 : Int32) (v2 : Int32) (v3 : Int32) (v4 : Int32) (v5 : Int32) (MI : mI) (ML : mJ) : Prop := mEx (mrn D) TX0_friendOf (mqS Q) (9, [some (.ref k), some (.int v1), some (.int v2), some (.int v3), some (.int v4), some (.int v5), none], [], (W0, Sh0, MI, ML))
theorem BX0_friendOf_0 {D : Nat} {Q : Option Value → mI → mJ → Prop} {k a : Nat} {v1 : Int32} {v2 : Int32} {MI : mI} {ML : mJ} (hB : bz k a)
    (h : VX0_friendOf_9 D Q k a v1 v2 (nI 8) (nI 0) (nI 0) MI ML) :
    VX0_friendOf_0 D Q k a v1 v2 MI ML := by
  show mEx (mrn D) TX0_friendOf (mqS Q) (0, [some (.ref k), some (.int v1), some (.int v2), none, none, none, none], [], (W0, Sh0, MI, ML))
  refine x_st rfl ?_
  refine x_st rfl ?_
  refine x_st rfl ?_
  refine x_st rfl ?_
  refine x_st rfl ?_
  refine x_st rfl ?_
  refine x_kl ?_ h
  exact ⟨Or.inr rfl, ⟨Or.inr rfl, ⟨Or.inr rfl, ⟨Or.inr rfl, ⟨Or.inr rfl, ⟨Or.inr rfl, ⟨Or.inl rfl, True.intro⟩⟩⟩⟩⟩⟩⟩
theorem BX0_friendOf_9 {D : Nat} {Q : Option Value → mI → mJ → Prop} {k a : Nat} {v1 : Int32} {v2 : Int32} {v3 : Int32} {v4 : Int32} {v5 : Int32} {MI : mI} {ML : mJ} (hB : bz k a)
    (h : ((MI k 0) ≤ v5 → Q (some (.int v3)) MI ML) ∧ (¬ (MI k 0) ≤ v5 → ∃ (x3 : Int32) (M1 : mI) (N2 : mJ), mrc D 14 [.ref k, .int v5, .int v1] MI ML (some (.int x3)) M1 N2 ∧ ((v5 = v2 → VX0_friendOf_9 D Q k a v1 v2 v3 v4 (v5 + (nI 1)) M1 N2) ∧ (¬ v5 = v2 → (x3 ≤ v4 → VX0_friendOf_9 D Q k a v1 v2 v3 v4 (v5 + (nI 1)) M1 N2) ∧ (¬ x3 ≤ v4 → VX0_friendOf_9 D Q k a v1 v2 v5 x3 (v5 + (nI 1)) M1 N2))))) :
    VX0_friendOf_9 D Q k a v1 v2 v3 v4 v5 MI ML := by
  show mEx (mrn D) TX0_friendOf (mqS Q) (9, [some (.ref k), some (.int v1), some (.int v2), some (.int v3), some (.int v4), some (.int v5), none], [], (W0, Sh0, MI, ML))
  refine x_st rfl ?_
  refine x_st rfl ?_
  refine x_gi (ci := 0) (k := 0) (nx := 15) rfl (bz_o hB) rfl ?_
  refine x_br rfl (fun c => ?_) (fun c => ?_)
  · replace h := h.1 c
    refine x_st rfl ?_
    refine x_ret rfl ?_
    exact ⟨_, _, rfl, h⟩
  · replace h := h.2 c
    refine x_st rfl ?_
    refine x_st rfl ?_
    refine x_st rfl ?_
    obtain ⟨x3, M1, N2, hc, h⟩ := h
    refine x_vi (y := 14) (n := 2) (ci := 0) (nx := 25) rfl (fun _ => rfl) (bz_o hB) rfl hc ?_
    refine x_st rfl ?_
    refine x_st rfl ?_
    refine x_st rfl ?_
    refine x_br rfl (fun c => ?_) (fun c => ?_)
    · replace h := h.1 c
      refine x_st rfl ?_
      refine x_st rfl ?_
      refine x_kl ?_ h
      exact ⟨Or.inr rfl, ⟨Or.inr rfl, ⟨Or.inr rfl, ⟨Or.inr rfl, ⟨Or.inr rfl, ⟨Or.inr rfl, ⟨Or.inl rfl, True.intro⟩⟩⟩⟩⟩⟩⟩
    · replace h := h.2 c
      refine x_st rfl ?_
      refine x_st rfl ?_
      refine x_br rfl (fun c => ?_) (fun c => ?_)
      · replace h := h.1 c
        refine x_st rfl ?_
        refine x_st rfl ?_
        refine x_kl ?_ h
        exact ⟨Or.inr rfl, ⟨Or.inr rfl, ⟨Or.inr rfl, ⟨Or.inr rfl, ⟨Or.inr rfl, ⟨Or.inr rfl, ⟨Or.inl rfl, True.intro⟩⟩⟩⟩⟩⟩⟩
      · replace h := h.2 c
        refine x_st rfl ?_
        refine x_st rfl ?_
        refine x_st rfl ?_
        refine x_st rfl ?_
        refine x_st rfl ?_
        refine x_st rfl ?_
        refine x_kl ?_ h
        exact ⟨Or.inr rfl, ⟨Or.inr rfl, ⟨Or.inr rfl, ⟨Or.inr rfl, ⟨Or.inr rfl, ⟨Or.inr rfl, ⟨Or.inl rfl, True.intro⟩⟩⟩⟩⟩⟩⟩
theorem EX0_friendOf {D : Nat} {Q : Option Value → mI → mJ → Prop} {k a : Nat} {v1 : Int32} {v2 : Int32} {MI : mI} {ML : mJ} (h : VX0_friendOf_0 D Q k a v1 v2 MI ML) : ∃ v MI' ML', Q v MI' ML' ∧ mrc (D + 1) 16 [.ref k, .int v1, .int v2] MI ML v MI' ML' := by
  refine x_en (n := 4) (T := TX0_friendOf) rfl rfl ?_
  refine x_kl ?_ h
  exact ⟨Or.inr rfl, ⟨Or.inr rfl, ⟨Or.inr rfl, ⟨Or.inl rfl, ⟨Or.inl rfl, ⟨Or.inl rfl, ⟨Or.inl rfl, True.intro⟩⟩⟩⟩⟩⟩⟩
def VX0_hatersOf_0 (D : Nat) (Q : Option Value → mI → mJ → Prop) (k a : Nat) (v1 : Int32) (MI : mI) (ML : mJ) : Prop := mEx (mrn D) TX0_hatersOf (mqS Q) (0, [some (.ref k), some (.int v1), none, none], [], (W0, Sh0, MI, ML))
def VX0_hatersOf_4 (D : Nat) (Q : Option Value → mI → mJ → Prop) (k a : Nat) (v1 : Int32) (v2 : Int32) (v3 : Int32) (MI : mI) (ML : mJ) : Prop := mEx (mrn D) TX0_hatersOf (mqS Q) (4, [some (.ref k), some (.int v1), some (.int v2), some (.int v3)], [], (W0, Sh0, MI, ML))
theorem BX0_hatersOf_0 {D : Nat} {Q : Option Value → mI → mJ → Prop} {k a : Nat} {v1 : Int32} {MI : mI} {ML : mJ} (hB : bz k a)
    (h : VX0_hatersOf_4 D Q k a v1 (nI 0) (nI 0) MI ML) :
    VX0_hatersOf_0 D Q k a v1 MI ML := by
  show mEx (mrn D) TX0_hatersOf (mqS Q) (0, [some (.ref k), some (.int v1), none, none], [], (W0, Sh0, MI, ML))
  refine x_st rfl ?_
  refine x_st rfl ?_
  refine x_st rfl ?_
  refine x_st rfl ?_
  refine x_kl ?_ h
  exact ⟨Or.inr rfl, ⟨Or.inr rfl, ⟨Or.inr rfl, ⟨Or.inr rfl, True.intro⟩⟩⟩⟩
theorem BX0_hatersOf_4 {D : Nat} {Q : Option Value → mI → mJ → Prop} {k a : Nat} {v1 : Int32} {v2 : Int32} {v3 : Int32} {MI : mI} {ML : mJ} (hB : bz k a)
    (h : ((MI k 0) ≤ v3 → Q (some (.int v2)) MI ML) ∧ (¬ (MI k 0) ≤ v3 → ∃ (x3 : Int32) (M1 : mI) (N2 : mJ), mrc D 14 [.ref k, .int v3, .int v1] MI ML (some (.int x3)) M1 N2 ∧ ((nI 0 ≤ x3 → VX0_hatersOf_4 D Q k a v1 (v2 + (nI 0)) (v3 + (nI 1)) M1 N2) ∧ (¬ nI 0 ≤ x3 → VX0_hatersOf_4 D Q k a v1 (v2 + (nI 1)) (v3 + (nI 1)) M1 N2)))) :
    VX0_hatersOf_4 D Q k a v1 v2 v3 MI ML := by
  show mEx (mrn D) TX0_hatersOf (mqS Q) (4, [some (.ref k), some (.int v1), some (.int v2), some (.int v3)], [], (W0, Sh0, MI, ML))
  refine x_st rfl ?_
  refine x_st rfl ?_
  refine x_gi (ci := 0) (k := 0) (nx := 9) rfl (bz_o hB) rfl ?_
  refine x_br rfl (fun c => ?_) (fun c => ?_)
  · replace h := h.1 c
    refine x_st rfl ?_
    refine x_ret rfl ?_
    exact ⟨_, _, rfl, h⟩
  · replace h := h.2 c
    refine x_st rfl ?_
    refine x_st rfl ?_
    refine x_st rfl ?_
    refine x_st rfl ?_
    obtain ⟨x3, M1, N2, hc, h⟩ := h
    refine x_vi (y := 14) (n := 2) (ci := 0) (nx := 19) rfl (fun _ => rfl) (bz_o hB) rfl hc ?_
    refine x_br rfl (fun c => ?_) (fun c => ?_)
    · replace h := h.1 c
      refine x_st rfl ?_
      refine x_st rfl ?_
      refine x_st rfl ?_
      refine x_st rfl ?_
      refine x_st rfl ?_
      refine x_kl ?_ h
      exact ⟨Or.inr rfl, ⟨Or.inr rfl, ⟨Or.inr rfl, ⟨Or.inr rfl, True.intro⟩⟩⟩⟩
    · replace h := h.2 c
      refine x_st rfl ?_
      refine x_st rfl ?_
      refine x_st rfl ?_
      refine x_st rfl ?_
      refine x_st rfl ?_
      refine x_st rfl ?_
      refine x_kl ?_ h
      exact ⟨Or.inr rfl, ⟨Or.inr rfl, ⟨Or.inr rfl, ⟨Or.inr rfl, True.intro⟩⟩⟩⟩
theorem EX0_hatersOf {D : Nat} {Q : Option Value → mI → mJ → Prop} {k a : Nat} {v1 : Int32} {MI : mI} {ML : mJ} (h : VX0_hatersOf_0 D Q k a v1 MI ML) : ∃ v MI' ML', Q v MI' ML' ∧ mrc (D + 1) 18 [.ref k, .int v1] MI ML v MI' ML' := by
  refine x_en (n := 2) (T := TX0_hatersOf) rfl rfl ?_
  refine x_kl ?_ h
  exact ⟨Or.inr rfl, ⟨Or.inr rfl, ⟨Or.inl rfl, ⟨Or.inl rfl, True.intro⟩⟩⟩⟩
def VX0_feelingsBelowNone_0 (D : Nat) (Q : Option Value → mI → mJ → Prop) (k a : Nat) (MI : mI) (ML : mJ) : Prop := mEx (mrn D) TX0_feelingsBelowNone (mqS Q) (0, [some (.ref k), none, none], [], (W0, Sh0, MI, ML))
def VX0_feelingsBelowNone_4 (D : Nat) (Q : Option Value → mI → mJ → Prop) (k a : Nat) (v1 : Int32) (v2 : Int32) (MI : mI) (ML : mJ) : Prop := mEx (mrn D) TX0_feelingsBelowNone (mqS Q) (4, [some (.ref k), some (.int v1), some (.int v2)], [], (W0, Sh0, MI, ML))
theorem BX0_feelingsBelowNone_0 {D : Nat} {Q : Option Value → mI → mJ → Prop} {k a : Nat} {MI : mI} {ML : mJ} (hB : bz k a)
    (h : VX0_feelingsBelowNone_4 D Q k a (nI 0) (nI 0) MI ML) :
    VX0_feelingsBelowNone_0 D Q k a MI ML := by
  show mEx (mrn D) TX0_feelingsBelowNone (mqS Q) (0, [some (.ref k), none, none], [], (W0, Sh0, MI, ML))
  refine x_st rfl ?_
  refine x_st rfl ?_
  refine x_st rfl ?_
  refine x_st rfl ?_
  refine x_kl ?_ h
  exact ⟨Or.inr rfl, ⟨Or.inr rfl, ⟨Or.inr rfl, True.intro⟩⟩⟩
theorem BX0_feelingsBelowNone_4 {D : Nat} {Q : Option Value → mI → mJ → Prop} {k a : Nat} {v1 : Int32} {v2 : Int32} {MI : mI} {ML : mJ} (hB : bz k a)
    (h : ((MI k 0) ≤ v2 → Q (some (.int v1)) MI ML) ∧ (¬ (MI k 0) ≤ v2 → ∃ (x3 : Int32) (M1 : mI) (N2 : mJ), mrc D 18 [.ref k, .int v2] MI ML (some (.int x3)) M1 N2 ∧ (VX0_feelingsBelowNone_4 D Q k a (v1 + x3) (v2 + (nI 1)) M1 N2))) :
    VX0_feelingsBelowNone_4 D Q k a v1 v2 MI ML := by
  show mEx (mrn D) TX0_feelingsBelowNone (mqS Q) (4, [some (.ref k), some (.int v1), some (.int v2)], [], (W0, Sh0, MI, ML))
  refine x_st rfl ?_
  refine x_st rfl ?_
  refine x_gi (ci := 0) (k := 0) (nx := 9) rfl (bz_o hB) rfl ?_
  refine x_br rfl (fun c => ?_) (fun c => ?_)
  · replace h := h.1 c
    refine x_st rfl ?_
    refine x_ret rfl ?_
    exact ⟨_, _, rfl, h⟩
  · replace h := h.2 c
    refine x_st rfl ?_
    refine x_st rfl ?_
    refine x_st rfl ?_
    obtain ⟨x3, M1, N2, hc, h⟩ := h
    refine x_vi (y := 18) (n := 1) (ci := 0) (nx := 18) rfl (fun _ => rfl) (bz_o hB) rfl hc ?_
    refine x_st rfl ?_
    refine x_st rfl ?_
    refine x_st rfl ?_
    refine x_st rfl ?_
    refine x_kl ?_ h
    exact ⟨Or.inr rfl, ⟨Or.inr rfl, ⟨Or.inr rfl, True.intro⟩⟩⟩
theorem EX0_feelingsBelowNone {D : Nat} {Q : Option Value → mI → mJ → Prop} {k a : Nat} {MI : mI} {ML : mJ} (h : VX0_feelingsBelowNone_0 D Q k a MI ML) : ∃ v MI' ML', Q v MI' ML' ∧ mrc (D + 1) 20 [.ref k] MI ML v MI' ML' := by
  refine x_en (n := 2) (T := TX0_feelingsBelowNone) rfl rfl ?_
  refine x_kl ?_ h
  exact ⟨Or.inr rfl, ⟨Or.inl rfl, ⟨Or.inl rfl, True.intro⟩⟩⟩
def VX0_endDay_0 (D : Nat) (Q : Option Value → mI → mJ → Prop) (k a : Nat) (v1 : Int32) (MI : mI) (ML : mJ) : Prop := mEx (mrn D) TX0_endDay (mqS Q) (0, [some (.ref k), some (.int v1), none], [], (W0, Sh0, MI, ML))
def VX0_endDay_2 (D : Nat) (Q : Option Value → mI → mJ → Prop) (k a : Nat) (v1 : Int32) (v2 : Int32) (MI : mI) (ML : mJ) : Prop := mEx (mrn D) TX0_endDay (mqS Q) (2, [some (.ref k), some (.int v1), some (.int v2)], [], (W0, Sh0, MI, ML))
theorem BX0_endDay_0 {D : Nat} {Q : Option Value → mI → mJ → Prop} {k a : Nat} {v1 : Int32} {MI : mI} {ML : mJ} (hB : bz k a)
    (h : VX0_endDay_2 D Q k a v1 (nI 0) MI ML) :
    VX0_endDay_0 D Q k a v1 MI ML := by
  show mEx (mrn D) TX0_endDay (mqS Q) (0, [some (.ref k), some (.int v1), none], [], (W0, Sh0, MI, ML))
  refine x_st rfl ?_
  refine x_st rfl ?_
  refine x_kl ?_ h
  exact ⟨Or.inr rfl, ⟨Or.inr rfl, ⟨Or.inr rfl, True.intro⟩⟩⟩
theorem BX0_endDay_2 {D : Nat} {Q : Option Value → mI → mJ → Prop} {k a : Nat} {v1 : Int32} {v2 : Int32} {MI : mI} {ML : mJ} (hB : bz k a)
    (h : ((MI k 0) ≤ v2 → (((mup MI a (mput (MI a) 19 (if (nI 99) < ((MI a 19) + (nI 1)) then (nI 99) else ((MI a 19) + (nI 1))))) a 17) = nI 0 → Q none (mup MI a (mput (MI a) 19 (if (nI 99) < ((MI a 19) + (nI 1)) then (nI 99) else ((MI a 19) + (nI 1))))) ML) ∧ (¬ ((mup MI a (mput (MI a) 19 (if (nI 99) < ((MI a 19) + (nI 1)) then (nI 99) else ((MI a 19) + (nI 1))))) a 17) = nI 0 → ¬ ((mup MI a (mput (MI a) 19 (if (nI 99) < ((MI a 19) + (nI 1)) then (nI 99) else ((MI a 19) + (nI 1))))) a 17) = nI 0 ∧ (((((mup MI a (mput (MI a) 19 (if (nI 99) < ((MI a 19) + (nI 1)) then (nI 99) else ((MI a 19) + (nI 1))))) a 19) - ((mup MI a (mput (MI a) 19 (if (nI 99) < ((MI a 19) + (nI 1)) then (nI 99) else ((MI a 19) + (nI 1))))) a 19) / ((mup MI a (mput (MI a) 19 (if (nI 99) < ((MI a 19) + (nI 1)) then (nI 99) else ((MI a 19) + (nI 1))))) a 17) * ((mup MI a (mput (MI a) 19 (if (nI 99) < ((MI a 19) + (nI 1)) then (nI 99) else ((MI a 19) + (nI 1))))) a 17)) = nI 0 → ∃ (M1 : mI) (N2 : mJ), mrc D 25 [.ref k] (mup MI a (mput (MI a) 19 (if (nI 99) < ((MI a 19) + (nI 1)) then (nI 99) else ((MI a 19) + (nI 1))))) ML none M1 N2 ∧ (Q none M1 N2)) ∧ (¬ (((mup MI a (mput (MI a) 19 (if (nI 99) < ((MI a 19) + (nI 1)) then (nI 99) else ((MI a 19) + (nI 1))))) a 19) - ((mup MI a (mput (MI a) 19 (if (nI 99) < ((MI a 19) + (nI 1)) then (nI 99) else ((MI a 19) + (nI 1))))) a 19) / ((mup MI a (mput (MI a) 19 (if (nI 99) < ((MI a 19) + (nI 1)) then (nI 99) else ((MI a 19) + (nI 1))))) a 17) * ((mup MI a (mput (MI a) 19 (if (nI 99) < ((MI a 19) + (nI 1)) then (nI 99) else ((MI a 19) + (nI 1))))) a 17)) = nI 0 → Q none (mup MI a (mput (MI a) 19 (if (nI 99) < ((MI a 19) + (nI 1)) then (nI 99) else ((MI a 19) + (nI 1))))) ML)))) ∧ (¬ (MI k 0) ≤ v2 → (((v1 >>> (v2 &&& 31)) &&& (nI 1)) = nI 0 → ∃ (M3 : mI) (N4 : mJ), mrc D 12 [.ref k, .int v2, .int (MI a 18)] MI ML none M3 N4 ∧ (VX0_endDay_2 D Q k a v1 (v2 + (nI 1)) M3 N4)) ∧ (¬ ((v1 >>> (v2 &&& 31)) &&& (nI 1)) = nI 0 → VX0_endDay_2 D Q k a v1 (v2 + (nI 1)) MI ML))) :
    VX0_endDay_2 D Q k a v1 v2 MI ML := by
  show mEx (mrn D) TX0_endDay (mqS Q) (2, [some (.ref k), some (.int v1), some (.int v2)], [], (W0, Sh0, MI, ML))
  refine x_st rfl ?_
  refine x_st rfl ?_
  refine x_gi (ci := 0) (k := 0) (nx := 7) rfl (bz_o hB) rfl ?_
  refine x_br rfl (fun c => ?_) (fun c => ?_)
  · replace h := h.1 c
    refine x_st rfl ?_
    refine x_gr (ci := 0) (k := 1) (nx := 40) rfl (bz_o hB) rfl ?_
    refine x_st rfl ?_
    refine x_st rfl ?_
    refine x_gr (ci := 0) (k := 1) (nx := 46) rfl (bz_o hB) rfl ?_
    refine x_st rfl ?_
    refine x_ia (i := 19) (nx := 49) rfl (bz_a hB) rfl (by decide) (by decide) ?_
    refine x_st rfl ?_
    refine x_st rfl ?_
    refine x_st rfl ?_
    refine x_st rfl ?_
    refine x_iast (i := 19) (nx := 57) rfl (bz_a hB) rfl (by decide) (by decide) ?_
    refine x_st rfl ?_
    refine x_gr (ci := 0) (k := 1) (nx := 61) rfl (bz_o hB) rfl ?_
    refine x_st rfl ?_
    refine x_ia (i := 17) (nx := 64) rfl (bz_a hB) rfl (by decide) (by decide) ?_
    refine x_br rfl (fun c => ?_) (fun c => ?_)
    · replace h := h.1 c
      refine x_ret rfl ?_
      exact ⟨_, _, rfl, h⟩
    · replace h := h.2 c
      refine x_st rfl ?_
      refine x_gr (ci := 0) (k := 1) (nx := 71) rfl (bz_o hB) rfl ?_
      refine x_st rfl ?_
      refine x_ia (i := 19) (nx := 74) rfl (bz_a hB) rfl (by decide) (by decide) ?_
      refine x_st rfl ?_
      refine x_gr (ci := 0) (k := 1) (nx := 78) rfl (bz_o hB) rfl ?_
      refine x_st rfl ?_
      refine x_ia (i := 17) (nx := 81) rfl (bz_a hB) rfl (by decide) (by decide) ?_
      refine x_ck rfl h.1 ?_
      have h := h.2
      refine x_br rfl (fun c => ?_) (fun c => ?_)
      · replace h := h.1 c
        refine x_st rfl ?_
        obtain ⟨M1, N2, hc, h⟩ := h
        refine x_vv (y := 25) (n := 0) (ci := 0) (nx := 89) rfl (fun _ => rfl) (bz_o hB) rfl hc ?_
        refine x_ret rfl ?_
        exact ⟨_, _, rfl, h⟩
      · replace h := h.2 c
        refine x_ret rfl ?_
        exact ⟨_, _, rfl, h⟩
  · replace h := h.2 c
    refine x_st rfl ?_
    refine x_st rfl ?_
    refine x_st rfl ?_
    refine x_st rfl ?_
    refine x_st rfl ?_
    refine x_br rfl (fun c => ?_) (fun c => ?_)
    · replace h := h.1 c
      refine x_st rfl ?_
      refine x_st rfl ?_
      refine x_st rfl ?_
      refine x_gr (ci := 0) (k := 1) (nx := 24) rfl (bz_o hB) rfl ?_
      refine x_st rfl ?_
      refine x_ia (i := 18) (nx := 27) rfl (bz_a hB) rfl (by decide) (by decide) ?_
      obtain ⟨M3, N4, hc, h⟩ := h
      refine x_vv (y := 12) (n := 2) (ci := 0) (nx := 30) rfl (fun _ => rfl) (bz_o hB) rfl hc ?_
      refine x_st rfl ?_
      refine x_st rfl ?_
      refine x_kl ?_ h
      exact ⟨Or.inr rfl, ⟨Or.inr rfl, ⟨Or.inr rfl, True.intro⟩⟩⟩
    · replace h := h.2 c
      refine x_st rfl ?_
      refine x_st rfl ?_
      refine x_kl ?_ h
      exact ⟨Or.inr rfl, ⟨Or.inr rfl, ⟨Or.inr rfl, True.intro⟩⟩⟩
theorem EX0_endDay {D : Nat} {Q : Option Value → mI → mJ → Prop} {k a : Nat} {v1 : Int32} {MI : mI} {ML : mJ} (h : VX0_endDay_0 D Q k a v1 MI ML) : ∃ v MI' ML', Q v MI' ML' ∧ mrc (D + 1) 24 [.ref k, .int v1] MI ML v MI' ML' := by
  refine x_en (n := 1) (T := TX0_endDay) rfl rfl ?_
  refine x_kl ?_ h
  exact ⟨Or.inr rfl, ⟨Or.inr rfl, ⟨Or.inl rfl, True.intro⟩⟩⟩
def VX0_fade_0 (D : Nat) (Q : Option Value → mI → mJ → Prop) (k a : Nat) (MI : mI) (ML : mJ) : Prop := mEx (mrn D) TX0_fade (mqS Q) (0, [some (.ref k), none, none], [], (W0, Sh0, MI, ML))
def VX0_fade_3 (D : Nat) (Q : Option Value → mI → mJ → Prop) (k a : Nat) (v1 : Int32) (MI : mI) (ML : mJ) : Prop := mEx (mrn D) TX0_fade (mqS Q) (3, [some (.ref k), some (.int v1), none], [], (W0, Sh0, MI, ML))
theorem BX0_fade_0 {D : Nat} {Q : Option Value → mI → mJ → Prop} {k a : Nat} {MI : mI} {ML : mJ} (hB : bz k a)
    (h : VX0_fade_3 D Q k a (nI 20) MI ML) :
    VX0_fade_0 D Q k a MI ML := by
  show mEx (mrn D) TX0_fade (mqS Q) (0, [some (.ref k), none, none], [], (W0, Sh0, MI, ML))
  refine x_st rfl ?_
  refine x_st rfl ?_
  refine x_kl ?_ h
  exact ⟨Or.inr rfl, ⟨Or.inr rfl, ⟨Or.inl rfl, True.intro⟩⟩⟩
theorem BX0_fade_3 {D : Nat} {Q : Option Value → mI → mJ → Prop} {k a : Nat} {v1 : Int32} {MI : mI} {ML : mJ} (hB : bz k a)
    (h : ((nI 84) ≤ v1 → Q none MI ML) ∧ (¬ (nI 84) ≤ v1 → ∃ i1 : Nat, v1 = nI i1 ∧ i1 < 84 ∧ (((MI a i1) ≤ nI 0 → (nI 0 ≤ (MI a i1) → ∃ i2 : Nat, v1 = nI i2 ∧ i2 < 84 ∧ (VX0_fade_3 D Q k a (v1 + (nI 1)) (mup MI a (mput (MI a) i2 (nI 0))) ML)) ∧ (¬ nI 0 ≤ (MI a i1) → ∃ i3 : Nat, v1 = nI i3 ∧ i3 < 84 ∧ (VX0_fade_3 D Q k a (v1 + (nI 1)) (mup MI a (mput (MI a) i3 ((MI a i1) + (nI 1)))) ML))) ∧ (¬ (MI a i1) ≤ nI 0 → ∃ i4 : Nat, v1 = nI i4 ∧ i4 < 84 ∧ (VX0_fade_3 D Q k a (v1 + (nI 1)) (mup MI a (mput (MI a) i4 ((MI a i1) - (nI 1)))) ML))))) :
    VX0_fade_3 D Q k a v1 MI ML := by
  show mEx (mrn D) TX0_fade (mqS Q) (3, [some (.ref k), some (.int v1), none], [], (W0, Sh0, MI, ML))
  refine x_st rfl ?_
  refine x_st rfl ?_
  refine x_br rfl (fun c => ?_) (fun c => ?_)
  · replace h := h.1 c
    refine x_ret rfl ?_
    exact ⟨_, _, rfl, h⟩
  · replace h := h.2 c
    refine x_st rfl ?_
    refine x_gr (ci := 0) (k := 1) (nx := 13) rfl (bz_o hB) rfl ?_
    refine x_st rfl ?_
    obtain ⟨i1, hx, hi, h⟩ := h
    refine x_ia (i := i1) (nx := 15) rfl (bz_a hB) hx hi (by decide) ?_
    refine x_st rfl ?_
    refine x_st rfl ?_
    refine x_gr (ci := 0) (k := 1) (nx := 20) rfl (bz_o hB) rfl ?_
    refine x_st rfl ?_
    refine x_st rfl ?_
    refine x_br rfl (fun c => ?_) (fun c => ?_)
    · replace h := h.1 c
      refine x_st rfl ?_
      refine x_br rfl (fun c => ?_) (fun c => ?_)
      · replace h := h.1 c
        refine x_st rfl ?_
        obtain ⟨i2, hx, hi, h⟩ := h
        refine x_iast (i := i2) (nx := 43) rfl (bz_a hB) hx hi (by decide) ?_
        refine x_st rfl ?_
        refine x_st rfl ?_
        refine x_kl ?_ h
        exact ⟨Or.inr rfl, ⟨Or.inr rfl, ⟨Or.inl rfl, True.intro⟩⟩⟩
      · replace h := h.2 c
        refine x_st rfl ?_
        refine x_st rfl ?_
        refine x_st rfl ?_
        refine x_st rfl ?_
        obtain ⟨i3, hx, hi, h⟩ := h
        refine x_iast (i := i3) (nx := 43) rfl (bz_a hB) hx hi (by decide) ?_
        refine x_st rfl ?_
        refine x_st rfl ?_
        refine x_kl ?_ h
        exact ⟨Or.inr rfl, ⟨Or.inr rfl, ⟨Or.inl rfl, True.intro⟩⟩⟩
    · replace h := h.2 c
      refine x_st rfl ?_
      refine x_st rfl ?_
      refine x_st rfl ?_
      refine x_st rfl ?_
      obtain ⟨i4, hx, hi, h⟩ := h
      refine x_iast (i := i4) (nx := 43) rfl (bz_a hB) hx hi (by decide) ?_
      refine x_st rfl ?_
      refine x_st rfl ?_
      refine x_kl ?_ h
      exact ⟨Or.inr rfl, ⟨Or.inr rfl, ⟨Or.inl rfl, True.intro⟩⟩⟩
theorem EX0_fade {D : Nat} {Q : Option Value → mI → mJ → Prop} {k a : Nat} {MI : mI} {ML : mJ} (h : VX0_fade_0 D Q k a MI ML) : ∃ v MI' ML', Q v MI' ML' ∧ mrc (D + 1) 25 [.ref k] MI ML v MI' ML' := by
  refine x_en (n := 2) (T := TX0_fade) rfl rfl ?_
  refine x_kl ?_ h
  exact ⟨Or.inr rfl, ⟨Or.inl rfl, ⟨Or.inl rfl, True.intro⟩⟩⟩
def VX0_takeOver_0 (D : Nat) (Q : Option Value → mI → mJ → Prop) (k a : Nat) (k2 a2 : Nat) (MI : mI) (ML : mJ) : Prop := mEx (mrn D) TX0_takeOver (mqS Q) (0, [some (.ref k), some (.ref k2)], [], (W0, Sh0, MI, ML))
theorem BX0_takeOver_0 {D : Nat} {Q : Option Value → mI → mJ → Prop} {k a : Nat} {k2 a2 : Nat} {MI : mI} {ML : mJ} (hB : bz k a) (hB2 : bz k2 a2)
    (h : ∃ i1 i2 i3 : Nat, (nI 0) = nI i1 ∧ (nI 0) = nI i2 ∧ (nI 84) = nI i3 ∧ i1 + i3 ≤ 84 ∧ i2 + i3 ≤ 84 ∧ (Q none (mup (mup MI k (mput (MI k) 0 (MI k2 0))) a (va_cpy ((mup MI k (mput (MI k) 0 (MI k2 0))) a2) ((mup MI k (mput (MI k) 0 (MI k2 0))) a) i1 i2 i3)) ML)) :
    VX0_takeOver_0 D Q k a k2 a2 MI ML := by
  show mEx (mrn D) TX0_takeOver (mqS Q) (0, [some (.ref k), some (.ref k2)], [], (W0, Sh0, MI, ML))
  refine x_st rfl ?_
  refine x_st rfl ?_
  refine x_gi (ci := 0) (k := 0) (nx := 5) rfl (bz_o hB2) rfl ?_
  refine x_pi (ci := 0) (k := 0) (nx := 8) rfl (bz_o hB) rfl ?_
  refine x_st rfl ?_
  refine x_gr (ci := 0) (k := 1) (nx := 12) rfl (bz_o hB2) rfl ?_
  refine x_st rfl ?_
  refine x_st rfl ?_
  refine x_gr (ci := 0) (k := 1) (nx := 17) rfl (bz_o hB) rfl ?_
  refine x_st rfl ?_
  refine x_st rfl ?_
  obtain ⟨i1, i2, i3, e1, e2, e3, e4, e5, h⟩ := h
  refine x_cpi (nx := 23) rfl (bz_a hB2) (bz_a hB) e1 e2 e3 e4 e5 (by decide) (by decide) rfl ?_
  refine x_ret rfl ?_
  exact ⟨_, _, rfl, h⟩
theorem EX0_takeOver {D : Nat} {Q : Option Value → mI → mJ → Prop} {k a : Nat} {k2 a2 : Nat} {MI : mI} {ML : mJ} (h : VX0_takeOver_0 D Q k a k2 a2 MI ML) : ∃ v MI' ML', Q v MI' ML' ∧ mrc (D + 1) 26 [.ref k, .ref k2] MI ML v MI' ML' := by
  refine x_en (n := 0) (T := TX0_takeOver) rfl rfl ?_
  refine x_kl ?_ h
  exact ⟨Or.inr rfl, ⟨Or.inr rfl, True.intro⟩⟩
def VX1_add_0 (D : Nat) (Q : Option Value → mI → mJ → Prop)  (v1 : Int32) (v2 : Int32) (MI : mI) (ML : mJ) : Prop := mEx (mrn D) TX1_add (mqS Q) (0, [some (.ref 33), some (.int v1), some (.int v2)], [], (W0, Sh0, MI, ML))
theorem BX1_add_0 {D : Nat} {Q : Option Value → mI → mJ → Prop}  {v1 : Int32} {v2 : Int32} {MI : mI} {ML : mJ} 
    (h : (v1 < nI 0 → Q none MI ML) ∧ (¬ v1 < nI 0 → ((nI 6) ≤ v1 → Q none MI ML) ∧ (¬ (nI 6) ≤ v1 → ∃ i1 : Nat, v1 = nI i1 ∧ i1 < 6 ∧ (∃ i2 : Nat, v1 = nI i2 ∧ i2 < 6 ∧ (Q none (mup MI 34 (mput (MI 34) i2 ((MI 34 i1) + v2))) ML))))) :
    VX1_add_0 D Q v1 v2 MI ML := by
  show mEx (mrn D) TX1_add (mqS Q) (0, [some (.ref 33), some (.int v1), some (.int v2)], [], (W0, Sh0, MI, ML))
  refine x_st rfl ?_
  refine x_br rfl (fun c => ?_) (fun c => ?_)
  · replace h := h.1 c
    refine x_ret rfl ?_
    exact ⟨_, _, rfl, h⟩
  · replace h := h.2 c
    refine x_st rfl ?_
    refine x_st rfl ?_
    refine x_br rfl (fun c => ?_) (fun c => ?_)
    · replace h := h.1 c
      refine x_ret rfl ?_
      exact ⟨_, _, rfl, h⟩
    · replace h := h.2 c
      refine x_st rfl ?_
      refine x_gr (ci := 1) (k := 0) (nx := 14) rfl sh_33 rfl ?_
      refine x_st rfl ?_
      refine x_st rfl ?_
      obtain ⟨i1, hx, hi, h⟩ := h
      refine x_ia (i := i1) (nx := 17) rfl sh_34 hx hi (by decide) ?_
      refine x_st rfl ?_
      refine x_st rfl ?_
      obtain ⟨i2, hx, hi, h⟩ := h
      refine x_iast (i := i2) (nx := 20) rfl sh_34 hx hi (by decide) ?_
      refine x_ret rfl ?_
      exact ⟨_, _, rfl, h⟩
theorem EX1_add {D : Nat} {Q : Option Value → mI → mJ → Prop}  {v1 : Int32} {v2 : Int32} {MI : mI} {ML : mJ} (h : VX1_add_0 D Q v1 v2 MI ML) : ∃ v MI' ML', Q v MI' ML' ∧ mrc (D + 1) 29 [.ref 33, .int v1, .int v2] MI ML v MI' ML' := by
  refine x_en (n := 0) (T := TX1_add) rfl rfl ?_
  refine x_kl ?_ h
  exact ⟨Or.inr rfl, ⟨Or.inr rfl, ⟨Or.inr rfl, True.intro⟩⟩⟩
def VX1_told_0 (D : Nat) (Q : Option Value → mI → mJ → Prop)  (v1 : Int32) (MI : mI) (ML : mJ) : Prop := mEx (mrn D) TX1_told (mqS Q) (0, [some (.ref 33), some (.int v1)], [], (W0, Sh0, MI, ML))
theorem BX1_told_0 {D : Nat} {Q : Option Value → mI → mJ → Prop}  {v1 : Int32} {MI : mI} {ML : mJ} 
    (h : (v1 < nI 0 → Q (some (.int (nI 0))) MI ML) ∧ (¬ v1 < nI 0 → ((nI 6) ≤ v1 → Q (some (.int (nI 0))) MI ML) ∧ (¬ (nI 6) ≤ v1 → ∃ i1 : Nat, v1 = nI i1 ∧ i1 < 6 ∧ (Q (some (.int (MI 34 i1))) MI ML)))) :
    VX1_told_0 D Q v1 MI ML := by
  show mEx (mrn D) TX1_told (mqS Q) (0, [some (.ref 33), some (.int v1)], [], (W0, Sh0, MI, ML))
  refine x_st rfl ?_
  refine x_br rfl (fun c => ?_) (fun c => ?_)
  · replace h := h.1 c
    refine x_st rfl ?_
    refine x_ret rfl ?_
    exact ⟨_, _, rfl, h⟩
  · replace h := h.2 c
    refine x_st rfl ?_
    refine x_st rfl ?_
    refine x_br rfl (fun c => ?_) (fun c => ?_)
    · replace h := h.1 c
      refine x_st rfl ?_
      refine x_ret rfl ?_
      exact ⟨_, _, rfl, h⟩
    · replace h := h.2 c
      refine x_st rfl ?_
      refine x_gr (ci := 1) (k := 0) (nx := 14) rfl sh_33 rfl ?_
      refine x_st rfl ?_
      obtain ⟨i1, hx, hi, h⟩ := h
      refine x_ia (i := i1) (nx := 16) rfl sh_34 hx hi (by decide) ?_
      refine x_st rfl ?_
      refine x_ret rfl ?_
      exact ⟨_, _, rfl, h⟩
theorem EX1_told {D : Nat} {Q : Option Value → mI → mJ → Prop}  {v1 : Int32} {MI : mI} {ML : mJ} (h : VX1_told_0 D Q v1 MI ML) : ∃ v MI' ML', Q v MI' ML' ∧ mrc (D + 1) 30 [.ref 33, .int v1] MI ML v MI' ML' := by
  refine x_en (n := 0) (T := TX1_told) rfl rfl ?_
  refine x_kl ?_ h
  exact ⟨Or.inr rfl, ⟨Or.inr rfl, True.intro⟩⟩
def VX1_tell_0 (D : Nat) (Q : Option Value → mI → mJ → Prop) (r r1 r2 r3 r4 : Nat) (v2 : Int32) (MI : mI) (ML : mJ) : Prop := mEx (mrn D) TX1_tell (mqS Q) (0, [some (.ref 33), some (.ref r), some (.int v2), none], [], (W0, Sh0, MI, ML))
def VX1_tell_33 (D : Nat) (Q : Option Value → mI → mJ → Prop) (r r1 r2 r3 r4 : Nat) (v3 : Int32) (MI : mI) (ML : mJ) : Prop := mEx (mrn D) TX1_tell (mqS Q) (33, [some (.ref 33), some (.ref r), none, some (.int v3)], [], (W0, Sh0, MI, ML))
def VX1_tell_131 (D : Nat) (Q : Option Value → mI → mJ → Prop) (r r1 r2 r3 r4 : Nat) (v3 : Int32) (MI : mI) (ML : mJ) : Prop := mEx (mrn D) TX1_tell (mqS Q) (131, [some (.ref 33), some (.ref r), none, some (.int v3)], [], (W0, Sh0, MI, ML))
theorem BX1_tell_0 {D : Nat} {Q : Option Value → mI → mJ → Prop} {r r1 r2 r3 r4 : Nat} {v2 : Int32} {MI : mI} {ML : mJ} (hR : rd r r1 r2 r3 r4)
    (h : ∃ (M1 : mI) (N2 : mJ), mrc D 29 [.ref 33, .int (nI 0), .int (nI 1)] MI ML none M1 N2 ∧ (∃ (M3 : mI) (N4 : mJ), mrc D 29 [.ref 33, .int (nI 1), .int (M1 r 0)] M1 N2 none M3 N4 ∧ (∃ (M5 : mI) (N6 : mJ), mrc D 29 [.ref 33, .int (nI 2), .int (v2 - (M3 r 0))] M3 N4 none M5 N6 ∧ (VX1_tell_33 D Q r r1 r2 r3 r4 (nI 0) (mup M5 33 (mput (M5 33) 2 (nI 0))) N6)))) :
    VX1_tell_0 D Q r r1 r2 r3 r4 v2 MI ML := by
  show mEx (mrn D) TX1_tell (mqS Q) (0, [some (.ref 33), some (.ref r), some (.int v2), none], [], (W0, Sh0, MI, ML))
  refine x_st rfl ?_
  refine x_st rfl ?_
  refine x_st rfl ?_
  obtain ⟨M1, N2, hc, h⟩ := h
  refine x_vv (y := 29) (n := 2) (ci := 1) (nx := 6) rfl (fun _ => rfl) sh_33 rfl hc ?_
  refine x_st rfl ?_
  refine x_st rfl ?_
  refine x_st rfl ?_
  refine x_gi (ci := 7) (k := 0) (nx := 12) rfl (rd_o hR) rfl ?_
  obtain ⟨M3, N4, hc, h⟩ := h
  refine x_vv (y := 29) (n := 2) (ci := 1) (nx := 15) rfl (fun _ => rfl) sh_33 rfl hc ?_
  refine x_st rfl ?_
  refine x_st rfl ?_
  refine x_st rfl ?_
  refine x_st rfl ?_
  refine x_gi (ci := 7) (k := 0) (nx := 22) rfl (rd_o hR) rfl ?_
  refine x_st rfl ?_
  obtain ⟨M5, N6, hc, h⟩ := h
  refine x_vv (y := 29) (n := 2) (ci := 1) (nx := 26) rfl (fun _ => rfl) sh_33 rfl hc ?_
  refine x_st rfl ?_
  refine x_st rfl ?_
  refine x_pi (ci := 1) (k := 2) (nx := 31) rfl sh_33 rfl ?_
  refine x_st rfl ?_
  refine x_st rfl ?_
  refine x_kl ?_ h
  exact ⟨Or.inr rfl, ⟨Or.inr rfl, ⟨Or.inl rfl, ⟨Or.inr rfl, True.intro⟩⟩⟩⟩
theorem BX1_tell_33 {D : Nat} {Q : Option Value → mI → mJ → Prop} {r r1 r2 r3 r4 : Nat} {v3 : Int32} {MI : mI} {ML : mJ} (hR : rd r r1 r2 r3 r4)
    (h : ((MI r 0) ≤ v3 → Q none MI ML) ∧ (¬ (MI r 0) ≤ v3 → ((nI 8) ≤ v3 → Q none MI ML) ∧ (¬ (nI 8) ≤ v3 → ∃ i1 : Nat, v3 = nI i1 ∧ i1 < 8 ∧ (∃ (M2 : mI) (N3 : mJ), mrc D 32 [.ref 33, .int ((nI 48) + (MI r1 i1))] MI ML none M2 N3 ∧ (∃ (M4 : mI) (N5 : mJ), mrc D 32 [.ref 33, .int (nI 60)] M2 N3 none M4 N5 ∧ (∃ i6 : Nat, v3 = nI i6 ∧ i6 < 8 ∧ (∃ (M7 : mI) (N8 : mJ), mrc D 32 [.ref 33, .int ((nI 48) + (M4 r2 i6))] M4 N5 none M7 N8 ∧ (∃ (M9 : mI) (N10 : mJ), mrc D 32 [.ref 33, .int (nI 124)] M7 N8 none M9 N10 ∧ (∃ i11 : Nat, v3 = nI i11 ∧ i11 < 8 ∧ (∃ (M12 : mI) (N13 : mJ), mrc D 32 [.ref 33, .int ((nI 48) + (M9 r3 i11))] M9 N10 none M12 N13 ∧ (∃ (M14 : mI) (N15 : mJ), mrc D 32 [.ref 33, .int (nI 58)] M12 N13 none M14 N15 ∧ (∃ i16 : Nat, v3 = nI i16 ∧ i16 < 8 ∧ (((M14 r4 i16) < (nI 10) → VX1_tell_131 D Q r r1 r2 r3 r4 v3 M14 N15) ∧ (¬ (M14 r4 i16) < (nI 10) → ∃ i17 : Nat, v3 = nI i17 ∧ i17 < 8 ∧ (∃ (M18 : mI) (N19 : mJ), mrc D 32 [.ref 33, .int ((nI 48) + ((M14 r4 i17) / (nI 10)))] M14 N15 none M18 N19 ∧ (VX1_tell_131 D Q r r1 r2 r3 r4 v3 M18 N19)))))))))))))))) :
    VX1_tell_33 D Q r r1 r2 r3 r4 v3 MI ML := by
  show mEx (mrn D) TX1_tell (mqS Q) (33, [some (.ref 33), some (.ref r), none, some (.int v3)], [], (W0, Sh0, MI, ML))
  refine x_st rfl ?_
  refine x_st rfl ?_
  refine x_gi (ci := 7) (k := 0) (nx := 38) rfl (rd_o hR) rfl ?_
  refine x_br rfl (fun c => ?_) (fun c => ?_)
  · replace h := h.1 c
    refine x_ret rfl ?_
    exact ⟨_, _, rfl, h⟩
  · replace h := h.2 c
    refine x_st rfl ?_
    refine x_st rfl ?_
    refine x_br rfl (fun c => ?_) (fun c => ?_)
    · replace h := h.1 c
      refine x_ret rfl ?_
      exact ⟨_, _, rfl, h⟩
    · replace h := h.2 c
      refine x_st rfl ?_
      refine x_st rfl ?_
      refine x_st rfl ?_
      refine x_gr (ci := 7) (k := 1) (nx := 54) rfl (rd_o hR) rfl ?_
      refine x_st rfl ?_
      obtain ⟨i1, hx, hi, h⟩ := h
      refine x_ia (i := i1) (nx := 56) rfl (rd_1 hR) hx hi (by decide) ?_
      refine x_st rfl ?_
      obtain ⟨M2, N3, hc, h⟩ := h
      refine x_vv (y := 32) (n := 1) (ci := 1) (nx := 60) rfl (fun _ => rfl) sh_33 rfl hc ?_
      refine x_st rfl ?_
      refine x_st rfl ?_
      obtain ⟨M4, N5, hc, h⟩ := h
      refine x_vv (y := 32) (n := 1) (ci := 1) (nx := 66) rfl (fun _ => rfl) sh_33 rfl hc ?_
      refine x_st rfl ?_
      refine x_st rfl ?_
      refine x_st rfl ?_
      refine x_gr (ci := 7) (k := 2) (nx := 73) rfl (rd_o hR) rfl ?_
      refine x_st rfl ?_
      obtain ⟨i6, hx, hi, h⟩ := h
      refine x_ia (i := i6) (nx := 75) rfl (rd_2 hR) hx hi (by decide) ?_
      refine x_st rfl ?_
      obtain ⟨M7, N8, hc, h⟩ := h
      refine x_vv (y := 32) (n := 1) (ci := 1) (nx := 79) rfl (fun _ => rfl) sh_33 rfl hc ?_
      refine x_st rfl ?_
      refine x_st rfl ?_
      obtain ⟨M9, N10, hc, h⟩ := h
      refine x_vv (y := 32) (n := 1) (ci := 1) (nx := 85) rfl (fun _ => rfl) sh_33 rfl hc ?_
      refine x_st rfl ?_
      refine x_st rfl ?_
      refine x_st rfl ?_
      refine x_gr (ci := 7) (k := 3) (nx := 92) rfl (rd_o hR) rfl ?_
      refine x_st rfl ?_
      obtain ⟨i11, hx, hi, h⟩ := h
      refine x_ia (i := i11) (nx := 94) rfl (rd_3 hR) hx hi (by decide) ?_
      refine x_st rfl ?_
      obtain ⟨M12, N13, hc, h⟩ := h
      refine x_vv (y := 32) (n := 1) (ci := 1) (nx := 98) rfl (fun _ => rfl) sh_33 rfl hc ?_
      refine x_st rfl ?_
      refine x_st rfl ?_
      obtain ⟨M14, N15, hc, h⟩ := h
      refine x_vv (y := 32) (n := 1) (ci := 1) (nx := 104) rfl (fun _ => rfl) sh_33 rfl hc ?_
      refine x_st rfl ?_
      refine x_gr (ci := 7) (k := 4) (nx := 108) rfl (rd_o hR) rfl ?_
      refine x_st rfl ?_
      obtain ⟨i16, hx, hi, h⟩ := h
      refine x_ia (i := i16) (nx := 110) rfl (rd_4 hR) hx hi (by decide) ?_
      refine x_st rfl ?_
      refine x_br rfl (fun c => ?_) (fun c => ?_)
      · replace h := h.1 c
        refine x_kl ?_ h
        exact ⟨Or.inr rfl, ⟨Or.inr rfl, ⟨Or.inl rfl, ⟨Or.inr rfl, True.intro⟩⟩⟩⟩
      · replace h := h.2 c
        refine x_st rfl ?_
        refine x_st rfl ?_
        refine x_st rfl ?_
        refine x_gr (ci := 7) (k := 4) (nx := 122) rfl (rd_o hR) rfl ?_
        refine x_st rfl ?_
        obtain ⟨i17, hx, hi, h⟩ := h
        refine x_ia (i := i17) (nx := 124) rfl (rd_4 hR) hx hi (by decide) ?_
        refine x_st rfl ?_
        refine x_st rfl ?_
        refine x_st rfl ?_
        obtain ⟨M18, N19, hc, h⟩ := h
        refine x_vv (y := 32) (n := 1) (ci := 1) (nx := 131) rfl (fun _ => rfl) sh_33 rfl hc ?_
        refine x_kl ?_ h
        exact ⟨Or.inr rfl, ⟨Or.inr rfl, ⟨Or.inl rfl, ⟨Or.inr rfl, True.intro⟩⟩⟩⟩
theorem BX1_tell_131 {D : Nat} {Q : Option Value → mI → mJ → Prop} {r r1 r2 r3 r4 : Nat} {v3 : Int32} {MI : mI} {ML : mJ} (hR : rd r r1 r2 r3 r4)
    (h : ∃ i1 : Nat, v3 = nI i1 ∧ i1 < 8 ∧ (∃ (M2 : mI) (N3 : mJ), mrc D 32 [.ref 33, .int ((nI 48) + ((MI r4 i1) - (MI r4 i1) / (nI 10) * (nI 10)))] MI ML none M2 N3 ∧ (∃ (M4 : mI) (N5 : mJ), mrc D 32 [.ref 33, .int (nI 59)] M2 N3 none M4 N5 ∧ (VX1_tell_33 D Q r r1 r2 r3 r4 (v3 + (nI 1)) M4 N5)))) :
    VX1_tell_131 D Q r r1 r2 r3 r4 v3 MI ML := by
  show mEx (mrn D) TX1_tell (mqS Q) (131, [some (.ref 33), some (.ref r), none, some (.int v3)], [], (W0, Sh0, MI, ML))
  refine x_st rfl ?_
  refine x_st rfl ?_
  refine x_st rfl ?_
  refine x_gr (ci := 7) (k := 4) (nx := 138) rfl (rd_o hR) rfl ?_
  refine x_st rfl ?_
  obtain ⟨i1, hx, hi, h⟩ := h
  refine x_ia (i := i1) (nx := 140) rfl (rd_4 hR) hx hi (by decide) ?_
  refine x_st rfl ?_
  refine x_st rfl ?_
  refine x_st rfl ?_
  obtain ⟨M2, N3, hc, h⟩ := h
  refine x_vv (y := 32) (n := 1) (ci := 1) (nx := 147) rfl (fun _ => rfl) sh_33 rfl hc ?_
  refine x_st rfl ?_
  refine x_st rfl ?_
  obtain ⟨M4, N5, hc, h⟩ := h
  refine x_vv (y := 32) (n := 1) (ci := 1) (nx := 153) rfl (fun _ => rfl) sh_33 rfl hc ?_
  refine x_st rfl ?_
  refine x_st rfl ?_
  refine x_kl ?_ h
  exact ⟨Or.inr rfl, ⟨Or.inr rfl, ⟨Or.inl rfl, ⟨Or.inr rfl, True.intro⟩⟩⟩⟩
theorem EX1_tell {D : Nat} {Q : Option Value → mI → mJ → Prop} {r r1 r2 r3 r4 : Nat} {v2 : Int32} {MI : mI} {ML : mJ} (h : VX1_tell_0 D Q r r1 r2 r3 r4 v2 MI ML) : ∃ v MI' ML', Q v MI' ML' ∧ mrc (D + 1) 31 [.ref 33, .ref r, .int v2] MI ML v MI' ML' := by
  refine x_en (n := 1) (T := TX1_tell) rfl rfl ?_
  refine x_kl ?_ h
  exact ⟨Or.inr rfl, ⟨Or.inr rfl, ⟨Or.inr rfl, ⟨Or.inl rfl, True.intro⟩⟩⟩⟩
def VX1_write_0 (D : Nat) (Q : Option Value → mI → mJ → Prop)  (v1 : Int32) (MI : mI) (ML : mJ) : Prop := mEx (mrn D) TX1_write (mqS Q) (0, [some (.ref 33), some (.int v1)], [], (W0, Sh0, MI, ML))
theorem BX1_write_0 {D : Nat} {Q : Option Value → mI → mJ → Prop}  {v1 : Int32} {MI : mI} {ML : mJ} 
    (h : ((nI 72) ≤ (MI 33 2) → Q none MI ML) ∧ (¬ (nI 72) ≤ (MI 33 2) → ∃ i1 : Nat, (MI 33 2) = nI i1 ∧ i1 < 72 ∧ (Q none (mup (mup MI 35 (mput (MI 35) i1 v1)) 33 (mput ((mup MI 35 (mput (MI 35) i1 v1)) 33) 2 (((mup MI 35 (mput (MI 35) i1 v1)) 33 2) + (nI 1)))) ML))) :
    VX1_write_0 D Q v1 MI ML := by
  show mEx (mrn D) TX1_write (mqS Q) (0, [some (.ref 33), some (.int v1)], [], (W0, Sh0, MI, ML))
  refine x_st rfl ?_
  refine x_gi (ci := 1) (k := 2) (nx := 4) rfl sh_33 rfl ?_
  refine x_st rfl ?_
  refine x_br rfl (fun c => ?_) (fun c => ?_)
  · replace h := h.1 c
    refine x_ret rfl ?_
    exact ⟨_, _, rfl, h⟩
  · replace h := h.2 c
    refine x_st rfl ?_
    refine x_gr (ci := 1) (k := 1) (nx := 13) rfl sh_33 rfl ?_
    refine x_st rfl ?_
    refine x_gi (ci := 1) (k := 2) (nx := 17) rfl sh_33 rfl ?_
    refine x_st rfl ?_
    obtain ⟨i1, hx, hi, h⟩ := h
    refine x_iast (i := i1) (nx := 19) rfl sh_35 hx hi (by decide) ?_
    refine x_st rfl ?_
    refine x_st rfl ?_
    refine x_gi (ci := 1) (k := 2) (nx := 24) rfl sh_33 rfl ?_
    refine x_st rfl ?_
    refine x_st rfl ?_
    refine x_pi (ci := 1) (k := 2) (nx := 29) rfl sh_33 rfl ?_
    refine x_ret rfl ?_
    exact ⟨_, _, rfl, h⟩
theorem EX1_write {D : Nat} {Q : Option Value → mI → mJ → Prop}  {v1 : Int32} {MI : mI} {ML : mJ} (h : VX1_write_0 D Q v1 MI ML) : ∃ v MI' ML', Q v MI' ML' ∧ mrc (D + 1) 32 [.ref 33, .int v1] MI ML v MI' ML' := by
  refine x_en (n := 0) (T := TX1_write) rfl rfl ?_
  refine x_kl ?_ h
  exact ⟨Or.inr rfl, ⟨Or.inr rfl, True.intro⟩⟩
def VX1_taleLength_0 (D : Nat) (Q : Option Value → mI → mJ → Prop)  (MI : mI) (ML : mJ) : Prop := mEx (mrn D) TX1_taleLength (mqS Q) (0, [some (.ref 33)], [], (W0, Sh0, MI, ML))
theorem BX1_taleLength_0 {D : Nat} {Q : Option Value → mI → mJ → Prop}  {MI : mI} {ML : mJ} 
    (h : Q (some (.int (MI 33 2))) MI ML) :
    VX1_taleLength_0 D Q  MI ML := by
  show mEx (mrn D) TX1_taleLength (mqS Q) (0, [some (.ref 33)], [], (W0, Sh0, MI, ML))
  refine x_st rfl ?_
  refine x_gi (ci := 1) (k := 2) (nx := 4) rfl sh_33 rfl ?_
  refine x_ret rfl ?_
  exact ⟨_, _, rfl, h⟩
theorem EX1_taleLength {D : Nat} {Q : Option Value → mI → mJ → Prop}  {MI : mI} {ML : mJ} (h : VX1_taleLength_0 D Q  MI ML) : ∃ v MI' ML', Q v MI' ML' ∧ mrc (D + 1) 33 [.ref 33] MI ML v MI' ML' := by
  refine x_en (n := 0) (T := TX1_taleLength) rfl rfl ?_
  refine x_kl ?_ h
  exact ⟨Or.inr rfl, True.intro⟩
def VX1_taleByte_0 (D : Nat) (Q : Option Value → mI → mJ → Prop)  (v1 : Int32) (MI : mI) (ML : mJ) : Prop := mEx (mrn D) TX1_taleByte (mqS Q) (0, [some (.ref 33), some (.int v1)], [], (W0, Sh0, MI, ML))
theorem BX1_taleByte_0 {D : Nat} {Q : Option Value → mI → mJ → Prop}  {v1 : Int32} {MI : mI} {ML : mJ} 
    (h : (v1 < nI 0 → Q (some (.int (-2 : Int32))) MI ML) ∧ (¬ v1 < nI 0 → ((MI 33 2) ≤ v1 → Q (some (.int (-2 : Int32))) MI ML) ∧ (¬ (MI 33 2) ≤ v1 → ∃ i1 : Nat, v1 = nI i1 ∧ i1 < 72 ∧ (Q (some (.int (MI 35 i1))) MI ML)))) :
    VX1_taleByte_0 D Q v1 MI ML := by
  show mEx (mrn D) TX1_taleByte (mqS Q) (0, [some (.ref 33), some (.int v1)], [], (W0, Sh0, MI, ML))
  refine x_st rfl ?_
  refine x_br rfl (fun c => ?_) (fun c => ?_)
  · replace h := h.1 c
    refine x_st rfl ?_
    refine x_ret rfl ?_
    exact ⟨_, _, rfl, h⟩
  · replace h := h.2 c
    refine x_st rfl ?_
    refine x_st rfl ?_
    refine x_gi (ci := 1) (k := 2) (nx := 9) rfl sh_33 rfl ?_
    refine x_br rfl (fun c => ?_) (fun c => ?_)
    · replace h := h.1 c
      refine x_st rfl ?_
      refine x_ret rfl ?_
      exact ⟨_, _, rfl, h⟩
    · replace h := h.2 c
      refine x_st rfl ?_
      refine x_gr (ci := 1) (k := 1) (nx := 16) rfl sh_33 rfl ?_
      refine x_st rfl ?_
      obtain ⟨i1, hx, hi, h⟩ := h
      refine x_ia (i := i1) (nx := 18) rfl sh_35 hx hi (by decide) ?_
      refine x_st rfl ?_
      refine x_ret rfl ?_
      exact ⟨_, _, rfl, h⟩
theorem EX1_taleByte {D : Nat} {Q : Option Value → mI → mJ → Prop}  {v1 : Int32} {MI : mI} {ML : mJ} (h : VX1_taleByte_0 D Q v1 MI ML) : ∃ v MI' ML', Q v MI' ML' ∧ mrc (D + 1) 34 [.ref 33, .int v1] MI ML v MI' ML' := by
  refine x_en (n := 0) (T := TX1_taleByte) rfl rfl ?_
  refine x_kl ?_ h
  exact ⟨Or.inr rfl, ⟨Or.inr rfl, True.intro⟩⟩
def VX2_add_0 (D : Nat) (Q : Option Value → mI → mJ → Prop)  (v1 : Int32) (v2 : Int32) (v3 : Int32) (MI : mI) (ML : mJ) : Prop := mEx (mrn D) TX2_add (mqS Q) (0, [some (.ref 39), some (.int v1), some (.int v2), some (.int v3)], [], (W0, Sh0, MI, ML))
def VX2_add_13 (D : Nat) (Q : Option Value → mI → mJ → Prop)  (v1 : Int32) (v2 : Int32) (v3 : Int32) (MI : mI) (ML : mJ) : Prop := mEx (mrn D) TX2_add (mqS Q) (13, [some (.ref 39), some (.int v1), some (.int v2), some (.int v3)], [], (W0, Sh0, MI, ML))
theorem BX2_add_0 {D : Nat} {Q : Option Value → mI → mJ → Prop}  {v1 : Int32} {v2 : Int32} {v3 : Int32} {MI : mI} {ML : mJ} 
    (h : ((MI 39 3) < (nI 40) → VX2_add_13 D Q v1 v2 v3 MI ML) ∧ (¬ (MI 39 3) < (nI 40) → ∃ (M1 : mI) (N2 : mJ), mrc D 40 [.ref 39] MI ML none M1 N2 ∧ (VX2_add_13 D Q v1 v2 v3 M1 N2))) :
    VX2_add_0 D Q v1 v2 v3 MI ML := by
  show mEx (mrn D) TX2_add (mqS Q) (0, [some (.ref 39), some (.int v1), some (.int v2), some (.int v3)], [], (W0, Sh0, MI, ML))
  refine x_st rfl ?_
  refine x_gi (ci := 2) (k := 3) (nx := 4) rfl sh_39 rfl ?_
  refine x_st rfl ?_
  refine x_br rfl (fun c => ?_) (fun c => ?_)
  · replace h := h.1 c
    refine x_kl ?_ h
    exact ⟨Or.inr rfl, ⟨Or.inr rfl, ⟨Or.inr rfl, ⟨Or.inr rfl, True.intro⟩⟩⟩⟩
  · replace h := h.2 c
    refine x_st rfl ?_
    obtain ⟨M1, N2, hc, h⟩ := h
    refine x_vv (y := 40) (n := 0) (ci := 2) (nx := 13) rfl (fun _ => rfl) sh_39 rfl hc ?_
    refine x_kl ?_ h
    exact ⟨Or.inr rfl, ⟨Or.inr rfl, ⟨Or.inr rfl, ⟨Or.inr rfl, True.intro⟩⟩⟩⟩
theorem BX2_add_13 {D : Nat} {Q : Option Value → mI → mJ → Prop}  {v1 : Int32} {v2 : Int32} {v3 : Int32} {MI : mI} {ML : mJ} 
    (h : ∃ i1 : Nat, (MI 39 3) = nI i1 ∧ i1 < 40 ∧ (∃ i2 : Nat, ((mup MI 40 (mput (MI 40) i1 v1)) 39 3) = nI i2 ∧ i2 < 40 ∧ (∃ i3 : Nat, ((mup (mup MI 40 (mput (MI 40) i1 v1)) 41 (mput ((mup MI 40 (mput (MI 40) i1 v1)) 41) i2 v2)) 39 3) = nI i3 ∧ i3 < 40 ∧ (Q none (mup (mup (mup (mup (mup MI 40 (mput (MI 40) i1 v1)) 41 (mput ((mup MI 40 (mput (MI 40) i1 v1)) 41) i2 v2)) 42 (mput ((mup (mup MI 40 (mput (MI 40) i1 v1)) 41 (mput ((mup MI 40 (mput (MI 40) i1 v1)) 41) i2 v2)) 42) i3 v3)) 39 (mput ((mup (mup (mup MI 40 (mput (MI 40) i1 v1)) 41 (mput ((mup MI 40 (mput (MI 40) i1 v1)) 41) i2 v2)) 42 (mput ((mup (mup MI 40 (mput (MI 40) i1 v1)) 41 (mput ((mup MI 40 (mput (MI 40) i1 v1)) 41) i2 v2)) 42) i3 v3)) 39) 3 (((mup (mup (mup MI 40 (mput (MI 40) i1 v1)) 41 (mput ((mup MI 40 (mput (MI 40) i1 v1)) 41) i2 v2)) 42 (mput ((mup (mup MI 40 (mput (MI 40) i1 v1)) 41 (mput ((mup MI 40 (mput (MI 40) i1 v1)) 41) i2 v2)) 42) i3 v3)) 39 3) + (nI 1)))) 39 (mput ((mup (mup (mup (mup MI 40 (mput (MI 40) i1 v1)) 41 (mput ((mup MI 40 (mput (MI 40) i1 v1)) 41) i2 v2)) 42 (mput ((mup (mup MI 40 (mput (MI 40) i1 v1)) 41 (mput ((mup MI 40 (mput (MI 40) i1 v1)) 41) i2 v2)) 42) i3 v3)) 39 (mput ((mup (mup (mup MI 40 (mput (MI 40) i1 v1)) 41 (mput ((mup MI 40 (mput (MI 40) i1 v1)) 41) i2 v2)) 42 (mput ((mup (mup MI 40 (mput (MI 40) i1 v1)) 41 (mput ((mup MI 40 (mput (MI 40) i1 v1)) 41) i2 v2)) 42) i3 v3)) 39) 3 (((mup (mup (mup MI 40 (mput (MI 40) i1 v1)) 41 (mput ((mup MI 40 (mput (MI 40) i1 v1)) 41) i2 v2)) 42 (mput ((mup (mup MI 40 (mput (MI 40) i1 v1)) 41 (mput ((mup MI 40 (mput (MI 40) i1 v1)) 41) i2 v2)) 42) i3 v3)) 39 3) + (nI 1)))) 39) 4 ((mup (mup (mup (mup MI 40 (mput (MI 40) i1 v1)) 41 (mput ((mup MI 40 (mput (MI 40) i1 v1)) 41) i2 v2)) 42 (mput ((mup (mup MI 40 (mput (MI 40) i1 v1)) 41 (mput ((mup MI 40 (mput (MI 40) i1 v1)) 41) i2 v2)) 42) i3 v3)) 39 (mput ((mup (mup (mup MI 40 (mput (MI 40) i1 v1)) 41 (mput ((mup MI 40 (mput (MI 40) i1 v1)) 41) i2 v2)) 42 (mput ((mup (mup MI 40 (mput (MI 40) i1 v1)) 41 (mput ((mup MI 40 (mput (MI 40) i1 v1)) 41) i2 v2)) 42) i3 v3)) 39) 3 (((mup (mup (mup MI 40 (mput (MI 40) i1 v1)) 41 (mput ((mup MI 40 (mput (MI 40) i1 v1)) 41) i2 v2)) 42 (mput ((mup (mup MI 40 (mput (MI 40) i1 v1)) 41 (mput ((mup MI 40 (mput (MI 40) i1 v1)) 41) i2 v2)) 42) i3 v3)) 39 3) + (nI 1)))) 39 3))) ML)))) :
    VX2_add_13 D Q v1 v2 v3 MI ML := by
  show mEx (mrn D) TX2_add (mqS Q) (13, [some (.ref 39), some (.int v1), some (.int v2), some (.int v3)], [], (W0, Sh0, MI, ML))
  refine x_st rfl ?_
  refine x_gr (ci := 2) (k := 0) (nx := 17) rfl sh_39 rfl ?_
  refine x_st rfl ?_
  refine x_gi (ci := 2) (k := 3) (nx := 21) rfl sh_39 rfl ?_
  refine x_st rfl ?_
  obtain ⟨i1, hx, hi, h⟩ := h
  refine x_iast (i := i1) (nx := 23) rfl sh_40 hx hi (by decide) ?_
  refine x_st rfl ?_
  refine x_gr (ci := 2) (k := 1) (nx := 27) rfl sh_39 rfl ?_
  refine x_st rfl ?_
  refine x_gi (ci := 2) (k := 3) (nx := 31) rfl sh_39 rfl ?_
  refine x_st rfl ?_
  obtain ⟨i2, hx, hi, h⟩ := h
  refine x_iast (i := i2) (nx := 33) rfl sh_41 hx hi (by decide) ?_
  refine x_st rfl ?_
  refine x_gr (ci := 2) (k := 2) (nx := 37) rfl sh_39 rfl ?_
  refine x_st rfl ?_
  refine x_gi (ci := 2) (k := 3) (nx := 41) rfl sh_39 rfl ?_
  refine x_st rfl ?_
  obtain ⟨i3, hx, hi, h⟩ := h
  refine x_iast (i := i3) (nx := 43) rfl sh_42 hx hi (by decide) ?_
  refine x_st rfl ?_
  refine x_st rfl ?_
  refine x_gi (ci := 2) (k := 3) (nx := 48) rfl sh_39 rfl ?_
  refine x_st rfl ?_
  refine x_st rfl ?_
  refine x_pi (ci := 2) (k := 3) (nx := 53) rfl sh_39 rfl ?_
  refine x_st rfl ?_
  refine x_st rfl ?_
  refine x_gi (ci := 2) (k := 3) (nx := 58) rfl sh_39 rfl ?_
  refine x_pi (ci := 2) (k := 4) (nx := 61) rfl sh_39 rfl ?_
  refine x_ret rfl ?_
  exact ⟨_, _, rfl, h⟩
theorem EX2_add {D : Nat} {Q : Option Value → mI → mJ → Prop}  {v1 : Int32} {v2 : Int32} {v3 : Int32} {MI : mI} {ML : mJ} (h : VX2_add_0 D Q v1 v2 v3 MI ML) : ∃ v MI' ML', Q v MI' ML' ∧ mrc (D + 1) 39 [.ref 39, .int v1, .int v2, .int v3] MI ML v MI' ML' := by
  refine x_en (n := 0) (T := TX2_add) rfl rfl ?_
  refine x_kl ?_ h
  exact ⟨Or.inr rfl, ⟨Or.inr rfl, ⟨Or.inr rfl, ⟨Or.inr rfl, True.intro⟩⟩⟩⟩
def VX2_forgetFirst_0 (D : Nat) (Q : Option Value → mI → mJ → Prop)  (MI : mI) (ML : mJ) : Prop := mEx (mrn D) TX2_forgetFirst (mqS Q) (0, [some (.ref 39)], [], (W0, Sh0, MI, ML))
theorem BX2_forgetFirst_0 {D : Nat} {Q : Option Value → mI → mJ → Prop}  {MI : mI} {ML : mJ} 
    (h : ∃ i1 i2 i3 : Nat, (nI 1) = nI i1 ∧ (nI 0) = nI i2 ∧ (nI 39) = nI i3 ∧ i1 + i3 ≤ 40 ∧ i2 + i3 ≤ 40 ∧ (∃ i4 i5 i6 : Nat, (nI 1) = nI i4 ∧ (nI 0) = nI i5 ∧ (nI 39) = nI i6 ∧ i4 + i6 ≤ 40 ∧ i5 + i6 ≤ 40 ∧ (∃ i7 i8 i9 : Nat, (nI 1) = nI i7 ∧ (nI 0) = nI i8 ∧ (nI 39) = nI i9 ∧ i7 + i9 ≤ 40 ∧ i8 + i9 ≤ 40 ∧ (Q none (mup (mup (mup (mup MI 40 (va_cpy (MI 40) (MI 40) i1 i2 i3)) 41 (va_cpy ((mup MI 40 (va_cpy (MI 40) (MI 40) i1 i2 i3)) 41) ((mup MI 40 (va_cpy (MI 40) (MI 40) i1 i2 i3)) 41) i4 i5 i6)) 42 (va_cpy ((mup (mup MI 40 (va_cpy (MI 40) (MI 40) i1 i2 i3)) 41 (va_cpy ((mup MI 40 (va_cpy (MI 40) (MI 40) i1 i2 i3)) 41) ((mup MI 40 (va_cpy (MI 40) (MI 40) i1 i2 i3)) 41) i4 i5 i6)) 42) ((mup (mup MI 40 (va_cpy (MI 40) (MI 40) i1 i2 i3)) 41 (va_cpy ((mup MI 40 (va_cpy (MI 40) (MI 40) i1 i2 i3)) 41) ((mup MI 40 (va_cpy (MI 40) (MI 40) i1 i2 i3)) 41) i4 i5 i6)) 42) i7 i8 i9)) 39 (mput ((mup (mup (mup MI 40 (va_cpy (MI 40) (MI 40) i1 i2 i3)) 41 (va_cpy ((mup MI 40 (va_cpy (MI 40) (MI 40) i1 i2 i3)) 41) ((mup MI 40 (va_cpy (MI 40) (MI 40) i1 i2 i3)) 41) i4 i5 i6)) 42 (va_cpy ((mup (mup MI 40 (va_cpy (MI 40) (MI 40) i1 i2 i3)) 41 (va_cpy ((mup MI 40 (va_cpy (MI 40) (MI 40) i1 i2 i3)) 41) ((mup MI 40 (va_cpy (MI 40) (MI 40) i1 i2 i3)) 41) i4 i5 i6)) 42) ((mup (mup MI 40 (va_cpy (MI 40) (MI 40) i1 i2 i3)) 41 (va_cpy ((mup MI 40 (va_cpy (MI 40) (MI 40) i1 i2 i3)) 41) ((mup MI 40 (va_cpy (MI 40) (MI 40) i1 i2 i3)) 41) i4 i5 i6)) 42) i7 i8 i9)) 39) 3 (nI 39))) ML)))) :
    VX2_forgetFirst_0 D Q  MI ML := by
  show mEx (mrn D) TX2_forgetFirst (mqS Q) (0, [some (.ref 39)], [], (W0, Sh0, MI, ML))
  refine x_st rfl ?_
  refine x_gr (ci := 2) (k := 0) (nx := 4) rfl sh_39 rfl ?_
  refine x_st rfl ?_
  refine x_st rfl ?_
  refine x_gr (ci := 2) (k := 0) (nx := 9) rfl sh_39 rfl ?_
  refine x_st rfl ?_
  refine x_st rfl ?_
  obtain ⟨i1, i2, i3, e1, e2, e3, e4, e5, h⟩ := h
  refine x_cpi (nx := 15) rfl sh_40 sh_40 e1 e2 e3 e4 e5 (by decide) (by decide) rfl ?_
  refine x_st rfl ?_
  refine x_gr (ci := 2) (k := 1) (nx := 19) rfl sh_39 rfl ?_
  refine x_st rfl ?_
  refine x_st rfl ?_
  refine x_gr (ci := 2) (k := 1) (nx := 24) rfl sh_39 rfl ?_
  refine x_st rfl ?_
  refine x_st rfl ?_
  obtain ⟨i4, i5, i6, e1, e2, e3, e4, e5, h⟩ := h
  refine x_cpi (nx := 30) rfl sh_41 sh_41 e1 e2 e3 e4 e5 (by decide) (by decide) rfl ?_
  refine x_st rfl ?_
  refine x_gr (ci := 2) (k := 2) (nx := 34) rfl sh_39 rfl ?_
  refine x_st rfl ?_
  refine x_st rfl ?_
  refine x_gr (ci := 2) (k := 2) (nx := 39) rfl sh_39 rfl ?_
  refine x_st rfl ?_
  refine x_st rfl ?_
  obtain ⟨i7, i8, i9, e1, e2, e3, e4, e5, h⟩ := h
  refine x_cpi (nx := 45) rfl sh_42 sh_42 e1 e2 e3 e4 e5 (by decide) (by decide) rfl ?_
  refine x_st rfl ?_
  refine x_st rfl ?_
  refine x_pi (ci := 2) (k := 3) (nx := 51) rfl sh_39 rfl ?_
  refine x_ret rfl ?_
  exact ⟨_, _, rfl, h⟩
theorem EX2_forgetFirst {D : Nat} {Q : Option Value → mI → mJ → Prop}  {MI : mI} {ML : mJ} (h : VX2_forgetFirst_0 D Q  MI ML) : ∃ v MI' ML', Q v MI' ML' ∧ mrc (D + 1) 40 [.ref 39] MI ML v MI' ML' := by
  refine x_en (n := 0) (T := TX2_forgetFirst) rfl rfl ?_
  refine x_kl ?_ h
  exact ⟨Or.inr rfl, True.intro⟩
def VX2_undoable_0 (D : Nat) (Q : Option Value → mI → mJ → Prop)  (MI : mI) (ML : mJ) : Prop := mEx (mrn D) TX2_undoable (mqS Q) (0, [some (.ref 39)], [], (W0, Sh0, MI, ML))
theorem BX2_undoable_0 {D : Nat} {Q : Option Value → mI → mJ → Prop}  {MI : mI} {ML : mJ} 
    (h : Q (some (.int (MI 39 3))) MI ML) :
    VX2_undoable_0 D Q  MI ML := by
  show mEx (mrn D) TX2_undoable (mqS Q) (0, [some (.ref 39)], [], (W0, Sh0, MI, ML))
  refine x_st rfl ?_
  refine x_gi (ci := 2) (k := 3) (nx := 4) rfl sh_39 rfl ?_
  refine x_ret rfl ?_
  exact ⟨_, _, rfl, h⟩
theorem EX2_undoable {D : Nat} {Q : Option Value → mI → mJ → Prop}  {MI : mI} {ML : mJ} (h : VX2_undoable_0 D Q  MI ML) : ∃ v MI' ML', Q v MI' ML' ∧ mrc (D + 1) 41 [.ref 39] MI ML v MI' ML' := by
  refine x_en (n := 0) (T := TX2_undoable) rfl rfl ?_
  refine x_kl ?_ h
  exact ⟨Or.inr rfl, True.intro⟩
def VX3_become_0 (D : Nat) (Q : Option Value → mI → mJ → Prop)  (MI : mI) (ML : mJ) : Prop := mEx (mrn D) TX3_become (mqS Q) (0, [some (.ref 6), some (.ref 3)], [], (W0, Sh0, MI, ML))
theorem BX3_become_0 {D : Nat} {Q : Option Value → mI → mJ → Prop}  {MI : mI} {ML : mJ} 
    (h : ∃ i1 i2 i3 : Nat, (nI 0) = nI i1 ∧ (nI 0) = nI i2 ∧ ((mup MI 6 (mput (MI 6) 1 (if (nI 161) < (MI 3 1) then (nI 161) else (MI 3 1)))) 6 1) = nI i3 ∧ i1 + i3 ≤ 161 ∧ i2 + i3 ≤ 161 ∧ (Q none (mup (mup MI 6 (mput (MI 6) 1 (if (nI 161) < (MI 3 1) then (nI 161) else (MI 3 1)))) 7 (va_cpy ((mup MI 6 (mput (MI 6) 1 (if (nI 161) < (MI 3 1) then (nI 161) else (MI 3 1)))) 4) ((mup MI 6 (mput (MI 6) 1 (if (nI 161) < (MI 3 1) then (nI 161) else (MI 3 1)))) 7) i1 i2 i3)) ML)) :
    VX3_become_0 D Q  MI ML := by
  show mEx (mrn D) TX3_become (mqS Q) (0, [some (.ref 6), some (.ref 3)], [], (W0, Sh0, MI, ML))
  refine x_st rfl ?_
  refine x_st rfl ?_
  refine x_gi (ci := 4) (k := 1) (nx := 5) rfl sh_3 rfl ?_
  refine x_st rfl ?_
  refine x_gr (ci := 3) (k := 0) (nx := 9) rfl sh_6 rfl ?_
  refine x_alen (nx := 10) rfl sh_7 ?_
  refine x_st rfl ?_
  refine x_pi (ci := 3) (k := 1) (nx := 16) rfl sh_6 rfl ?_
  refine x_st rfl ?_
  refine x_gr (ci := 4) (k := 0) (nx := 20) rfl sh_3 rfl ?_
  refine x_st rfl ?_
  refine x_st rfl ?_
  refine x_gr (ci := 3) (k := 0) (nx := 25) rfl sh_6 rfl ?_
  refine x_st rfl ?_
  refine x_st rfl ?_
  refine x_gi (ci := 3) (k := 1) (nx := 30) rfl sh_6 rfl ?_
  obtain ⟨i1, i2, i3, e1, e2, e3, e4, e5, h⟩ := h
  refine x_cpi (nx := 33) rfl sh_4 sh_7 e1 e2 e3 e4 e5 (by decide) (by decide) rfl ?_
  refine x_ret rfl ?_
  exact ⟨_, _, rfl, h⟩
theorem EX3_become {D : Nat} {Q : Option Value → mI → mJ → Prop}  {MI : mI} {ML : mJ} (h : VX3_become_0 D Q  MI ML) : ∃ v MI' ML', Q v MI' ML' ∧ mrc (D + 1) 46 [.ref 6, .ref 3] MI ML v MI' ML' := by
  refine x_en (n := 0) (T := TX3_become) rfl rfl ?_
  refine x_kl ?_ h
  exact ⟨Or.inr rfl, ⟨Or.inr rfl, True.intro⟩⟩
def VX3_setWords_0 (D : Nat) (Q : Option Value → mI → mJ → Prop)  (v1 : Int32) (v2 : Int32) (v3 : Int32) (v4 : Int32) (v5 : Int32) (MI : mI) (ML : mJ) : Prop := mEx (mrn D) TX3_setWords (mqS Q) (0, [some (.ref 6), some (.int v1), some (.int v2), some (.int v3), some (.int v4), some (.int v5)], [], (W0, Sh0, MI, ML))
theorem BX3_setWords_0 {D : Nat} {Q : Option Value → mI → mJ → Prop}  {v1 : Int32} {v2 : Int32} {v3 : Int32} {v4 : Int32} {v5 : Int32} {MI : mI} {ML : mJ} 
    (h : Q none (mup (mup (mup (mup (mup MI 8 (mput (MI 8) 1 v1)) 8 (mput ((mup MI 8 (mput (MI 8) 1 v1)) 8) 2 v2)) 8 (mput ((mup (mup MI 8 (mput (MI 8) 1 v1)) 8 (mput ((mup MI 8 (mput (MI 8) 1 v1)) 8) 2 v2)) 8) 3 v3)) 8 (mput ((mup (mup (mup MI 8 (mput (MI 8) 1 v1)) 8 (mput ((mup MI 8 (mput (MI 8) 1 v1)) 8) 2 v2)) 8 (mput ((mup (mup MI 8 (mput (MI 8) 1 v1)) 8 (mput ((mup MI 8 (mput (MI 8) 1 v1)) 8) 2 v2)) 8) 3 v3)) 8) 4 v4)) 8 (mput ((mup (mup (mup (mup MI 8 (mput (MI 8) 1 v1)) 8 (mput ((mup MI 8 (mput (MI 8) 1 v1)) 8) 2 v2)) 8 (mput ((mup (mup MI 8 (mput (MI 8) 1 v1)) 8 (mput ((mup MI 8 (mput (MI 8) 1 v1)) 8) 2 v2)) 8) 3 v3)) 8 (mput ((mup (mup (mup MI 8 (mput (MI 8) 1 v1)) 8 (mput ((mup MI 8 (mput (MI 8) 1 v1)) 8) 2 v2)) 8 (mput ((mup (mup MI 8 (mput (MI 8) 1 v1)) 8 (mput ((mup MI 8 (mput (MI 8) 1 v1)) 8) 2 v2)) 8) 3 v3)) 8) 4 v4)) 8) 5 v5)) ML) :
    VX3_setWords_0 D Q v1 v2 v3 v4 v5 MI ML := by
  show mEx (mrn D) TX3_setWords (mqS Q) (0, [some (.ref 6), some (.int v1), some (.int v2), some (.int v3), some (.int v4), some (.int v5)], [], (W0, Sh0, MI, ML))
  refine x_st rfl ?_
  refine x_gr (ci := 3) (k := 2) (nx := 4) rfl sh_6 rfl ?_
  refine x_st rfl ?_
  refine x_st rfl ?_
  refine x_iast (i := 1) (nx := 7) rfl sh_8 rfl (by decide) (by decide) ?_
  refine x_st rfl ?_
  refine x_gr (ci := 3) (k := 2) (nx := 11) rfl sh_6 rfl ?_
  refine x_st rfl ?_
  refine x_st rfl ?_
  refine x_iast (i := 2) (nx := 14) rfl sh_8 rfl (by decide) (by decide) ?_
  refine x_st rfl ?_
  refine x_gr (ci := 3) (k := 2) (nx := 18) rfl sh_6 rfl ?_
  refine x_st rfl ?_
  refine x_st rfl ?_
  refine x_iast (i := 3) (nx := 21) rfl sh_8 rfl (by decide) (by decide) ?_
  refine x_st rfl ?_
  refine x_gr (ci := 3) (k := 2) (nx := 25) rfl sh_6 rfl ?_
  refine x_st rfl ?_
  refine x_st rfl ?_
  refine x_iast (i := 4) (nx := 29) rfl sh_8 rfl (by decide) (by decide) ?_
  refine x_st rfl ?_
  refine x_gr (ci := 3) (k := 2) (nx := 33) rfl sh_6 rfl ?_
  refine x_st rfl ?_
  refine x_st rfl ?_
  refine x_iast (i := 5) (nx := 37) rfl sh_8 rfl (by decide) (by decide) ?_
  refine x_ret rfl ?_
  exact ⟨_, _, rfl, h⟩
theorem EX3_setWords {D : Nat} {Q : Option Value → mI → mJ → Prop}  {v1 : Int32} {v2 : Int32} {v3 : Int32} {v4 : Int32} {v5 : Int32} {MI : mI} {ML : mJ} (h : VX3_setWords_0 D Q v1 v2 v3 v4 v5 MI ML) : ∃ v MI' ML', Q v MI' ML' ∧ mrc (D + 1) 47 [.ref 6, .int v1, .int v2, .int v3, .int v4, .int v5] MI ML v MI' ML' := by
  refine x_en (n := 0) (T := TX3_setWords) rfl rfl ?_
  refine x_kl ?_ h
  exact ⟨Or.inr rfl, ⟨Or.inr rfl, ⟨Or.inr rfl, ⟨Or.inr rfl, ⟨Or.inr rfl, ⟨Or.inr rfl, True.intro⟩⟩⟩⟩⟩⟩
def VX3_weighedOut_0 (D : Nat) (Q : Option Value → mI → mJ → Prop)  (v1 : Int32) (MI : mI) (ML : mJ) : Prop := mEx (mrn D) TX3_weighedOut (mqS Q) (0, [some (.ref 6), some (.int v1), none, none, none, none], [], (W0, Sh0, MI, ML))
def VX3_weighedOut_36 (D : Nat) (Q : Option Value → mI → mJ → Prop)  (v2 : Int32) (v3 : Int32) (v4 : Int32) (MI : mI) (ML : mJ) : Prop := mEx (mrn D) TX3_weighedOut (mqS Q) (36, [some (.ref 6), none, some (.int v2), some (.int v3), some (.int v4), none], [], (W0, Sh0, MI, ML))
theorem BX3_weighedOut_0 {D : Nat} {Q : Option Value → mI → mJ → Prop}  {v1 : Int32} {MI : mI} {ML : mJ} 
    (h : ((MI 6 1) = nI 0 → ∃ (x3 : Int32) (M1 : mI) (N2 : mJ), mrc D 49 [.int (((nI 8) + (MI 8 3)) - v1)] MI ML (some (.int x3)) M1 N2 ∧ (Q (some (.int x3)) M1 N2)) ∧ (¬ (MI 6 1) = nI 0 → VX3_weighedOut_36 D Q (-1 : Int32) (nI 1) (nI 0) (mup MI 8 (mput (MI 8) 0 v1)) ML)) :
    VX3_weighedOut_0 D Q v1 MI ML := by
  show mEx (mrn D) TX3_weighedOut (mqS Q) (0, [some (.ref 6), some (.int v1), none, none, none, none], [], (W0, Sh0, MI, ML))
  refine x_st rfl ?_
  refine x_gi (ci := 3) (k := 1) (nx := 4) rfl sh_6 rfl ?_
  refine x_br rfl (fun c => ?_) (fun c => ?_)
  · replace h := h.1 c
    refine x_st rfl ?_
    refine x_st rfl ?_
    refine x_gr (ci := 3) (k := 2) (nx := 13) rfl sh_6 rfl ?_
    refine x_st rfl ?_
    refine x_ia (i := 3) (nx := 15) rfl sh_8 rfl (by decide) (by decide) ?_
    refine x_st rfl ?_
    refine x_st rfl ?_
    refine x_st rfl ?_
    obtain ⟨x3, M1, N2, hc, h⟩ := h
    refine x_ci rfl hc ?_
    refine x_ret rfl ?_
    exact ⟨_, _, rfl, h⟩
  · replace h := h.2 c
    refine x_st rfl ?_
    refine x_gr (ci := 3) (k := 2) (nx := 26) rfl sh_6 rfl ?_
    refine x_st rfl ?_
    refine x_st rfl ?_
    refine x_iast (i := 0) (nx := 29) rfl sh_8 rfl (by decide) (by decide) ?_
    refine x_st rfl ?_
    refine x_st rfl ?_
    refine x_st rfl ?_
    refine x_st rfl ?_
    refine x_st rfl ?_
    refine x_st rfl ?_
    refine x_kl ?_ h
    exact ⟨Or.inr rfl, ⟨Or.inl rfl, ⟨Or.inr rfl, ⟨Or.inr rfl, ⟨Or.inr rfl, ⟨Or.inl rfl, True.intro⟩⟩⟩⟩⟩⟩
theorem BX3_weighedOut_36 {D : Nat} {Q : Option Value → mI → mJ → Prop}  {v2 : Int32} {v3 : Int32} {v4 : Int32} {MI : mI} {ML : mJ} 
    (h : ((MI 6 1) ≤ v4 → Q (some (.int (nI 0))) MI ML) ∧ (¬ (MI 6 1) ≤ v4 → ∃ i1 : Nat, v4 = nI i1 ∧ i1 < 161 ∧ (((MI 7 i1) < (-6 : Int32) → (nI 0 ≤ v2 → ((MI 7 i1) = (-59 : Int32) → (v3 = nI 0 → VX3_weighedOut_36 D Q (v2 + (-1 : Int32)) (nI 1) (v4 + (nI 1)) MI ML) ∧ (¬ v3 = nI 0 → ∃ i2 : Nat, v2 = nI i2 ∧ i2 < 40 ∧ (∃ (x5 : Int32) (M3 : mI) (N4 : mJ), mrc D 49 [.int (MI 9 i2)] MI ML (some (.int x5)) M3 N4 ∧ (Q (some (.int x5)) M3 N4)))) ∧ (¬ (MI 7 i1) = (-59 : Int32) → ((MI 7 i1) = (-63 : Int32) → ∃ i6 : Nat, v2 = nI i6 ∧ i6 < 40 ∧ (((MI 9 i6) = nI 0 → VX3_weighedOut_36 D Q (v2 + (-1 : Int32)) (nI 0) (v4 + (nI 1)) MI ML) ∧ (¬ (MI 9 i6) = nI 0 → VX3_weighedOut_36 D Q (v2 + (-1 : Int32)) (nI 1) (v4 + (nI 1)) MI ML))) ∧ (¬ (MI 7 i1) = (-63 : Int32) → ((MI 7 i1) = (-126 : Int32) → ∃ i7 : Nat, v2 = nI i7 ∧ i7 < 40 ∧ (∃ i8 : Nat, v2 = nI i8 ∧ i8 < 40 ∧ (VX3_weighedOut_36 D Q v2 v3 (v4 + (nI 1)) (mup MI 9 (mput (MI 9) i8 (-(MI 9 i7)))) ML))) ∧ (¬ (MI 7 i1) = (-126 : Int32) → ((MI 7 i1) = (-33 : Int32) → ∃ i9 : Nat, v2 = nI i9 ∧ i9 < 40 ∧ (((MI 9 i9) = nI 0 → ∃ i10 : Nat, v2 = nI i10 ∧ i10 < 40 ∧ (VX3_weighedOut_36 D Q v2 v3 (v4 + (nI 1)) (mup MI 9 (mput (MI 9) i10 (nI 1))) ML)) ∧ (¬ (MI 9 i9) = nI 0 → ∃ i11 : Nat, v2 = nI i11 ∧ i11 < 40 ∧ (VX3_weighedOut_36 D Q v2 v3 (v4 + (nI 1)) (mup MI 9 (mput (MI 9) i11 (nI 0))) ML)))) ∧ (¬ (MI 7 i1) = (-33 : Int32) → (v2 < (nI 1) → VX3_weighedOut_36 D Q v2 v3 (v4 + (nI 1)) MI ML) ∧ (¬ v2 < (nI 1) → ∃ i12 : Nat, (v2 + (-1 : Int32)) = nI i12 ∧ i12 < 40 ∧ (∃ i13 : Nat, ((v2 + (-1 : Int32)) + (nI 1)) = nI i13 ∧ i13 < 40 ∧ (∃ (x16 : Int32) (M14 : mI) (N15 : mJ), mrc D 50 [.int (-(MI 7 i1)), .int (MI 9 i12), .int (MI 9 i13)] MI ML (some (.int x16)) M14 N15 ∧ (∃ i17 : Nat, (v2 + (-1 : Int32)) = nI i17 ∧ i17 < 40 ∧ (VX3_weighedOut_36 D Q (v2 + (-1 : Int32)) v3 (v4 + (nI 1)) (mup M14 9 (mput (M14 9) i17 x16)) N15)))))))))) ∧ (¬ nI 0 ≤ v2 → Q (some (.int (nI 0))) MI ML)) ∧ (¬ (MI 7 i1) < (-6 : Int32) → (v2 < (nI 39) → ((MI 7 i1) < nI 0 → ∃ i18 : Nat, ((-1 : Int32) - (MI 7 i1)) = nI i18 ∧ i18 < 6 ∧ (∃ i19 : Nat, (v2 + (nI 1)) = nI i19 ∧ i19 < 40 ∧ (VX3_weighedOut_36 D Q (v2 + (nI 1)) v3 (v4 + (nI 1)) (mup MI 9 (mput (MI 9) i19 (MI 8 i18))) ML))) ∧ (¬ (MI 7 i1) < nI 0 → ∃ i20 : Nat, (v2 + (nI 1)) = nI i20 ∧ i20 < 40 ∧ (VX3_weighedOut_36 D Q (v2 + (nI 1)) v3 (v4 + (nI 1)) (mup MI 9 (mput (MI 9) i20 (MI 7 i1))) ML))) ∧ (¬ v2 < (nI 39) → Q (some (.int (nI 0))) MI ML))))) :
    VX3_weighedOut_36 D Q v2 v3 v4 MI ML := by
  show mEx (mrn D) TX3_weighedOut (mqS Q) (36, [some (.ref 6), none, some (.int v2), some (.int v3), some (.int v4), none], [], (W0, Sh0, MI, ML))
  refine x_st rfl ?_
  refine x_st rfl ?_
  refine x_gi (ci := 3) (k := 1) (nx := 42) rfl sh_6 rfl ?_
  refine x_br rfl (fun c => ?_) (fun c => ?_)
  · replace h := h.1 c
    refine x_st rfl ?_
    refine x_ret rfl ?_
    exact ⟨_, _, rfl, h⟩
  · replace h := h.2 c
    refine x_st rfl ?_
    refine x_gr (ci := 3) (k := 0) (nx := 49) rfl sh_6 rfl ?_
    refine x_st rfl ?_
    obtain ⟨i1, hx, hi, h⟩ := h
    refine x_ia (i := i1) (nx := 52) rfl sh_7 hx hi (by decide) ?_
    refine x_st rfl ?_
    refine x_st rfl ?_
    refine x_st rfl ?_
    refine x_br rfl (fun c => ?_) (fun c => ?_)
    · replace h := h.1 c
      refine x_st rfl ?_
      refine x_br rfl (fun c => ?_) (fun c => ?_)
      · replace h := h.1 c
        refine x_st rfl ?_
        refine x_st rfl ?_
        refine x_br rfl (fun c => ?_) (fun c => ?_)
        · replace h := h.1 c
          refine x_st rfl ?_
          refine x_br rfl (fun c => ?_) (fun c => ?_)
          · replace h := h.1 c
            refine x_st rfl ?_
            refine x_st rfl ?_
            refine x_st rfl ?_
            refine x_st rfl ?_
            refine x_st rfl ?_
            refine x_st rfl ?_
            refine x_kl ?_ h
            exact ⟨Or.inr rfl, ⟨Or.inl rfl, ⟨Or.inr rfl, ⟨Or.inr rfl, ⟨Or.inr rfl, ⟨Or.inl rfl, True.intro⟩⟩⟩⟩⟩⟩
          · replace h := h.2 c
            refine x_st rfl ?_
            refine x_gr (ci := 3) (k := 3) (nx := 121) rfl sh_6 rfl ?_
            refine x_st rfl ?_
            obtain ⟨i2, hx, hi, h⟩ := h
            refine x_ia (i := i2) (nx := 123) rfl sh_9 hx hi (by decide) ?_
            obtain ⟨x5, M3, N4, hc, h⟩ := h
            refine x_ci rfl hc ?_
            refine x_ret rfl ?_
            exact ⟨_, _, rfl, h⟩
        · replace h := h.2 c
          refine x_st rfl ?_
          refine x_st rfl ?_
          refine x_br rfl (fun c => ?_) (fun c => ?_)
          · replace h := h.1 c
            refine x_st rfl ?_
            refine x_gr (ci := 3) (k := 3) (nx := 146) rfl sh_6 rfl ?_
            refine x_st rfl ?_
            obtain ⟨i6, hx, hi, h⟩ := h
            refine x_ia (i := i6) (nx := 148) rfl sh_9 hx hi (by decide) ?_
            refine x_br rfl (fun c => ?_) (fun c => ?_)
            · replace h := h.1 c
              refine x_st rfl ?_
              refine x_st rfl ?_
              refine x_st rfl ?_
              refine x_st rfl ?_
              refine x_st rfl ?_
              refine x_st rfl ?_
              refine x_kl ?_ h
              exact ⟨Or.inr rfl, ⟨Or.inl rfl, ⟨Or.inr rfl, ⟨Or.inr rfl, ⟨Or.inr rfl, ⟨Or.inl rfl, True.intro⟩⟩⟩⟩⟩⟩
            · replace h := h.2 c
              refine x_st rfl ?_
              refine x_st rfl ?_
              refine x_st rfl ?_
              refine x_st rfl ?_
              refine x_st rfl ?_
              refine x_st rfl ?_
              refine x_st rfl ?_
              refine x_kl ?_ h
              exact ⟨Or.inr rfl, ⟨Or.inl rfl, ⟨Or.inr rfl, ⟨Or.inr rfl, ⟨Or.inr rfl, ⟨Or.inl rfl, True.intro⟩⟩⟩⟩⟩⟩
          · replace h := h.2 c
            refine x_st rfl ?_
            refine x_st rfl ?_
            refine x_br rfl (fun c => ?_) (fun c => ?_)
            · replace h := h.1 c
              refine x_st rfl ?_
              refine x_gr (ci := 3) (k := 3) (nx := 174) rfl sh_6 rfl ?_
              refine x_st rfl ?_
              refine x_st rfl ?_
              refine x_gr (ci := 3) (k := 3) (nx := 179) rfl sh_6 rfl ?_
              refine x_st rfl ?_
              obtain ⟨i7, hx, hi, h⟩ := h
              refine x_ia (i := i7) (nx := 181) rfl sh_9 hx hi (by decide) ?_
              refine x_st rfl ?_
              obtain ⟨i8, hx, hi, h⟩ := h
              refine x_iast (i := i8) (nx := 183) rfl sh_9 hx hi (by decide) ?_
              refine x_st rfl ?_
              refine x_st rfl ?_
              refine x_st rfl ?_
              refine x_kl ?_ h
              exact ⟨Or.inr rfl, ⟨Or.inl rfl, ⟨Or.inr rfl, ⟨Or.inr rfl, ⟨Or.inr rfl, ⟨Or.inl rfl, True.intro⟩⟩⟩⟩⟩⟩
            · replace h := h.2 c
              refine x_st rfl ?_
              refine x_st rfl ?_
              refine x_br rfl (fun c => ?_) (fun c => ?_)
              · replace h := h.1 c
                refine x_st rfl ?_
                refine x_gr (ci := 3) (k := 3) (nx := 197) rfl sh_6 rfl ?_
                refine x_st rfl ?_
                refine x_st rfl ?_
                refine x_gr (ci := 3) (k := 3) (nx := 202) rfl sh_6 rfl ?_
                refine x_st rfl ?_
                obtain ⟨i9, hx, hi, h⟩ := h
                refine x_ia (i := i9) (nx := 204) rfl sh_9 hx hi (by decide) ?_
                refine x_br rfl (fun c => ?_) (fun c => ?_)
                · replace h := h.1 c
                  refine x_st rfl ?_
                  refine x_st rfl ?_
                  obtain ⟨i10, hx, hi, h⟩ := h
                  refine x_iast (i := i10) (nx := 213) rfl sh_9 hx hi (by decide) ?_
                  refine x_st rfl ?_
                  refine x_st rfl ?_
                  refine x_st rfl ?_
                  refine x_kl ?_ h
                  exact ⟨Or.inr rfl, ⟨Or.inl rfl, ⟨Or.inr rfl, ⟨Or.inr rfl, ⟨Or.inr rfl, ⟨Or.inl rfl, True.intro⟩⟩⟩⟩⟩⟩
                · replace h := h.2 c
                  refine x_st rfl ?_
                  obtain ⟨i11, hx, hi, h⟩ := h
                  refine x_iast (i := i11) (nx := 213) rfl sh_9 hx hi (by decide) ?_
                  refine x_st rfl ?_
                  refine x_st rfl ?_
                  refine x_st rfl ?_
                  refine x_kl ?_ h
                  exact ⟨Or.inr rfl, ⟨Or.inl rfl, ⟨Or.inr rfl, ⟨Or.inr rfl, ⟨Or.inr rfl, ⟨Or.inl rfl, True.intro⟩⟩⟩⟩⟩⟩
              · replace h := h.2 c
                refine x_st rfl ?_
                refine x_st rfl ?_
                refine x_br rfl (fun c => ?_) (fun c => ?_)
                · replace h := h.1 c
                  refine x_st rfl ?_
                  refine x_st rfl ?_
                  refine x_kl ?_ h
                  exact ⟨Or.inr rfl, ⟨Or.inl rfl, ⟨Or.inr rfl, ⟨Or.inr rfl, ⟨Or.inr rfl, ⟨Or.inl rfl, True.intro⟩⟩⟩⟩⟩⟩
                · replace h := h.2 c
                  refine x_st rfl ?_
                  refine x_st rfl ?_
                  refine x_gr (ci := 3) (k := 3) (nx := 228) rfl sh_6 rfl ?_
                  refine x_st rfl ?_
                  refine x_st rfl ?_
                  refine x_st rfl ?_
                  refine x_st rfl ?_
                  refine x_gr (ci := 3) (k := 3) (nx := 236) rfl sh_6 rfl ?_
                  refine x_st rfl ?_
                  obtain ⟨i12, hx, hi, h⟩ := h
                  refine x_ia (i := i12) (nx := 238) rfl sh_9 hx hi (by decide) ?_
                  refine x_st rfl ?_
                  refine x_gr (ci := 3) (k := 3) (nx := 242) rfl sh_6 rfl ?_
                  refine x_st rfl ?_
                  refine x_st rfl ?_
                  refine x_st rfl ?_
                  obtain ⟨i13, hx, hi, h⟩ := h
                  refine x_ia (i := i13) (nx := 246) rfl sh_9 hx hi (by decide) ?_
                  obtain ⟨x16, M14, N15, hc, h⟩ := h
                  refine x_ci rfl hc ?_
                  obtain ⟨i17, hx, hi, h⟩ := h
                  refine x_iast (i := i17) (nx := 250) rfl sh_9 hx hi (by decide) ?_
                  refine x_st rfl ?_
                  refine x_st rfl ?_
                  refine x_kl ?_ h
                  exact ⟨Or.inr rfl, ⟨Or.inl rfl, ⟨Or.inr rfl, ⟨Or.inr rfl, ⟨Or.inr rfl, ⟨Or.inl rfl, True.intro⟩⟩⟩⟩⟩⟩
      · replace h := h.2 c
        refine x_st rfl ?_
        refine x_ret rfl ?_
        exact ⟨_, _, rfl, h⟩
    · replace h := h.2 c
      refine x_st rfl ?_
      refine x_st rfl ?_
      refine x_br rfl (fun c => ?_) (fun c => ?_)
      · replace h := h.1 c
        refine x_st rfl ?_
        refine x_st rfl ?_
        refine x_gr (ci := 3) (k := 3) (nx := 76) rfl sh_6 rfl ?_
        refine x_st rfl ?_
        refine x_st rfl ?_
        refine x_br rfl (fun c => ?_) (fun c => ?_)
        · replace h := h.1 c
          refine x_st rfl ?_
          refine x_gr (ci := 3) (k := 2) (nx := 91) rfl sh_6 rfl ?_
          refine x_st rfl ?_
          refine x_st rfl ?_
          refine x_st rfl ?_
          obtain ⟨i18, hx, hi, h⟩ := h
          refine x_ia (i := i18) (nx := 96) rfl sh_8 hx hi (by decide) ?_
          obtain ⟨i19, hx, hi, h⟩ := h
          refine x_iast (i := i19) (nx := 97) rfl sh_9 hx hi (by decide) ?_
          refine x_st rfl ?_
          refine x_st rfl ?_
          refine x_st rfl ?_
          refine x_kl ?_ h
          exact ⟨Or.inr rfl, ⟨Or.inl rfl, ⟨Or.inr rfl, ⟨Or.inr rfl, ⟨Or.inr rfl, ⟨Or.inl rfl, True.intro⟩⟩⟩⟩⟩⟩
        · replace h := h.2 c
          refine x_st rfl ?_
          refine x_st rfl ?_
          obtain ⟨i20, hx, hi, h⟩ := h
          refine x_iast (i := i20) (nx := 97) rfl sh_9 hx hi (by decide) ?_
          refine x_st rfl ?_
          refine x_st rfl ?_
          refine x_st rfl ?_
          refine x_kl ?_ h
          exact ⟨Or.inr rfl, ⟨Or.inl rfl, ⟨Or.inr rfl, ⟨Or.inr rfl, ⟨Or.inr rfl, ⟨Or.inl rfl, True.intro⟩⟩⟩⟩⟩⟩
      · replace h := h.2 c
        refine x_st rfl ?_
        refine x_ret rfl ?_
        exact ⟨_, _, rfl, h⟩
theorem EX3_weighedOut {D : Nat} {Q : Option Value → mI → mJ → Prop}  {v1 : Int32} {MI : mI} {ML : mJ} (h : VX3_weighedOut_0 D Q v1 MI ML) : ∃ v MI' ML', Q v MI' ML' ∧ mrc (D + 1) 48 [.ref 6, .int v1] MI ML v MI' ML' := by
  refine x_en (n := 4) (T := TX3_weighedOut) rfl rfl ?_
  refine x_kl ?_ h
  exact ⟨Or.inr rfl, ⟨Or.inr rfl, ⟨Or.inl rfl, ⟨Or.inl rfl, ⟨Or.inl rfl, ⟨Or.inl rfl, True.intro⟩⟩⟩⟩⟩⟩
