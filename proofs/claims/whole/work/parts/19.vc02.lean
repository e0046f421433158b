/-! bodies by blocks -/
def VX4_isWord_0 (D : Nat) (Q : Option Value → mI → mJ → Prop) (q : UInt32) (v2 : Int32) (MI : mI) (ML : mJ) : Prop := mEx D TX4_isWord (mqS Q) (0, [some (.ref 3), some (.float q), some (.int v2), none, none], [], (W0, Sh0, MI, ML))
def VX4_isWord_17 (D : Nat) (Q : Option Value → mI → mJ → Prop) (q : UInt32) (v3 : Int32) (MI : mI) (ML : mJ) : Prop := mEx D TX4_isWord (mqS Q) (17, [some (.ref 3), some (.float q), none, some (.int v3), none], [], (W0, Sh0, MI, ML))
theorem BX4_isWord_0 {D : Nat} {Q : Option Value → mI → mJ → Prop} {q : UInt32} {v2 : Int32} {MI : mI} {ML : mJ} 
    (h : ∃ j1 m2 : Nat, (q : UInt32).toNat = 10 + j1 ∧ mstl[j1]? = some m2 ∧ (((v2 - (MI 3 4)) = (nI m2) → VX4_isWord_17 D Q q (nI 0) MI ML) ∧ (¬ (v2 - (MI 3 4)) = (nI m2) → Q (some (.int (nI 0))) MI ML))) :
    VX4_isWord_0 D Q q v2 MI ML := by
  show mEx D TX4_isWord (mqS Q) (0, [some (.ref 3), some (.float q), some (.int v2), none, none], [], (W0, Sh0, MI, ML))
  refine x_st rfl ?_
  refine x_st rfl ?_
  refine x_gi (ci := 4) (k := 4) (nx := 5) rfl sh_3 rfl ?_
  refine x_st rfl ?_
  refine x_st rfl ?_
  obtain ⟨j1, m2, hq, hm, h⟩ := h
  refine x_slen (nx := 10) rfl hq hm rfl ?_
  refine x_br rfl (fun c => ?_) (fun c => ?_)
  · replace h := h.1 c
    refine x_st rfl ?_
    refine x_st rfl ?_
    refine x_kl ?_ h
    exact ⟨Or.inr rfl, ⟨Or.inr rfl, ⟨Or.inl rfl, ⟨Or.inr rfl, ⟨Or.inl rfl, True.intro⟩⟩⟩⟩⟩
  · replace h := h.2 c
    refine x_st rfl ?_
    refine x_ret rfl ?_
    exact ⟨_, _, rfl, h⟩
theorem BX4_isWord_17 {D : Nat} {Q : Option Value → mI → mJ → Prop} {q : UInt32} {v3 : Int32} {MI : mI} {ML : mJ} 
    (h : ∃ j1 m2 : Nat, (q : UInt32).toNat = 10 + j1 ∧ mstl[j1]? = some m2 ∧ (((nI m2) ≤ v3 → Q (some (.int (nI 1))) MI ML) ∧ (¬ (nI m2) ≤ v3 → (((MI 3 4) + v3) < nI 0 → Q (some (.int (nI 0))) MI ML) ∧ (¬ ((MI 3 4) + v3) < nI 0 → ((nI 160) ≤ ((MI 3 4) + v3) → Q (some (.int (nI 0))) MI ML) ∧ (¬ (nI 160) ≤ ((MI 3 4) + v3) → ∃ i3 : Nat, ((MI 3 4) + v3) = nI i3 ∧ i3 < 160 ∧ (∃ (j4 : Nat) (b5 : List Int32) (i6 : Nat), (q : UInt32).toNat = 10 + j4 ∧ mstb[j4]? = some b5 ∧ v3 = nI i6 ∧ i6 < b5.length ∧ b5.length < 10001 ∧ (((MI 5 i3) = (b5.getD i6 0) → VX4_isWord_17 D Q q (v3 + (nI 1)) MI ML) ∧ (¬ (MI 5 i3) = (b5.getD i6 0) → Q (some (.int (nI 0))) MI ML)))))))) :
    VX4_isWord_17 D Q q v3 MI ML := by
  show mEx D TX4_isWord (mqS Q) (17, [some (.ref 3), some (.float q), none, some (.int v3), none], [], (W0, Sh0, MI, ML))
  refine x_st rfl ?_
  refine x_st rfl ?_
  obtain ⟨j1, m2, hq, hm, h⟩ := h
  refine x_slen (nx := 22) rfl hq hm rfl ?_
  refine x_br rfl (fun c => ?_) (fun c => ?_)
  · replace h := h.1 c
    refine x_st rfl ?_
    refine x_ret rfl ?_
    exact ⟨_, _, rfl, h⟩
  · replace h := h.2 c
    refine x_st rfl ?_
    refine x_gi (ci := 4) (k := 4) (nx := 29) rfl sh_3 rfl ?_
    refine x_st rfl ?_
    refine x_st rfl ?_
    refine x_st rfl ?_
    refine x_st rfl ?_
    refine x_br rfl (fun c => ?_) (fun c => ?_)
    · replace h := h.1 c
      refine x_st rfl ?_
      refine x_ret rfl ?_
      exact ⟨_, _, rfl, h⟩
    · replace h := h.2 c
      refine x_st rfl ?_
      refine x_st rfl ?_
      refine x_br rfl (fun c => ?_) (fun c => ?_)
      · replace h := h.1 c
        refine x_st rfl ?_
        refine x_ret rfl ?_
        exact ⟨_, _, rfl, h⟩
      · replace h := h.2 c
        refine x_st rfl ?_
        refine x_gr (ci := 4) (k := 2) (nx := 50) rfl sh_3 rfl ?_
        refine x_st rfl ?_
        obtain ⟨i3, hx, hi, h⟩ := h
        refine x_ia (i := i3) (nx := 53) rfl sh_5 hx hi (by decide) ?_
        refine x_st rfl ?_
        refine x_st rfl ?_
        obtain ⟨j4, b5, i6, hq, hm, hx, hi, hl, h⟩ := h
        refine x_sat (nx := 58) rfl hq hm rfl hx hi hl ?_
        refine x_br rfl (fun c => ?_) (fun c => ?_)
        · replace h := h.1 c
          refine x_st rfl ?_
          refine x_st rfl ?_
          refine x_kl ?_ h
          exact ⟨Or.inr rfl, ⟨Or.inr rfl, ⟨Or.inl rfl, ⟨Or.inr rfl, ⟨Or.inl rfl, True.intro⟩⟩⟩⟩⟩
        · replace h := h.2 c
          refine x_st rfl ?_
          refine x_ret rfl ?_
          exact ⟨_, _, rfl, h⟩
theorem EX4_isWord {D : Nat} {Q : Option Value → mI → mJ → Prop} {q : UInt32} {v2 : Int32} {MI : mI} {ML : mJ} (h : VX4_isWord_0 D Q q v2 MI ML) : ∃ v MI' ML', Q v MI' ML' ∧ mrc (D + 1) 63 [.ref 3, .float q, .int v2] MI ML v MI' ML' := by
  refine x_en (n := 2) (T := TX4_isWord) rfl rfl ?_
  refine x_kl ?_ h
  exact ⟨Or.inr rfl, ⟨Or.inr rfl, ⟨Or.inr rfl, ⟨Or.inl rfl, ⟨Or.inl rfl, True.intro⟩⟩⟩⟩⟩
def VX4_wordOf_0 (D : Nat) (Q : Option Value → mI → mJ → Prop)  (v0 : Int32) (MI : mI) (ML : mJ) : Prop := mEx D TX4_wordOf (mqS Q) (0, [some (.int v0)], [], (W0, Sh0, MI, ML))
theorem BX4_wordOf_0 {D : Nat} {Q : Option Value → mI → mJ → Prop}  {v0 : Int32} {MI : mI} {ML : mJ} 
    (h : (v0 = (nI 0) → Q (some (.float 10)) MI ML) ∧ (¬ v0 = (nI 0) → (v0 = (nI 1) → Q (some (.float 11)) MI ML) ∧ (¬ v0 = (nI 1) → (v0 = (nI 2) → Q (some (.float 12)) MI ML) ∧ (¬ v0 = (nI 2) → (v0 = (nI 3) → Q (some (.float 13)) MI ML) ∧ (¬ v0 = (nI 3) → (v0 = (nI 4) → Q (some (.float 14)) MI ML) ∧ (¬ v0 = (nI 4) → Q (some (.float 15)) MI ML)))))) :
    VX4_wordOf_0 D Q v0 MI ML := by
  show mEx D TX4_wordOf (mqS Q) (0, [some (.int v0)], [], (W0, Sh0, MI, ML))
  refine x_st rfl ?_
  refine x_sw rfl ?_
  refine ⟨fun c => ?_, fun c => ?_⟩
  · replace h := h.1 c
    refine x_st rfl ?_
    refine x_ret rfl ?_
    exact ⟨_, _, rfl, h⟩
  · replace h := h.2 c
    refine ⟨fun c => ?_, fun c => ?_⟩
    · replace h := h.1 c
      refine x_st rfl ?_
      refine x_ret rfl ?_
      exact ⟨_, _, rfl, h⟩
    · replace h := h.2 c
      refine ⟨fun c => ?_, fun c => ?_⟩
      · replace h := h.1 c
        refine x_st rfl ?_
        refine x_ret rfl ?_
        exact ⟨_, _, rfl, h⟩
      · replace h := h.2 c
        refine ⟨fun c => ?_, fun c => ?_⟩
        · replace h := h.1 c
          refine x_st rfl ?_
          refine x_ret rfl ?_
          exact ⟨_, _, rfl, h⟩
        · replace h := h.2 c
          refine ⟨fun c => ?_, fun c => ?_⟩
          · replace h := h.1 c
            refine x_st rfl ?_
            refine x_ret rfl ?_
            exact ⟨_, _, rfl, h⟩
          · replace h := h.2 c
            refine x_st rfl ?_
            refine x_ret rfl ?_
            exact ⟨_, _, rfl, h⟩
theorem EX4_wordOf {D : Nat} {Q : Option Value → mI → mJ → Prop}  {v0 : Int32} {MI : mI} {ML : mJ} (h : VX4_wordOf_0 D Q v0 MI ML) : ∃ v MI' ML', Q v MI' ML' ∧ mrc (D + 1) 64 [.int v0] MI ML v MI' ML' := by
  refine x_en (n := 0) (T := TX4_wordOf) rfl rfl ?_
  refine x_kl ?_ h
  exact ⟨Or.inr rfl, True.intro⟩
def VX4_isDigit_0 (D : Nat) (Q : Option Value → mI → mJ → Prop)  (v0 : Int32) (MI : mI) (ML : mJ) : Prop := mEx D TX4_isDigit (mqS Q) (0, [some (.int v0)], [], (W0, Sh0, MI, ML))
theorem BX4_isDigit_0 {D : Nat} {Q : Option Value → mI → mJ → Prop}  {v0 : Int32} {MI : mI} {ML : mJ} 
    (h : (v0 < (nI 48) → Q (some (.int (nI 0))) MI ML) ∧ (¬ v0 < (nI 48) → ((nI 57) < v0 → Q (some (.int (nI 0))) MI ML) ∧ (¬ (nI 57) < v0 → Q (some (.int (nI 1))) MI ML))) :
    VX4_isDigit_0 D Q v0 MI ML := by
  show mEx D TX4_isDigit (mqS Q) (0, [some (.int v0)], [], (W0, Sh0, MI, ML))
  refine x_st rfl ?_
  refine x_st rfl ?_
  refine x_br rfl (fun c => ?_) (fun c => ?_)
  · replace h := h.1 c
    refine x_st rfl ?_
    refine x_ret rfl ?_
    exact ⟨_, _, rfl, h⟩
  · replace h := h.2 c
    refine x_st rfl ?_
    refine x_st rfl ?_
    refine x_br rfl (fun c => ?_) (fun c => ?_)
    · replace h := h.1 c
      refine x_st rfl ?_
      refine x_ret rfl ?_
      exact ⟨_, _, rfl, h⟩
    · replace h := h.2 c
      refine x_st rfl ?_
      refine x_st rfl ?_
      refine x_ret rfl ?_
      exact ⟨_, _, rfl, h⟩
theorem EX4_isDigit {D : Nat} {Q : Option Value → mI → mJ → Prop}  {v0 : Int32} {MI : mI} {ML : mJ} (h : VX4_isDigit_0 D Q v0 MI ML) : ∃ v MI' ML', Q v MI' ML' ∧ mrc (D + 1) 65 [.int v0] MI ML v MI' ML' := by
  refine x_en (n := 0) (T := TX4_isDigit) rfl rfl ?_
  refine x_kl ?_ h
  exact ⟨Or.inr rfl, True.intro⟩
def VX4_next_0 (D : Nat) (Q : Option Value → mI → mJ → Prop)  (MI : mI) (ML : mJ) : Prop := mEx D TX4_next (mqS Q) (0, [some (.ref 3)], [], (W0, Sh0, MI, ML))
theorem BX4_next_0 {D : Nat} {Q : Option Value → mI → mJ → Prop}  {MI : mI} {ML : mJ} 
    (h : ((MI 3 4) < nI 0 → Q (some (.int (-1 : Int32))) MI ML) ∧ (¬ (MI 3 4) < nI 0 → ((MI 3 3) ≤ (MI 3 4) → Q (some (.int (-1 : Int32))) MI ML) ∧ (¬ (MI 3 3) ≤ (MI 3 4) → ((nI 160) ≤ (MI 3 4) → Q (some (.int (-1 : Int32))) MI ML) ∧ (¬ (nI 160) ≤ (MI 3 4) → ∃ i1 : Nat, (MI 3 4) = nI i1 ∧ i1 < 160 ∧ (Q (some (.int (MI 5 i1))) MI ML))))) :
    VX4_next_0 D Q  MI ML := by
  show mEx D TX4_next (mqS Q) (0, [some (.ref 3)], [], (W0, Sh0, MI, ML))
  refine x_st rfl ?_
  refine x_gi (ci := 4) (k := 4) (nx := 4) rfl sh_3 rfl ?_
  refine x_br rfl (fun c => ?_) (fun c => ?_)
  · replace h := h.1 c
    refine x_st rfl ?_
    refine x_ret rfl ?_
    exact ⟨_, _, rfl, h⟩
  · replace h := h.2 c
    refine x_st rfl ?_
    refine x_gi (ci := 4) (k := 4) (nx := 11) rfl sh_3 rfl ?_
    refine x_st rfl ?_
    refine x_gi (ci := 4) (k := 3) (nx := 15) rfl sh_3 rfl ?_
    refine x_br rfl (fun c => ?_) (fun c => ?_)
    · replace h := h.1 c
      refine x_st rfl ?_
      refine x_ret rfl ?_
      exact ⟨_, _, rfl, h⟩
    · replace h := h.2 c
      refine x_st rfl ?_
      refine x_gi (ci := 4) (k := 4) (nx := 22) rfl sh_3 rfl ?_
      refine x_st rfl ?_
      refine x_br rfl (fun c => ?_) (fun c => ?_)
      · replace h := h.1 c
        refine x_st rfl ?_
        refine x_ret rfl ?_
        exact ⟨_, _, rfl, h⟩
      · replace h := h.2 c
        refine x_st rfl ?_
        refine x_gr (ci := 4) (k := 2) (nx := 32) rfl sh_3 rfl ?_
        refine x_st rfl ?_
        refine x_gi (ci := 4) (k := 4) (nx := 36) rfl sh_3 rfl ?_
        obtain ⟨i1, hx, hi, h⟩ := h
        refine x_ia (i := i1) (nx := 37) rfl sh_5 hx hi (by decide) ?_
        refine x_st rfl ?_
        refine x_ret rfl ?_
        exact ⟨_, _, rfl, h⟩
theorem EX4_next {D : Nat} {Q : Option Value → mI → mJ → Prop}  {MI : mI} {ML : mJ} (h : VX4_next_0 D Q  MI ML) : ∃ v MI' ML', Q v MI' ML' ∧ mrc (D + 1) 66 [.ref 3] MI ML v MI' ML' := by
  refine x_en (n := 0) (T := TX4_next) rfl rfl ?_
  refine x_kl ?_ h
  exact ⟨Or.inr rfl, True.intro⟩
def VX4_write_0 (D : Nat) (Q : Option Value → mI → mJ → Prop)  (v1 : Int32) (MI : mI) (ML : mJ) : Prop := mEx D TX4_write (mqS Q) (0, [some (.ref 3), some (.int v1)], [], (W0, Sh0, MI, ML))
theorem BX4_write_0 {D : Nat} {Q : Option Value → mI → mJ → Prop}  {v1 : Int32} {MI : mI} {ML : mJ} 
    (h : ((nI 161) ≤ (MI 3 1) → Q none MI ML) ∧ (¬ (nI 161) ≤ (MI 3 1) → ∃ i1 : Nat, (MI 3 1) = nI i1 ∧ i1 < 161 ∧ (Q none (mup (mup MI 4 (mput (MI 4) i1 v1)) 3 (mput ((mup MI 4 (mput (MI 4) i1 v1)) 3) 1 (((mup MI 4 (mput (MI 4) i1 v1)) 3 1) + (nI 1)))) ML))) :
    VX4_write_0 D Q v1 MI ML := by
  show mEx D TX4_write (mqS Q) (0, [some (.ref 3), some (.int v1)], [], (W0, Sh0, MI, ML))
  refine x_st rfl ?_
  refine x_gi (ci := 4) (k := 1) (nx := 4) rfl sh_3 rfl ?_
  refine x_st rfl ?_
  refine x_br rfl (fun c => ?_) (fun c => ?_)
  · replace h := h.1 c
    refine x_ret rfl ?_
    exact ⟨_, _, rfl, h⟩
  · replace h := h.2 c
    refine x_st rfl ?_
    refine x_gr (ci := 4) (k := 0) (nx := 14) rfl sh_3 rfl ?_
    refine x_st rfl ?_
    refine x_gi (ci := 4) (k := 1) (nx := 18) rfl sh_3 rfl ?_
    refine x_st rfl ?_
    obtain ⟨i1, hx, hi, h⟩ := h
    refine x_iast (i := i1) (nx := 20) rfl sh_4 hx hi (by decide) ?_
    refine x_st rfl ?_
    refine x_st rfl ?_
    refine x_gi (ci := 4) (k := 1) (nx := 25) rfl sh_3 rfl ?_
    refine x_st rfl ?_
    refine x_st rfl ?_
    refine x_pi (ci := 4) (k := 1) (nx := 30) rfl sh_3 rfl ?_
    refine x_ret rfl ?_
    exact ⟨_, _, rfl, h⟩
theorem EX4_write {D : Nat} {Q : Option Value → mI → mJ → Prop}  {v1 : Int32} {MI : mI} {ML : mJ} (h : VX4_write_0 D Q v1 MI ML) : ∃ v MI' ML', Q v MI' ML' ∧ mrc (D + 1) 67 [.ref 3, .int v1] MI ML v MI' ML' := by
  refine x_en (n := 0) (T := TX4_write) rfl rfl ?_
  refine x_kl ?_ h
  exact ⟨Or.inr rfl, ⟨Or.inr rfl, True.intro⟩⟩
def VX5_isKind_0 (D : Nat) (Q : Option Value → mI → mJ → Prop)  (v0 : Int32) (MI : mI) (ML : mJ) : Prop := mEx D TX5_isKind (mqS Q) (0, [some (.int v0)], [], (W0, Sh0, MI, ML))
theorem BX5_isKind_0 {D : Nat} {Q : Option Value → mI → mJ → Prop}  {v0 : Int32} {MI : mI} {ML : mJ} 
    (h : (v0 < nI 0 → Q (some (.int (nI 0))) MI ML) ∧ (¬ v0 < nI 0 → ((nI 8) ≤ v0 → Q (some (.int (nI 0))) MI ML) ∧ (¬ (nI 8) ≤ v0 → Q (some (.int (nI 1))) MI ML))) :
    VX5_isKind_0 D Q v0 MI ML := by
  show mEx D TX5_isKind (mqS Q) (0, [some (.int v0)], [], (W0, Sh0, MI, ML))
  refine x_st rfl ?_
  refine x_br rfl (fun c => ?_) (fun c => ?_)
  · replace h := h.1 c
    refine x_st rfl ?_
    refine x_ret rfl ?_
    exact ⟨_, _, rfl, h⟩
  · replace h := h.2 c
    refine x_st rfl ?_
    refine x_st rfl ?_
    refine x_br rfl (fun c => ?_) (fun c => ?_)
    · replace h := h.1 c
      refine x_st rfl ?_
      refine x_ret rfl ?_
      exact ⟨_, _, rfl, h⟩
    · replace h := h.2 c
      refine x_st rfl ?_
      refine x_st rfl ?_
      refine x_ret rfl ?_
      exact ⟨_, _, rfl, h⟩
theorem EX5_isKind {D : Nat} {Q : Option Value → mI → mJ → Prop}  {v0 : Int32} {MI : mI} {ML : mJ} (h : VX5_isKind_0 D Q v0 MI ML) : ∃ v MI' ML', Q v MI' ML' ∧ mrc (D + 1) 69 [.int v0] MI ML v MI' ML' := by
  refine x_en (n := 0) (T := TX5_isKind) rfl rfl ?_
  refine x_kl ?_ h
  exact ⟨Or.inr rfl, True.intro⟩
def VX5_isAct_0 (D : Nat) (Q : Option Value → mI → mJ → Prop)  (v0 : Int32) (MI : mI) (ML : mJ) : Prop := mEx D TX5_isAct (mqS Q) (0, [some (.int v0)], [], (W0, Sh0, MI, ML))
theorem BX5_isAct_0 {D : Nat} {Q : Option Value → mI → mJ → Prop}  {v0 : Int32} {MI : mI} {ML : mJ} 
    (h : (v0 < nI 0 → Q (some (.int (nI 0))) MI ML) ∧ (¬ v0 < nI 0 → ((nI 4) ≤ v0 → Q (some (.int (nI 0))) MI ML) ∧ (¬ (nI 4) ≤ v0 → Q (some (.int (nI 1))) MI ML))) :
    VX5_isAct_0 D Q v0 MI ML := by
  show mEx D TX5_isAct (mqS Q) (0, [some (.int v0)], [], (W0, Sh0, MI, ML))
  refine x_st rfl ?_
  refine x_br rfl (fun c => ?_) (fun c => ?_)
  · replace h := h.1 c
    refine x_st rfl ?_
    refine x_ret rfl ?_
    exact ⟨_, _, rfl, h⟩
  · replace h := h.2 c
    refine x_st rfl ?_
    refine x_st rfl ?_
    refine x_br rfl (fun c => ?_) (fun c => ?_)
    · replace h := h.1 c
      refine x_st rfl ?_
      refine x_ret rfl ?_
      exact ⟨_, _, rfl, h⟩
    · replace h := h.2 c
      refine x_st rfl ?_
      refine x_st rfl ?_
      refine x_ret rfl ?_
      exact ⟨_, _, rfl, h⟩
theorem EX5_isAct {D : Nat} {Q : Option Value → mI → mJ → Prop}  {v0 : Int32} {MI : mI} {ML : mJ} (h : VX5_isAct_0 D Q v0 MI ML) : ∃ v MI' ML', Q v MI' ML' ∧ mrc (D + 1) 70 [.int v0] MI ML v MI' ML' := by
  refine x_en (n := 0) (T := TX5_isAct) rfl rfl ?_
  refine x_kl ?_ h
  exact ⟨Or.inr rfl, True.intro⟩
def VX5_isUnder_0 (D : Nat) (Q : Option Value → mI → mJ → Prop)  (v0 : Int32) (v1 : Int32) (MI : mI) (ML : mJ) : Prop := mEx D TX5_isUnder (mqS Q) (0, [some (.int v0), some (.int v1), none, none], [], (W0, Sh0, MI, ML))
def VX5_isUnder_4 (D : Nat) (Q : Option Value → mI → mJ → Prop)  (v1 : Int32) (v2 : Int32) (v3 : Int32) (MI : mI) (ML : mJ) : Prop := mEx D TX5_isUnder (mqS Q) (4, [none, some (.int v1), some (.int v2), some (.int v3)], [], (W0, Sh0, MI, ML))
theorem BX5_isUnder_0 {D : Nat} {Q : Option Value → mI → mJ → Prop}  {v0 : Int32} {v1 : Int32} {MI : mI} {ML : mJ} 
    (h : VX5_isUnder_4 D Q v1 v0 (nI 0) MI ML) :
    VX5_isUnder_0 D Q v0 v1 MI ML := by
  show mEx D TX5_isUnder (mqS Q) (0, [some (.int v0), some (.int v1), none, none], [], (W0, Sh0, MI, ML))
  refine x_st rfl ?_
  refine x_st rfl ?_
  refine x_st rfl ?_
  refine x_st rfl ?_
  refine x_kl ?_ h
  exact ⟨Or.inl rfl, ⟨Or.inr rfl, ⟨Or.inr rfl, ⟨Or.inr rfl, True.intro⟩⟩⟩⟩
theorem BX5_isUnder_4 {D : Nat} {Q : Option Value → mI → mJ → Prop}  {v1 : Int32} {v2 : Int32} {v3 : Int32} {MI : mI} {ML : mJ} 
    (h : ((nI 8) ≤ v3 → Q (some (.int (nI 0))) MI ML) ∧ (¬ (nI 8) ≤ v3 → ∃ (x3 : Int32) (M1 : mI) (N2 : mJ), mrc D 69 [.int v2] MI ML (some (.int x3)) M1 N2 ∧ ((x3 = nI 0 → Q (some (.int (nI 0))) M1 N2) ∧ (¬ x3 = nI 0 → (v2 = v1 → Q (some (.int (nI 1))) M1 N2) ∧ (¬ v2 = v1 → ∃ i4 : Nat, v2 = nI i4 ∧ i4 < 8 ∧ (VX5_isUnder_4 D Q v1 (mtab2 i4) (v3 + (nI 1)) M1 N2)))))) :
    VX5_isUnder_4 D Q v1 v2 v3 MI ML := by
  show mEx D TX5_isUnder (mqS Q) (4, [none, some (.int v1), some (.int v2), some (.int v3)], [], (W0, Sh0, MI, ML))
  refine x_st rfl ?_
  refine x_st rfl ?_
  refine x_br rfl (fun c => ?_) (fun c => ?_)
  · replace h := h.1 c
    refine x_st rfl ?_
    refine x_ret rfl ?_
    exact ⟨_, _, rfl, h⟩
  · replace h := h.2 c
    refine x_st rfl ?_
    obtain ⟨x3, M1, N2, hc, h⟩ := h
    refine x_ci rfl hc ?_
    refine x_br rfl (fun c => ?_) (fun c => ?_)
    · replace h := h.1 c
      refine x_st rfl ?_
      refine x_ret rfl ?_
      exact ⟨_, _, rfl, h⟩
    · replace h := h.2 c
      refine x_st rfl ?_
      refine x_st rfl ?_
      refine x_br rfl (fun c => ?_) (fun c => ?_)
      · replace h := h.1 c
        refine x_st rfl ?_
        refine x_ret rfl ?_
        exact ⟨_, _, rfl, h⟩
      · replace h := h.2 c
        refine x_st rfl ?_
        refine x_st rfl ?_
        obtain ⟨i4, hx, hi, h⟩ := h
        refine x_tl (j := 2) (N := 8) (f := mtab2) (nx := 29) (i := i4) rfl hx hi (by decide) ?_
        refine x_st rfl ?_
        refine x_st rfl ?_
        refine x_st rfl ?_
        refine x_kl ?_ h
        exact ⟨Or.inl rfl, ⟨Or.inr rfl, ⟨Or.inr rfl, ⟨Or.inr rfl, True.intro⟩⟩⟩⟩
theorem EX5_isUnder {D : Nat} {Q : Option Value → mI → mJ → Prop}  {v0 : Int32} {v1 : Int32} {MI : mI} {ML : mJ} (h : VX5_isUnder_0 D Q v0 v1 MI ML) : ∃ v MI' ML', Q v MI' ML' ∧ mrc (D + 1) 71 [.int v0, .int v1] MI ML v MI' ML' := by
  refine x_en (n := 2) (T := TX5_isUnder) rfl rfl ?_
  refine x_kl ?_ h
  exact ⟨Or.inr rfl, ⟨Or.inr rfl, ⟨Or.inl rfl, ⟨Or.inl rfl, True.intro⟩⟩⟩⟩
def VX5_add_0 (D : Nat) (Q : Option Value → mI → mJ → Prop)  (v1 : Int32) (MI : mI) (ML : mJ) : Prop := mEx D TX5_add (mqS Q) (0, [some (.ref 43), some (.int v1)], [], (W0, Sh0, MI, ML))
theorem BX5_add_0 {D : Nat} {Q : Option Value → mI → mJ → Prop}  {v1 : Int32} {MI : mI} {ML : mJ} 
    (h : ((MI 43 1) < (nI 50) → ∃ i1 : Nat, (MI 43 1) = nI i1 ∧ i1 < 50 ∧ (Q (some (.int (((mup (mup MI 44 (mput (MI 44) i1 v1)) 43 (mput ((mup MI 44 (mput (MI 44) i1 v1)) 43) 1 (((mup MI 44 (mput (MI 44) i1 v1)) 43 1) + (nI 1)))) 43 1) - (nI 1)))) (mup (mup MI 44 (mput (MI 44) i1 v1)) 43 (mput ((mup MI 44 (mput (MI 44) i1 v1)) 43) 1 (((mup MI 44 (mput (MI 44) i1 v1)) 43 1) + (nI 1)))) ML)) ∧ (¬ (MI 43 1) < (nI 50) → Q (some (.int (-3 : Int32))) MI ML)) :
    VX5_add_0 D Q v1 MI ML := by
  show mEx D TX5_add (mqS Q) (0, [some (.ref 43), some (.int v1)], [], (W0, Sh0, MI, ML))
  refine x_st rfl ?_
  refine x_gi (ci := 5) (k := 1) (nx := 4) rfl sh_43 rfl ?_
  refine x_st rfl ?_
  refine x_br rfl (fun c => ?_) (fun c => ?_)
  · replace h := h.1 c
    refine x_st rfl ?_
    refine x_gr (ci := 5) (k := 0) (nx := 16) rfl sh_43 rfl ?_
    refine x_st rfl ?_
    refine x_gi (ci := 5) (k := 1) (nx := 20) rfl sh_43 rfl ?_
    refine x_st rfl ?_
    obtain ⟨i1, hx, hi, h⟩ := h
    refine x_iast (i := i1) (nx := 22) rfl sh_44 hx hi (by decide) ?_
    refine x_st rfl ?_
    refine x_st rfl ?_
    refine x_gi (ci := 5) (k := 1) (nx := 27) rfl sh_43 rfl ?_
    refine x_st rfl ?_
    refine x_st rfl ?_
    refine x_pi (ci := 5) (k := 1) (nx := 32) rfl sh_43 rfl ?_
    refine x_st rfl ?_
    refine x_gi (ci := 5) (k := 1) (nx := 36) rfl sh_43 rfl ?_
    refine x_st rfl ?_
    refine x_st rfl ?_
    refine x_ret rfl ?_
    exact ⟨_, _, rfl, h⟩
  · replace h := h.2 c
    refine x_st rfl ?_
    refine x_ret rfl ?_
    exact ⟨_, _, rfl, h⟩
theorem EX5_add {D : Nat} {Q : Option Value → mI → mJ → Prop}  {v1 : Int32} {MI : mI} {ML : mJ} (h : VX5_add_0 D Q v1 MI ML) : ∃ v MI' ML', Q v MI' ML' ∧ mrc (D + 1) 72 [.ref 43, .int v1] MI ML v MI' ML' := by
  refine x_en (n := 0) (T := TX5_add) rfl rfl ?_
  refine x_kl ?_ h
  exact ⟨Or.inr rfl, ⟨Or.inr rfl, True.intro⟩⟩
def VX5_has_0 (D : Nat) (Q : Option Value → mI → mJ → Prop)  (v1 : Int32) (MI : mI) (ML : mJ) : Prop := mEx D TX5_has (mqS Q) (0, [some (.ref 43), some (.int v1)], [], (W0, Sh0, MI, ML))
theorem BX5_has_0 {D : Nat} {Q : Option Value → mI → mJ → Prop}  {v1 : Int32} {MI : mI} {ML : mJ} 
    (h : (v1 < nI 0 → Q (some (.int (nI 0))) MI ML) ∧ (¬ v1 < nI 0 → ((MI 43 1) ≤ v1 → Q (some (.int (nI 0))) MI ML) ∧ (¬ (MI 43 1) ≤ v1 → Q (some (.int (nI 1))) MI ML))) :
    VX5_has_0 D Q v1 MI ML := by
  show mEx D TX5_has (mqS Q) (0, [some (.ref 43), some (.int v1)], [], (W0, Sh0, MI, ML))
  refine x_st rfl ?_
  refine x_br rfl (fun c => ?_) (fun c => ?_)
  · replace h := h.1 c
    refine x_st rfl ?_
    refine x_ret rfl ?_
    exact ⟨_, _, rfl, h⟩
  · replace h := h.2 c
    refine x_st rfl ?_
    refine x_st rfl ?_
    refine x_gi (ci := 5) (k := 1) (nx := 9) rfl sh_43 rfl ?_
    refine x_br rfl (fun c => ?_) (fun c => ?_)
    · replace h := h.1 c
      refine x_st rfl ?_
      refine x_ret rfl ?_
      exact ⟨_, _, rfl, h⟩
    · replace h := h.2 c
      refine x_st rfl ?_
      refine x_st rfl ?_
      refine x_ret rfl ?_
      exact ⟨_, _, rfl, h⟩
theorem EX5_has {D : Nat} {Q : Option Value → mI → mJ → Prop}  {v1 : Int32} {MI : mI} {ML : mJ} (h : VX5_has_0 D Q v1 MI ML) : ∃ v MI' ML', Q v MI' ML' ∧ mrc (D + 1) 73 [.ref 43, .int v1] MI ML v MI' ML' := by
  refine x_en (n := 0) (T := TX5_has) rfl rfl ?_
  refine x_kl ?_ h
  exact ⟨Or.inr rfl, ⟨Or.inr rfl, True.intro⟩⟩
def VX5_bodies_0 (D : Nat) (Q : Option Value → mI → mJ → Prop)  (MI : mI) (ML : mJ) : Prop := mEx D TX5_bodies (mqS Q) (0, [some (.ref 43)], [], (W0, Sh0, MI, ML))
theorem BX5_bodies_0 {D : Nat} {Q : Option Value → mI → mJ → Prop}  {MI : mI} {ML : mJ} 
    (h : Q (some (.int (MI 43 1))) MI ML) :
    VX5_bodies_0 D Q  MI ML := by
  show mEx D TX5_bodies (mqS Q) (0, [some (.ref 43)], [], (W0, Sh0, MI, ML))
  refine x_st rfl ?_
  refine x_gi (ci := 5) (k := 1) (nx := 4) rfl sh_43 rfl ?_
  refine x_ret rfl ?_
  exact ⟨_, _, rfl, h⟩
theorem EX5_bodies {D : Nat} {Q : Option Value → mI → mJ → Prop}  {MI : mI} {ML : mJ} (h : VX5_bodies_0 D Q  MI ML) : ∃ v MI' ML', Q v MI' ML' ∧ mrc (D + 1) 74 [.ref 43] MI ML v MI' ML' := by
  refine x_en (n := 0) (T := TX5_bodies) rfl rfl ?_
  refine x_kl ?_ h
  exact ⟨Or.inr rfl, True.intro⟩
def VX5_kindOf_0 (D : Nat) (Q : Option Value → mI → mJ → Prop)  (v1 : Int32) (MI : mI) (ML : mJ) : Prop := mEx D TX5_kindOf (mqS Q) (0, [some (.ref 43), some (.int v1)], [], (W0, Sh0, MI, ML))
theorem BX5_kindOf_0 {D : Nat} {Q : Option Value → mI → mJ → Prop}  {v1 : Int32} {MI : mI} {ML : mJ} 
    (h : ∃ (x3 : Int32) (M1 : mI) (N2 : mJ), mrc D 73 [.ref 43, .int v1] MI ML (some (.int x3)) M1 N2 ∧ ((x3 = nI 0 → Q (some (.int (-1 : Int32))) M1 N2) ∧ (¬ x3 = nI 0 → ∃ i4 : Nat, v1 = nI i4 ∧ i4 < 50 ∧ (Q (some (.int (M1 44 i4))) M1 N2)))) :
    VX5_kindOf_0 D Q v1 MI ML := by
  show mEx D TX5_kindOf (mqS Q) (0, [some (.ref 43), some (.int v1)], [], (W0, Sh0, MI, ML))
  refine x_st rfl ?_
  refine x_st rfl ?_
  obtain ⟨x3, M1, N2, hc, h⟩ := h
  refine x_vi (y := 73) (n := 1) (ci := 5) (nx := 5) rfl (fun _ => rfl) sh_43 rfl hc ?_
  refine x_br rfl (fun c => ?_) (fun c => ?_)
  · replace h := h.1 c
    refine x_st rfl ?_
    refine x_ret rfl ?_
    exact ⟨_, _, rfl, h⟩
  · replace h := h.2 c
    refine x_st rfl ?_
    refine x_gr (ci := 5) (k := 0) (nx := 12) rfl sh_43 rfl ?_
    refine x_st rfl ?_
    obtain ⟨i4, hx, hi, h⟩ := h
    refine x_ia (i := i4) (nx := 14) rfl sh_44 hx hi (by decide) ?_
    refine x_st rfl ?_
    refine x_ret rfl ?_
    exact ⟨_, _, rfl, h⟩
theorem EX5_kindOf {D : Nat} {Q : Option Value → mI → mJ → Prop}  {v1 : Int32} {MI : mI} {ML : mJ} (h : VX5_kindOf_0 D Q v1 MI ML) : ∃ v MI' ML', Q v MI' ML' ∧ mrc (D + 1) 75 [.ref 43, .int v1] MI ML v MI' ML' := by
  refine x_en (n := 0) (T := TX5_kindOf) rfl rfl ?_
  refine x_kl ?_ h
  exact ⟨Or.inr rfl, ⟨Or.inr rfl, True.intro⟩⟩
def VX5_forgetTrace_0 (D : Nat) (Q : Option Value → mI → mJ → Prop)  (MI : mI) (ML : mJ) : Prop := mEx D TX5_forgetTrace (mqS Q) (0, [some (.ref 43)], [], (W0, Sh0, MI, ML))
theorem BX5_forgetTrace_0 {D : Nat} {Q : Option Value → mI → mJ → Prop}  {MI : mI} {ML : mJ} 
    (h : Q none (mup MI 43 (mput (MI 43) 3 (nI 0))) ML) :
    VX5_forgetTrace_0 D Q  MI ML := by
  show mEx D TX5_forgetTrace (mqS Q) (0, [some (.ref 43)], [], (W0, Sh0, MI, ML))
  refine x_st rfl ?_
  refine x_st rfl ?_
  refine x_pi (ci := 5) (k := 3) (nx := 5) rfl sh_43 rfl ?_
  refine x_ret rfl ?_
  exact ⟨_, _, rfl, h⟩
theorem EX5_forgetTrace {D : Nat} {Q : Option Value → mI → mJ → Prop}  {MI : mI} {ML : mJ} (h : VX5_forgetTrace_0 D Q  MI ML) : ∃ v MI' ML', Q v MI' ML' ∧ mrc (D + 1) 76 [.ref 43] MI ML v MI' ML' := by
  refine x_en (n := 0) (T := TX5_forgetTrace) rfl rfl ?_
  refine x_kl ?_ h
  exact ⟨Or.inr rfl, True.intro⟩
def VX5_ran_0 (D : Nat) (Q : Option Value → mI → mJ → Prop)  (MI : mI) (ML : mJ) : Prop := mEx D TX5_ran (mqS Q) (0, [some (.ref 43)], [], (W0, Sh0, MI, ML))
theorem BX5_ran_0 {D : Nat} {Q : Option Value → mI → mJ → Prop}  {MI : mI} {ML : mJ} 
    (h : Q (some (.int (MI 43 3))) MI ML) :
    VX5_ran_0 D Q  MI ML := by
  show mEx D TX5_ran (mqS Q) (0, [some (.ref 43)], [], (W0, Sh0, MI, ML))
  refine x_st rfl ?_
  refine x_gi (ci := 5) (k := 3) (nx := 4) rfl sh_43 rfl ?_
  refine x_ret rfl ?_
  exact ⟨_, _, rfl, h⟩
theorem EX5_ran {D : Nat} {Q : Option Value → mI → mJ → Prop}  {MI : mI} {ML : mJ} (h : VX5_ran_0 D Q  MI ML) : ∃ v MI' ML', Q v MI' ML' ∧ mrc (D + 1) 77 [.ref 43] MI ML v MI' ML' := by
  refine x_en (n := 0) (T := TX5_ran) rfl rfl ?_
  refine x_kl ?_ h
  exact ⟨Or.inr rfl, True.intro⟩
def VX5_traced_0 (D : Nat) (Q : Option Value → mI → mJ → Prop)  (v1 : Int32) (MI : mI) (ML : mJ) : Prop := mEx D TX5_traced (mqS Q) (0, [some (.ref 43), some (.int v1)], [], (W0, Sh0, MI, ML))
theorem BX5_traced_0 {D : Nat} {Q : Option Value → mI → mJ → Prop}  {v1 : Int32} {MI : mI} {ML : mJ} 
    (h : (v1 < nI 0 → Q (some (.int (-1 : Int32))) MI ML) ∧ (¬ v1 < nI 0 → ((MI 43 3) ≤ v1 → Q (some (.int (-1 : Int32))) MI ML) ∧ (¬ (MI 43 3) ≤ v1 → ((nI 24) ≤ v1 → Q (some (.int (-1 : Int32))) MI ML) ∧ (¬ (nI 24) ≤ v1 → ∃ i1 : Nat, v1 = nI i1 ∧ i1 < 24 ∧ (Q (some (.int (MI 45 i1))) MI ML))))) :
    VX5_traced_0 D Q v1 MI ML := by
  show mEx D TX5_traced (mqS Q) (0, [some (.ref 43), some (.int v1)], [], (W0, Sh0, MI, ML))
  refine x_st rfl ?_
  refine x_br rfl (fun c => ?_) (fun c => ?_)
  · replace h := h.1 c
    refine x_st rfl ?_
    refine x_ret rfl ?_
    exact ⟨_, _, rfl, h⟩
  · replace h := h.2 c
    refine x_st rfl ?_
    refine x_st rfl ?_
    refine x_gi (ci := 5) (k := 3) (nx := 9) rfl sh_43 rfl ?_
    refine x_br rfl (fun c => ?_) (fun c => ?_)
    · replace h := h.1 c
      refine x_st rfl ?_
      refine x_ret rfl ?_
      exact ⟨_, _, rfl, h⟩
    · replace h := h.2 c
      refine x_st rfl ?_
      refine x_st rfl ?_
      refine x_br rfl (fun c => ?_) (fun c => ?_)
      · replace h := h.1 c
        refine x_st rfl ?_
        refine x_ret rfl ?_
        exact ⟨_, _, rfl, h⟩
      · replace h := h.2 c
        refine x_st rfl ?_
        refine x_gr (ci := 5) (k := 2) (nx := 22) rfl sh_43 rfl ?_
        refine x_st rfl ?_
        obtain ⟨i1, hx, hi, h⟩ := h
        refine x_ia (i := i1) (nx := 24) rfl sh_45 hx hi (by decide) ?_
        refine x_st rfl ?_
        refine x_ret rfl ?_
        exact ⟨_, _, rfl, h⟩
theorem EX5_traced {D : Nat} {Q : Option Value → mI → mJ → Prop}  {v1 : Int32} {MI : mI} {ML : mJ} (h : VX5_traced_0 D Q v1 MI ML) : ∃ v MI' ML', Q v MI' ML' ∧ mrc (D + 1) 78 [.ref 43, .int v1] MI ML v MI' ML' := by
  refine x_en (n := 0) (T := TX5_traced) rfl rfl ?_
  refine x_kl ?_ h
  exact ⟨Or.inr rfl, ⟨Or.inr rfl, True.intro⟩⟩
def VX5_perform_0 (D : Nat) (Q : Option Value → mI → mJ → Prop)  (v1 : Int32) (v2 : Int32) (v3 : Int32) (MI : mI) (ML : mJ) : Prop := mEx D TX5_perform (mqS Q) (0, [some (.ref 43), some (.int v1), some (.int v2), some (.int v3)], [], (W0, Sh0, MI, ML))
theorem BX5_perform_0 {D : Nat} {Q : Option Value → mI → mJ → Prop}  {v1 : Int32} {v2 : Int32} {v3 : Int32} {MI : mI} {ML : mJ} 
    (h : ∃ (x3 : Int32) (M1 : mI) (N2 : mJ), mrc D 73 [.ref 43, .int v1] MI ML (some (.int x3)) M1 N2 ∧ ((x3 = nI 0 → Q (some (.int (nI 0))) M1 N2) ∧ (¬ x3 = nI 0 → ∃ (x6 : Int32) (M4 : mI) (N5 : mJ), mrc D 70 [.int v2] M1 N2 (some (.int x6)) M4 N5 ∧ ((x6 = nI 0 → Q (some (.int (nI 0))) M4 N5) ∧ (¬ x6 = nI 0 → ∃ (x9 : Int32) (M7 : mI) (N8 : mJ), mrc D 75 [.ref 43, .int v1] M4 N5 (some (.int x9)) M7 N8 ∧ (∃ (x12 : Int32) (M10 : mI) (N11 : mJ), mrc D 80 [.ref 43, .int x9, .int v1, .int v2, .int v3, .int (nI 0)] M7 N8 (some (.int x12)) M10 N11 ∧ (Q (some (.int x12)) M10 N11))))))) :
    VX5_perform_0 D Q v1 v2 v3 MI ML := by
  show mEx D TX5_perform (mqS Q) (0, [some (.ref 43), some (.int v1), some (.int v2), some (.int v3)], [], (W0, Sh0, MI, ML))
  refine x_st rfl ?_
  refine x_st rfl ?_
  obtain ⟨x3, M1, N2, hc, h⟩ := h
  refine x_vi (y := 73) (n := 1) (ci := 5) (nx := 5) rfl (fun _ => rfl) sh_43 rfl hc ?_
  refine x_br rfl (fun c => ?_) (fun c => ?_)
  · replace h := h.1 c
    refine x_st rfl ?_
    refine x_ret rfl ?_
    exact ⟨_, _, rfl, h⟩
  · replace h := h.2 c
    refine x_st rfl ?_
    obtain ⟨x6, M4, N5, hc, h⟩ := h
    refine x_ci rfl hc ?_
    refine x_br rfl (fun c => ?_) (fun c => ?_)
    · replace h := h.1 c
      refine x_st rfl ?_
      refine x_ret rfl ?_
      exact ⟨_, _, rfl, h⟩
    · replace h := h.2 c
      refine x_st rfl ?_
      refine x_st rfl ?_
      refine x_st rfl ?_
      obtain ⟨x9, M7, N8, hc, h⟩ := h
      refine x_vi (y := 75) (n := 1) (ci := 5) (nx := 21) rfl (fun _ => rfl) sh_43 rfl hc ?_
      refine x_st rfl ?_
      refine x_st rfl ?_
      refine x_st rfl ?_
      refine x_st rfl ?_
      obtain ⟨x12, M10, N11, hc, h⟩ := h
      refine x_vi (y := 80) (n := 5) (ci := 5) (nx := 28) rfl (fun _ => rfl) sh_43 rfl hc ?_
      refine x_st rfl ?_
      refine x_ret rfl ?_
      exact ⟨_, _, rfl, h⟩
theorem EX5_perform {D : Nat} {Q : Option Value → mI → mJ → Prop}  {v1 : Int32} {v2 : Int32} {v3 : Int32} {MI : mI} {ML : mJ} (h : VX5_perform_0 D Q v1 v2 v3 MI ML) : ∃ v MI' ML', Q v MI' ML' ∧ mrc (D + 1) 79 [.ref 43, .int v1, .int v2, .int v3] MI ML v MI' ML' := by
  refine x_en (n := 0) (T := TX5_perform) rfl rfl ?_
  refine x_kl ?_ h
  exact ⟨Or.inr rfl, ⟨Or.inr rfl, ⟨Or.inr rfl, ⟨Or.inr rfl, True.intro⟩⟩⟩⟩
def VX5_run_0 (D : Nat) (Q : Option Value → mI → mJ → Prop)  (v1 : Int32) (v2 : Int32) (v3 : Int32) (v4 : Int32) (v5 : Int32) (MI : mI) (ML : mJ) : Prop := mEx D TX5_run (mqS Q) (0, [some (.ref 43), some (.int v1), some (.int v2), some (.int v3), some (.int v4), some (.int v5), none, none, none], [], (W0, Sh0, MI, ML))
def VX5_run_6 (D : Nat) (Q : Option Value → mI → mJ → Prop)  (v2 : Int32) (v3 : Int32) (v4 : Int32) (v5 : Int32) (v6 : Int32) (v7 : Int32) (MI : mI) (ML : mJ) : Prop := mEx D TX5_run (mqS Q) (6, [some (.ref 43), none, some (.int v2), some (.int v3), some (.int v4), some (.int v5), some (.int v6), some (.int v7), none], [], (W0, Sh0, MI, ML))
theorem BX5_run_0 {D : Nat} {Q : Option Value → mI → mJ → Prop}  {v1 : Int32} {v2 : Int32} {v3 : Int32} {v4 : Int32} {v5 : Int32} {MI : mI} {ML : mJ} 
    (h : VX5_run_6 D Q v2 v3 v4 v5 v1 (nI 0) MI ML) :
    VX5_run_0 D Q v1 v2 v3 v4 v5 MI ML := by
  show mEx D TX5_run (mqS Q) (0, [some (.ref 43), some (.int v1), some (.int v2), some (.int v3), some (.int v4), some (.int v5), none, none, none], [], (W0, Sh0, MI, ML))
  refine x_st rfl ?_
  refine x_st rfl ?_
  refine x_st rfl ?_
  refine x_st rfl ?_
  refine x_kl ?_ h
  exact ⟨Or.inr rfl, ⟨Or.inl rfl, ⟨Or.inr rfl, ⟨Or.inr rfl, ⟨Or.inr rfl, ⟨Or.inr rfl, ⟨Or.inr rfl, ⟨Or.inr rfl, ⟨Or.inl rfl, True.intro⟩⟩⟩⟩⟩⟩⟩⟩⟩
theorem BX5_run_6 {D : Nat} {Q : Option Value → mI → mJ → Prop}  {v2 : Int32} {v3 : Int32} {v4 : Int32} {v5 : Int32} {v6 : Int32} {v7 : Int32} {MI : mI} {ML : mJ} 
    (h : ((nI 8) ≤ v7 → Q (some (.int (nI 0))) MI ML) ∧ (¬ (nI 8) ≤ v7 → ∃ (x3 : Int32) (M1 : mI) (N2 : mJ), mrc D 69 [.int v6] MI ML (some (.int x3)) M1 N2 ∧ ((x3 = nI 0 → Q (some (.int (nI 0))) M1 N2) ∧ (¬ x3 = nI 0 → ∃ i4 : Nat, ((v6 * (nI 4)) + v3) = nI i4 ∧ i4 < 32 ∧ (((mtab3 i4) = nI 0 → ∃ i5 : Nat, v6 = nI i5 ∧ i5 < 8 ∧ (VX5_run_6 D Q v2 v3 v4 v5 (mtab2 i5) (v7 + (nI 1)) M1 N2)) ∧ (¬ (mtab3 i4) = nI 0 → ((nI 40) ≤ v5 → Q (some (.int (nI 0))) M1 N2) ∧ (¬ (nI 40) ≤ v5 → ∃ (x8 : Int32) (M6 : mI) (N7 : mJ), mrc D 81 [.ref 43, .int (mtab3 i4), .int v2, .int v4, .int (v5 + (nI 1))] M1 N2 (some (.int x8)) M6 N7 ∧ (Q (some (.int x8)) M6 N7)))))))) :
    VX5_run_6 D Q v2 v3 v4 v5 v6 v7 MI ML := by
  show mEx D TX5_run (mqS Q) (6, [some (.ref 43), none, some (.int v2), some (.int v3), some (.int v4), some (.int v5), some (.int v6), some (.int v7), none], [], (W0, Sh0, MI, ML))
  refine x_st rfl ?_
  refine x_st rfl ?_
  refine x_br rfl (fun c => ?_) (fun c => ?_)
  · replace h := h.1 c
    refine x_st rfl ?_
    refine x_ret rfl ?_
    exact ⟨_, _, rfl, h⟩
  · replace h := h.2 c
    refine x_st rfl ?_
    obtain ⟨x3, M1, N2, hc, h⟩ := h
    refine x_ci rfl hc ?_
    refine x_br rfl (fun c => ?_) (fun c => ?_)
    · replace h := h.1 c
      refine x_st rfl ?_
      refine x_ret rfl ?_
      exact ⟨_, _, rfl, h⟩
    · replace h := h.2 c
      refine x_st rfl ?_
      refine x_st rfl ?_
      refine x_st rfl ?_
      refine x_st rfl ?_
      refine x_st rfl ?_
      refine x_st rfl ?_
      obtain ⟨i4, hx, hi, h⟩ := h
      refine x_tl (j := 3) (N := 32) (f := mtab3) (nx := 31) (i := i4) rfl hx hi (by decide) ?_
      refine x_st rfl ?_
      refine x_st rfl ?_
      refine x_br rfl (fun c => ?_) (fun c => ?_)
      · replace h := h.1 c
        refine x_st rfl ?_
        refine x_st rfl ?_
        obtain ⟨i5, hx, hi, h⟩ := h
        refine x_tl (j := 2) (N := 8) (f := mtab2) (nx := 69) (i := i5) rfl hx hi (by decide) ?_
        refine x_st rfl ?_
        refine x_st rfl ?_
        refine x_st rfl ?_
        refine x_kl ?_ h
        exact ⟨Or.inr rfl, ⟨Or.inl rfl, ⟨Or.inr rfl, ⟨Or.inr rfl, ⟨Or.inr rfl, ⟨Or.inr rfl, ⟨Or.inr rfl, ⟨Or.inr rfl, ⟨Or.inl rfl, True.intro⟩⟩⟩⟩⟩⟩⟩⟩⟩
      · replace h := h.2 c
        refine x_st rfl ?_
        refine x_st rfl ?_
        refine x_br rfl (fun c => ?_) (fun c => ?_)
        · replace h := h.1 c
          refine x_st rfl ?_
          refine x_ret rfl ?_
          exact ⟨_, _, rfl, h⟩
        · replace h := h.2 c
          refine x_st rfl ?_
          refine x_st rfl ?_
          refine x_st rfl ?_
          refine x_st rfl ?_
          refine x_st rfl ?_
          refine x_st rfl ?_
          refine x_st rfl ?_
          obtain ⟨x8, M6, N7, hc, h⟩ := h
          refine x_vi (y := 81) (n := 4) (ci := 5) (nx := 58) rfl (fun _ => rfl) sh_43 rfl hc ?_
          refine x_st rfl ?_
          refine x_ret rfl ?_
          exact ⟨_, _, rfl, h⟩
theorem EX5_run {D : Nat} {Q : Option Value → mI → mJ → Prop}  {v1 : Int32} {v2 : Int32} {v3 : Int32} {v4 : Int32} {v5 : Int32} {MI : mI} {ML : mJ} (h : VX5_run_0 D Q v1 v2 v3 v4 v5 MI ML) : ∃ v MI' ML', Q v MI' ML' ∧ mrc (D + 1) 80 [.ref 43, .int v1, .int v2, .int v3, .int v4, .int v5] MI ML v MI' ML' := by
  refine x_en (n := 3) (T := TX5_run) rfl rfl ?_
  refine x_kl ?_ h
  exact ⟨Or.inr rfl, ⟨Or.inr rfl, ⟨Or.inr rfl, ⟨Or.inr rfl, ⟨Or.inr rfl, ⟨Or.inr rfl, ⟨Or.inl rfl, ⟨Or.inl rfl, ⟨Or.inl rfl, True.intro⟩⟩⟩⟩⟩⟩⟩⟩⟩
def VX5_runBody_0 (D : Nat) (Q : Option Value → mI → mJ → Prop)  (v1 : Int32) (v2 : Int32) (v3 : Int32) (v4 : Int32) (MI : mI) (ML : mJ) : Prop := mEx D TX5_runBody (mqS Q) (0, [some (.ref 43), some (.int v1), some (.int v2), some (.int v3), some (.int v4), none], [], (W0, Sh0, MI, ML))
theorem BX5_runBody_0 {D : Nat} {Q : Option Value → mI → mJ → Prop}  {v1 : Int32} {v2 : Int32} {v3 : Int32} {v4 : Int32} {MI : mI} {ML : mJ} 
    (h : ∃ (M1 : mI) (N2 : mJ), mrc D 82 [.ref 43, .int v1] MI ML none M1 N2 ∧ (∃ (x5 : Int32) (M3 : mI) (N4 : mJ), mrc D 75 [.ref 43, .int v2] M1 N2 (some (.int x5)) M3 N4 ∧ ((v1 = (nI 1) → Q (some (.int (v3 + v2))) M3 N4) ∧ (¬ v1 = (nI 1) → (v1 = (nI 2) → ∃ (x44 : Int32) (M42 : mI) (N43 : mJ), mrc D 80 [.ref 43, .int x5, .int v2, .int (nI 1), .int v3, .int v4] M3 N4 (some (.int x44)) M42 N43 ∧ (∃ (x47 : Int32) (M45 : mI) (N46 : mJ), mrc D 80 [.ref 43, .int x5, .int v2, .int (nI 2), .int (nI 1), .int v4] M42 N43 (some (.int x47)) M45 N46 ∧ (Q (some (.int (x44 - x47))) M45 N46))) ∧ (¬ v1 = (nI 2) → (v1 = (nI 10) → ∃ (x41 : Int32) (M39 : mI) (N40 : mJ), mrc D 80 [.ref 43, .int x5, .int v2, .int (nI 0), .int v3, .int v4] M3 N4 (some (.int x41)) M39 N40 ∧ (Q (some (.int (x41 * (nI 2)))) M39 N40)) ∧ (¬ v1 = (nI 10) → (v1 = (nI 11) → Q (some (.int (v3 ^^^ v2))) M3 N4) ∧ (¬ v1 = (nI 11) → (v1 = (nI 20) → ∃ (x38 : Int32) (M36 : mI) (N37 : mJ), mrc D 80 [.ref 43, .int (mtab2 1), .int v2, .int (nI 0), .int v3, .int v4] M3 N4 (some (.int x38)) M36 N37 ∧ (Q (some (.int (x38 + (nI 3)))) M36 N37)) ∧ (¬ v1 = (nI 20) → (v1 = (nI 30) → ∃ (x35 : Int32) (M33 : mI) (N34 : mJ), mrc D 80 [.ref 43, .int (mtab2 2), .int v2, .int (nI 1), .int v3, .int v4] M3 N4 (some (.int x35)) M33 N34 ∧ (Q (some (.int (-x35))) M33 N34)) ∧ (¬ v1 = (nI 30) → (v1 = (nI 40) → ∃ (x32 : Int32) (M30 : mI) (N31 : mJ), mrc D 80 [.ref 43, .int (mtab2 3), .int v2, .int (nI 2), .int v3, .int v4] M3 N4 (some (.int x32)) M30 N31 ∧ (Q (some (.int (x32 * (nI 3)))) M30 N31)) ∧ (¬ v1 = (nI 40) → (v1 = (nI 41) → ∃ (x29 : Int32) (M27 : mI) (N28 : mJ), mrc D 80 [.ref 43, .int (mtab2 3), .int v2, .int (nI 1), .int (v3 + (nI 1)), .int v4] M3 N4 (some (.int x29)) M27 N28 ∧ (Q (some (.int x29)) M27 N28)) ∧ (¬ v1 = (nI 41) → (v1 = (nI 50) → ∃ (x23 : Int32) (M21 : mI) (N22 : mJ), mrc D 80 [.ref 43, .int (mtab2 4), .int v2, .int (nI 2), .int v3, .int v4] M3 N4 (some (.int x23)) M21 N22 ∧ (∃ (x26 : Int32) (M24 : mI) (N25 : mJ), mrc D 80 [.ref 43, .int x5, .int v2, .int (nI 0), .int (nI 2), .int v4] M21 N22 (some (.int x26)) M24 N25 ∧ (Q (some (.int (x23 - x26))) M24 N25))) ∧ (¬ v1 = (nI 50) → (v1 = (nI 60) → ∃ (x20 : Int32) (M18 : mI) (N19 : mJ), mrc D 80 [.ref 43, .int (mtab2 5), .int v2, .int (nI 3), .int v3, .int v4] M3 N4 (some (.int x20)) M18 N19 ∧ (Q (some (.int (x20 ^^^ (nI 5)))) M18 N19)) ∧ (¬ v1 = (nI 60) → (v1 = (nI 70) → ∃ (x17 : Int32) (M15 : mI) (N16 : mJ), mrc D 80 [.ref 43, .int (mtab2 6), .int v2, .int (nI 0), .int v3, .int v4] M3 N4 (some (.int x17)) M15 N16 ∧ (Q (some (.int (x17 * (nI 2)))) M15 N16)) ∧ (¬ v1 = (nI 70) → (v1 = (nI 80) → ∃ (x11 : Int32) (M9 : mI) (N10 : mJ), mrc D 80 [.ref 43, .int (mtab2 7), .int v2, .int (nI 1), .int v3, .int v4] M3 N4 (some (.int x11)) M9 N10 ∧ (∃ (x14 : Int32) (M12 : mI) (N13 : mJ), mrc D 80 [.ref 43, .int x5, .int v2, .int (nI 2), .int (nI 2), .int v4] M9 N10 (some (.int x14)) M12 N13 ∧ (Q (some (.int (x11 + x14))) M12 N13))) ∧ (¬ v1 = (nI 80) → (v1 = (nI 81) → ∃ (x8 : Int32) (M6 : mI) (N7 : mJ), mrc D 80 [.ref 43, .int (mtab2 7), .int v2, .int (nI 3), .int v3, .int v4] M3 N4 (some (.int x8)) M6 N7 ∧ (Q (some (.int (x8 - (nI 1)))) M6 N7)) ∧ (¬ v1 = (nI 81) → Q (some (.int (nI 0))) M3 N4)))))))))))))))) :
    VX5_runBody_0 D Q v1 v2 v3 v4 MI ML := by
  show mEx D TX5_runBody (mqS Q) (0, [some (.ref 43), some (.int v1), some (.int v2), some (.int v3), some (.int v4), none], [], (W0, Sh0, MI, ML))
  refine x_st rfl ?_
  refine x_st rfl ?_
  obtain ⟨M1, N2, hc, h⟩ := h
  refine x_vv (y := 82) (n := 1) (ci := 5) (nx := 5) rfl (fun _ => rfl) sh_43 rfl hc ?_
  refine x_st rfl ?_
  refine x_st rfl ?_
  obtain ⟨x5, M3, N4, hc, h⟩ := h
  refine x_vi (y := 75) (n := 1) (ci := 5) (nx := 10) rfl (fun _ => rfl) sh_43 rfl hc ?_
  refine x_st rfl ?_
  refine x_st rfl ?_
  refine x_sw rfl ?_
  refine ⟨fun c => ?_, fun c => ?_⟩
  · replace h := h.1 c
    refine x_st rfl ?_
    refine x_st rfl ?_
    refine x_st rfl ?_
    refine x_ret rfl ?_
    exact ⟨_, _, rfl, h⟩
  · replace h := h.2 c
    refine ⟨fun c => ?_, fun c => ?_⟩
    · replace h := h.1 c
      refine x_st rfl ?_
      refine x_st rfl ?_
      refine x_st rfl ?_
      refine x_st rfl ?_
      refine x_st rfl ?_
      refine x_st rfl ?_
      obtain ⟨x44, M42, N43, hc, h⟩ := h
      refine x_vi (y := 80) (n := 5) (ci := 5) (nx := 143) rfl (fun _ => rfl) sh_43 rfl hc ?_
      refine x_st rfl ?_
      refine x_st rfl ?_
      refine x_st rfl ?_
      refine x_st rfl ?_
      refine x_st rfl ?_
      refine x_st rfl ?_
      obtain ⟨x47, M45, N46, hc, h⟩ := h
      refine x_vi (y := 80) (n := 5) (ci := 5) (nx := 154) rfl (fun _ => rfl) sh_43 rfl hc ?_
      refine x_st rfl ?_
      refine x_ret rfl ?_
      exact ⟨_, _, rfl, h⟩
    · replace h := h.2 c
      refine ⟨fun c => ?_, fun c => ?_⟩
      · replace h := h.1 c
        refine x_st rfl ?_
        refine x_st rfl ?_
        refine x_st rfl ?_
        refine x_st rfl ?_
        refine x_st rfl ?_
        refine x_st rfl ?_
        obtain ⟨x41, M39, N40, hc, h⟩ := h
        refine x_vi (y := 80) (n := 5) (ci := 5) (nx := 167) rfl (fun _ => rfl) sh_43 rfl hc ?_
        refine x_st rfl ?_
        refine x_st rfl ?_
        refine x_ret rfl ?_
        exact ⟨_, _, rfl, h⟩
      · replace h := h.2 c
        refine ⟨fun c => ?_, fun c => ?_⟩
        · replace h := h.1 c
          refine x_st rfl ?_
          refine x_st rfl ?_
          refine x_st rfl ?_
          refine x_ret rfl ?_
          exact ⟨_, _, rfl, h⟩
        · replace h := h.2 c
          refine ⟨fun c => ?_, fun c => ?_⟩
          · replace h := h.1 c
            refine x_st rfl ?_
            refine x_st rfl ?_
            refine x_st rfl ?_
            refine x_tl (j := 2) (N := 8) (f := mtab2) (nx := 180) (i := 1) rfl rfl (by decide) (by decide) ?_
            refine x_st rfl ?_
            refine x_st rfl ?_
            refine x_st rfl ?_
            refine x_st rfl ?_
            obtain ⟨x38, M36, N37, hc, h⟩ := h
            refine x_vi (y := 80) (n := 5) (ci := 5) (nx := 188) rfl (fun _ => rfl) sh_43 rfl hc ?_
            refine x_st rfl ?_
            refine x_st rfl ?_
            refine x_ret rfl ?_
            exact ⟨_, _, rfl, h⟩
          · replace h := h.2 c
            refine ⟨fun c => ?_, fun c => ?_⟩
            · replace h := h.1 c
              refine x_st rfl ?_
              refine x_st rfl ?_
              refine x_st rfl ?_
              refine x_tl (j := 2) (N := 8) (f := mtab2) (nx := 197) (i := 2) rfl rfl (by decide) (by decide) ?_
              refine x_st rfl ?_
              refine x_st rfl ?_
              refine x_st rfl ?_
              refine x_st rfl ?_
              obtain ⟨x35, M33, N34, hc, h⟩ := h
              refine x_vi (y := 80) (n := 5) (ci := 5) (nx := 205) rfl (fun _ => rfl) sh_43 rfl hc ?_
              refine x_st rfl ?_
              refine x_ret rfl ?_
              exact ⟨_, _, rfl, h⟩
            · replace h := h.2 c
              refine ⟨fun c => ?_, fun c => ?_⟩
              · replace h := h.1 c
                refine x_st rfl ?_
                refine x_st rfl ?_
                refine x_st rfl ?_
                refine x_tl (j := 2) (N := 8) (f := mtab2) (nx := 213) (i := 3) rfl rfl (by decide) (by decide) ?_
                refine x_st rfl ?_
                refine x_st rfl ?_
                refine x_st rfl ?_
                refine x_st rfl ?_
                obtain ⟨x32, M30, N31, hc, h⟩ := h
                refine x_vi (y := 80) (n := 5) (ci := 5) (nx := 221) rfl (fun _ => rfl) sh_43 rfl hc ?_
                refine x_st rfl ?_
                refine x_st rfl ?_
                refine x_ret rfl ?_
                exact ⟨_, _, rfl, h⟩
              · replace h := h.2 c
                refine ⟨fun c => ?_, fun c => ?_⟩
                · replace h := h.1 c
                  refine x_st rfl ?_
                  refine x_st rfl ?_
                  refine x_st rfl ?_
                  refine x_tl (j := 2) (N := 8) (f := mtab2) (nx := 230) (i := 3) rfl rfl (by decide) (by decide) ?_
                  refine x_st rfl ?_
                  refine x_st rfl ?_
                  refine x_st rfl ?_
                  refine x_st rfl ?_
                  refine x_st rfl ?_
                  refine x_st rfl ?_
                  obtain ⟨x29, M27, N28, hc, h⟩ := h
                  refine x_vi (y := 80) (n := 5) (ci := 5) (nx := 240) rfl (fun _ => rfl) sh_43 rfl hc ?_
                  refine x_ret rfl ?_
                  exact ⟨_, _, rfl, h⟩
                · replace h := h.2 c
                  refine ⟨fun c => ?_, fun c => ?_⟩
                  · replace h := h.1 c
                    refine x_st rfl ?_
                    refine x_st rfl ?_
                    refine x_st rfl ?_
                    refine x_tl (j := 2) (N := 8) (f := mtab2) (nx := 247) (i := 4) rfl rfl (by decide) (by decide) ?_
                    refine x_st rfl ?_
                    refine x_st rfl ?_
                    refine x_st rfl ?_
                    refine x_st rfl ?_
                    obtain ⟨x23, M21, N22, hc, h⟩ := h
                    refine x_vi (y := 80) (n := 5) (ci := 5) (nx := 255) rfl (fun _ => rfl) sh_43 rfl hc ?_
                    refine x_st rfl ?_
                    refine x_st rfl ?_
                    refine x_st rfl ?_
                    refine x_st rfl ?_
                    refine x_st rfl ?_
                    refine x_st rfl ?_
                    obtain ⟨x26, M24, N25, hc, h⟩ := h
                    refine x_vi (y := 80) (n := 5) (ci := 5) (nx := 266) rfl (fun _ => rfl) sh_43 rfl hc ?_
                    refine x_st rfl ?_
                    refine x_ret rfl ?_
                    exact ⟨_, _, rfl, h⟩
                  · replace h := h.2 c
                    refine ⟨fun c => ?_, fun c => ?_⟩
                    · replace h := h.1 c
                      refine x_st rfl ?_
                      refine x_st rfl ?_
                      refine x_st rfl ?_
                      refine x_tl (j := 2) (N := 8) (f := mtab2) (nx := 274) (i := 5) rfl rfl (by decide) (by decide) ?_
                      refine x_st rfl ?_
                      refine x_st rfl ?_
                      refine x_st rfl ?_
                      refine x_st rfl ?_
                      obtain ⟨x20, M18, N19, hc, h⟩ := h
                      refine x_vi (y := 80) (n := 5) (ci := 5) (nx := 282) rfl (fun _ => rfl) sh_43 rfl hc ?_
                      refine x_st rfl ?_
                      refine x_st rfl ?_
                      refine x_ret rfl ?_
                      exact ⟨_, _, rfl, h⟩
                    · replace h := h.2 c
                      refine ⟨fun c => ?_, fun c => ?_⟩
                      · replace h := h.1 c
                        refine x_st rfl ?_
                        refine x_st rfl ?_
                        refine x_st rfl ?_
                        refine x_tl (j := 2) (N := 8) (f := mtab2) (nx := 292) (i := 6) rfl rfl (by decide) (by decide) ?_
                        refine x_st rfl ?_
                        refine x_st rfl ?_
                        refine x_st rfl ?_
                        refine x_st rfl ?_
                        obtain ⟨x17, M15, N16, hc, h⟩ := h
                        refine x_vi (y := 80) (n := 5) (ci := 5) (nx := 300) rfl (fun _ => rfl) sh_43 rfl hc ?_
                        refine x_st rfl ?_
                        refine x_st rfl ?_
                        refine x_ret rfl ?_
                        exact ⟨_, _, rfl, h⟩
                      · replace h := h.2 c
                        refine ⟨fun c => ?_, fun c => ?_⟩
                        · replace h := h.1 c
                          refine x_st rfl ?_
                          refine x_st rfl ?_
                          refine x_st rfl ?_
                          refine x_tl (j := 2) (N := 8) (f := mtab2) (nx := 310) (i := 7) rfl rfl (by decide) (by decide) ?_
                          refine x_st rfl ?_
                          refine x_st rfl ?_
                          refine x_st rfl ?_
                          refine x_st rfl ?_
                          obtain ⟨x11, M9, N10, hc, h⟩ := h
                          refine x_vi (y := 80) (n := 5) (ci := 5) (nx := 318) rfl (fun _ => rfl) sh_43 rfl hc ?_
                          refine x_st rfl ?_
                          refine x_st rfl ?_
                          refine x_st rfl ?_
                          refine x_st rfl ?_
                          refine x_st rfl ?_
                          refine x_st rfl ?_
                          obtain ⟨x14, M12, N13, hc, h⟩ := h
                          refine x_vi (y := 80) (n := 5) (ci := 5) (nx := 329) rfl (fun _ => rfl) sh_43 rfl hc ?_
                          refine x_st rfl ?_
                          refine x_ret rfl ?_
                          exact ⟨_, _, rfl, h⟩
                        · replace h := h.2 c
                          refine ⟨fun c => ?_, fun c => ?_⟩
                          · replace h := h.1 c
                            refine x_st rfl ?_
                            refine x_st rfl ?_
                            refine x_st rfl ?_
                            refine x_tl (j := 2) (N := 8) (f := mtab2) (nx := 338) (i := 7) rfl rfl (by decide) (by decide) ?_
                            refine x_st rfl ?_
                            refine x_st rfl ?_
                            refine x_st rfl ?_
                            refine x_st rfl ?_
                            obtain ⟨x8, M6, N7, hc, h⟩ := h
                            refine x_vi (y := 80) (n := 5) (ci := 5) (nx := 346) rfl (fun _ => rfl) sh_43 rfl hc ?_
                            refine x_st rfl ?_
                            refine x_st rfl ?_
                            refine x_ret rfl ?_
                            exact ⟨_, _, rfl, h⟩
                          · replace h := h.2 c
                            refine x_st rfl ?_
                            refine x_ret rfl ?_
                            exact ⟨_, _, rfl, h⟩
theorem EX5_runBody {D : Nat} {Q : Option Value → mI → mJ → Prop}  {v1 : Int32} {v2 : Int32} {v3 : Int32} {v4 : Int32} {MI : mI} {ML : mJ} (h : VX5_runBody_0 D Q v1 v2 v3 v4 MI ML) : ∃ v MI' ML', Q v MI' ML' ∧ mrc (D + 1) 81 [.ref 43, .int v1, .int v2, .int v3, .int v4] MI ML v MI' ML' := by
  refine x_en (n := 1) (T := TX5_runBody) rfl rfl ?_
  refine x_kl ?_ h
  exact ⟨Or.inr rfl, ⟨Or.inr rfl, ⟨Or.inr rfl, ⟨Or.inr rfl, ⟨Or.inr rfl, ⟨Or.inl rfl, True.intro⟩⟩⟩⟩⟩⟩
def VX5_note_0 (D : Nat) (Q : Option Value → mI → mJ → Prop)  (v1 : Int32) (MI : mI) (ML : mJ) : Prop := mEx D TX5_note (mqS Q) (0, [some (.ref 43), some (.int v1)], [], (W0, Sh0, MI, ML))
theorem BX5_note_0 {D : Nat} {Q : Option Value → mI → mJ → Prop}  {v1 : Int32} {MI : mI} {ML : mJ} 
    (h : ((nI 24) ≤ (MI 43 3) → Q none (mup MI 43 (mput (MI 43) 3 ((MI 43 3) + (nI 1)))) ML) ∧ (¬ (nI 24) ≤ (MI 43 3) → ∃ i1 : Nat, (MI 43 3) = nI i1 ∧ i1 < 24 ∧ (Q none (mup (mup MI 45 (mput (MI 45) i1 v1)) 43 (mput ((mup MI 45 (mput (MI 45) i1 v1)) 43) 3 (((mup MI 45 (mput (MI 45) i1 v1)) 43 3) + (nI 1)))) ML))) :
    VX5_note_0 D Q v1 MI ML := by
  show mEx D TX5_note (mqS Q) (0, [some (.ref 43), some (.int v1)], [], (W0, Sh0, MI, ML))
  refine x_st rfl ?_
  refine x_gi (ci := 5) (k := 3) (nx := 4) rfl sh_43 rfl ?_
  refine x_st rfl ?_
  refine x_br rfl (fun c => ?_) (fun c => ?_)
  · replace h := h.1 c
    refine x_st rfl ?_
    refine x_st rfl ?_
    refine x_gi (ci := 5) (k := 3) (nx := 24) rfl sh_43 rfl ?_
    refine x_st rfl ?_
    refine x_st rfl ?_
    refine x_pi (ci := 5) (k := 3) (nx := 29) rfl sh_43 rfl ?_
    refine x_ret rfl ?_
    exact ⟨_, _, rfl, h⟩
  · replace h := h.2 c
    refine x_st rfl ?_
    refine x_gr (ci := 5) (k := 2) (nx := 13) rfl sh_43 rfl ?_
    refine x_st rfl ?_
    refine x_gi (ci := 5) (k := 3) (nx := 17) rfl sh_43 rfl ?_
    refine x_st rfl ?_
    obtain ⟨i1, hx, hi, h⟩ := h
    refine x_iast (i := i1) (nx := 19) rfl sh_45 hx hi (by decide) ?_
    refine x_st rfl ?_
    refine x_st rfl ?_
    refine x_gi (ci := 5) (k := 3) (nx := 24) rfl sh_43 rfl ?_
    refine x_st rfl ?_
    refine x_st rfl ?_
    refine x_pi (ci := 5) (k := 3) (nx := 29) rfl sh_43 rfl ?_
    refine x_ret rfl ?_
    exact ⟨_, _, rfl, h⟩
theorem EX5_note {D : Nat} {Q : Option Value → mI → mJ → Prop}  {v1 : Int32} {MI : mI} {ML : mJ} (h : VX5_note_0 D Q v1 MI ML) : ∃ v MI' ML', Q v MI' ML' ∧ mrc (D + 1) 82 [.ref 43, .int v1] MI ML v MI' ML' := by
  refine x_en (n := 0) (T := TX5_note) rfl rfl ?_
  refine x_kl ?_ h
  exact ⟨Or.inr rfl, ⟨Or.inr rfl, True.intro⟩⟩
def VX6_asManyAsCanBe_0 (D : Nat) (Q : Option Value → mI → mJ → Prop)  (MI : mI) (ML : mJ) : Prop := mEx D TX6_asManyAsCanBe (mqS Q) (0, [some (.ref 24), none, none], [], (W0, Sh0, MI, ML))
def VX6_asManyAsCanBe_2 (D : Nat) (Q : Option Value → mI → mJ → Prop)  (v1 : Int32) (MI : mI) (ML : mJ) : Prop := mEx D TX6_asManyAsCanBe (mqS Q) (2, [some (.ref 24), some (.int v1), none], [], (W0, Sh0, MI, ML))
def VX6_asManyAsCanBe_15 (D : Nat) (Q : Option Value → mI → mJ → Prop)  (v1 : Int32) (v2 : Int32) (MI : mI) (ML : mJ) : Prop := mEx D TX6_asManyAsCanBe (mqS Q) (15, [some (.ref 24), some (.int v1), some (.int v2)], [], (W0, Sh0, MI, ML))
def VX6_asManyAsCanBe_54 (D : Nat) (Q : Option Value → mI → mJ → Prop)  (v1 : Int32) (v2 : Int32) (s1 : Int32) (s2 : Int32) (MI : mI) (ML : mJ) : Prop := mEx D TX6_asManyAsCanBe (mqS Q) (54, [some (.ref 24), some (.int v1), some (.int v2)], [.int s2, .int s1, .ref 24], (W0, Sh0, MI, ML))
theorem BX6_asManyAsCanBe_0 {D : Nat} {Q : Option Value → mI → mJ → Prop}  {MI : mI} {ML : mJ} 
    (h : VX6_asManyAsCanBe_2 D Q (nI 0) MI ML) :
    VX6_asManyAsCanBe_0 D Q  MI ML := by
  show mEx D TX6_asManyAsCanBe (mqS Q) (0, [some (.ref 24), none, none], [], (W0, Sh0, MI, ML))
  refine x_st rfl ?_
  refine x_st rfl ?_
  refine x_kl ?_ h
  exact ⟨Or.inr rfl, ⟨Or.inr rfl, ⟨Or.inl rfl, True.intro⟩⟩⟩
theorem BX6_asManyAsCanBe_2 {D : Nat} {Q : Option Value → mI → mJ → Prop}  {v1 : Int32} {MI : mI} {ML : mJ} 
    (h : ((MI 1 0) ≤ v1 → ∃ (M1 : mI) (N2 : mJ), mrc D 91 [.ref 24] MI ML none M1 N2 ∧ (Q none M1 N2)) ∧ (¬ (MI 1 0) ≤ v1 → VX6_asManyAsCanBe_15 D Q v1 (nI 0) MI ML)) :
    VX6_asManyAsCanBe_2 D Q v1 MI ML := by
  show mEx D TX6_asManyAsCanBe (mqS Q) (2, [some (.ref 24), some (.int v1), none], [], (W0, Sh0, MI, ML))
  refine x_st rfl ?_
  refine x_st rfl ?_
  refine x_gr (ci := 6) (k := 0) (nx := 7) rfl sh_24 rfl ?_
  refine x_gi (ci := 0) (k := 0) (nx := 10) rfl sh_1 rfl ?_
  refine x_br rfl (fun c => ?_) (fun c => ?_)
  · replace h := h.1 c
    refine x_st rfl ?_
    obtain ⟨M1, N2, hc, h⟩ := h
    refine x_vv (y := 91) (n := 0) (ci := 6) (nx := 83) rfl (fun _ => rfl) sh_24 rfl hc ?_
    refine x_ret rfl ?_
    exact ⟨_, _, rfl, h⟩
  · replace h := h.2 c
    refine x_st rfl ?_
    refine x_st rfl ?_
    refine x_kl ?_ h
    exact ⟨Or.inr rfl, ⟨Or.inr rfl, ⟨Or.inr rfl, True.intro⟩⟩⟩
theorem BX6_asManyAsCanBe_15 {D : Nat} {Q : Option Value → mI → mJ → Prop}  {v1 : Int32} {v2 : Int32} {MI : mI} {ML : mJ} 
    (h : ((MI 1 0) ≤ v2 → ∃ (M1 : mI) (N2 : mJ), mrc D 90 [.ref 24, .int v1, .int (nI 8), .int (nI 1)] MI ML none M1 N2 ∧ (VX6_asManyAsCanBe_2 D Q (v1 + (nI 1)) M1 N2)) ∧ (¬ (MI 1 0) ≤ v2 → ∃ (x5 : Int32) (M3 : mI) (N4 : mJ), mrc D 14 [.ref 1, .int v2, .int v1] MI ML (some (.int x5)) M3 N4 ∧ ((nI 0 ≤ x5 → VX6_asManyAsCanBe_54 D Q v1 v2 v1 v2 M3 N4) ∧ (¬ nI 0 ≤ x5 → ∃ (x8 : Int32) (M6 : mI) (N7 : mJ), mrc D 89 [.ref 24, .int v2, .int v1] M3 N4 (some (.int x8)) M6 N7 ∧ ((x8 = nI 0 → VX6_asManyAsCanBe_54 D Q v1 v2 v1 v2 M6 N7) ∧ (¬ x8 = nI 0 → ∃ (M9 : mI) (N10 : mJ), mrc D 90 [.ref 24, .int v1, .int v2, .int (nI 0)] M6 N7 none M9 N10 ∧ (VX6_asManyAsCanBe_15 D Q v1 (v2 + (nI 1)) M9 N10))))))) :
    VX6_asManyAsCanBe_15 D Q v1 v2 MI ML := by
  show mEx D TX6_asManyAsCanBe (mqS Q) (15, [some (.ref 24), some (.int v1), some (.int v2)], [], (W0, Sh0, MI, ML))
  refine x_st rfl ?_
  refine x_st rfl ?_
  refine x_gr (ci := 6) (k := 0) (nx := 20) rfl sh_24 rfl ?_
  refine x_gi (ci := 0) (k := 0) (nx := 23) rfl sh_1 rfl ?_
  refine x_br rfl (fun c => ?_) (fun c => ?_)
  · replace h := h.1 c
    refine x_st rfl ?_
    refine x_st rfl ?_
    refine x_st rfl ?_
    refine x_st rfl ?_
    obtain ⟨M1, N2, hc, h⟩ := h
    refine x_vv (y := 90) (n := 3) (ci := 6) (nx := 73) rfl (fun _ => rfl) sh_24 rfl hc ?_
    refine x_st rfl ?_
    refine x_st rfl ?_
    refine x_kl ?_ h
    exact ⟨Or.inr rfl, ⟨Or.inr rfl, ⟨Or.inl rfl, True.intro⟩⟩⟩
  · replace h := h.2 c
    refine x_st rfl ?_
    refine x_st rfl ?_
    refine x_st rfl ?_
    refine x_st rfl ?_
    refine x_gr (ci := 6) (k := 0) (nx := 33) rfl sh_24 rfl ?_
    refine x_st rfl ?_
    refine x_st rfl ?_
    obtain ⟨x5, M3, N4, hc, h⟩ := h
    refine x_vi (y := 14) (n := 2) (ci := 0) (nx := 38) rfl (fun _ => rfl) sh_1 rfl hc ?_
    refine x_br rfl (fun c => ?_) (fun c => ?_)
    · replace h := h.1 c
      refine x_kl ?_ h
      exact ⟨Or.inr rfl, ⟨Or.inr rfl, ⟨Or.inr rfl, True.intro⟩⟩⟩
    · replace h := h.2 c
      refine x_st rfl ?_
      refine x_st rfl ?_
      refine x_st rfl ?_
      obtain ⟨x8, M6, N7, hc, h⟩ := h
      refine x_vi (y := 89) (n := 2) (ci := 6) (nx := 47) rfl (fun _ => rfl) sh_24 rfl hc ?_
      refine x_br rfl (fun c => ?_) (fun c => ?_)
      · replace h := h.1 c
        refine x_kl ?_ h
        exact ⟨Or.inr rfl, ⟨Or.inr rfl, ⟨Or.inr rfl, True.intro⟩⟩⟩
      · replace h := h.2 c
        refine x_st rfl ?_
        refine x_st rfl ?_
        obtain ⟨M9, N10, hc, h⟩ := h
        refine x_vv (y := 90) (n := 3) (ci := 6) (nx := 59) rfl (fun _ => rfl) sh_24 rfl hc ?_
        refine x_st rfl ?_
        refine x_st rfl ?_
        refine x_kl ?_ h
        exact ⟨Or.inr rfl, ⟨Or.inr rfl, ⟨Or.inr rfl, True.intro⟩⟩⟩
theorem BX6_asManyAsCanBe_54 {D : Nat} {Q : Option Value → mI → mJ → Prop}  {v1 : Int32} {v2 : Int32} {s1 : Int32} {s2 : Int32} {MI : mI} {ML : mJ} 
    (h : ∃ (M1 : mI) (N2 : mJ), mrc D 90 [.ref 24, .int s1, .int s2, .int (nI 1000000)] MI ML none M1 N2 ∧ (VX6_asManyAsCanBe_15 D Q v1 (v2 + (nI 1)) M1 N2)) :
    VX6_asManyAsCanBe_54 D Q v1 v2 s1 s2 MI ML := by
  show mEx D TX6_asManyAsCanBe (mqS Q) (54, [some (.ref 24), some (.int v1), some (.int v2)], [.int s2, .int s1, .ref 24], (W0, Sh0, MI, ML))
  refine x_st rfl ?_
  obtain ⟨M1, N2, hc, h⟩ := h
  refine x_vv (y := 90) (n := 3) (ci := 6) (nx := 59) rfl (fun _ => rfl) sh_24 rfl hc ?_
  refine x_st rfl ?_
  refine x_st rfl ?_
  refine x_kl ?_ h
  exact ⟨Or.inr rfl, ⟨Or.inr rfl, ⟨Or.inr rfl, True.intro⟩⟩⟩
theorem EX6_asManyAsCanBe {D : Nat} {Q : Option Value → mI → mJ → Prop}  {MI : mI} {ML : mJ} (h : VX6_asManyAsCanBe_0 D Q  MI ML) : ∃ v MI' ML', Q v MI' ML' ∧ mrc (D + 1) 84 [.ref 24] MI ML v MI' ML' := by
  refine x_en (n := 2) (T := TX6_asManyAsCanBe) rfl rfl ?_
  refine x_kl ?_ h
  exact ⟨Or.inr rfl, ⟨Or.inl rfl, ⟨Or.inl rfl, True.intro⟩⟩⟩
def VX6_atLeastHarm_0 (D : Nat) (Q : Option Value → mI → mJ → Prop)  (MI : mI) (ML : mJ) : Prop := mEx D TX6_atLeastHarm (mqS Q) (0, [some (.ref 24), none, none, none, none], [], (W0, Sh0, MI, ML))
def VX6_atLeastHarm_2 (D : Nat) (Q : Option Value → mI → mJ → Prop)  (v1 : Int32) (MI : mI) (ML : mJ) : Prop := mEx D TX6_atLeastHarm (mqS Q) (2, [some (.ref 24), some (.int v1), none, none, none], [], (W0, Sh0, MI, ML))
def VX6_atLeastHarm_15 (D : Nat) (Q : Option Value → mI → mJ → Prop)  (v1 : Int32) (v2 : Int32) (MI : mI) (ML : mJ) : Prop := mEx D TX6_atLeastHarm (mqS Q) (15, [some (.ref 24), some (.int v1), some (.int v2), none, none], [], (W0, Sh0, MI, ML))
def VX6_atLeastHarm_47 (D : Nat) (Q : Option Value → mI → mJ → Prop)  (v1 : Int32) (v2 : Int32) (s0 : Int32) (MI : mI) (ML : mJ) : Prop := mEx D TX6_atLeastHarm (mqS Q) (47, [some (.ref 24), some (.int v1), some (.int v2), none, none], [.int s0], (W0, Sh0, MI, ML))
theorem BX6_atLeastHarm_0 {D : Nat} {Q : Option Value → mI → mJ → Prop}  {MI : mI} {ML : mJ} 
    (h : VX6_atLeastHarm_2 D Q (nI 0) MI ML) :
    VX6_atLeastHarm_0 D Q  MI ML := by
  show mEx D TX6_atLeastHarm (mqS Q) (0, [some (.ref 24), none, none, none, none], [], (W0, Sh0, MI, ML))
  refine x_st rfl ?_
  refine x_st rfl ?_
  refine x_kl ?_ h
  exact ⟨Or.inr rfl, ⟨Or.inr rfl, ⟨Or.inl rfl, ⟨Or.inl rfl, ⟨Or.inl rfl, True.intro⟩⟩⟩⟩⟩
theorem BX6_atLeastHarm_2 {D : Nat} {Q : Option Value → mI → mJ → Prop}  {v1 : Int32} {MI : mI} {ML : mJ} 
    (h : ((MI 1 0) ≤ v1 → ∃ (M1 : mI) (N2 : mJ), mrc D 91 [.ref 24] MI ML none M1 N2 ∧ (Q none M1 N2)) ∧ (¬ (MI 1 0) ≤ v1 → VX6_atLeastHarm_15 D Q v1 (nI 0) MI ML)) :
    VX6_atLeastHarm_2 D Q v1 MI ML := by
  show mEx D TX6_atLeastHarm (mqS Q) (2, [some (.ref 24), some (.int v1), none, none, none], [], (W0, Sh0, MI, ML))
  refine x_st rfl ?_
  refine x_st rfl ?_
  refine x_gr (ci := 6) (k := 0) (nx := 7) rfl sh_24 rfl ?_
  refine x_gi (ci := 0) (k := 0) (nx := 10) rfl sh_1 rfl ?_
  refine x_br rfl (fun c => ?_) (fun c => ?_)
  · replace h := h.1 c
    refine x_st rfl ?_
    obtain ⟨M1, N2, hc, h⟩ := h
    refine x_vv (y := 91) (n := 0) (ci := 6) (nx := 96) rfl (fun _ => rfl) sh_24 rfl hc ?_
    refine x_ret rfl ?_
    exact ⟨_, _, rfl, h⟩
  · replace h := h.2 c
    refine x_st rfl ?_
    refine x_st rfl ?_
    refine x_kl ?_ h
    exact ⟨Or.inr rfl, ⟨Or.inr rfl, ⟨Or.inr rfl, ⟨Or.inl rfl, ⟨Or.inl rfl, True.intro⟩⟩⟩⟩⟩
theorem BX6_atLeastHarm_15 {D : Nat} {Q : Option Value → mI → mJ → Prop}  {v1 : Int32} {v2 : Int32} {MI : mI} {ML : mJ} 
    (h : ((MI 1 0) ≤ v2 → ∃ (M1 : mI) (N2 : mJ), mrc D 90 [.ref 24, .int v1, .int (nI 8), .int (nI 1000000)] MI ML none M1 N2 ∧ (VX6_atLeastHarm_2 D Q (v1 + (nI 1)) M1 N2)) ∧ (¬ (MI 1 0) ≤ v2 → ∃ (x5 : Int32) (M3 : mI) (N4 : mJ), mrc D 14 [.ref 1, .int v2, .int v1] MI ML (some (.int x5)) M3 N4 ∧ ((nI 0 ≤ x5 → VX6_atLeastHarm_47 D Q v1 v2 ((nI 1) + x5) M3 N4) ∧ (¬ nI 0 ≤ x5 → VX6_atLeastHarm_47 D Q v1 v2 (nI 0) M3 N4)))) :
    VX6_atLeastHarm_15 D Q v1 v2 MI ML := by
  show mEx D TX6_atLeastHarm (mqS Q) (15, [some (.ref 24), some (.int v1), some (.int v2), none, none], [], (W0, Sh0, MI, ML))
  refine x_st rfl ?_
  refine x_st rfl ?_
  refine x_gr (ci := 6) (k := 0) (nx := 20) rfl sh_24 rfl ?_
  refine x_gi (ci := 0) (k := 0) (nx := 23) rfl sh_1 rfl ?_
  refine x_br rfl (fun c => ?_) (fun c => ?_)
  · replace h := h.1 c
    refine x_st rfl ?_
    refine x_st rfl ?_
    refine x_st rfl ?_
    refine x_st rfl ?_
    obtain ⟨M1, N2, hc, h⟩ := h
    refine x_vv (y := 90) (n := 3) (ci := 6) (nx := 86) rfl (fun _ => rfl) sh_24 rfl hc ?_
    refine x_st rfl ?_
    refine x_st rfl ?_
    refine x_kl ?_ h
    exact ⟨Or.inr rfl, ⟨Or.inr rfl, ⟨Or.inl rfl, ⟨Or.inl rfl, ⟨Or.inl rfl, True.intro⟩⟩⟩⟩⟩
  · replace h := h.2 c
    refine x_st rfl ?_
    refine x_gr (ci := 6) (k := 0) (nx := 30) rfl sh_24 rfl ?_
    refine x_st rfl ?_
    refine x_st rfl ?_
    obtain ⟨x5, M3, N4, hc, h⟩ := h
    refine x_vi (y := 14) (n := 2) (ci := 0) (nx := 35) rfl (fun _ => rfl) sh_1 rfl hc ?_
    refine x_st rfl ?_
    refine x_st rfl ?_
    refine x_br rfl (fun c => ?_) (fun c => ?_)
    · replace h := h.1 c
      refine x_st rfl ?_
      refine x_st rfl ?_
      refine x_st rfl ?_
      refine x_kl ?_ h
      exact ⟨Or.inr rfl, ⟨Or.inr rfl, ⟨Or.inr rfl, ⟨Or.inl rfl, ⟨Or.inl rfl, True.intro⟩⟩⟩⟩⟩
    · replace h := h.2 c
      refine x_st rfl ?_
      refine x_st rfl ?_
      refine x_kl ?_ h
      exact ⟨Or.inr rfl, ⟨Or.inr rfl, ⟨Or.inr rfl, ⟨Or.inl rfl, ⟨Or.inl rfl, True.intro⟩⟩⟩⟩⟩
theorem BX6_atLeastHarm_47 {D : Nat} {Q : Option Value → mI → mJ → Prop}  {v1 : Int32} {v2 : Int32} {s0 : Int32} {MI : mI} {ML : mJ} 
    (h : ∃ (x3 : Int32) (M1 : mI) (N2 : mJ), mrc D 89 [.ref 24, .int v2, .int v1] MI ML (some (.int x3)) M1 N2 ∧ ((x3 = nI 0 → ∃ (M4 : mI) (N5 : mJ), mrc D 90 [.ref 24, .int v1, .int v2, .int (nI 1000000)] M1 N2 none M4 N5 ∧ (VX6_atLeastHarm_15 D Q v1 (v2 + (nI 1)) M4 N5)) ∧ (¬ x3 = nI 0 → ∃ (M6 : mI) (N7 : mJ), mrc D 90 [.ref 24, .int v1, .int v2, .int s0] M1 N2 none M6 N7 ∧ (VX6_atLeastHarm_15 D Q v1 (v2 + (nI 1)) M6 N7)))) :
    VX6_atLeastHarm_47 D Q v1 v2 s0 MI ML := by
  show mEx D TX6_atLeastHarm (mqS Q) (47, [some (.ref 24), some (.int v1), some (.int v2), none, none], [.int s0], (W0, Sh0, MI, ML))
  refine x_st rfl ?_
  refine x_st rfl ?_
  refine x_st rfl ?_
  refine x_st rfl ?_
  refine x_st rfl ?_
  refine x_st rfl ?_
  refine x_st rfl ?_
  obtain ⟨x3, M1, N2, hc, h⟩ := h
  refine x_vi (y := 89) (n := 2) (ci := 6) (nx := 58) rfl (fun _ => rfl) sh_24 rfl hc ?_
  refine x_br rfl (fun c => ?_) (fun c => ?_)
  · replace h := h.1 c
    refine x_st rfl ?_
    obtain ⟨M4, N5, hc, h⟩ := h
    refine x_vv (y := 90) (n := 3) (ci := 6) (nx := 71) rfl (fun _ => rfl) sh_24 rfl hc ?_
    refine x_st rfl ?_
    refine x_st rfl ?_
    refine x_kl ?_ h
    exact ⟨Or.inr rfl, ⟨Or.inr rfl, ⟨Or.inr rfl, ⟨Or.inl rfl, ⟨Or.inl rfl, True.intro⟩⟩⟩⟩⟩
  · replace h := h.2 c
    refine x_st rfl ?_
    refine x_st rfl ?_
    obtain ⟨M6, N7, hc, h⟩ := h
    refine x_vv (y := 90) (n := 3) (ci := 6) (nx := 71) rfl (fun _ => rfl) sh_24 rfl hc ?_
    refine x_st rfl ?_
    refine x_st rfl ?_
    refine x_kl ?_ h
    exact ⟨Or.inr rfl, ⟨Or.inr rfl, ⟨Or.inr rfl, ⟨Or.inl rfl, ⟨Or.inl rfl, True.intro⟩⟩⟩⟩⟩
theorem EX6_atLeastHarm {D : Nat} {Q : Option Value → mI → mJ → Prop}  {MI : mI} {ML : mJ} (h : VX6_atLeastHarm_0 D Q  MI ML) : ∃ v MI' ML', Q v MI' ML' ∧ mrc (D + 1) 85 [.ref 24] MI ML v MI' ML' := by
  refine x_en (n := 4) (T := TX6_atLeastHarm) rfl rfl ?_
  refine x_kl ?_ h
  exact ⟨Or.inr rfl, ⟨Or.inl rfl, ⟨Or.inl rfl, ⟨Or.inl rfl, ⟨Or.inl rfl, True.intro⟩⟩⟩⟩⟩
def VX6_isThereAWay_0 (D : Nat) (Q : Option Value → mI → mJ → Prop)  (MI : mI) (ML : mJ) : Prop := mEx D TX6_isThereAWay (mqS Q) (0, [some (.ref 24)], [], (W0, Sh0, MI, ML))
theorem BX6_isThereAWay_0 {D : Nat} {Q : Option Value → mI → mJ → Prop}  {MI : mI} {ML : mJ} 
    (h : ∃ (x3 : Int32) (M1 : mI) (N2 : mJ), mrc D 87 [.ref 24] MI ML (some (.int x3)) M1 N2 ∧ (((nI 1000000) ≤ x3 → Q (some (.int (nI 0))) M1 N2) ∧ (¬ (nI 1000000) ≤ x3 → Q (some (.int (nI 1))) M1 N2))) :
    VX6_isThereAWay_0 D Q  MI ML := by
  show mEx D TX6_isThereAWay (mqS Q) (0, [some (.ref 24)], [], (W0, Sh0, MI, ML))
  refine x_st rfl ?_
  obtain ⟨x3, M1, N2, hc, h⟩ := h
  refine x_vi (y := 87) (n := 0) (ci := 6) (nx := 4) rfl (fun _ => rfl) sh_24 rfl hc ?_
  refine x_st rfl ?_
  refine x_br rfl (fun c => ?_) (fun c => ?_)
  · replace h := h.1 c
    refine x_st rfl ?_
    refine x_ret rfl ?_
    exact ⟨_, _, rfl, h⟩
  · replace h := h.2 c
    refine x_st rfl ?_
    refine x_st rfl ?_
    refine x_ret rfl ?_
    exact ⟨_, _, rfl, h⟩
theorem EX6_isThereAWay {D : Nat} {Q : Option Value → mI → mJ → Prop}  {MI : mI} {ML : mJ} (h : VX6_isThereAWay_0 D Q  MI ML) : ∃ v MI' ML', Q v MI' ML' ∧ mrc (D + 1) 86 [.ref 24] MI ML v MI' ML' := by
  refine x_en (n := 0) (T := TX6_isThereAWay) rfl rfl ?_
  refine x_kl ?_ h
  exact ⟨Or.inr rfl, True.intro⟩
def VX6_price_0 (D : Nat) (Q : Option Value → mI → mJ → Prop)  (MI : mI) (ML : mJ) : Prop := mEx D TX6_price (mqS Q) (0, [some (.ref 24)], [], (W0, Sh0, MI, ML))
theorem BX6_price_0 {D : Nat} {Q : Option Value → mI → mJ → Prop}  {MI : mI} {ML : mJ} 
    (h : Q (some (.int (MI 26 0))) MI ML) :
    VX6_price_0 D Q  MI ML := by
  show mEx D TX6_price (mqS Q) (0, [some (.ref 24)], [], (W0, Sh0, MI, ML))
  refine x_st rfl ?_
  refine x_gr (ci := 6) (k := 2) (nx := 4) rfl sh_24 rfl ?_
  refine x_st rfl ?_
  refine x_ia (i := 0) (nx := 6) rfl sh_26 rfl (by decide) (by decide) ?_
  refine x_ret rfl ?_
  exact ⟨_, _, rfl, h⟩
theorem EX6_price {D : Nat} {Q : Option Value → mI → mJ → Prop}  {MI : mI} {ML : mJ} (h : VX6_price_0 D Q  MI ML) : ∃ v MI' ML', Q v MI' ML' ∧ mrc (D + 1) 87 [.ref 24] MI ML v MI' ML' := by
  refine x_en (n := 0) (T := TX6_price) rfl rfl ?_
  refine x_kl ?_ h
  exact ⟨Or.inr rfl, True.intro⟩
def VX6_weigherOf_0 (D : Nat) (Q : Option Value → mI → mJ → Prop)  (v1 : Int32) (MI : mI) (ML : mJ) : Prop := mEx D TX6_weigherOf (mqS Q) (0, [some (.ref 24), some (.int v1)], [], (W0, Sh0, MI, ML))
theorem BX6_weigherOf_0 {D : Nat} {Q : Option Value → mI → mJ → Prop}  {v1 : Int32} {MI : mI} {ML : mJ} 
    (h : (v1 < nI 0 → Q (some (.int (nI 8))) MI ML) ∧ (¬ v1 < nI 0 → ((nI 8) ≤ v1 → Q (some (.int (nI 8))) MI ML) ∧ (¬ (nI 8) ≤ v1 → ∃ i1 : Nat, v1 = nI i1 ∧ i1 < 8 ∧ (Q (some (.int (MI 27 i1))) MI ML)))) :
    VX6_weigherOf_0 D Q v1 MI ML := by
  show mEx D TX6_weigherOf (mqS Q) (0, [some (.ref 24), some (.int v1)], [], (W0, Sh0, MI, ML))
  refine x_st rfl ?_
  refine x_br rfl (fun c => ?_) (fun c => ?_)
  · replace h := h.1 c
    refine x_st rfl ?_
    refine x_ret rfl ?_
    exact ⟨_, _, rfl, h⟩
  · replace h := h.2 c
    refine x_st rfl ?_
    refine x_st rfl ?_
    refine x_br rfl (fun c => ?_) (fun c => ?_)
    · replace h := h.1 c
      refine x_st rfl ?_
      refine x_ret rfl ?_
      exact ⟨_, _, rfl, h⟩
    · replace h := h.2 c
      refine x_st rfl ?_
      refine x_gr (ci := 6) (k := 3) (nx := 14) rfl sh_24 rfl ?_
      refine x_st rfl ?_
      obtain ⟨i1, hx, hi, h⟩ := h
      refine x_ia (i := i1) (nx := 16) rfl sh_27 hx hi (by decide) ?_
      refine x_st rfl ?_
      refine x_ret rfl ?_
      exact ⟨_, _, rfl, h⟩
theorem EX6_weigherOf {D : Nat} {Q : Option Value → mI → mJ → Prop}  {v1 : Int32} {MI : mI} {ML : mJ} (h : VX6_weigherOf_0 D Q v1 MI ML) : ∃ v MI' ML', Q v MI' ML' ∧ mrc (D + 1) 88 [.ref 24, .int v1] MI ML v MI' ML' := by
  refine x_en (n := 0) (T := TX6_weigherOf) rfl rfl ?_
  refine x_kl ?_ h
  exact ⟨Or.inr rfl, ⟨Or.inr rfl, True.intro⟩⟩
def VX6_mayWeigh_0 (D : Nat) (Q : Option Value → mI → mJ → Prop)  (v1 : Int32) (v2 : Int32) (MI : mI) (ML : mJ) : Prop := mEx D TX6_mayWeigh (mqS Q) (0, [some (.ref 24), some (.int v1), some (.int v2)], [], (W0, Sh0, MI, ML))
theorem BX6_mayWeigh_0 {D : Nat} {Q : Option Value → mI → mJ → Prop}  {v1 : Int32} {v2 : Int32} {MI : mI} {ML : mJ} 
    (h : (v1 = v2 → Q (some (.int (nI 0))) MI ML) ∧ (¬ v1 = v2 → ∃ (x3 : Int32) (M1 : mI) (N2 : mJ), mrc D 16 [.ref 1, .int v2, .int v1] MI ML (some (.int x3)) M1 N2 ∧ ((x3 = (nI 8) → Q (some (.int (nI 0))) M1 N2) ∧ (¬ x3 = (nI 8) → Q (some (.int (nI 1))) M1 N2)))) :
    VX6_mayWeigh_0 D Q v1 v2 MI ML := by
  show mEx D TX6_mayWeigh (mqS Q) (0, [some (.ref 24), some (.int v1), some (.int v2)], [], (W0, Sh0, MI, ML))
  refine x_st rfl ?_
  refine x_st rfl ?_
  refine x_br rfl (fun c => ?_) (fun c => ?_)
  · replace h := h.1 c
    refine x_st rfl ?_
    refine x_ret rfl ?_
    exact ⟨_, _, rfl, h⟩
  · replace h := h.2 c
    refine x_st rfl ?_
    refine x_gr (ci := 6) (k := 0) (nx := 9) rfl sh_24 rfl ?_
    refine x_st rfl ?_
    refine x_st rfl ?_
    obtain ⟨x3, M1, N2, hc, h⟩ := h
    refine x_vi (y := 16) (n := 2) (ci := 0) (nx := 14) rfl (fun _ => rfl) sh_1 rfl hc ?_
    refine x_st rfl ?_
    refine x_br rfl (fun c => ?_) (fun c => ?_)
    · replace h := h.1 c
      refine x_st rfl ?_
      refine x_ret rfl ?_
      exact ⟨_, _, rfl, h⟩
    · replace h := h.2 c
      refine x_st rfl ?_
      refine x_st rfl ?_
      refine x_ret rfl ?_
      exact ⟨_, _, rfl, h⟩
theorem EX6_mayWeigh {D : Nat} {Q : Option Value → mI → mJ → Prop}  {v1 : Int32} {v2 : Int32} {MI : mI} {ML : mJ} (h : VX6_mayWeigh_0 D Q v1 v2 MI ML) : ∃ v MI' ML', Q v MI' ML' ∧ mrc (D + 1) 89 [.ref 24, .int v1, .int v2] MI ML v MI' ML' := by
  refine x_en (n := 0) (T := TX6_mayWeigh) rfl rfl ?_
  refine x_kl ?_ h
  exact ⟨Or.inr rfl, ⟨Or.inr rfl, ⟨Or.inr rfl, True.intro⟩⟩⟩
def VX6_setPrice_0 (D : Nat) (Q : Option Value → mI → mJ → Prop)  (v1 : Int32) (v2 : Int32) (v3 : Int32) (MI : mI) (ML : mJ) : Prop := mEx D TX6_setPrice (mqS Q) (0, [some (.ref 24), some (.int v1), some (.int v2), some (.int v3), none], [], (W0, Sh0, MI, ML))
theorem BX6_setPrice_0 {D : Nat} {Q : Option Value → mI → mJ → Prop}  {v1 : Int32} {v2 : Int32} {v3 : Int32} {MI : mI} {ML : mJ} 
    (h : (((v1 * (nI 9)) + v2) < nI 0 → Q none MI ML) ∧ (¬ ((v1 * (nI 9)) + v2) < nI 0 → ((nI 72) ≤ ((v1 * (nI 9)) + v2) → Q none MI ML) ∧ (¬ (nI 72) ≤ ((v1 * (nI 9)) + v2) → ∃ i1 : Nat, ((v1 * (nI 9)) + v2) = nI i1 ∧ i1 < 72 ∧ (Q none (mup MI 25 (mput (MI 25) i1 v3)) ML)))) :
    VX6_setPrice_0 D Q v1 v2 v3 MI ML := by
  show mEx D TX6_setPrice (mqS Q) (0, [some (.ref 24), some (.int v1), some (.int v2), some (.int v3), none], [], (W0, Sh0, MI, ML))
  refine x_st rfl ?_
  refine x_st rfl ?_
  refine x_st rfl ?_
  refine x_st rfl ?_
  refine x_st rfl ?_
  refine x_st rfl ?_
  refine x_st rfl ?_
  refine x_br rfl (fun c => ?_) (fun c => ?_)
  · replace h := h.1 c
    refine x_ret rfl ?_
    exact ⟨_, _, rfl, h⟩
  · replace h := h.2 c
    refine x_st rfl ?_
    refine x_st rfl ?_
    refine x_gr (ci := 6) (k := 1) (nx := 19) rfl sh_24 rfl ?_
    refine x_alen (nx := 20) rfl sh_25 ?_
    refine x_br rfl (fun c => ?_) (fun c => ?_)
    · replace h := h.1 c
      refine x_ret rfl ?_
      exact ⟨_, _, rfl, h⟩
    · replace h := h.2 c
      refine x_st rfl ?_
      refine x_gr (ci := 6) (k := 1) (nx := 27) rfl sh_24 rfl ?_
      refine x_st rfl ?_
      refine x_st rfl ?_
      obtain ⟨i1, hx, hi, h⟩ := h
      refine x_iast (i := i1) (nx := 31) rfl sh_25 hx hi (by decide) ?_
      refine x_ret rfl ?_
      exact ⟨_, _, rfl, h⟩
theorem EX6_setPrice {D : Nat} {Q : Option Value → mI → mJ → Prop}  {v1 : Int32} {v2 : Int32} {v3 : Int32} {MI : mI} {ML : mJ} (h : VX6_setPrice_0 D Q v1 v2 v3 MI ML) : ∃ v MI' ML', Q v MI' ML' ∧ mrc (D + 1) 90 [.ref 24, .int v1, .int v2, .int v3] MI ML v MI' ML' := by
  refine x_en (n := 1) (T := TX6_setPrice) rfl rfl ?_
  refine x_kl ?_ h
  exact ⟨Or.inr rfl, ⟨Or.inr rfl, ⟨Or.inr rfl, ⟨Or.inr rfl, ⟨Or.inl rfl, True.intro⟩⟩⟩⟩⟩
def VX6_settle_0 (D : Nat) (Q : Option Value → mI → mJ → Prop)  (MI : mI) (ML : mJ) : Prop := mEx D TX6_settle (mqS Q) (0, [some (.ref 24), none, none, none, none, none], [], (W0, Sh0, MI, ML))
def VX6_settle_14 (D : Nat) (Q : Option Value → mI → mJ → Prop)  (v1 : Int32) (v2 : Int32) (v3 : Int32) (MI : mI) (ML : mJ) : Prop := mEx D TX6_settle (mqS Q) (14, [some (.ref 24), some (.int v1), some (.int v2), some (.int v3), none, none], [], (W0, Sh0, MI, ML))
def VX6_settle_36 (D : Nat) (Q : Option Value → mI → mJ → Prop)  (v1 : Int32) (v2 : Int32) (v3 : Int32) (MI : mI) (ML : mJ) : Prop := mEx D TX6_settle (mqS Q) (36, [some (.ref 24), some (.int v1), some (.int v2), some (.int v3), none, none], [], (W0, Sh0, MI, ML))
def VX6_settle_43 (D : Nat) (Q : Option Value → mI → mJ → Prop)  (v1 : Int32) (v2 : Int32) (v3 : Int32) (v4 : Int32) (MI : mI) (ML : mJ) : Prop := mEx D TX6_settle (mqS Q) (43, [some (.ref 24), some (.int v1), some (.int v2), some (.int v3), some (.int v4), none], [], (W0, Sh0, MI, ML))
def VX6_settle_87 (D : Nat) (Q : Option Value → mI → mJ → Prop)  (v1 : Int32) (v3 : Int32) (v4 : Int32) (MI : mI) (ML : mJ) : Prop := mEx D TX6_settle (mqS Q) (87, [some (.ref 24), some (.int v1), none, some (.int v3), some (.int v4), none], [], (W0, Sh0, MI, ML))
theorem BX6_settle_0 {D : Nat} {Q : Option Value → mI → mJ → Prop}  {MI : mI} {ML : mJ} 
    (h : VX6_settle_14 D Q (MI 1 0) ((nI 1) <<< ((MI 1 0) &&& 31)) (nI 0) MI ML) :
    VX6_settle_0 D Q  MI ML := by
  show mEx D TX6_settle (mqS Q) (0, [some (.ref 24), none, none, none, none, none], [], (W0, Sh0, MI, ML))
  refine x_st rfl ?_
  refine x_gr (ci := 6) (k := 0) (nx := 4) rfl sh_24 rfl ?_
  refine x_gi (ci := 0) (k := 0) (nx := 7) rfl sh_1 rfl ?_
  refine x_st rfl ?_
  refine x_st rfl ?_
  refine x_st rfl ?_
  refine x_st rfl ?_
  refine x_st rfl ?_
  refine x_st rfl ?_
  refine x_st rfl ?_
  refine x_kl ?_ h
  exact ⟨Or.inr rfl, ⟨Or.inr rfl, ⟨Or.inr rfl, ⟨Or.inr rfl, ⟨Or.inl rfl, ⟨Or.inl rfl, True.intro⟩⟩⟩⟩⟩⟩
theorem BX6_settle_14 {D : Nat} {Q : Option Value → mI → mJ → Prop}  {v1 : Int32} {v2 : Int32} {v3 : Int32} {MI : mI} {ML : mJ} 
    (h : (v2 ≤ v3 → VX6_settle_36 D Q v1 v2 (v1 - (nI 1)) MI ML) ∧ (¬ v2 ≤ v3 → ∃ (M1 : mI) (N2 : mJ), mrc D 94 [.ref 24, .int v1, .int v3, .int (nI 0)] MI ML none M1 N2 ∧ (VX6_settle_14 D Q v1 v2 (v3 + (nI 1)) M1 N2))) :
    VX6_settle_14 D Q v1 v2 v3 MI ML := by
  show mEx D TX6_settle (mqS Q) (14, [some (.ref 24), some (.int v1), some (.int v2), some (.int v3), none, none], [], (W0, Sh0, MI, ML))
  refine x_st rfl ?_
  refine x_st rfl ?_
  refine x_br rfl (fun c => ?_) (fun c => ?_)
  · replace h := h.1 c
    refine x_st rfl ?_
    refine x_st rfl ?_
    refine x_st rfl ?_
    refine x_st rfl ?_
    refine x_kl ?_ h
    exact ⟨Or.inr rfl, ⟨Or.inr rfl, ⟨Or.inr rfl, ⟨Or.inr rfl, ⟨Or.inl rfl, ⟨Or.inl rfl, True.intro⟩⟩⟩⟩⟩⟩
  · replace h := h.2 c
    refine x_st rfl ?_
    refine x_st rfl ?_
    refine x_st rfl ?_
    refine x_st rfl ?_
    obtain ⟨M1, N2, hc, h⟩ := h
    refine x_vv (y := 94) (n := 3) (ci := 6) (nx := 26) rfl (fun _ => rfl) sh_24 rfl hc ?_
    refine x_st rfl ?_
    refine x_st rfl ?_
    refine x_kl ?_ h
    exact ⟨Or.inr rfl, ⟨Or.inr rfl, ⟨Or.inr rfl, ⟨Or.inr rfl, ⟨Or.inl rfl, ⟨Or.inl rfl, True.intro⟩⟩⟩⟩⟩⟩
theorem BX6_settle_36 {D : Nat} {Q : Option Value → mI → mJ → Prop}  {v1 : Int32} {v2 : Int32} {v3 : Int32} {MI : mI} {ML : mJ} 
    (h : (v3 < nI 0 → VX6_settle_87 D Q v1 (nI 0) (nI 0) MI ML) ∧ (¬ v3 < nI 0 → VX6_settle_43 D Q v1 v2 v3 (nI 0) MI ML)) :
    VX6_settle_36 D Q v1 v2 v3 MI ML := by
  show mEx D TX6_settle (mqS Q) (36, [some (.ref 24), some (.int v1), some (.int v2), some (.int v3), none, none], [], (W0, Sh0, MI, ML))
  refine x_st rfl ?_
  refine x_br rfl (fun c => ?_) (fun c => ?_)
  · replace h := h.1 c
    refine x_st rfl ?_
    refine x_st rfl ?_
    refine x_st rfl ?_
    refine x_st rfl ?_
    refine x_kl ?_ h
    exact ⟨Or.inr rfl, ⟨Or.inr rfl, ⟨Or.inl rfl, ⟨Or.inr rfl, ⟨Or.inr rfl, ⟨Or.inl rfl, True.intro⟩⟩⟩⟩⟩⟩
  · replace h := h.2 c
    refine x_st rfl ?_
    refine x_st rfl ?_
    refine x_kl ?_ h
    exact ⟨Or.inr rfl, ⟨Or.inr rfl, ⟨Or.inr rfl, ⟨Or.inr rfl, ⟨Or.inr rfl, ⟨Or.inl rfl, True.intro⟩⟩⟩⟩⟩⟩
theorem BX6_settle_43 {D : Nat} {Q : Option Value → mI → mJ → Prop}  {v1 : Int32} {v2 : Int32} {v3 : Int32} {v4 : Int32} {MI : mI} {ML : mJ} 
    (h : (v2 ≤ v4 → VX6_settle_36 D Q v1 v2 (v3 + (-1 : Int32)) MI ML) ∧ (¬ v2 ≤ v4 → ∃ (x3 : Int32) (M1 : mI) (N2 : mJ), mrc D 92 [.ref 24, .int v3, .int v4] MI ML (some (.int x3)) M1 N2 ∧ (∃ (x6 : Int32) (M4 : mI) (N5 : mJ), mrc D 93 [.ref 24, .int v3, .int v4, .int x3] M1 N2 (some (.int x6)) M4 N5 ∧ (∃ (M7 : mI) (N8 : mJ), mrc D 94 [.ref 24, .int v3, .int v4, .int x6] M4 N5 none M7 N8 ∧ (VX6_settle_43 D Q v1 v2 v3 (v4 + (nI 1)) M7 N8))))) :
    VX6_settle_43 D Q v1 v2 v3 v4 MI ML := by
  show mEx D TX6_settle (mqS Q) (43, [some (.ref 24), some (.int v1), some (.int v2), some (.int v3), some (.int v4), none], [], (W0, Sh0, MI, ML))
  refine x_st rfl ?_
  refine x_st rfl ?_
  refine x_br rfl (fun c => ?_) (fun c => ?_)
  · replace h := h.1 c
    refine x_st rfl ?_
    refine x_st rfl ?_
    refine x_kl ?_ h
    exact ⟨Or.inr rfl, ⟨Or.inr rfl, ⟨Or.inr rfl, ⟨Or.inr rfl, ⟨Or.inl rfl, ⟨Or.inl rfl, True.intro⟩⟩⟩⟩⟩⟩
  · replace h := h.2 c
    refine x_st rfl ?_
    refine x_st rfl ?_
    refine x_st rfl ?_
    refine x_st rfl ?_
    refine x_st rfl ?_
    refine x_st rfl ?_
    refine x_st rfl ?_
    refine x_st rfl ?_
    refine x_st rfl ?_
    obtain ⟨x3, M1, N2, hc, h⟩ := h
    refine x_vi (y := 92) (n := 2) (ci := 6) (nx := 64) rfl (fun _ => rfl) sh_24 rfl hc ?_
    obtain ⟨x6, M4, N5, hc, h⟩ := h
    refine x_vi (y := 93) (n := 3) (ci := 6) (nx := 67) rfl (fun _ => rfl) sh_24 rfl hc ?_
    obtain ⟨M7, N8, hc, h⟩ := h
    refine x_vv (y := 94) (n := 3) (ci := 6) (nx := 70) rfl (fun _ => rfl) sh_24 rfl hc ?_
    refine x_st rfl ?_
    refine x_st rfl ?_
    refine x_kl ?_ h
    exact ⟨Or.inr rfl, ⟨Or.inr rfl, ⟨Or.inr rfl, ⟨Or.inr rfl, ⟨Or.inr rfl, ⟨Or.inl rfl, True.intro⟩⟩⟩⟩⟩⟩
theorem BX6_settle_87 {D : Nat} {Q : Option Value → mI → mJ → Prop}  {v1 : Int32} {v3 : Int32} {v4 : Int32} {MI : mI} {ML : mJ} 
    (h : (v1 ≤ v4 → Q none MI ML) ∧ (¬ v1 ≤ v4 → ((nI 8) ≤ v4 → Q none MI ML) ∧ (¬ (nI 8) ≤ v4 → ∃ (x3 : Int32) (M1 : mI) (N2 : mJ), mrc D 92 [.ref 24, .int v4, .int v3] MI ML (some (.int x3)) M1 N2 ∧ (∃ i4 : Nat, v4 = nI i4 ∧ i4 < 8 ∧ ((x3 = (nI 8) → VX6_settle_87 D Q v1 (v3 ||| (nI 0)) (v4 + (nI 1)) (mup M1 27 (mput (M1 27) i4 x3)) N2) ∧ (¬ x3 = (nI 8) → VX6_settle_87 D Q v1 (v3 ||| ((nI 1) <<< (x3 &&& 31))) (v4 + (nI 1)) (mup M1 27 (mput (M1 27) i4 x3)) N2)))))) :
    VX6_settle_87 D Q v1 v3 v4 MI ML := by
  show mEx D TX6_settle (mqS Q) (87, [some (.ref 24), some (.int v1), none, some (.int v3), some (.int v4), none], [], (W0, Sh0, MI, ML))
  refine x_st rfl ?_
  refine x_st rfl ?_
  refine x_br rfl (fun c => ?_) (fun c => ?_)
  · replace h := h.1 c
    refine x_ret rfl ?_
    exact ⟨_, _, rfl, h⟩
  · replace h := h.2 c
    refine x_st rfl ?_
    refine x_st rfl ?_
    refine x_br rfl (fun c => ?_) (fun c => ?_)
    · replace h := h.1 c
      refine x_ret rfl ?_
      exact ⟨_, _, rfl, h⟩
    · replace h := h.2 c
      refine x_st rfl ?_
      refine x_st rfl ?_
      refine x_st rfl ?_
      obtain ⟨x3, M1, N2, hc, h⟩ := h
      refine x_vi (y := 92) (n := 2) (ci := 6) (nx := 107) rfl (fun _ => rfl) sh_24 rfl hc ?_
      refine x_st rfl ?_
      refine x_st rfl ?_
      refine x_gr (ci := 6) (k := 3) (nx := 113) rfl sh_24 rfl ?_
      refine x_st rfl ?_
      refine x_st rfl ?_
      obtain ⟨i4, hx, hi, h⟩ := h
      refine x_iast (i := i4) (nx := 118) rfl sh_27 hx hi (by decide) ?_
      refine x_st rfl ?_
      refine x_st rfl ?_
      refine x_st rfl ?_
      refine x_br rfl (fun c => ?_) (fun c => ?_)
      · replace h := h.1 c
        refine x_st rfl ?_
        refine x_st rfl ?_
        refine x_st rfl ?_
        refine x_st rfl ?_
        refine x_st rfl ?_
        refine x_st rfl ?_
        refine x_kl ?_ h
        exact ⟨Or.inr rfl, ⟨Or.inr rfl, ⟨Or.inl rfl, ⟨Or.inr rfl, ⟨Or.inr rfl, ⟨Or.inl rfl, True.intro⟩⟩⟩⟩⟩⟩
      · replace h := h.2 c
        refine x_st rfl ?_
        refine x_st rfl ?_
        refine x_st rfl ?_
        refine x_st rfl ?_
        refine x_st rfl ?_
        refine x_st rfl ?_
        refine x_st rfl ?_
        refine x_kl ?_ h
        exact ⟨Or.inr rfl, ⟨Or.inr rfl, ⟨Or.inl rfl, ⟨Or.inr rfl, ⟨Or.inr rfl, ⟨Or.inl rfl, True.intro⟩⟩⟩⟩⟩⟩
theorem EX6_settle {D : Nat} {Q : Option Value → mI → mJ → Prop}  {MI : mI} {ML : mJ} (h : VX6_settle_0 D Q  MI ML) : ∃ v MI' ML', Q v MI' ML' ∧ mrc (D + 1) 91 [.ref 24] MI ML v MI' ML' := by
  refine x_en (n := 5) (T := TX6_settle) rfl rfl ?_
  refine x_kl ?_ h
  exact ⟨Or.inr rfl, ⟨Or.inl rfl, ⟨Or.inl rfl, ⟨Or.inl rfl, ⟨Or.inl rfl, ⟨Or.inl rfl, True.intro⟩⟩⟩⟩⟩⟩
def VX6_cheapest_0 (D : Nat) (Q : Option Value → mI → mJ → Prop)  (v1 : Int32) (v2 : Int32) (MI : mI) (ML : mJ) : Prop := mEx D TX6_cheapest (mqS Q) (0, [some (.ref 24), some (.int v1), some (.int v2), none, none, none, none], [], (W0, Sh0, MI, ML))
def VX6_cheapest_10 (D : Nat) (Q : Option Value → mI → mJ → Prop)  (v1 : Int32) (v2 : Int32) (v3 : Int32) (v4 : Int32) (v5 : Int32) (MI : mI) (ML : mJ) : Prop := mEx D TX6_cheapest (mqS Q) (10, [some (.ref 24), some (.int v1), some (.int v2), some (.int v3), some (.int v4), some (.int v5), none], [], (W0, Sh0, MI, ML))
theorem BX6_cheapest_0 {D : Nat} {Q : Option Value → mI → mJ → Prop}  {v1 : Int32} {v2 : Int32} {MI : mI} {ML : mJ} 
    (h : VX6_cheapest_10 D Q v1 v2 (nI 8) (nI 1000001) (nI 0) MI ML) :
    VX6_cheapest_0 D Q v1 v2 MI ML := by
  show mEx D TX6_cheapest (mqS Q) (0, [some (.ref 24), some (.int v1), some (.int v2), none, none, none, none], [], (W0, Sh0, MI, ML))
  refine x_st rfl ?_
  refine x_st rfl ?_
  refine x_st rfl ?_
  refine x_st rfl ?_
  refine x_st rfl ?_
  refine x_st rfl ?_
  refine x_kl ?_ h
  exact ⟨Or.inr rfl, ⟨Or.inr rfl, ⟨Or.inr rfl, ⟨Or.inr rfl, ⟨Or.inr rfl, ⟨Or.inr rfl, ⟨Or.inl rfl, True.intro⟩⟩⟩⟩⟩⟩⟩
theorem BX6_cheapest_10 {D : Nat} {Q : Option Value → mI → mJ → Prop}  {v1 : Int32} {v2 : Int32} {v3 : Int32} {v4 : Int32} {v5 : Int32} {MI : mI} {ML : mJ} 
    (h : ((MI 1 0) ≤ v5 → ∃ (x3 : Int32) (M1 : mI) (N2 : mJ), mrc D 93 [.ref 24, .int v1, .int v2, .int (nI 8)] MI ML (some (.int x3)) M1 N2 ∧ ((v4 ≤ x3 → Q (some (.int v3)) M1 N2) ∧ (¬ v4 ≤ x3 → Q (some (.int (nI 8))) M1 N2))) ∧ (¬ (MI 1 0) ≤ v5 → ∃ (x6 : Int32) (M4 : mI) (N5 : mJ), mrc D 93 [.ref 24, .int v1, .int v2, .int v5] MI ML (some (.int x6)) M4 N5 ∧ ((v4 ≤ x6 → VX6_cheapest_10 D Q v1 v2 v3 v4 (v5 + (nI 1)) M4 N5) ∧ (¬ v4 ≤ x6 → VX6_cheapest_10 D Q v1 v2 v5 x6 (v5 + (nI 1)) M4 N5)))) :
    VX6_cheapest_10 D Q v1 v2 v3 v4 v5 MI ML := by
  show mEx D TX6_cheapest (mqS Q) (10, [some (.ref 24), some (.int v1), some (.int v2), some (.int v3), some (.int v4), some (.int v5), none], [], (W0, Sh0, MI, ML))
  refine x_st rfl ?_
  refine x_st rfl ?_
  refine x_gr (ci := 6) (k := 0) (nx := 16) rfl sh_24 rfl ?_
  refine x_gi (ci := 0) (k := 0) (nx := 19) rfl sh_1 rfl ?_
  refine x_br rfl (fun c => ?_) (fun c => ?_)
  · replace h := h.1 c
    refine x_st rfl ?_
    refine x_st rfl ?_
    refine x_st rfl ?_
    refine x_st rfl ?_
    obtain ⟨x3, M1, N2, hc, h⟩ := h
    refine x_vi (y := 93) (n := 3) (ci := 6) (nx := 60) rfl (fun _ => rfl) sh_24 rfl hc ?_
    refine x_st rfl ?_
    refine x_br rfl (fun c => ?_) (fun c => ?_)
    · replace h := h.1 c
      refine x_st rfl ?_
      refine x_ret rfl ?_
      exact ⟨_, _, rfl, h⟩
    · replace h := h.2 c
      refine x_st rfl ?_
      refine x_st rfl ?_
      refine x_ret rfl ?_
      exact ⟨_, _, rfl, h⟩
  · replace h := h.2 c
    refine x_st rfl ?_
    refine x_st rfl ?_
    refine x_st rfl ?_
    refine x_st rfl ?_
    obtain ⟨x6, M4, N5, hc, h⟩ := h
    refine x_vi (y := 93) (n := 3) (ci := 6) (nx := 30) rfl (fun _ => rfl) sh_24 rfl hc ?_
    refine x_st rfl ?_
    refine x_st rfl ?_
    refine x_st rfl ?_
    refine x_br rfl (fun c => ?_) (fun c => ?_)
    · replace h := h.1 c
      refine x_st rfl ?_
      refine x_st rfl ?_
      refine x_kl ?_ h
      exact ⟨Or.inr rfl, ⟨Or.inr rfl, ⟨Or.inr rfl, ⟨Or.inr rfl, ⟨Or.inr rfl, ⟨Or.inr rfl, ⟨Or.inl rfl, True.intro⟩⟩⟩⟩⟩⟩⟩
    · replace h := h.2 c
      refine x_st rfl ?_
      refine x_st rfl ?_
      refine x_st rfl ?_
      refine x_st rfl ?_
      refine x_st rfl ?_
      refine x_st rfl ?_
      refine x_kl ?_ h
      exact ⟨Or.inr rfl, ⟨Or.inr rfl, ⟨Or.inr rfl, ⟨Or.inr rfl, ⟨Or.inr rfl, ⟨Or.inr rfl, ⟨Or.inl rfl, True.intro⟩⟩⟩⟩⟩⟩⟩
theorem EX6_cheapest {D : Nat} {Q : Option Value → mI → mJ → Prop}  {v1 : Int32} {v2 : Int32} {MI : mI} {ML : mJ} (h : VX6_cheapest_0 D Q v1 v2 MI ML) : ∃ v MI' ML', Q v MI' ML' ∧ mrc (D + 1) 92 [.ref 24, .int v1, .int v2] MI ML v MI' ML' := by
  refine x_en (n := 4) (T := TX6_cheapest) rfl rfl ?_
  refine x_kl ?_ h
  exact ⟨Or.inr rfl, ⟨Or.inr rfl, ⟨Or.inr rfl, ⟨Or.inl rfl, ⟨Or.inl rfl, ⟨Or.inl rfl, ⟨Or.inl rfl, True.intro⟩⟩⟩⟩⟩⟩⟩
def VX6_priceBy_0 (D : Nat) (Q : Option Value → mI → mJ → Prop)  (v1 : Int32) (v2 : Int32) (v3 : Int32) (MI : mI) (ML : mJ) : Prop := mEx D TX6_priceBy (mqS Q) (0, [some (.ref 24), some (.int v1), some (.int v2), some (.int v3), none, none, none, none], [], (W0, Sh0, MI, ML))
def VX6_priceBy_28 (D : Nat) (Q : Option Value → mI → mJ → Prop)  (v1 : Int32) (v2 : Int32) (v3 : Int32) (v4 : Int32) (s0 : Int32) (MI : mI) (ML : mJ) : Prop := mEx D TX6_priceBy (mqS Q) (28, [some (.ref 24), some (.int v1), some (.int v2), some (.int v3), some (.int v4), none, none, none], [.int s0], (W0, Sh0, MI, ML))
def VX6_priceBy_75 (D : Nat) (Q : Option Value → mI → mJ → Prop)  (v4 : Int32) (s0 : Int32) (s1 : Int32) (MI : mI) (ML : mJ) : Prop := mEx D TX6_priceBy (mqS Q) (75, [some (.ref 24), none, none, none, some (.int v4), none, none, none], [.int s1, .int s0], (W0, Sh0, MI, ML))
def VX6_priceBy_105 (D : Nat) (Q : Option Value → mI → mJ → Prop)  (v4 : Int32) (s0 : Int32) (MI : mI) (ML : mJ) : Prop := mEx D TX6_priceBy (mqS Q) (105, [some (.ref 24), none, none, none, some (.int v4), none, none, none], [.int s0], (W0, Sh0, MI, ML))
theorem BX6_priceBy_0 {D : Nat} {Q : Option Value → mI → mJ → Prop}  {v1 : Int32} {v2 : Int32} {v3 : Int32} {MI : mI} {ML : mJ} 
    (h : (v3 = (nI 8) → VX6_priceBy_28 D Q v1 v2 v3 ((v1 * (nI 9)) + v3) (nI 0) MI ML) ∧ (¬ v3 = (nI 8) → (((v2 >>> (v3 &&& 31)) &&& (nI 1)) = (nI 1) → VX6_priceBy_28 D Q v1 v2 v3 ((v1 * (nI 9)) + v3) (nI 1) MI ML) ∧ (¬ ((v2 >>> (v3 &&& 31)) &&& (nI 1)) = (nI 1) → VX6_priceBy_28 D Q v1 v2 v3 ((v1 * (nI 9)) + v3) (nI 0) MI ML))) :
    VX6_priceBy_0 D Q v1 v2 v3 MI ML := by
  show mEx D TX6_priceBy (mqS Q) (0, [some (.ref 24), some (.int v1), some (.int v2), some (.int v3), none, none, none, none], [], (W0, Sh0, MI, ML))
  refine x_st rfl ?_
  refine x_st rfl ?_
  refine x_st rfl ?_
  refine x_st rfl ?_
  refine x_st rfl ?_
  refine x_st rfl ?_
  refine x_st rfl ?_
  refine x_st rfl ?_
  refine x_br rfl (fun c => ?_) (fun c => ?_)
  · replace h := h.1 c
    refine x_st rfl ?_
    refine x_kl ?_ h
    exact ⟨Or.inr rfl, ⟨Or.inr rfl, ⟨Or.inr rfl, ⟨Or.inr rfl, ⟨Or.inr rfl, ⟨Or.inl rfl, ⟨Or.inl rfl, ⟨Or.inl rfl, True.intro⟩⟩⟩⟩⟩⟩⟩⟩
  · replace h := h.2 c
    refine x_st rfl ?_
    refine x_st rfl ?_
    refine x_st rfl ?_
    refine x_st rfl ?_
    refine x_st rfl ?_
    refine x_st rfl ?_
    refine x_br rfl (fun c => ?_) (fun c => ?_)
    · replace h := h.1 c
      refine x_st rfl ?_
      refine x_st rfl ?_
      refine x_kl ?_ h
      exact ⟨Or.inr rfl, ⟨Or.inr rfl, ⟨Or.inr rfl, ⟨Or.inr rfl, ⟨Or.inr rfl, ⟨Or.inl rfl, ⟨Or.inl rfl, ⟨Or.inl rfl, True.intro⟩⟩⟩⟩⟩⟩⟩⟩
    · replace h := h.2 c
      refine x_st rfl ?_
      refine x_kl ?_ h
      exact ⟨Or.inr rfl, ⟨Or.inr rfl, ⟨Or.inr rfl, ⟨Or.inr rfl, ⟨Or.inr rfl, ⟨Or.inl rfl, ⟨Or.inl rfl, ⟨Or.inl rfl, True.intro⟩⟩⟩⟩⟩⟩⟩⟩
theorem BX6_priceBy_28 {D : Nat} {Q : Option Value → mI → mJ → Prop}  {v1 : Int32} {v2 : Int32} {v3 : Int32} {v4 : Int32} {s0 : Int32} {MI : mI} {ML : mJ} 
    (h : (s0 = nI 0 → (v4 < nI 0 → Q (some (.int (nI 1000000))) MI ML) ∧ (¬ v4 < nI 0 → (v4 < (nI 72) → (v3 = (nI 8) → VX6_priceBy_75 D Q v4 ((v1 + (nI 1)) * (nI 256)) v2 MI ML) ∧ (¬ v3 = (nI 8) → VX6_priceBy_75 D Q v4 ((v1 + (nI 1)) * (nI 256)) (v2 ||| ((nI 1) <<< (v3 &&& 31))) MI ML)) ∧ (¬ v4 < (nI 72) → Q (some (.int (nI 1000000))) MI ML))) ∧ (¬ s0 = nI 0 → Q (some (.int (nI 1000000))) MI ML)) :
    VX6_priceBy_28 D Q v1 v2 v3 v4 s0 MI ML := by
  show mEx D TX6_priceBy (mqS Q) (28, [some (.ref 24), some (.int v1), some (.int v2), some (.int v3), some (.int v4), none, none, none], [.int s0], (W0, Sh0, MI, ML))
  refine x_st rfl ?_
  refine x_st rfl ?_
  refine x_br rfl (fun c => ?_) (fun c => ?_)
  · replace h := h.1 c
    refine x_st rfl ?_
    refine x_br rfl (fun c => ?_) (fun c => ?_)
    · replace h := h.1 c
      refine x_st rfl ?_
      refine x_ret rfl ?_
      exact ⟨_, _, rfl, h⟩
    · replace h := h.2 c
      refine x_st rfl ?_
      refine x_st rfl ?_
      refine x_gr (ci := 6) (k := 1) (nx := 46) rfl sh_24 rfl ?_
      refine x_alen (nx := 47) rfl sh_25 ?_
      refine x_br rfl (fun c => ?_) (fun c => ?_)
      · replace h := h.1 c
        refine x_st rfl ?_
        refine x_st rfl ?_
        refine x_st rfl ?_
        refine x_st rfl ?_
        refine x_st rfl ?_
        refine x_st rfl ?_
        refine x_st rfl ?_
        refine x_br rfl (fun c => ?_) (fun c => ?_)
        · replace h := h.1 c
          refine x_st rfl ?_
          refine x_st rfl ?_
          refine x_kl ?_ h
          exact ⟨Or.inr rfl, ⟨Or.inl rfl, ⟨Or.inl rfl, ⟨Or.inl rfl, ⟨Or.inr rfl, ⟨Or.inl rfl, ⟨Or.inl rfl, ⟨Or.inl rfl, True.intro⟩⟩⟩⟩⟩⟩⟩⟩
        · replace h := h.2 c
          refine x_st rfl ?_
          refine x_st rfl ?_
          refine x_st rfl ?_
          refine x_st rfl ?_
          refine x_st rfl ?_
          refine x_kl ?_ h
          exact ⟨Or.inr rfl, ⟨Or.inl rfl, ⟨Or.inl rfl, ⟨Or.inl rfl, ⟨Or.inr rfl, ⟨Or.inl rfl, ⟨Or.inl rfl, ⟨Or.inl rfl, True.intro⟩⟩⟩⟩⟩⟩⟩⟩
      · replace h := h.2 c
        refine x_st rfl ?_
        refine x_ret rfl ?_
        exact ⟨_, _, rfl, h⟩
  · replace h := h.2 c
    refine x_st rfl ?_
    refine x_ret rfl ?_
    exact ⟨_, _, rfl, h⟩
theorem BX6_priceBy_75 {D : Nat} {Q : Option Value → mI → mJ → Prop}  {v4 : Int32} {s0 : Int32} {s1 : Int32} {MI : mI} {ML : mJ} 
    (h : ((s0 + s1) < nI 0 → VX6_priceBy_105 D Q v4 (nI 1000000) MI ML) ∧ (¬ (s0 + s1) < nI 0 → ((nI 2304) ≤ (s0 + s1) → VX6_priceBy_105 D Q v4 (nI 1000000) MI ML) ∧ (¬ (nI 2304) ≤ (s0 + s1) → ∃ i1 : Nat, (s0 + s1) = nI i1 ∧ i1 < 2304 ∧ (VX6_priceBy_105 D Q v4 (MI 26 i1) MI ML)))) :
    VX6_priceBy_75 D Q v4 s0 s1 MI ML := by
  show mEx D TX6_priceBy (mqS Q) (75, [some (.ref 24), none, none, none, some (.int v4), none, none, none], [.int s1, .int s0], (W0, Sh0, MI, ML))
  refine x_st rfl ?_
  refine x_st rfl ?_
  refine x_st rfl ?_
  refine x_br rfl (fun c => ?_) (fun c => ?_)
  · replace h := h.1 c
    refine x_st rfl ?_
    refine x_kl ?_ h
    exact ⟨Or.inr rfl, ⟨Or.inl rfl, ⟨Or.inl rfl, ⟨Or.inl rfl, ⟨Or.inr rfl, ⟨Or.inl rfl, ⟨Or.inl rfl, ⟨Or.inl rfl, True.intro⟩⟩⟩⟩⟩⟩⟩⟩
  · replace h := h.2 c
    refine x_st rfl ?_
    refine x_st rfl ?_
    refine x_gr (ci := 6) (k := 2) (nx := 89) rfl sh_24 rfl ?_
    refine x_alen (nx := 90) rfl sh_26 ?_
    refine x_br rfl (fun c => ?_) (fun c => ?_)
    · replace h := h.1 c
      refine x_st rfl ?_
      refine x_kl ?_ h
      exact ⟨Or.inr rfl, ⟨Or.inl rfl, ⟨Or.inl rfl, ⟨Or.inl rfl, ⟨Or.inr rfl, ⟨Or.inl rfl, ⟨Or.inl rfl, ⟨Or.inl rfl, True.intro⟩⟩⟩⟩⟩⟩⟩⟩
    · replace h := h.2 c
      refine x_st rfl ?_
      refine x_gr (ci := 6) (k := 2) (nx := 97) rfl sh_24 rfl ?_
      refine x_st rfl ?_
      obtain ⟨i1, hx, hi, h⟩ := h
      refine x_ia (i := i1) (nx := 100) rfl sh_26 hx hi (by decide) ?_
      refine x_st rfl ?_
      refine x_kl ?_ h
      exact ⟨Or.inr rfl, ⟨Or.inl rfl, ⟨Or.inl rfl, ⟨Or.inl rfl, ⟨Or.inr rfl, ⟨Or.inl rfl, ⟨Or.inl rfl, ⟨Or.inl rfl, True.intro⟩⟩⟩⟩⟩⟩⟩⟩
theorem BX6_priceBy_105 {D : Nat} {Q : Option Value → mI → mJ → Prop}  {v4 : Int32} {s0 : Int32} {MI : mI} {ML : mJ} 
    (h : ∃ i1 : Nat, v4 = nI i1 ∧ i1 < 72 ∧ (Q (some (.int (if (nI 1000000) < ((MI 25 i1) + s0) then (nI 1000000) else ((MI 25 i1) + s0)))) MI ML)) :
    VX6_priceBy_105 D Q v4 s0 MI ML := by
  show mEx D TX6_priceBy (mqS Q) (105, [some (.ref 24), none, none, none, some (.int v4), none, none, none], [.int s0], (W0, Sh0, MI, ML))
  refine x_st rfl ?_
  refine x_st rfl ?_
  refine x_gr (ci := 6) (k := 1) (nx := 111) rfl sh_24 rfl ?_
  refine x_st rfl ?_
  obtain ⟨i1, hx, hi, h⟩ := h
  refine x_ia (i := i1) (nx := 114) rfl sh_25 hx hi (by decide) ?_
  refine x_st rfl ?_
  refine x_st rfl ?_
  refine x_st rfl ?_
  refine x_st rfl ?_
  refine x_ret rfl ?_
  exact ⟨_, _, rfl, h⟩
theorem EX6_priceBy {D : Nat} {Q : Option Value → mI → mJ → Prop}  {v1 : Int32} {v2 : Int32} {v3 : Int32} {MI : mI} {ML : mJ} (h : VX6_priceBy_0 D Q v1 v2 v3 MI ML) : ∃ v MI' ML', Q v MI' ML' ∧ mrc (D + 1) 93 [.ref 24, .int v1, .int v2, .int v3] MI ML v MI' ML' := by
  refine x_en (n := 4) (T := TX6_priceBy) rfl rfl ?_
  refine x_kl ?_ h
  exact ⟨Or.inr rfl, ⟨Or.inr rfl, ⟨Or.inr rfl, ⟨Or.inr rfl, ⟨Or.inl rfl, ⟨Or.inl rfl, ⟨Or.inl rfl, ⟨Or.inl rfl, True.intro⟩⟩⟩⟩⟩⟩⟩⟩
