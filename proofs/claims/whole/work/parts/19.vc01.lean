/-! bodies by blocks -/
def VX1_taleByte_0 (D : Nat) (Q : Option Value → mI → mJ → Prop)  (v1 : Int32) (MI : mI) (ML : mJ) : Prop := mEx D TX1_taleByte (mqS Q) (0, [some (.ref 33), some (.int v1)], [], (W0, Sh0, MI, ML))
theorem BX1_taleByte_0 {D : Nat} {Q : Option Value → mI → mJ → Prop}  {v1 : Int32} {MI : mI} {ML : mJ} 
    (h : (v1 < nI 0 → Q (some (.int (-2 : Int32))) MI ML) ∧ (¬ v1 < nI 0 → ((MI 33 2) ≤ v1 → Q (some (.int (-2 : Int32))) MI ML) ∧ (¬ (MI 33 2) ≤ v1 → ∃ i1 : Nat, v1 = nI i1 ∧ i1 < 72 ∧ (Q (some (.int (MI 35 i1))) MI ML)))) :
    VX1_taleByte_0 D Q v1 MI ML := by
  show mEx D TX1_taleByte (mqS Q) (0, [some (.ref 33), some (.int v1)], [], (W0, Sh0, MI, ML))
  refine x_st rfl ?_
  refine x_br rfl (fun c => ?_) (fun c => ?_)
  · replace h := h.1 c
    refine x_st rfl ?_
    refine x_ret rfl ?_
    exact ⟨_, _, rfl, h⟩
  · replace h := h.2 c
    refine x_st rfl ?_
    refine x_st rfl ?_
    refine x_gi (ci := 1) (k := 2) (nx := 9) rfl sh_33 rfl ?_
    refine x_br rfl (fun c => ?_) (fun c => ?_)
    · replace h := h.1 c
      refine x_st rfl ?_
      refine x_ret rfl ?_
      exact ⟨_, _, rfl, h⟩
    · replace h := h.2 c
      refine x_st rfl ?_
      refine x_gr (ci := 1) (k := 1) (nx := 16) rfl sh_33 rfl ?_
      refine x_st rfl ?_
      obtain ⟨i1, hx, hi, h⟩ := h
      refine x_ia (i := i1) (nx := 18) rfl sh_35 hx hi (by decide) ?_
      refine x_st rfl ?_
      refine x_ret rfl ?_
      exact ⟨_, _, rfl, h⟩
theorem EX1_taleByte {D : Nat} {Q : Option Value → mI → mJ → Prop}  {v1 : Int32} {MI : mI} {ML : mJ} (h : VX1_taleByte_0 D Q v1 MI ML) : ∃ v MI' ML', Q v MI' ML' ∧ mrc (D + 1) 34 [.ref 33, .int v1] MI ML v MI' ML' := by
  refine x_en (n := 0) (T := TX1_taleByte) rfl rfl ?_
  refine x_kl ?_ h
  exact ⟨Or.inr rfl, ⟨Or.inr rfl, True.intro⟩⟩
def VX1_keepImage_0 (D : Nat) (Q : Option Value → mI → mJ → Prop) (k a : Nat) (MI : mI) (ML : mJ) : Prop := mEx D TX1_keepImage (mqS Q) (0, [some (.ref 33), some (.ref k)], [], (W0, Sh0, MI, ML))
theorem BX1_keepImage_0 {D : Nat} {Q : Option Value → mI → mJ → Prop} {k a : Nat} {MI : mI} {ML : mJ} (hB : bz k a)
    (h : ∃ (M1 : mI) (N2 : mJ), mrc D 26 [.ref 36, .ref k] MI ML none M1 N2 ∧ (∃ i3 i4 i5 : Nat, (nI 0) = nI i3 ∧ (nI 0) = nI i4 ∧ (nI 6) = nI i5 ∧ i3 + i5 ≤ 6 ∧ i4 + i5 ≤ 6 ∧ (Q none (mup (mup M1 38 (va_cpy (M1 34) (M1 38) i3 i4 i5)) 33 (mput ((mup M1 38 (va_cpy (M1 34) (M1 38) i3 i4 i5)) 33) 5 (nI 1))) N2))) :
    VX1_keepImage_0 D Q k a MI ML := by
  show mEx D TX1_keepImage (mqS Q) (0, [some (.ref 33), some (.ref k)], [], (W0, Sh0, MI, ML))
  refine x_st rfl ?_
  refine x_gr (ci := 1) (k := 3) (nx := 4) rfl sh_33 rfl ?_
  refine x_st rfl ?_
  obtain ⟨M1, N2, hc, h⟩ := h
  refine x_vv (y := 26) (n := 1) (ci := 0) (nx := 8) rfl (fun _ => rfl) sh_36 rfl hc ?_
  refine x_st rfl ?_
  refine x_gr (ci := 1) (k := 0) (nx := 12) rfl sh_33 rfl ?_
  refine x_st rfl ?_
  refine x_st rfl ?_
  refine x_gr (ci := 1) (k := 4) (nx := 17) rfl sh_33 rfl ?_
  refine x_st rfl ?_
  refine x_st rfl ?_
  obtain ⟨i3, i4, i5, e1, e2, e3, e4, e5, h⟩ := h
  refine x_cpi (nx := 23) rfl sh_34 sh_38 e1 e2 e3 e4 e5 (by decide) (by decide) rfl ?_
  refine x_st rfl ?_
  refine x_st rfl ?_
  refine x_pz (ci := 1) (k := 5) (nx := 28) rfl sh_33 rfl (by decide) ?_
  refine x_ret rfl ?_
  exact ⟨_, _, rfl, h⟩
theorem EX1_keepImage {D : Nat} {Q : Option Value → mI → mJ → Prop} {k a : Nat} {MI : mI} {ML : mJ} (h : VX1_keepImage_0 D Q k a MI ML) : ∃ v MI' ML', Q v MI' ML' ∧ mrc (D + 1) 35 [.ref 33, .ref k] MI ML v MI' ML' := by
  refine x_en (n := 0) (T := TX1_keepImage) rfl rfl ?_
  refine x_kl ?_ h
  exact ⟨Or.inr rfl, ⟨Or.inr rfl, True.intro⟩⟩
def VX1_hasImage_0 (D : Nat) (Q : Option Value → mI → mJ → Prop)  (MI : mI) (ML : mJ) : Prop := mEx D TX1_hasImage (mqS Q) (0, [some (.ref 33)], [], (W0, Sh0, MI, ML))
theorem BX1_hasImage_0 {D : Nat} {Q : Option Value → mI → mJ → Prop}  {MI : mI} {ML : mJ} 
    (h : ((MI 33 5) = nI 0 ∨ (MI 33 5) = nI 1) ∧ Q (some (.int (MI 33 5))) MI ML) :
    VX1_hasImage_0 D Q  MI ML := by
  show mEx D TX1_hasImage (mqS Q) (0, [some (.ref 33)], [], (W0, Sh0, MI, ML))
  refine x_st rfl ?_
  refine x_gi (ci := 1) (k := 5) (nx := 4) rfl sh_33 rfl ?_
  refine x_retz rfl h.1 ?_
  exact ⟨_, _, rfl, h.2⟩
theorem EX1_hasImage {D : Nat} {Q : Option Value → mI → mJ → Prop}  {MI : mI} {ML : mJ} (h : VX1_hasImage_0 D Q  MI ML) : ∃ v MI' ML', Q v MI' ML' ∧ mrc (D + 1) 36 [.ref 33] MI ML v MI' ML' := by
  refine x_en (n := 0) (T := TX1_hasImage) rfl rfl ?_
  refine x_kl ?_ h
  exact ⟨Or.inr rfl, True.intro⟩
def VX1_layBack_0 (D : Nat) (Q : Option Value → mI → mJ → Prop) (k a : Nat) (MI : mI) (ML : mJ) : Prop := mEx D TX1_layBack (mqS Q) (0, [some (.ref 33), some (.ref k)], [], (W0, Sh0, MI, ML))
theorem BX1_layBack_0 {D : Nat} {Q : Option Value → mI → mJ → Prop} {k a : Nat} {MI : mI} {ML : mJ} (hB : bz k a)
    (h : ∃ (M1 : mI) (N2 : mJ), mrc D 27 [.ref k, .ref 36] MI ML none M1 N2 ∧ (∃ i3 i4 i5 : Nat, (nI 0) = nI i3 ∧ (nI 0) = nI i4 ∧ (nI 6) = nI i5 ∧ i3 + i5 ≤ 6 ∧ i4 + i5 ≤ 6 ∧ (Q none (mup M1 34 (va_cpy (M1 38) (M1 34) i3 i4 i5)) N2))) :
    VX1_layBack_0 D Q k a MI ML := by
  show mEx D TX1_layBack (mqS Q) (0, [some (.ref 33), some (.ref k)], [], (W0, Sh0, MI, ML))
  refine x_st rfl ?_
  refine x_st rfl ?_
  refine x_gr (ci := 1) (k := 3) (nx := 5) rfl sh_33 rfl ?_
  obtain ⟨M1, N2, hc, h⟩ := h
  refine x_vv (y := 27) (n := 1) (ci := 0) (nx := 8) rfl (fun _ => rfl) (bz_o hB) rfl hc ?_
  refine x_st rfl ?_
  refine x_gr (ci := 1) (k := 4) (nx := 12) rfl sh_33 rfl ?_
  refine x_st rfl ?_
  refine x_st rfl ?_
  refine x_gr (ci := 1) (k := 0) (nx := 17) rfl sh_33 rfl ?_
  refine x_st rfl ?_
  refine x_st rfl ?_
  obtain ⟨i3, i4, i5, e1, e2, e3, e4, e5, h⟩ := h
  refine x_cpi (nx := 23) rfl sh_38 sh_34 e1 e2 e3 e4 e5 (by decide) (by decide) rfl ?_
  refine x_ret rfl ?_
  exact ⟨_, _, rfl, h⟩
theorem EX1_layBack {D : Nat} {Q : Option Value → mI → mJ → Prop} {k a : Nat} {MI : mI} {ML : mJ} (h : VX1_layBack_0 D Q k a MI ML) : ∃ v MI' ML', Q v MI' ML' ∧ mrc (D + 1) 37 [.ref 33, .ref k] MI ML v MI' ML' := by
  refine x_en (n := 0) (T := TX1_layBack) rfl rfl ?_
  refine x_kl ?_ h
  exact ⟨Or.inr rfl, ⟨Or.inr rfl, True.intro⟩⟩
def VX2_add_0 (D : Nat) (Q : Option Value → mI → mJ → Prop)  (v1 : Int32) (v2 : Int32) (v3 : Int32) (MI : mI) (ML : mJ) : Prop := mEx D TX2_add (mqS Q) (0, [some (.ref 39), some (.int v1), some (.int v2), some (.int v3)], [], (W0, Sh0, MI, ML))
def VX2_add_13 (D : Nat) (Q : Option Value → mI → mJ → Prop)  (v1 : Int32) (v2 : Int32) (v3 : Int32) (MI : mI) (ML : mJ) : Prop := mEx D TX2_add (mqS Q) (13, [some (.ref 39), some (.int v1), some (.int v2), some (.int v3)], [], (W0, Sh0, MI, ML))
theorem BX2_add_0 {D : Nat} {Q : Option Value → mI → mJ → Prop}  {v1 : Int32} {v2 : Int32} {v3 : Int32} {MI : mI} {ML : mJ} 
    (h : ((MI 39 3) < (nI 40) → VX2_add_13 D Q v1 v2 v3 MI ML) ∧ (¬ (MI 39 3) < (nI 40) → ∃ (M1 : mI) (N2 : mJ), mrc D 40 [.ref 39] MI ML none M1 N2 ∧ (VX2_add_13 D Q v1 v2 v3 M1 N2))) :
    VX2_add_0 D Q v1 v2 v3 MI ML := by
  show mEx D TX2_add (mqS Q) (0, [some (.ref 39), some (.int v1), some (.int v2), some (.int v3)], [], (W0, Sh0, MI, ML))
  refine x_st rfl ?_
  refine x_gi (ci := 2) (k := 3) (nx := 4) rfl sh_39 rfl ?_
  refine x_st rfl ?_
  refine x_br rfl (fun c => ?_) (fun c => ?_)
  · replace h := h.1 c
    refine x_kl ?_ h
    exact ⟨Or.inr rfl, ⟨Or.inr rfl, ⟨Or.inr rfl, ⟨Or.inr rfl, True.intro⟩⟩⟩⟩
  · replace h := h.2 c
    refine x_st rfl ?_
    obtain ⟨M1, N2, hc, h⟩ := h
    refine x_vv (y := 40) (n := 0) (ci := 2) (nx := 13) rfl (fun _ => rfl) sh_39 rfl hc ?_
    refine x_kl ?_ h
    exact ⟨Or.inr rfl, ⟨Or.inr rfl, ⟨Or.inr rfl, ⟨Or.inr rfl, True.intro⟩⟩⟩⟩
theorem BX2_add_13 {D : Nat} {Q : Option Value → mI → mJ → Prop}  {v1 : Int32} {v2 : Int32} {v3 : Int32} {MI : mI} {ML : mJ} 
    (h : ∃ i1 : Nat, (MI 39 3) = nI i1 ∧ i1 < 40 ∧ (∃ i2 : Nat, ((mup MI 40 (mput (MI 40) i1 v1)) 39 3) = nI i2 ∧ i2 < 40 ∧ (∃ i3 : Nat, ((mup (mup MI 40 (mput (MI 40) i1 v1)) 41 (mput ((mup MI 40 (mput (MI 40) i1 v1)) 41) i2 v2)) 39 3) = nI i3 ∧ i3 < 40 ∧ (Q none (mup (mup (mup (mup (mup MI 40 (mput (MI 40) i1 v1)) 41 (mput ((mup MI 40 (mput (MI 40) i1 v1)) 41) i2 v2)) 42 (mput ((mup (mup MI 40 (mput (MI 40) i1 v1)) 41 (mput ((mup MI 40 (mput (MI 40) i1 v1)) 41) i2 v2)) 42) i3 v3)) 39 (mput ((mup (mup (mup MI 40 (mput (MI 40) i1 v1)) 41 (mput ((mup MI 40 (mput (MI 40) i1 v1)) 41) i2 v2)) 42 (mput ((mup (mup MI 40 (mput (MI 40) i1 v1)) 41 (mput ((mup MI 40 (mput (MI 40) i1 v1)) 41) i2 v2)) 42) i3 v3)) 39) 3 (((mup (mup (mup MI 40 (mput (MI 40) i1 v1)) 41 (mput ((mup MI 40 (mput (MI 40) i1 v1)) 41) i2 v2)) 42 (mput ((mup (mup MI 40 (mput (MI 40) i1 v1)) 41 (mput ((mup MI 40 (mput (MI 40) i1 v1)) 41) i2 v2)) 42) i3 v3)) 39 3) + (nI 1)))) 39 (mput ((mup (mup (mup (mup MI 40 (mput (MI 40) i1 v1)) 41 (mput ((mup MI 40 (mput (MI 40) i1 v1)) 41) i2 v2)) 42 (mput ((mup (mup MI 40 (mput (MI 40) i1 v1)) 41 (mput ((mup MI 40 (mput (MI 40) i1 v1)) 41) i2 v2)) 42) i3 v3)) 39 (mput ((mup (mup (mup MI 40 (mput (MI 40) i1 v1)) 41 (mput ((mup MI 40 (mput (MI 40) i1 v1)) 41) i2 v2)) 42 (mput ((mup (mup MI 40 (mput (MI 40) i1 v1)) 41 (mput ((mup MI 40 (mput (MI 40) i1 v1)) 41) i2 v2)) 42) i3 v3)) 39) 3 (((mup (mup (mup MI 40 (mput (MI 40) i1 v1)) 41 (mput ((mup MI 40 (mput (MI 40) i1 v1)) 41) i2 v2)) 42 (mput ((mup (mup MI 40 (mput (MI 40) i1 v1)) 41 (mput ((mup MI 40 (mput (MI 40) i1 v1)) 41) i2 v2)) 42) i3 v3)) 39 3) + (nI 1)))) 39) 4 ((mup (mup (mup (mup MI 40 (mput (MI 40) i1 v1)) 41 (mput ((mup MI 40 (mput (MI 40) i1 v1)) 41) i2 v2)) 42 (mput ((mup (mup MI 40 (mput (MI 40) i1 v1)) 41 (mput ((mup MI 40 (mput (MI 40) i1 v1)) 41) i2 v2)) 42) i3 v3)) 39 (mput ((mup (mup (mup MI 40 (mput (MI 40) i1 v1)) 41 (mput ((mup MI 40 (mput (MI 40) i1 v1)) 41) i2 v2)) 42 (mput ((mup (mup MI 40 (mput (MI 40) i1 v1)) 41 (mput ((mup MI 40 (mput (MI 40) i1 v1)) 41) i2 v2)) 42) i3 v3)) 39) 3 (((mup (mup (mup MI 40 (mput (MI 40) i1 v1)) 41 (mput ((mup MI 40 (mput (MI 40) i1 v1)) 41) i2 v2)) 42 (mput ((mup (mup MI 40 (mput (MI 40) i1 v1)) 41 (mput ((mup MI 40 (mput (MI 40) i1 v1)) 41) i2 v2)) 42) i3 v3)) 39 3) + (nI 1)))) 39 3))) ML)))) :
    VX2_add_13 D Q v1 v2 v3 MI ML := by
  show mEx D TX2_add (mqS Q) (13, [some (.ref 39), some (.int v1), some (.int v2), some (.int v3)], [], (W0, Sh0, MI, ML))
  refine x_st rfl ?_
  refine x_gr (ci := 2) (k := 0) (nx := 17) rfl sh_39 rfl ?_
  refine x_st rfl ?_
  refine x_gi (ci := 2) (k := 3) (nx := 21) rfl sh_39 rfl ?_
  refine x_st rfl ?_
  obtain ⟨i1, hx, hi, h⟩ := h
  refine x_iast (i := i1) (nx := 23) rfl sh_40 hx hi (by decide) ?_
  refine x_st rfl ?_
  refine x_gr (ci := 2) (k := 1) (nx := 27) rfl sh_39 rfl ?_
  refine x_st rfl ?_
  refine x_gi (ci := 2) (k := 3) (nx := 31) rfl sh_39 rfl ?_
  refine x_st rfl ?_
  obtain ⟨i2, hx, hi, h⟩ := h
  refine x_iast (i := i2) (nx := 33) rfl sh_41 hx hi (by decide) ?_
  refine x_st rfl ?_
  refine x_gr (ci := 2) (k := 2) (nx := 37) rfl sh_39 rfl ?_
  refine x_st rfl ?_
  refine x_gi (ci := 2) (k := 3) (nx := 41) rfl sh_39 rfl ?_
  refine x_st rfl ?_
  obtain ⟨i3, hx, hi, h⟩ := h
  refine x_iast (i := i3) (nx := 43) rfl sh_42 hx hi (by decide) ?_
  refine x_st rfl ?_
  refine x_st rfl ?_
  refine x_gi (ci := 2) (k := 3) (nx := 48) rfl sh_39 rfl ?_
  refine x_st rfl ?_
  refine x_st rfl ?_
  refine x_pi (ci := 2) (k := 3) (nx := 53) rfl sh_39 rfl ?_
  refine x_st rfl ?_
  refine x_st rfl ?_
  refine x_gi (ci := 2) (k := 3) (nx := 58) rfl sh_39 rfl ?_
  refine x_pi (ci := 2) (k := 4) (nx := 61) rfl sh_39 rfl ?_
  refine x_ret rfl ?_
  exact ⟨_, _, rfl, h⟩
theorem EX2_add {D : Nat} {Q : Option Value → mI → mJ → Prop}  {v1 : Int32} {v2 : Int32} {v3 : Int32} {MI : mI} {ML : mJ} (h : VX2_add_0 D Q v1 v2 v3 MI ML) : ∃ v MI' ML', Q v MI' ML' ∧ mrc (D + 1) 39 [.ref 39, .int v1, .int v2, .int v3] MI ML v MI' ML' := by
  refine x_en (n := 0) (T := TX2_add) rfl rfl ?_
  refine x_kl ?_ h
  exact ⟨Or.inr rfl, ⟨Or.inr rfl, ⟨Or.inr rfl, ⟨Or.inr rfl, True.intro⟩⟩⟩⟩
def VX2_forgetFirst_0 (D : Nat) (Q : Option Value → mI → mJ → Prop)  (MI : mI) (ML : mJ) : Prop := mEx D TX2_forgetFirst (mqS Q) (0, [some (.ref 39)], [], (W0, Sh0, MI, ML))
theorem BX2_forgetFirst_0 {D : Nat} {Q : Option Value → mI → mJ → Prop}  {MI : mI} {ML : mJ} 
    (h : ∃ i1 i2 i3 : Nat, (nI 1) = nI i1 ∧ (nI 0) = nI i2 ∧ (nI 39) = nI i3 ∧ i1 + i3 ≤ 40 ∧ i2 + i3 ≤ 40 ∧ (∃ i4 i5 i6 : Nat, (nI 1) = nI i4 ∧ (nI 0) = nI i5 ∧ (nI 39) = nI i6 ∧ i4 + i6 ≤ 40 ∧ i5 + i6 ≤ 40 ∧ (∃ i7 i8 i9 : Nat, (nI 1) = nI i7 ∧ (nI 0) = nI i8 ∧ (nI 39) = nI i9 ∧ i7 + i9 ≤ 40 ∧ i8 + i9 ≤ 40 ∧ (Q none (mup (mup (mup (mup MI 40 (va_cpy (MI 40) (MI 40) i1 i2 i3)) 41 (va_cpy ((mup MI 40 (va_cpy (MI 40) (MI 40) i1 i2 i3)) 41) ((mup MI 40 (va_cpy (MI 40) (MI 40) i1 i2 i3)) 41) i4 i5 i6)) 42 (va_cpy ((mup (mup MI 40 (va_cpy (MI 40) (MI 40) i1 i2 i3)) 41 (va_cpy ((mup MI 40 (va_cpy (MI 40) (MI 40) i1 i2 i3)) 41) ((mup MI 40 (va_cpy (MI 40) (MI 40) i1 i2 i3)) 41) i4 i5 i6)) 42) ((mup (mup MI 40 (va_cpy (MI 40) (MI 40) i1 i2 i3)) 41 (va_cpy ((mup MI 40 (va_cpy (MI 40) (MI 40) i1 i2 i3)) 41) ((mup MI 40 (va_cpy (MI 40) (MI 40) i1 i2 i3)) 41) i4 i5 i6)) 42) i7 i8 i9)) 39 (mput ((mup (mup (mup MI 40 (va_cpy (MI 40) (MI 40) i1 i2 i3)) 41 (va_cpy ((mup MI 40 (va_cpy (MI 40) (MI 40) i1 i2 i3)) 41) ((mup MI 40 (va_cpy (MI 40) (MI 40) i1 i2 i3)) 41) i4 i5 i6)) 42 (va_cpy ((mup (mup MI 40 (va_cpy (MI 40) (MI 40) i1 i2 i3)) 41 (va_cpy ((mup MI 40 (va_cpy (MI 40) (MI 40) i1 i2 i3)) 41) ((mup MI 40 (va_cpy (MI 40) (MI 40) i1 i2 i3)) 41) i4 i5 i6)) 42) ((mup (mup MI 40 (va_cpy (MI 40) (MI 40) i1 i2 i3)) 41 (va_cpy ((mup MI 40 (va_cpy (MI 40) (MI 40) i1 i2 i3)) 41) ((mup MI 40 (va_cpy (MI 40) (MI 40) i1 i2 i3)) 41) i4 i5 i6)) 42) i7 i8 i9)) 39) 3 (nI 39))) ML)))) :
    VX2_forgetFirst_0 D Q  MI ML := by
  show mEx D TX2_forgetFirst (mqS Q) (0, [some (.ref 39)], [], (W0, Sh0, MI, ML))
  refine x_st rfl ?_
  refine x_gr (ci := 2) (k := 0) (nx := 4) rfl sh_39 rfl ?_
  refine x_st rfl ?_
  refine x_st rfl ?_
  refine x_gr (ci := 2) (k := 0) (nx := 9) rfl sh_39 rfl ?_
  refine x_st rfl ?_
  refine x_st rfl ?_
  obtain ⟨i1, i2, i3, e1, e2, e3, e4, e5, h⟩ := h
  refine x_cpi (nx := 15) rfl sh_40 sh_40 e1 e2 e3 e4 e5 (by decide) (by decide) rfl ?_
  refine x_st rfl ?_
  refine x_gr (ci := 2) (k := 1) (nx := 19) rfl sh_39 rfl ?_
  refine x_st rfl ?_
  refine x_st rfl ?_
  refine x_gr (ci := 2) (k := 1) (nx := 24) rfl sh_39 rfl ?_
  refine x_st rfl ?_
  refine x_st rfl ?_
  obtain ⟨i4, i5, i6, e1, e2, e3, e4, e5, h⟩ := h
  refine x_cpi (nx := 30) rfl sh_41 sh_41 e1 e2 e3 e4 e5 (by decide) (by decide) rfl ?_
  refine x_st rfl ?_
  refine x_gr (ci := 2) (k := 2) (nx := 34) rfl sh_39 rfl ?_
  refine x_st rfl ?_
  refine x_st rfl ?_
  refine x_gr (ci := 2) (k := 2) (nx := 39) rfl sh_39 rfl ?_
  refine x_st rfl ?_
  refine x_st rfl ?_
  obtain ⟨i7, i8, i9, e1, e2, e3, e4, e5, h⟩ := h
  refine x_cpi (nx := 45) rfl sh_42 sh_42 e1 e2 e3 e4 e5 (by decide) (by decide) rfl ?_
  refine x_st rfl ?_
  refine x_st rfl ?_
  refine x_pi (ci := 2) (k := 3) (nx := 51) rfl sh_39 rfl ?_
  refine x_ret rfl ?_
  exact ⟨_, _, rfl, h⟩
theorem EX2_forgetFirst {D : Nat} {Q : Option Value → mI → mJ → Prop}  {MI : mI} {ML : mJ} (h : VX2_forgetFirst_0 D Q  MI ML) : ∃ v MI' ML', Q v MI' ML' ∧ mrc (D + 1) 40 [.ref 39] MI ML v MI' ML' := by
  refine x_en (n := 0) (T := TX2_forgetFirst) rfl rfl ?_
  refine x_kl ?_ h
  exact ⟨Or.inr rfl, True.intro⟩
def VX2_undoable_0 (D : Nat) (Q : Option Value → mI → mJ → Prop)  (MI : mI) (ML : mJ) : Prop := mEx D TX2_undoable (mqS Q) (0, [some (.ref 39)], [], (W0, Sh0, MI, ML))
theorem BX2_undoable_0 {D : Nat} {Q : Option Value → mI → mJ → Prop}  {MI : mI} {ML : mJ} 
    (h : Q (some (.int (MI 39 3))) MI ML) :
    VX2_undoable_0 D Q  MI ML := by
  show mEx D TX2_undoable (mqS Q) (0, [some (.ref 39)], [], (W0, Sh0, MI, ML))
  refine x_st rfl ?_
  refine x_gi (ci := 2) (k := 3) (nx := 4) rfl sh_39 rfl ?_
  refine x_ret rfl ?_
  exact ⟨_, _, rfl, h⟩
theorem EX2_undoable {D : Nat} {Q : Option Value → mI → mJ → Prop}  {MI : mI} {ML : mJ} (h : VX2_undoable_0 D Q  MI ML) : ∃ v MI' ML', Q v MI' ML' ∧ mrc (D + 1) 41 [.ref 39] MI ML v MI' ML' := by
  refine x_en (n := 0) (T := TX2_undoable) rfl rfl ?_
  refine x_kl ?_ h
  exact ⟨Or.inr rfl, True.intro⟩
def VX2_redoable_0 (D : Nat) (Q : Option Value → mI → mJ → Prop)  (MI : mI) (ML : mJ) : Prop := mEx D TX2_redoable (mqS Q) (0, [some (.ref 39)], [], (W0, Sh0, MI, ML))
theorem BX2_redoable_0 {D : Nat} {Q : Option Value → mI → mJ → Prop}  {MI : mI} {ML : mJ} 
    (h : Q (some (.int ((MI 39 4) - (MI 39 3)))) MI ML) :
    VX2_redoable_0 D Q  MI ML := by
  show mEx D TX2_redoable (mqS Q) (0, [some (.ref 39)], [], (W0, Sh0, MI, ML))
  refine x_st rfl ?_
  refine x_gi (ci := 2) (k := 4) (nx := 4) rfl sh_39 rfl ?_
  refine x_st rfl ?_
  refine x_gi (ci := 2) (k := 3) (nx := 8) rfl sh_39 rfl ?_
  refine x_st rfl ?_
  refine x_ret rfl ?_
  exact ⟨_, _, rfl, h⟩
theorem EX2_redoable {D : Nat} {Q : Option Value → mI → mJ → Prop}  {MI : mI} {ML : mJ} (h : VX2_redoable_0 D Q  MI ML) : ∃ v MI' ML', Q v MI' ML' ∧ mrc (D + 1) 42 [.ref 39] MI ML v MI' ML' := by
  refine x_en (n := 0) (T := TX2_redoable) rfl rfl ?_
  refine x_kl ?_ h
  exact ⟨Or.inr rfl, True.intro⟩
def VX2_stepBack_0 (D : Nat) (Q : Option Value → mI → mJ → Prop) (k a : Nat) (MI : mI) (ML : mJ) : Prop := mEx D TX2_stepBack (mqS Q) (0, [some (.ref 39), some (.ref k)], [], (W0, Sh0, MI, ML))
theorem BX2_stepBack_0 {D : Nat} {Q : Option Value → mI → mJ → Prop} {k a : Nat} {MI : mI} {ML : mJ} (hB : bz k a)
    (h : ((MI 39 3) ≤ nI 0 → Q none MI ML) ∧ (¬ (MI 39 3) ≤ nI 0 → ∃ i1 : Nat, ((mup MI 39 (mput (MI 39) 3 ((MI 39 3) - (nI 1)))) 39 3) = nI i1 ∧ i1 < 40 ∧ (∃ i2 : Nat, ((mup MI 39 (mput (MI 39) 3 ((MI 39 3) - (nI 1)))) 39 3) = nI i2 ∧ i2 < 40 ∧ (∃ (M3 : mI) (N4 : mJ), mrc D 10 [.ref k, .int ((mup MI 39 (mput (MI 39) 3 ((MI 39 3) - (nI 1)))) 40 i1), .int ((mup MI 39 (mput (MI 39) 3 ((MI 39 3) - (nI 1)))) 41 i2)] (mup MI 39 (mput (MI 39) 3 ((MI 39 3) - (nI 1)))) ML none M3 N4 ∧ (Q none M3 N4))))) :
    VX2_stepBack_0 D Q k a MI ML := by
  show mEx D TX2_stepBack (mqS Q) (0, [some (.ref 39), some (.ref k)], [], (W0, Sh0, MI, ML))
  refine x_st rfl ?_
  refine x_gi (ci := 2) (k := 3) (nx := 4) rfl sh_39 rfl ?_
  refine x_br rfl (fun c => ?_) (fun c => ?_)
  · replace h := h.1 c
    refine x_ret rfl ?_
    exact ⟨_, _, rfl, h⟩
  · replace h := h.2 c
    refine x_st rfl ?_
    refine x_st rfl ?_
    refine x_gi (ci := 2) (k := 3) (nx := 12) rfl sh_39 rfl ?_
    refine x_st rfl ?_
    refine x_st rfl ?_
    refine x_pi (ci := 2) (k := 3) (nx := 17) rfl sh_39 rfl ?_
    refine x_st rfl ?_
    refine x_st rfl ?_
    refine x_gr (ci := 2) (k := 0) (nx := 22) rfl sh_39 rfl ?_
    refine x_st rfl ?_
    refine x_gi (ci := 2) (k := 3) (nx := 26) rfl sh_39 rfl ?_
    obtain ⟨i1, hx, hi, h⟩ := h
    refine x_ia (i := i1) (nx := 27) rfl sh_40 hx hi (by decide) ?_
    refine x_st rfl ?_
    refine x_gr (ci := 2) (k := 1) (nx := 31) rfl sh_39 rfl ?_
    refine x_st rfl ?_
    refine x_gi (ci := 2) (k := 3) (nx := 35) rfl sh_39 rfl ?_
    obtain ⟨i2, hx, hi, h⟩ := h
    refine x_ia (i := i2) (nx := 36) rfl sh_41 hx hi (by decide) ?_
    obtain ⟨M3, N4, hc, h⟩ := h
    refine x_vv (y := 10) (n := 2) (ci := 0) (nx := 39) rfl (fun _ => rfl) (bz_o hB) rfl hc ?_
    refine x_ret rfl ?_
    exact ⟨_, _, rfl, h⟩
theorem EX2_stepBack {D : Nat} {Q : Option Value → mI → mJ → Prop} {k a : Nat} {MI : mI} {ML : mJ} (h : VX2_stepBack_0 D Q k a MI ML) : ∃ v MI' ML', Q v MI' ML' ∧ mrc (D + 1) 43 [.ref 39, .ref k] MI ML v MI' ML' := by
  refine x_en (n := 0) (T := TX2_stepBack) rfl rfl ?_
  refine x_kl ?_ h
  exact ⟨Or.inr rfl, ⟨Or.inr rfl, True.intro⟩⟩
def VX2_stepOn_0 (D : Nat) (Q : Option Value → mI → mJ → Prop) (k a : Nat) (MI : mI) (ML : mJ) : Prop := mEx D TX2_stepOn (mqS Q) (0, [some (.ref 39), some (.ref k)], [], (W0, Sh0, MI, ML))
theorem BX2_stepOn_0 {D : Nat} {Q : Option Value → mI → mJ → Prop} {k a : Nat} {MI : mI} {ML : mJ} (hB : bz k a)
    (h : ((MI 39 4) ≤ (MI 39 3) → Q none MI ML) ∧ (¬ (MI 39 4) ≤ (MI 39 3) → ((nI 40) ≤ (MI 39 3) → Q none MI ML) ∧ (¬ (nI 40) ≤ (MI 39 3) → ∃ i1 : Nat, (MI 39 3) = nI i1 ∧ i1 < 40 ∧ (∃ i2 : Nat, (MI 39 3) = nI i2 ∧ i2 < 40 ∧ (∃ (M3 : mI) (N4 : mJ), mrc D 10 [.ref k, .int (MI 40 i1), .int (MI 42 i2)] MI ML none M3 N4 ∧ (Q none (mup M3 39 (mput (M3 39) 3 ((M3 39 3) + (nI 1)))) N4)))))) :
    VX2_stepOn_0 D Q k a MI ML := by
  show mEx D TX2_stepOn (mqS Q) (0, [some (.ref 39), some (.ref k)], [], (W0, Sh0, MI, ML))
  refine x_st rfl ?_
  refine x_gi (ci := 2) (k := 3) (nx := 4) rfl sh_39 rfl ?_
  refine x_st rfl ?_
  refine x_gi (ci := 2) (k := 4) (nx := 8) rfl sh_39 rfl ?_
  refine x_br rfl (fun c => ?_) (fun c => ?_)
  · replace h := h.1 c
    refine x_ret rfl ?_
    exact ⟨_, _, rfl, h⟩
  · replace h := h.2 c
    refine x_st rfl ?_
    refine x_gi (ci := 2) (k := 3) (nx := 15) rfl sh_39 rfl ?_
    refine x_st rfl ?_
    refine x_br rfl (fun c => ?_) (fun c => ?_)
    · replace h := h.1 c
      refine x_ret rfl ?_
      exact ⟨_, _, rfl, h⟩
    · replace h := h.2 c
      refine x_st rfl ?_
      refine x_st rfl ?_
      refine x_gr (ci := 2) (k := 0) (nx := 25) rfl sh_39 rfl ?_
      refine x_st rfl ?_
      refine x_gi (ci := 2) (k := 3) (nx := 29) rfl sh_39 rfl ?_
      obtain ⟨i1, hx, hi, h⟩ := h
      refine x_ia (i := i1) (nx := 30) rfl sh_40 hx hi (by decide) ?_
      refine x_st rfl ?_
      refine x_gr (ci := 2) (k := 2) (nx := 34) rfl sh_39 rfl ?_
      refine x_st rfl ?_
      refine x_gi (ci := 2) (k := 3) (nx := 38) rfl sh_39 rfl ?_
      obtain ⟨i2, hx, hi, h⟩ := h
      refine x_ia (i := i2) (nx := 39) rfl sh_42 hx hi (by decide) ?_
      obtain ⟨M3, N4, hc, h⟩ := h
      refine x_vv (y := 10) (n := 2) (ci := 0) (nx := 42) rfl (fun _ => rfl) (bz_o hB) rfl hc ?_
      refine x_st rfl ?_
      refine x_st rfl ?_
      refine x_gi (ci := 2) (k := 3) (nx := 47) rfl sh_39 rfl ?_
      refine x_st rfl ?_
      refine x_st rfl ?_
      refine x_pi (ci := 2) (k := 3) (nx := 52) rfl sh_39 rfl ?_
      refine x_ret rfl ?_
      exact ⟨_, _, rfl, h⟩
theorem EX2_stepOn {D : Nat} {Q : Option Value → mI → mJ → Prop} {k a : Nat} {MI : mI} {ML : mJ} (h : VX2_stepOn_0 D Q k a MI ML) : ∃ v MI' ML', Q v MI' ML' ∧ mrc (D + 1) 44 [.ref 39, .ref k] MI ML v MI' ML' := by
  refine x_en (n := 0) (T := TX2_stepOn) rfl rfl ?_
  refine x_kl ?_ h
  exact ⟨Or.inr rfl, ⟨Or.inr rfl, True.intro⟩⟩
def VX3_become_0 (D : Nat) (Q : Option Value → mI → mJ → Prop)  (MI : mI) (ML : mJ) : Prop := mEx D TX3_become (mqS Q) (0, [some (.ref 6), some (.ref 3)], [], (W0, Sh0, MI, ML))
theorem BX3_become_0 {D : Nat} {Q : Option Value → mI → mJ → Prop}  {MI : mI} {ML : mJ} 
    (h : ∃ i1 i2 i3 : Nat, (nI 0) = nI i1 ∧ (nI 0) = nI i2 ∧ ((mup MI 6 (mput (MI 6) 1 (if (nI 161) < (MI 3 1) then (nI 161) else (MI 3 1)))) 6 1) = nI i3 ∧ i1 + i3 ≤ 161 ∧ i2 + i3 ≤ 161 ∧ (Q none (mup (mup MI 6 (mput (MI 6) 1 (if (nI 161) < (MI 3 1) then (nI 161) else (MI 3 1)))) 7 (va_cpy ((mup MI 6 (mput (MI 6) 1 (if (nI 161) < (MI 3 1) then (nI 161) else (MI 3 1)))) 4) ((mup MI 6 (mput (MI 6) 1 (if (nI 161) < (MI 3 1) then (nI 161) else (MI 3 1)))) 7) i1 i2 i3)) ML)) :
    VX3_become_0 D Q  MI ML := by
  show mEx D TX3_become (mqS Q) (0, [some (.ref 6), some (.ref 3)], [], (W0, Sh0, MI, ML))
  refine x_st rfl ?_
  refine x_st rfl ?_
  refine x_gi (ci := 4) (k := 1) (nx := 5) rfl sh_3 rfl ?_
  refine x_st rfl ?_
  refine x_gr (ci := 3) (k := 0) (nx := 9) rfl sh_6 rfl ?_
  refine x_alen (nx := 10) rfl sh_7 ?_
  refine x_st rfl ?_
  refine x_pi (ci := 3) (k := 1) (nx := 16) rfl sh_6 rfl ?_
  refine x_st rfl ?_
  refine x_gr (ci := 4) (k := 0) (nx := 20) rfl sh_3 rfl ?_
  refine x_st rfl ?_
  refine x_st rfl ?_
  refine x_gr (ci := 3) (k := 0) (nx := 25) rfl sh_6 rfl ?_
  refine x_st rfl ?_
  refine x_st rfl ?_
  refine x_gi (ci := 3) (k := 1) (nx := 30) rfl sh_6 rfl ?_
  obtain ⟨i1, i2, i3, e1, e2, e3, e4, e5, h⟩ := h
  refine x_cpi (nx := 33) rfl sh_4 sh_7 e1 e2 e3 e4 e5 (by decide) (by decide) rfl ?_
  refine x_ret rfl ?_
  exact ⟨_, _, rfl, h⟩
theorem EX3_become {D : Nat} {Q : Option Value → mI → mJ → Prop}  {MI : mI} {ML : mJ} (h : VX3_become_0 D Q  MI ML) : ∃ v MI' ML', Q v MI' ML' ∧ mrc (D + 1) 46 [.ref 6, .ref 3] MI ML v MI' ML' := by
  refine x_en (n := 0) (T := TX3_become) rfl rfl ?_
  refine x_kl ?_ h
  exact ⟨Or.inr rfl, ⟨Or.inr rfl, True.intro⟩⟩
def VX3_setWords_0 (D : Nat) (Q : Option Value → mI → mJ → Prop)  (v1 : Int32) (v2 : Int32) (v3 : Int32) (v4 : Int32) (v5 : Int32) (MI : mI) (ML : mJ) : Prop := mEx D TX3_setWords (mqS Q) (0, [some (.ref 6), some (.int v1), some (.int v2), some (.int v3), some (.int v4), some (.int v5)], [], (W0, Sh0, MI, ML))
theorem BX3_setWords_0 {D : Nat} {Q : Option Value → mI → mJ → Prop}  {v1 : Int32} {v2 : Int32} {v3 : Int32} {v4 : Int32} {v5 : Int32} {MI : mI} {ML : mJ} 
    (h : Q none (mup (mup (mup (mup (mup MI 8 (mput (MI 8) 1 v1)) 8 (mput ((mup MI 8 (mput (MI 8) 1 v1)) 8) 2 v2)) 8 (mput ((mup (mup MI 8 (mput (MI 8) 1 v1)) 8 (mput ((mup MI 8 (mput (MI 8) 1 v1)) 8) 2 v2)) 8) 3 v3)) 8 (mput ((mup (mup (mup MI 8 (mput (MI 8) 1 v1)) 8 (mput ((mup MI 8 (mput (MI 8) 1 v1)) 8) 2 v2)) 8 (mput ((mup (mup MI 8 (mput (MI 8) 1 v1)) 8 (mput ((mup MI 8 (mput (MI 8) 1 v1)) 8) 2 v2)) 8) 3 v3)) 8) 4 v4)) 8 (mput ((mup (mup (mup (mup MI 8 (mput (MI 8) 1 v1)) 8 (mput ((mup MI 8 (mput (MI 8) 1 v1)) 8) 2 v2)) 8 (mput ((mup (mup MI 8 (mput (MI 8) 1 v1)) 8 (mput ((mup MI 8 (mput (MI 8) 1 v1)) 8) 2 v2)) 8) 3 v3)) 8 (mput ((mup (mup (mup MI 8 (mput (MI 8) 1 v1)) 8 (mput ((mup MI 8 (mput (MI 8) 1 v1)) 8) 2 v2)) 8 (mput ((mup (mup MI 8 (mput (MI 8) 1 v1)) 8 (mput ((mup MI 8 (mput (MI 8) 1 v1)) 8) 2 v2)) 8) 3 v3)) 8) 4 v4)) 8) 5 v5)) ML) :
    VX3_setWords_0 D Q v1 v2 v3 v4 v5 MI ML := by
  show mEx D TX3_setWords (mqS Q) (0, [some (.ref 6), some (.int v1), some (.int v2), some (.int v3), some (.int v4), some (.int v5)], [], (W0, Sh0, MI, ML))
  refine x_st rfl ?_
  refine x_gr (ci := 3) (k := 2) (nx := 4) rfl sh_6 rfl ?_
  refine x_st rfl ?_
  refine x_st rfl ?_
  refine x_iast (i := 1) (nx := 7) rfl sh_8 rfl (by decide) (by decide) ?_
  refine x_st rfl ?_
  refine x_gr (ci := 3) (k := 2) (nx := 11) rfl sh_6 rfl ?_
  refine x_st rfl ?_
  refine x_st rfl ?_
  refine x_iast (i := 2) (nx := 14) rfl sh_8 rfl (by decide) (by decide) ?_
  refine x_st rfl ?_
  refine x_gr (ci := 3) (k := 2) (nx := 18) rfl sh_6 rfl ?_
  refine x_st rfl ?_
  refine x_st rfl ?_
  refine x_iast (i := 3) (nx := 21) rfl sh_8 rfl (by decide) (by decide) ?_
  refine x_st rfl ?_
  refine x_gr (ci := 3) (k := 2) (nx := 25) rfl sh_6 rfl ?_
  refine x_st rfl ?_
  refine x_st rfl ?_
  refine x_iast (i := 4) (nx := 29) rfl sh_8 rfl (by decide) (by decide) ?_
  refine x_st rfl ?_
  refine x_gr (ci := 3) (k := 2) (nx := 33) rfl sh_6 rfl ?_
  refine x_st rfl ?_
  refine x_st rfl ?_
  refine x_iast (i := 5) (nx := 37) rfl sh_8 rfl (by decide) (by decide) ?_
  refine x_ret rfl ?_
  exact ⟨_, _, rfl, h⟩
theorem EX3_setWords {D : Nat} {Q : Option Value → mI → mJ → Prop}  {v1 : Int32} {v2 : Int32} {v3 : Int32} {v4 : Int32} {v5 : Int32} {MI : mI} {ML : mJ} (h : VX3_setWords_0 D Q v1 v2 v3 v4 v5 MI ML) : ∃ v MI' ML', Q v MI' ML' ∧ mrc (D + 1) 47 [.ref 6, .int v1, .int v2, .int v3, .int v4, .int v5] MI ML v MI' ML' := by
  refine x_en (n := 0) (T := TX3_setWords) rfl rfl ?_
  refine x_kl ?_ h
  exact ⟨Or.inr rfl, ⟨Or.inr rfl, ⟨Or.inr rfl, ⟨Or.inr rfl, ⟨Or.inr rfl, ⟨Or.inr rfl, True.intro⟩⟩⟩⟩⟩⟩
def VX3_weighedOut_0 (D : Nat) (Q : Option Value → mI → mJ → Prop)  (v1 : Int32) (MI : mI) (ML : mJ) : Prop := mEx D TX3_weighedOut (mqS Q) (0, [some (.ref 6), some (.int v1), none, none, none, none], [], (W0, Sh0, MI, ML))
def VX3_weighedOut_36 (D : Nat) (Q : Option Value → mI → mJ → Prop)  (v2 : Int32) (v3 : Int32) (v4 : Int32) (MI : mI) (ML : mJ) : Prop := mEx D TX3_weighedOut (mqS Q) (36, [some (.ref 6), none, some (.int v2), some (.int v3), some (.int v4), none], [], (W0, Sh0, MI, ML))
theorem BX3_weighedOut_0 {D : Nat} {Q : Option Value → mI → mJ → Prop}  {v1 : Int32} {MI : mI} {ML : mJ} 
    (h : ((MI 6 1) = nI 0 → ∃ (x3 : Int32) (M1 : mI) (N2 : mJ), mrc D 49 [.int (((nI 8) + (MI 8 3)) - v1)] MI ML (some (.int x3)) M1 N2 ∧ (Q (some (.int x3)) M1 N2)) ∧ (¬ (MI 6 1) = nI 0 → VX3_weighedOut_36 D Q (-1 : Int32) (nI 1) (nI 0) (mup MI 8 (mput (MI 8) 0 v1)) ML)) :
    VX3_weighedOut_0 D Q v1 MI ML := by
  show mEx D TX3_weighedOut (mqS Q) (0, [some (.ref 6), some (.int v1), none, none, none, none], [], (W0, Sh0, MI, ML))
  refine x_st rfl ?_
  refine x_gi (ci := 3) (k := 1) (nx := 4) rfl sh_6 rfl ?_
  refine x_br rfl (fun c => ?_) (fun c => ?_)
  · replace h := h.1 c
    refine x_st rfl ?_
    refine x_st rfl ?_
    refine x_gr (ci := 3) (k := 2) (nx := 13) rfl sh_6 rfl ?_
    refine x_st rfl ?_
    refine x_ia (i := 3) (nx := 15) rfl sh_8 rfl (by decide) (by decide) ?_
    refine x_st rfl ?_
    refine x_st rfl ?_
    refine x_st rfl ?_
    obtain ⟨x3, M1, N2, hc, h⟩ := h
    refine x_ci rfl hc ?_
    refine x_ret rfl ?_
    exact ⟨_, _, rfl, h⟩
  · replace h := h.2 c
    refine x_st rfl ?_
    refine x_gr (ci := 3) (k := 2) (nx := 26) rfl sh_6 rfl ?_
    refine x_st rfl ?_
    refine x_st rfl ?_
    refine x_iast (i := 0) (nx := 29) rfl sh_8 rfl (by decide) (by decide) ?_
    refine x_st rfl ?_
    refine x_st rfl ?_
    refine x_st rfl ?_
    refine x_st rfl ?_
    refine x_st rfl ?_
    refine x_st rfl ?_
    refine x_kl ?_ h
    exact ⟨Or.inr rfl, ⟨Or.inl rfl, ⟨Or.inr rfl, ⟨Or.inr rfl, ⟨Or.inr rfl, ⟨Or.inl rfl, True.intro⟩⟩⟩⟩⟩⟩
theorem BX3_weighedOut_36 {D : Nat} {Q : Option Value → mI → mJ → Prop}  {v2 : Int32} {v3 : Int32} {v4 : Int32} {MI : mI} {ML : mJ} 
    (h : ((MI 6 1) ≤ v4 → Q (some (.int (nI 0))) MI ML) ∧ (¬ (MI 6 1) ≤ v4 → ∃ i1 : Nat, v4 = nI i1 ∧ i1 < 161 ∧ (((MI 7 i1) < (-6 : Int32) → (nI 0 ≤ v2 → ((MI 7 i1) = (-59 : Int32) → (v3 = nI 0 → VX3_weighedOut_36 D Q (v2 + (-1 : Int32)) (nI 1) (v4 + (nI 1)) MI ML) ∧ (¬ v3 = nI 0 → ∃ i2 : Nat, v2 = nI i2 ∧ i2 < 40 ∧ (∃ (x5 : Int32) (M3 : mI) (N4 : mJ), mrc D 49 [.int (MI 9 i2)] MI ML (some (.int x5)) M3 N4 ∧ (Q (some (.int x5)) M3 N4)))) ∧ (¬ (MI 7 i1) = (-59 : Int32) → ((MI 7 i1) = (-63 : Int32) → ∃ i6 : Nat, v2 = nI i6 ∧ i6 < 40 ∧ (((MI 9 i6) = nI 0 → VX3_weighedOut_36 D Q (v2 + (-1 : Int32)) (nI 0) (v4 + (nI 1)) MI ML) ∧ (¬ (MI 9 i6) = nI 0 → VX3_weighedOut_36 D Q (v2 + (-1 : Int32)) (nI 1) (v4 + (nI 1)) MI ML))) ∧ (¬ (MI 7 i1) = (-63 : Int32) → ((MI 7 i1) = (-126 : Int32) → ∃ i7 : Nat, v2 = nI i7 ∧ i7 < 40 ∧ (∃ i8 : Nat, v2 = nI i8 ∧ i8 < 40 ∧ (VX3_weighedOut_36 D Q v2 v3 (v4 + (nI 1)) (mup MI 9 (mput (MI 9) i8 (-(MI 9 i7)))) ML))) ∧ (¬ (MI 7 i1) = (-126 : Int32) → ((MI 7 i1) = (-33 : Int32) → ∃ i9 : Nat, v2 = nI i9 ∧ i9 < 40 ∧ (((MI 9 i9) = nI 0 → ∃ i10 : Nat, v2 = nI i10 ∧ i10 < 40 ∧ (VX3_weighedOut_36 D Q v2 v3 (v4 + (nI 1)) (mup MI 9 (mput (MI 9) i10 (nI 1))) ML)) ∧ (¬ (MI 9 i9) = nI 0 → ∃ i11 : Nat, v2 = nI i11 ∧ i11 < 40 ∧ (VX3_weighedOut_36 D Q v2 v3 (v4 + (nI 1)) (mup MI 9 (mput (MI 9) i11 (nI 0))) ML)))) ∧ (¬ (MI 7 i1) = (-33 : Int32) → (v2 < (nI 1) → VX3_weighedOut_36 D Q v2 v3 (v4 + (nI 1)) MI ML) ∧ (¬ v2 < (nI 1) → ∃ i12 : Nat, (v2 + (-1 : Int32)) = nI i12 ∧ i12 < 40 ∧ (∃ i13 : Nat, ((v2 + (-1 : Int32)) + (nI 1)) = nI i13 ∧ i13 < 40 ∧ (∃ (x16 : Int32) (M14 : mI) (N15 : mJ), mrc D 50 [.int (-(MI 7 i1)), .int (MI 9 i12), .int (MI 9 i13)] MI ML (some (.int x16)) M14 N15 ∧ (∃ i17 : Nat, (v2 + (-1 : Int32)) = nI i17 ∧ i17 < 40 ∧ (VX3_weighedOut_36 D Q (v2 + (-1 : Int32)) v3 (v4 + (nI 1)) (mup M14 9 (mput (M14 9) i17 x16)) N15)))))))))) ∧ (¬ nI 0 ≤ v2 → Q (some (.int (nI 0))) MI ML)) ∧ (¬ (MI 7 i1) < (-6 : Int32) → (v2 < (nI 39) → ((MI 7 i1) < nI 0 → ∃ i18 : Nat, ((-1 : Int32) - (MI 7 i1)) = nI i18 ∧ i18 < 6 ∧ (∃ i19 : Nat, (v2 + (nI 1)) = nI i19 ∧ i19 < 40 ∧ (VX3_weighedOut_36 D Q (v2 + (nI 1)) v3 (v4 + (nI 1)) (mup MI 9 (mput (MI 9) i19 (MI 8 i18))) ML))) ∧ (¬ (MI 7 i1) < nI 0 → ∃ i20 : Nat, (v2 + (nI 1)) = nI i20 ∧ i20 < 40 ∧ (VX3_weighedOut_36 D Q (v2 + (nI 1)) v3 (v4 + (nI 1)) (mup MI 9 (mput (MI 9) i20 (MI 7 i1))) ML))) ∧ (¬ v2 < (nI 39) → Q (some (.int (nI 0))) MI ML))))) :
    VX3_weighedOut_36 D Q v2 v3 v4 MI ML := by
  show mEx D TX3_weighedOut (mqS Q) (36, [some (.ref 6), none, some (.int v2), some (.int v3), some (.int v4), none], [], (W0, Sh0, MI, ML))
  refine x_st rfl ?_
  refine x_st rfl ?_
  refine x_gi (ci := 3) (k := 1) (nx := 42) rfl sh_6 rfl ?_
  refine x_br rfl (fun c => ?_) (fun c => ?_)
  · replace h := h.1 c
    refine x_st rfl ?_
    refine x_ret rfl ?_
    exact ⟨_, _, rfl, h⟩
  · replace h := h.2 c
    refine x_st rfl ?_
    refine x_gr (ci := 3) (k := 0) (nx := 49) rfl sh_6 rfl ?_
    refine x_st rfl ?_
    obtain ⟨i1, hx, hi, h⟩ := h
    refine x_ia (i := i1) (nx := 52) rfl sh_7 hx hi (by decide) ?_
    refine x_st rfl ?_
    refine x_st rfl ?_
    refine x_st rfl ?_
    refine x_br rfl (fun c => ?_) (fun c => ?_)
    · replace h := h.1 c
      refine x_st rfl ?_
      refine x_br rfl (fun c => ?_) (fun c => ?_)
      · replace h := h.1 c
        refine x_st rfl ?_
        refine x_st rfl ?_
        refine x_br rfl (fun c => ?_) (fun c => ?_)
        · replace h := h.1 c
          refine x_st rfl ?_
          refine x_br rfl (fun c => ?_) (fun c => ?_)
          · replace h := h.1 c
            refine x_st rfl ?_
            refine x_st rfl ?_
            refine x_st rfl ?_
            refine x_st rfl ?_
            refine x_st rfl ?_
            refine x_st rfl ?_
            refine x_kl ?_ h
            exact ⟨Or.inr rfl, ⟨Or.inl rfl, ⟨Or.inr rfl, ⟨Or.inr rfl, ⟨Or.inr rfl, ⟨Or.inl rfl, True.intro⟩⟩⟩⟩⟩⟩
          · replace h := h.2 c
            refine x_st rfl ?_
            refine x_gr (ci := 3) (k := 3) (nx := 121) rfl sh_6 rfl ?_
            refine x_st rfl ?_
            obtain ⟨i2, hx, hi, h⟩ := h
            refine x_ia (i := i2) (nx := 123) rfl sh_9 hx hi (by decide) ?_
            obtain ⟨x5, M3, N4, hc, h⟩ := h
            refine x_ci rfl hc ?_
            refine x_ret rfl ?_
            exact ⟨_, _, rfl, h⟩
        · replace h := h.2 c
          refine x_st rfl ?_
          refine x_st rfl ?_
          refine x_br rfl (fun c => ?_) (fun c => ?_)
          · replace h := h.1 c
            refine x_st rfl ?_
            refine x_gr (ci := 3) (k := 3) (nx := 146) rfl sh_6 rfl ?_
            refine x_st rfl ?_
            obtain ⟨i6, hx, hi, h⟩ := h
            refine x_ia (i := i6) (nx := 148) rfl sh_9 hx hi (by decide) ?_
            refine x_br rfl (fun c => ?_) (fun c => ?_)
            · replace h := h.1 c
              refine x_st rfl ?_
              refine x_st rfl ?_
              refine x_st rfl ?_
              refine x_st rfl ?_
              refine x_st rfl ?_
              refine x_st rfl ?_
              refine x_kl ?_ h
              exact ⟨Or.inr rfl, ⟨Or.inl rfl, ⟨Or.inr rfl, ⟨Or.inr rfl, ⟨Or.inr rfl, ⟨Or.inl rfl, True.intro⟩⟩⟩⟩⟩⟩
            · replace h := h.2 c
              refine x_st rfl ?_
              refine x_st rfl ?_
              refine x_st rfl ?_
              refine x_st rfl ?_
              refine x_st rfl ?_
              refine x_st rfl ?_
              refine x_st rfl ?_
              refine x_kl ?_ h
              exact ⟨Or.inr rfl, ⟨Or.inl rfl, ⟨Or.inr rfl, ⟨Or.inr rfl, ⟨Or.inr rfl, ⟨Or.inl rfl, True.intro⟩⟩⟩⟩⟩⟩
          · replace h := h.2 c
            refine x_st rfl ?_
            refine x_st rfl ?_
            refine x_br rfl (fun c => ?_) (fun c => ?_)
            · replace h := h.1 c
              refine x_st rfl ?_
              refine x_gr (ci := 3) (k := 3) (nx := 174) rfl sh_6 rfl ?_
              refine x_st rfl ?_
              refine x_st rfl ?_
              refine x_gr (ci := 3) (k := 3) (nx := 179) rfl sh_6 rfl ?_
              refine x_st rfl ?_
              obtain ⟨i7, hx, hi, h⟩ := h
              refine x_ia (i := i7) (nx := 181) rfl sh_9 hx hi (by decide) ?_
              refine x_st rfl ?_
              obtain ⟨i8, hx, hi, h⟩ := h
              refine x_iast (i := i8) (nx := 183) rfl sh_9 hx hi (by decide) ?_
              refine x_st rfl ?_
              refine x_st rfl ?_
              refine x_st rfl ?_
              refine x_kl ?_ h
              exact ⟨Or.inr rfl, ⟨Or.inl rfl, ⟨Or.inr rfl, ⟨Or.inr rfl, ⟨Or.inr rfl, ⟨Or.inl rfl, True.intro⟩⟩⟩⟩⟩⟩
            · replace h := h.2 c
              refine x_st rfl ?_
              refine x_st rfl ?_
              refine x_br rfl (fun c => ?_) (fun c => ?_)
              · replace h := h.1 c
                refine x_st rfl ?_
                refine x_gr (ci := 3) (k := 3) (nx := 197) rfl sh_6 rfl ?_
                refine x_st rfl ?_
                refine x_st rfl ?_
                refine x_gr (ci := 3) (k := 3) (nx := 202) rfl sh_6 rfl ?_
                refine x_st rfl ?_
                obtain ⟨i9, hx, hi, h⟩ := h
                refine x_ia (i := i9) (nx := 204) rfl sh_9 hx hi (by decide) ?_
                refine x_br rfl (fun c => ?_) (fun c => ?_)
                · replace h := h.1 c
                  refine x_st rfl ?_
                  refine x_st rfl ?_
                  obtain ⟨i10, hx, hi, h⟩ := h
                  refine x_iast (i := i10) (nx := 213) rfl sh_9 hx hi (by decide) ?_
                  refine x_st rfl ?_
                  refine x_st rfl ?_
                  refine x_st rfl ?_
                  refine x_kl ?_ h
                  exact ⟨Or.inr rfl, ⟨Or.inl rfl, ⟨Or.inr rfl, ⟨Or.inr rfl, ⟨Or.inr rfl, ⟨Or.inl rfl, True.intro⟩⟩⟩⟩⟩⟩
                · replace h := h.2 c
                  refine x_st rfl ?_
                  obtain ⟨i11, hx, hi, h⟩ := h
                  refine x_iast (i := i11) (nx := 213) rfl sh_9 hx hi (by decide) ?_
                  refine x_st rfl ?_
                  refine x_st rfl ?_
                  refine x_st rfl ?_
                  refine x_kl ?_ h
                  exact ⟨Or.inr rfl, ⟨Or.inl rfl, ⟨Or.inr rfl, ⟨Or.inr rfl, ⟨Or.inr rfl, ⟨Or.inl rfl, True.intro⟩⟩⟩⟩⟩⟩
              · replace h := h.2 c
                refine x_st rfl ?_
                refine x_st rfl ?_
                refine x_br rfl (fun c => ?_) (fun c => ?_)
                · replace h := h.1 c
                  refine x_st rfl ?_
                  refine x_st rfl ?_
                  refine x_kl ?_ h
                  exact ⟨Or.inr rfl, ⟨Or.inl rfl, ⟨Or.inr rfl, ⟨Or.inr rfl, ⟨Or.inr rfl, ⟨Or.inl rfl, True.intro⟩⟩⟩⟩⟩⟩
                · replace h := h.2 c
                  refine x_st rfl ?_
                  refine x_st rfl ?_
                  refine x_gr (ci := 3) (k := 3) (nx := 228) rfl sh_6 rfl ?_
                  refine x_st rfl ?_
                  refine x_st rfl ?_
                  refine x_st rfl ?_
                  refine x_st rfl ?_
                  refine x_gr (ci := 3) (k := 3) (nx := 236) rfl sh_6 rfl ?_
                  refine x_st rfl ?_
                  obtain ⟨i12, hx, hi, h⟩ := h
                  refine x_ia (i := i12) (nx := 238) rfl sh_9 hx hi (by decide) ?_
                  refine x_st rfl ?_
                  refine x_gr (ci := 3) (k := 3) (nx := 242) rfl sh_6 rfl ?_
                  refine x_st rfl ?_
                  refine x_st rfl ?_
                  refine x_st rfl ?_
                  obtain ⟨i13, hx, hi, h⟩ := h
                  refine x_ia (i := i13) (nx := 246) rfl sh_9 hx hi (by decide) ?_
                  obtain ⟨x16, M14, N15, hc, h⟩ := h
                  refine x_ci rfl hc ?_
                  obtain ⟨i17, hx, hi, h⟩ := h
                  refine x_iast (i := i17) (nx := 250) rfl sh_9 hx hi (by decide) ?_
                  refine x_st rfl ?_
                  refine x_st rfl ?_
                  refine x_kl ?_ h
                  exact ⟨Or.inr rfl, ⟨Or.inl rfl, ⟨Or.inr rfl, ⟨Or.inr rfl, ⟨Or.inr rfl, ⟨Or.inl rfl, True.intro⟩⟩⟩⟩⟩⟩
      · replace h := h.2 c
        refine x_st rfl ?_
        refine x_ret rfl ?_
        exact ⟨_, _, rfl, h⟩
    · replace h := h.2 c
      refine x_st rfl ?_
      refine x_st rfl ?_
      refine x_br rfl (fun c => ?_) (fun c => ?_)
      · replace h := h.1 c
        refine x_st rfl ?_
        refine x_st rfl ?_
        refine x_gr (ci := 3) (k := 3) (nx := 76) rfl sh_6 rfl ?_
        refine x_st rfl ?_
        refine x_st rfl ?_
        refine x_br rfl (fun c => ?_) (fun c => ?_)
        · replace h := h.1 c
          refine x_st rfl ?_
          refine x_gr (ci := 3) (k := 2) (nx := 91) rfl sh_6 rfl ?_
          refine x_st rfl ?_
          refine x_st rfl ?_
          refine x_st rfl ?_
          obtain ⟨i18, hx, hi, h⟩ := h
          refine x_ia (i := i18) (nx := 96) rfl sh_8 hx hi (by decide) ?_
          obtain ⟨i19, hx, hi, h⟩ := h
          refine x_iast (i := i19) (nx := 97) rfl sh_9 hx hi (by decide) ?_
          refine x_st rfl ?_
          refine x_st rfl ?_
          refine x_st rfl ?_
          refine x_kl ?_ h
          exact ⟨Or.inr rfl, ⟨Or.inl rfl, ⟨Or.inr rfl, ⟨Or.inr rfl, ⟨Or.inr rfl, ⟨Or.inl rfl, True.intro⟩⟩⟩⟩⟩⟩
        · replace h := h.2 c
          refine x_st rfl ?_
          refine x_st rfl ?_
          obtain ⟨i20, hx, hi, h⟩ := h
          refine x_iast (i := i20) (nx := 97) rfl sh_9 hx hi (by decide) ?_
          refine x_st rfl ?_
          refine x_st rfl ?_
          refine x_st rfl ?_
          refine x_kl ?_ h
          exact ⟨Or.inr rfl, ⟨Or.inl rfl, ⟨Or.inr rfl, ⟨Or.inr rfl, ⟨Or.inr rfl, ⟨Or.inl rfl, True.intro⟩⟩⟩⟩⟩⟩
      · replace h := h.2 c
        refine x_st rfl ?_
        refine x_ret rfl ?_
        exact ⟨_, _, rfl, h⟩
theorem EX3_weighedOut {D : Nat} {Q : Option Value → mI → mJ → Prop}  {v1 : Int32} {MI : mI} {ML : mJ} (h : VX3_weighedOut_0 D Q v1 MI ML) : ∃ v MI' ML', Q v MI' ML' ∧ mrc (D + 1) 48 [.ref 6, .int v1] MI ML v MI' ML' := by
  refine x_en (n := 4) (T := TX3_weighedOut) rfl rfl ?_
  refine x_kl ?_ h
  exact ⟨Or.inr rfl, ⟨Or.inr rfl, ⟨Or.inl rfl, ⟨Or.inl rfl, ⟨Or.inl rfl, ⟨Or.inl rfl, True.intro⟩⟩⟩⟩⟩⟩
def VX3_held_0 (D : Nat) (Q : Option Value → mI → mJ → Prop)  (v0 : Int32) (MI : mI) (ML : mJ) : Prop := mEx D TX3_held (mqS Q) (0, [some (.int v0)], [], (W0, Sh0, MI, ML))
theorem BX3_held_0 {D : Nat} {Q : Option Value → mI → mJ → Prop}  {v0 : Int32} {MI : mI} {ML : mJ} 
    (h : (nI 0 ≤ v0 → (v0 ≤ (nI 50) → Q (some (.int v0)) MI ML) ∧ (¬ v0 ≤ (nI 50) → Q (some (.int (nI 50))) MI ML)) ∧ (¬ nI 0 ≤ v0 → Q (some (.int (nI 0))) MI ML)) :
    VX3_held_0 D Q v0 MI ML := by
  show mEx D TX3_held (mqS Q) (0, [some (.int v0)], [], (W0, Sh0, MI, ML))
  refine x_st rfl ?_
  refine x_br rfl (fun c => ?_) (fun c => ?_)
  · replace h := h.1 c
    refine x_st rfl ?_
    refine x_st rfl ?_
    refine x_br rfl (fun c => ?_) (fun c => ?_)
    · replace h := h.1 c
      refine x_st rfl ?_
      refine x_ret rfl ?_
      exact ⟨_, _, rfl, h⟩
    · replace h := h.2 c
      refine x_st rfl ?_
      refine x_st rfl ?_
      refine x_ret rfl ?_
      exact ⟨_, _, rfl, h⟩
  · replace h := h.2 c
    refine x_st rfl ?_
    refine x_st rfl ?_
    refine x_ret rfl ?_
    exact ⟨_, _, rfl, h⟩
theorem EX3_held {D : Nat} {Q : Option Value → mI → mJ → Prop}  {v0 : Int32} {MI : mI} {ML : mJ} (h : VX3_held_0 D Q v0 MI ML) : ∃ v MI' ML', Q v MI' ML' ∧ mrc (D + 1) 49 [.int v0] MI ML v MI' ML' := by
  refine x_en (n := 0) (T := TX3_held) rfl rfl ?_
  refine x_kl ?_ h
  exact ⟨Or.inr rfl, True.intro⟩
def VX3_joined_0 (D : Nat) (Q : Option Value → mI → mJ → Prop)  (v0 : Int32) (v1 : Int32) (v2 : Int32) (MI : mI) (ML : mJ) : Prop := mEx D TX3_joined (mqS Q) (0, [some (.int v0), some (.int v1), some (.int v2)], [], (W0, Sh0, MI, ML))
theorem BX3_joined_0 {D : Nat} {Q : Option Value → mI → mJ → Prop}  {v0 : Int32} {v1 : Int32} {v2 : Int32} {MI : mI} {ML : mJ} 
    (h : (v0 = (nI 37) → (v2 = nI 0 → Q (some (.int (nI 0))) MI ML) ∧ (¬ v2 = nI 0 → ¬ v2 = nI 0 ∧ (Q (some (.int (v1 - v1 / v2 * v2))) MI ML))) ∧ (¬ v0 = (nI 37) → (v0 = (nI 38) → (v1 = nI 0 → Q (some (.int (nI 0))) MI ML) ∧ (¬ v1 = nI 0 → (v2 = nI 0 → Q (some (.int (nI 0))) MI ML) ∧ (¬ v2 = nI 0 → Q (some (.int (nI 1))) MI ML))) ∧ (¬ v0 = (nI 38) → (v0 = (nI 42) → Q (some (.int (v1 * v2))) MI ML) ∧ (¬ v0 = (nI 42) → (v0 = (nI 43) → Q (some (.int (v1 + v2))) MI ML) ∧ (¬ v0 = (nI 43) → (v0 = (nI 45) → Q (some (.int (v1 - v2))) MI ML) ∧ (¬ v0 = (nI 45) → (v0 = (nI 47) → (v2 = nI 0 → Q (some (.int (nI 0))) MI ML) ∧ (¬ v2 = nI 0 → ¬ v2 = nI 0 ∧ (Q (some (.int (v1 / v2))) MI ML))) ∧ (¬ v0 = (nI 47) → (v0 = (nI 60) → (v2 ≤ v1 → Q (some (.int (nI 0))) MI ML) ∧ (¬ v2 ≤ v1 → Q (some (.int (nI 1))) MI ML)) ∧ (¬ v0 = (nI 60) → (v0 = (nI 61) → (v1 = v2 → Q (some (.int (nI 1))) MI ML) ∧ (¬ v1 = v2 → Q (some (.int (nI 0))) MI ML)) ∧ (¬ v0 = (nI 61) → (v0 = (nI 62) → (v1 ≤ v2 → Q (some (.int (nI 0))) MI ML) ∧ (¬ v1 ≤ v2 → Q (some (.int (nI 1))) MI ML)) ∧ (¬ v0 = (nI 62) → (v0 = (nI 124) → (v1 = nI 0 → (v2 = nI 0 → Q (some (.int (nI 0))) MI ML) ∧ (¬ v2 = nI 0 → Q (some (.int (nI 1))) MI ML)) ∧ (¬ v1 = nI 0 → Q (some (.int (nI 1))) MI ML)) ∧ (¬ v0 = (nI 124) → Q (some (.int (nI 0))) MI ML))))))))))) :
    VX3_joined_0 D Q v0 v1 v2 MI ML := by
  show mEx D TX3_joined (mqS Q) (0, [some (.int v0), some (.int v1), some (.int v2)], [], (W0, Sh0, MI, ML))
  refine x_st rfl ?_
  refine x_sw rfl ?_
  refine ⟨fun c => ?_, fun c => ?_⟩
  · replace h := h.1 c
    refine x_st rfl ?_
    refine x_br rfl (fun c => ?_) (fun c => ?_)
    · replace h := h.1 c
      refine x_st rfl ?_
      refine x_st rfl ?_
      refine x_ret rfl ?_
      exact ⟨_, _, rfl, h⟩
    · replace h := h.2 c
      refine x_st rfl ?_
      refine x_st rfl ?_
      refine x_ck rfl h.1 ?_
      have h := h.2
      refine x_ret rfl ?_
      exact ⟨_, _, rfl, h⟩
  · replace h := h.2 c
    refine ⟨fun c => ?_, fun c => ?_⟩
    · replace h := h.1 c
      refine x_st rfl ?_
      refine x_br rfl (fun c => ?_) (fun c => ?_)
      · replace h := h.1 c
        refine x_st rfl ?_
        refine x_ret rfl ?_
        exact ⟨_, _, rfl, h⟩
      · replace h := h.2 c
        refine x_st rfl ?_
        refine x_br rfl (fun c => ?_) (fun c => ?_)
        · replace h := h.1 c
          refine x_st rfl ?_
          refine x_ret rfl ?_
          exact ⟨_, _, rfl, h⟩
        · replace h := h.2 c
          refine x_st rfl ?_
          refine x_st rfl ?_
          refine x_ret rfl ?_
          exact ⟨_, _, rfl, h⟩
    · replace h := h.2 c
      refine ⟨fun c => ?_, fun c => ?_⟩
      · replace h := h.1 c
        refine x_st rfl ?_
        refine x_st rfl ?_
        refine x_st rfl ?_
        refine x_ret rfl ?_
        exact ⟨_, _, rfl, h⟩
      · replace h := h.2 c
        refine ⟨fun c => ?_, fun c => ?_⟩
        · replace h := h.1 c
          refine x_st rfl ?_
          refine x_st rfl ?_
          refine x_st rfl ?_
          refine x_ret rfl ?_
          exact ⟨_, _, rfl, h⟩
        · replace h := h.2 c
          refine ⟨fun c => ?_, fun c => ?_⟩
          · replace h := h.1 c
            refine x_st rfl ?_
            refine x_st rfl ?_
            refine x_st rfl ?_
            refine x_ret rfl ?_
            exact ⟨_, _, rfl, h⟩
          · replace h := h.2 c
            refine ⟨fun c => ?_, fun c => ?_⟩
            · replace h := h.1 c
              refine x_st rfl ?_
              refine x_br rfl (fun c => ?_) (fun c => ?_)
              · replace h := h.1 c
                refine x_st rfl ?_
                refine x_st rfl ?_
                refine x_ret rfl ?_
                exact ⟨_, _, rfl, h⟩
              · replace h := h.2 c
                refine x_st rfl ?_
                refine x_st rfl ?_
                refine x_ck rfl h.1 ?_
                have h := h.2
                refine x_ret rfl ?_
                exact ⟨_, _, rfl, h⟩
            · replace h := h.2 c
              refine ⟨fun c => ?_, fun c => ?_⟩
              · replace h := h.1 c
                refine x_st rfl ?_
                refine x_st rfl ?_
                refine x_br rfl (fun c => ?_) (fun c => ?_)
                · replace h := h.1 c
                  refine x_st rfl ?_
                  refine x_ret rfl ?_
                  exact ⟨_, _, rfl, h⟩
                · replace h := h.2 c
                  refine x_st rfl ?_
                  refine x_st rfl ?_
                  refine x_ret rfl ?_
                  exact ⟨_, _, rfl, h⟩
              · replace h := h.2 c
                refine ⟨fun c => ?_, fun c => ?_⟩
                · replace h := h.1 c
                  refine x_st rfl ?_
                  refine x_st rfl ?_
                  refine x_br rfl (fun c => ?_) (fun c => ?_)
                  · replace h := h.1 c
                    refine x_st rfl ?_
                    refine x_st rfl ?_
                    refine x_ret rfl ?_
                    exact ⟨_, _, rfl, h⟩
                  · replace h := h.2 c
                    refine x_st rfl ?_
                    refine x_ret rfl ?_
                    exact ⟨_, _, rfl, h⟩
                · replace h := h.2 c
                  refine ⟨fun c => ?_, fun c => ?_⟩
                  · replace h := h.1 c
                    refine x_st rfl ?_
                    refine x_st rfl ?_
                    refine x_br rfl (fun c => ?_) (fun c => ?_)
                    · replace h := h.1 c
                      refine x_st rfl ?_
                      refine x_ret rfl ?_
                      exact ⟨_, _, rfl, h⟩
                    · replace h := h.2 c
                      refine x_st rfl ?_
                      refine x_st rfl ?_
                      refine x_ret rfl ?_
                      exact ⟨_, _, rfl, h⟩
                  · replace h := h.2 c
                    refine ⟨fun c => ?_, fun c => ?_⟩
                    · replace h := h.1 c
                      refine x_st rfl ?_
                      refine x_br rfl (fun c => ?_) (fun c => ?_)
                      · replace h := h.1 c
                        refine x_st rfl ?_
                        refine x_br rfl (fun c => ?_) (fun c => ?_)
                        · replace h := h.1 c
                          refine x_st rfl ?_
                          refine x_ret rfl ?_
                          exact ⟨_, _, rfl, h⟩
                        · replace h := h.2 c
                          refine x_st rfl ?_
                          refine x_st rfl ?_
                          refine x_ret rfl ?_
                          exact ⟨_, _, rfl, h⟩
                      · replace h := h.2 c
                        refine x_st rfl ?_
                        refine x_st rfl ?_
                        refine x_ret rfl ?_
                        exact ⟨_, _, rfl, h⟩
                    · replace h := h.2 c
                      refine x_st rfl ?_
                      refine x_ret rfl ?_
                      exact ⟨_, _, rfl, h⟩
theorem EX3_joined {D : Nat} {Q : Option Value → mI → mJ → Prop}  {v0 : Int32} {v1 : Int32} {v2 : Int32} {MI : mI} {ML : mJ} (h : VX3_joined_0 D Q v0 v1 v2 MI ML) : ∃ v MI' ML', Q v MI' ML' ∧ mrc (D + 1) 50 [.int v0, .int v1, .int v2] MI ML v MI' ML' := by
  refine x_en (n := 0) (T := TX3_joined) rfl rfl ?_
  refine x_kl ?_ h
  exact ⟨Or.inr rfl, ⟨Or.inr rfl, ⟨Or.inr rfl, True.intro⟩⟩⟩
def VX4_take_0 (D : Nat) (Q : Option Value → mI → mJ → Prop)  (v1 : Int32) (MI : mI) (ML : mJ) : Prop := mEx D TX4_take (mqS Q) (0, [some (.ref 3), some (.int v1)], [], (W0, Sh0, MI, ML))
theorem BX4_take_0 {D : Nat} {Q : Option Value → mI → mJ → Prop}  {v1 : Int32} {MI : mI} {ML : mJ} 
    (h : ((MI 3 3) < (nI 160) → ∃ i1 : Nat, (MI 3 3) = nI i1 ∧ i1 < 160 ∧ (Q (some (.int ((mup (mup MI 5 (mput (MI 5) i1 v1)) 3 (mput ((mup MI 5 (mput (MI 5) i1 v1)) 3) 3 (((mup MI 5 (mput (MI 5) i1 v1)) 3 3) + (nI 1)))) 3 3))) (mup (mup MI 5 (mput (MI 5) i1 v1)) 3 (mput ((mup MI 5 (mput (MI 5) i1 v1)) 3) 3 (((mup MI 5 (mput (MI 5) i1 v1)) 3 3) + (nI 1)))) ML)) ∧ (¬ (MI 3 3) < (nI 160) → Q (some (.int (-3 : Int32))) MI ML)) :
    VX4_take_0 D Q v1 MI ML := by
  show mEx D TX4_take (mqS Q) (0, [some (.ref 3), some (.int v1)], [], (W0, Sh0, MI, ML))
  refine x_st rfl ?_
  refine x_gi (ci := 4) (k := 3) (nx := 4) rfl sh_3 rfl ?_
  refine x_st rfl ?_
  refine x_br rfl (fun c => ?_) (fun c => ?_)
  · replace h := h.1 c
    refine x_st rfl ?_
    refine x_gr (ci := 4) (k := 2) (nx := 17) rfl sh_3 rfl ?_
    refine x_st rfl ?_
    refine x_gi (ci := 4) (k := 3) (nx := 21) rfl sh_3 rfl ?_
    refine x_st rfl ?_
    obtain ⟨i1, hx, hi, h⟩ := h
    refine x_iast (i := i1) (nx := 23) rfl sh_5 hx hi (by decide) ?_
    refine x_st rfl ?_
    refine x_st rfl ?_
    refine x_gi (ci := 4) (k := 3) (nx := 28) rfl sh_3 rfl ?_
    refine x_st rfl ?_
    refine x_st rfl ?_
    refine x_pi (ci := 4) (k := 3) (nx := 33) rfl sh_3 rfl ?_
    refine x_st rfl ?_
    refine x_gi (ci := 4) (k := 3) (nx := 37) rfl sh_3 rfl ?_
    refine x_ret rfl ?_
    exact ⟨_, _, rfl, h⟩
  · replace h := h.2 c
    refine x_st rfl ?_
    refine x_ret rfl ?_
    exact ⟨_, _, rfl, h⟩
theorem EX4_take {D : Nat} {Q : Option Value → mI → mJ → Prop}  {v1 : Int32} {MI : mI} {ML : mJ} (h : VX4_take_0 D Q v1 MI ML) : ∃ v MI' ML', Q v MI' ML' ∧ mrc (D + 1) 52 [.ref 3, .int v1] MI ML v MI' ML' := by
  refine x_en (n := 0) (T := TX4_take) rfl rfl ?_
  refine x_kl ?_ h
  exact ⟨Or.inr rfl, ⟨Or.inr rfl, True.intro⟩⟩
def VX4_length_0 (D : Nat) (Q : Option Value → mI → mJ → Prop)  (MI : mI) (ML : mJ) : Prop := mEx D TX4_length (mqS Q) (0, [some (.ref 3)], [], (W0, Sh0, MI, ML))
theorem BX4_length_0 {D : Nat} {Q : Option Value → mI → mJ → Prop}  {MI : mI} {ML : mJ} 
    (h : Q (some (.int (MI 3 3))) MI ML) :
    VX4_length_0 D Q  MI ML := by
  show mEx D TX4_length (mqS Q) (0, [some (.ref 3)], [], (W0, Sh0, MI, ML))
  refine x_st rfl ?_
  refine x_gi (ci := 4) (k := 3) (nx := 4) rfl sh_3 rfl ?_
  refine x_ret rfl ?_
  exact ⟨_, _, rfl, h⟩
theorem EX4_length {D : Nat} {Q : Option Value → mI → mJ → Prop}  {MI : mI} {ML : mJ} (h : VX4_length_0 D Q  MI ML) : ∃ v MI' ML', Q v MI' ML' ∧ mrc (D + 1) 53 [.ref 3] MI ML v MI' ML' := by
  refine x_en (n := 0) (T := TX4_length) rfl rfl ?_
  refine x_kl ?_ h
  exact ⟨Or.inr rfl, True.intro⟩
def VX4_clear_0 (D : Nat) (Q : Option Value → mI → mJ → Prop)  (MI : mI) (ML : mJ) : Prop := mEx D TX4_clear (mqS Q) (0, [some (.ref 3)], [], (W0, Sh0, MI, ML))
theorem BX4_clear_0 {D : Nat} {Q : Option Value → mI → mJ → Prop}  {MI : mI} {ML : mJ} 
    (h : Q none (mup MI 3 (mput (MI 3) 3 (nI 0))) ML) :
    VX4_clear_0 D Q  MI ML := by
  show mEx D TX4_clear (mqS Q) (0, [some (.ref 3)], [], (W0, Sh0, MI, ML))
  refine x_st rfl ?_
  refine x_st rfl ?_
  refine x_pi (ci := 4) (k := 3) (nx := 5) rfl sh_3 rfl ?_
  refine x_ret rfl ?_
  exact ⟨_, _, rfl, h⟩
theorem EX4_clear {D : Nat} {Q : Option Value → mI → mJ → Prop}  {MI : mI} {ML : mJ} (h : VX4_clear_0 D Q  MI ML) : ∃ v MI' ML', Q v MI' ML' ∧ mrc (D + 1) 54 [.ref 3] MI ML v MI' ML' := by
  refine x_en (n := 0) (T := TX4_clear) rfl rfl ?_
  refine x_kl ?_ h
  exact ⟨Or.inr rfl, True.intro⟩
def VX4_read_0 (D : Nat) (Q : Option Value → mI → mJ → Prop)  (MI : mI) (ML : mJ) : Prop := mEx D TX4_read (mqS Q) (0, [some (.ref 3), none], [], (W0, Sh0, MI, ML))
def VX4_read_12 (D : Nat) (Q : Option Value → mI → mJ → Prop)  (v1 : Int32) (MI : mI) (ML : mJ) : Prop := mEx D TX4_read (mqS Q) (12, [some (.ref 3), some (.int v1)], [], (W0, Sh0, MI, ML))
theorem BX4_read_0 {D : Nat} {Q : Option Value → mI → mJ → Prop}  {MI : mI} {ML : mJ} 
    (h : VX4_read_12 D Q (nI 0) (mup (mup MI 3 (mput (MI 3) 4 (nI 0))) 3 (mput ((mup MI 3 (mput (MI 3) 4 (nI 0))) 3) 1 (nI 0))) ML) :
    VX4_read_0 D Q  MI ML := by
  show mEx D TX4_read (mqS Q) (0, [some (.ref 3), none], [], (W0, Sh0, MI, ML))
  refine x_st rfl ?_
  refine x_st rfl ?_
  refine x_pi (ci := 4) (k := 4) (nx := 5) rfl sh_3 rfl ?_
  refine x_st rfl ?_
  refine x_st rfl ?_
  refine x_pi (ci := 4) (k := 1) (nx := 10) rfl sh_3 rfl ?_
  refine x_st rfl ?_
  refine x_st rfl ?_
  refine x_kl ?_ h
  exact ⟨Or.inr rfl, ⟨Or.inr rfl, True.intro⟩⟩
theorem BX4_read_12 {D : Nat} {Q : Option Value → mI → mJ → Prop}  {v1 : Int32} {MI : mI} {ML : mJ} 
    (h : ((nI 160) < v1 → Q (some (.int (MI 3 4))) MI ML) ∧ (¬ (nI 160) < v1 → ∃ (x3 : Int32) (M1 : mI) (N2 : mJ), mrc D 56 [.ref 3] MI ML (some (.int x3)) M1 N2 ∧ ((x3 = nI 0 → Q (some (.int (M1 3 4))) M1 N2) ∧ (¬ x3 = nI 0 → ∃ (x6 : Int32) (M4 : mI) (N5 : mJ), mrc D 66 [.ref 3] M1 N2 (some (.int x6)) M4 N5 ∧ ((x6 = (nI 59) → VX4_read_12 D Q (v1 + (nI 1)) (mup M4 3 (mput (M4 3) 4 ((M4 3 4) + (nI 1)))) N5) ∧ (¬ x6 = (nI 59) → ∃ (x9 : Int32) (M7 : mI) (N8 : mJ), mrc D 66 [.ref 3] M4 N5 (some (.int x9)) M7 N8 ∧ ((x9 = (-1 : Int32) → Q (some (.int (-1 : Int32))) M7 N8) ∧ (¬ x9 = (-1 : Int32) → Q (some (.int (M7 3 4))) M7 N8)))))))) :
    VX4_read_12 D Q v1 MI ML := by
  show mEx D TX4_read (mqS Q) (12, [some (.ref 3), some (.int v1)], [], (W0, Sh0, MI, ML))
  refine x_st rfl ?_
  refine x_st rfl ?_
  refine x_br rfl (fun c => ?_) (fun c => ?_)
  · replace h := h.1 c
    refine x_st rfl ?_
    refine x_gi (ci := 4) (k := 4) (nx := 77) rfl sh_3 rfl ?_
    refine x_ret rfl ?_
    exact ⟨_, _, rfl, h⟩
  · replace h := h.2 c
    refine x_st rfl ?_
    obtain ⟨x3, M1, N2, hc, h⟩ := h
    refine x_vi (y := 56) (n := 0) (ci := 4) (nx := 23) rfl (fun _ => rfl) sh_3 rfl hc ?_
    refine x_br rfl (fun c => ?_) (fun c => ?_)
    · replace h := h.1 c
      refine x_st rfl ?_
      refine x_gi (ci := 4) (k := 4) (nx := 30) rfl sh_3 rfl ?_
      refine x_ret rfl ?_
      exact ⟨_, _, rfl, h⟩
    · replace h := h.2 c
      refine x_st rfl ?_
      obtain ⟨x6, M4, N5, hc, h⟩ := h
      refine x_vi (y := 66) (n := 0) (ci := 4) (nx := 35) rfl (fun _ => rfl) sh_3 rfl hc ?_
      refine x_st rfl ?_
      refine x_br rfl (fun c => ?_) (fun c => ?_)
      · replace h := h.1 c
        refine x_st rfl ?_
        refine x_st rfl ?_
        refine x_gi (ci := 4) (k := 4) (nx := 62) rfl sh_3 rfl ?_
        refine x_st rfl ?_
        refine x_st rfl ?_
        refine x_pi (ci := 4) (k := 4) (nx := 67) rfl sh_3 rfl ?_
        refine x_st rfl ?_
        refine x_st rfl ?_
        refine x_kl ?_ h
        exact ⟨Or.inr rfl, ⟨Or.inr rfl, True.intro⟩⟩
      · replace h := h.2 c
        refine x_st rfl ?_
        obtain ⟨x9, M7, N8, hc, h⟩ := h
        refine x_vi (y := 66) (n := 0) (ci := 4) (nx := 44) rfl (fun _ => rfl) sh_3 rfl hc ?_
        refine x_st rfl ?_
        refine x_br rfl (fun c => ?_) (fun c => ?_)
        · replace h := h.1 c
          refine x_st rfl ?_
          refine x_st rfl ?_
          refine x_ret rfl ?_
          exact ⟨_, _, rfl, h⟩
        · replace h := h.2 c
          refine x_st rfl ?_
          refine x_gi (ci := 4) (k := 4) (nx := 56) rfl sh_3 rfl ?_
          refine x_ret rfl ?_
          exact ⟨_, _, rfl, h⟩
theorem EX4_read {D : Nat} {Q : Option Value → mI → mJ → Prop}  {MI : mI} {ML : mJ} (h : VX4_read_0 D Q  MI ML) : ∃ v MI' ML', Q v MI' ML' ∧ mrc (D + 1) 55 [.ref 3] MI ML v MI' ML' := by
  refine x_en (n := 1) (T := TX4_read) rfl rfl ?_
  refine x_kl ?_ h
  exact ⟨Or.inr rfl, ⟨Or.inl rfl, True.intro⟩⟩
def VX4_readLine_0 (D : Nat) (Q : Option Value → mI → mJ → Prop)  (MI : mI) (ML : mJ) : Prop := mEx D TX4_readLine (mqS Q) (0, [some (.ref 3)], [], (W0, Sh0, MI, ML))
def VX4_readLine_47 (D : Nat) (Q : Option Value → mI → mJ → Prop)  (MI : mI) (ML : mJ) : Prop := mEx D TX4_readLine (mqS Q) (47, [some (.ref 3)], [], (W0, Sh0, MI, ML))
theorem BX4_readLine_0 {D : Nat} {Q : Option Value → mI → mJ → Prop}  {MI : mI} {ML : mJ} 
    (h : ∃ (x3 : Int32) (M1 : mI) (N2 : mJ), mrc D 57 [.ref 3, .int (nI 0), .int (nI 0)] MI ML (some (.int x3)) M1 N2 ∧ ((x3 = nI 0 → Q (some (.int (nI 0))) M1 N2) ∧ (¬ x3 = nI 0 → ∃ (x6 : Int32) (M4 : mI) (N5 : mJ), mrc D 66 [.ref 3] M1 N2 (some (.int x6)) M4 N5 ∧ ((x6 = (nI 63) → ∃ (M7 : mI) (N8 : mJ), mrc D 67 [.ref 3, .int (-63 : Int32)] (mup M4 3 (mput (M4 3) 4 ((M4 3 4) + (nI 1)))) N5 none M7 N8 ∧ (∃ (x11 : Int32) (M9 : mI) (N10 : mJ), mrc D 57 [.ref 3, .int (nI 0), .int (nI 0)] M7 N8 (some (.int x11)) M9 N10 ∧ ((x11 = nI 0 → Q (some (.int (nI 0))) M9 N10) ∧ (¬ x11 = nI 0 → VX4_readLine_47 D Q  M9 N10)))) ∧ (¬ x6 = (nI 63) → VX4_readLine_47 D Q  M4 N5))))) :
    VX4_readLine_0 D Q  MI ML := by
  show mEx D TX4_readLine (mqS Q) (0, [some (.ref 3)], [], (W0, Sh0, MI, ML))
  refine x_st rfl ?_
  refine x_st rfl ?_
  refine x_st rfl ?_
  obtain ⟨x3, M1, N2, hc, h⟩ := h
  refine x_vi (y := 57) (n := 2) (ci := 4) (nx := 6) rfl (fun _ => rfl) sh_3 rfl hc ?_
  refine x_br rfl (fun c => ?_) (fun c => ?_)
  · replace h := h.1 c
    refine x_st rfl ?_
    refine x_ret rfl ?_
    exact ⟨_, _, rfl, h⟩
  · replace h := h.2 c
    refine x_st rfl ?_
    obtain ⟨x6, M4, N5, hc, h⟩ := h
    refine x_vi (y := 66) (n := 0) (ci := 4) (nx := 15) rfl (fun _ => rfl) sh_3 rfl hc ?_
    refine x_st rfl ?_
    refine x_br rfl (fun c => ?_) (fun c => ?_)
    · replace h := h.1 c
      refine x_st rfl ?_
      refine x_st rfl ?_
      refine x_gi (ci := 4) (k := 4) (nx := 25) rfl sh_3 rfl ?_
      refine x_st rfl ?_
      refine x_st rfl ?_
      refine x_pi (ci := 4) (k := 4) (nx := 30) rfl sh_3 rfl ?_
      refine x_st rfl ?_
      refine x_st rfl ?_
      obtain ⟨M7, N8, hc, h⟩ := h
      refine x_vv (y := 67) (n := 1) (ci := 4) (nx := 36) rfl (fun _ => rfl) sh_3 rfl hc ?_
      refine x_st rfl ?_
      refine x_st rfl ?_
      refine x_st rfl ?_
      obtain ⟨x11, M9, N10, hc, h⟩ := h
      refine x_vi (y := 57) (n := 2) (ci := 4) (nx := 42) rfl (fun _ => rfl) sh_3 rfl hc ?_
      refine x_br rfl (fun c => ?_) (fun c => ?_)
      · replace h := h.1 c
        refine x_st rfl ?_
        refine x_ret rfl ?_
        exact ⟨_, _, rfl, h⟩
      · replace h := h.2 c
        refine x_kl ?_ h
        exact ⟨Or.inr rfl, True.intro⟩
    · replace h := h.2 c
      refine x_kl ?_ h
      exact ⟨Or.inr rfl, True.intro⟩
theorem BX4_readLine_47 {D : Nat} {Q : Option Value → mI → mJ → Prop}  {MI : mI} {ML : mJ} 
    (h : ∃ (M1 : mI) (N2 : mJ), mrc D 67 [.ref 3, .int (-59 : Int32)] MI ML none M1 N2 ∧ (Q (some (.int (nI 1))) M1 N2)) :
    VX4_readLine_47 D Q  MI ML := by
  show mEx D TX4_readLine (mqS Q) (47, [some (.ref 3)], [], (W0, Sh0, MI, ML))
  refine x_st rfl ?_
  refine x_st rfl ?_
  obtain ⟨M1, N2, hc, h⟩ := h
  refine x_vv (y := 67) (n := 1) (ci := 4) (nx := 53) rfl (fun _ => rfl) sh_3 rfl hc ?_
  refine x_st rfl ?_
  refine x_ret rfl ?_
  exact ⟨_, _, rfl, h⟩
theorem EX4_readLine {D : Nat} {Q : Option Value → mI → mJ → Prop}  {MI : mI} {ML : mJ} (h : VX4_readLine_0 D Q  MI ML) : ∃ v MI' ML', Q v MI' ML' ∧ mrc (D + 1) 56 [.ref 3] MI ML v MI' ML' := by
  refine x_en (n := 0) (T := TX4_readLine) rfl rfl ?_
  refine x_kl ?_ h
  exact ⟨Or.inr rfl, True.intro⟩
def VX4_readLevel_0 (D : Nat) (Q : Option Value → mI → mJ → Prop)  (v1 : Int32) (v2 : Int32) (MI : mI) (ML : mJ) : Prop := mEx D TX4_readLevel (mqS Q) (0, [some (.ref 3), some (.int v1), some (.int v2), none, none, none], [], (W0, Sh0, MI, ML))
def VX4_readLevel_40 (D : Nat) (Q : Option Value → mI → mJ → Prop)  (v1 : Int32) (v2 : Int32) (v3 : Int32) (v4 : Int32) (MI : mI) (ML : mJ) : Prop := mEx D TX4_readLevel (mqS Q) (40, [some (.ref 3), some (.int v1), some (.int v2), some (.int v3), some (.int v4), none], [], (W0, Sh0, MI, ML))
theorem BX4_readLevel_0 {D : Nat} {Q : Option Value → mI → mJ → Prop}  {v1 : Int32} {v2 : Int32} {MI : mI} {ML : mJ} 
    (h : (v1 < (nI 5) → ∃ (x3 : Int32) (M1 : mI) (N2 : mJ), mrc D 57 [.ref 3, .int (v1 + (nI 1)), .int v2] MI ML (some (.int x3)) M1 N2 ∧ ((x3 = nI 0 → Q (some (.int (nI 0))) M1 N2) ∧ (¬ x3 = nI 0 → (v1 = (nI 2) → VX4_readLevel_40 D Q v1 v2 (nI 1) (nI 0) M1 N2) ∧ (¬ v1 = (nI 2) → VX4_readLevel_40 D Q v1 v2 (nI 160) (nI 0) M1 N2)))) ∧ (¬ v1 < (nI 5) → ∃ (x6 : Int32) (M4 : mI) (N5 : mJ), mrc D 59 [.ref 3, .int v2] MI ML (some (.int x6)) M4 N5 ∧ ((x6 = nI 0 ∨ x6 = nI 1) ∧ Q (some (.int x6)) M4 N5))) :
    VX4_readLevel_0 D Q v1 v2 MI ML := by
  show mEx D TX4_readLevel (mqS Q) (0, [some (.ref 3), some (.int v1), some (.int v2), none, none, none], [], (W0, Sh0, MI, ML))
  refine x_st rfl ?_
  refine x_st rfl ?_
  refine x_br rfl (fun c => ?_) (fun c => ?_)
  · replace h := h.1 c
    refine x_st rfl ?_
    refine x_st rfl ?_
    refine x_st rfl ?_
    refine x_st rfl ?_
    refine x_st rfl ?_
    obtain ⟨x3, M1, N2, hc, h⟩ := h
    refine x_vi (y := 57) (n := 2) (ci := 4) (nx := 19) rfl (fun _ => rfl) sh_3 rfl hc ?_
    refine x_br rfl (fun c => ?_) (fun c => ?_)
    · replace h := h.1 c
      refine x_st rfl ?_
      refine x_ret rfl ?_
      exact ⟨_, _, rfl, h⟩
    · replace h := h.2 c
      refine x_st rfl ?_
      refine x_st rfl ?_
      refine x_br rfl (fun c => ?_) (fun c => ?_)
      · replace h := h.1 c
        refine x_st rfl ?_
        refine x_st rfl ?_
        refine x_st rfl ?_
        refine x_st rfl ?_
        refine x_st rfl ?_
        refine x_kl ?_ h
        exact ⟨Or.inr rfl, ⟨Or.inr rfl, ⟨Or.inr rfl, ⟨Or.inr rfl, ⟨Or.inr rfl, ⟨Or.inl rfl, True.intro⟩⟩⟩⟩⟩⟩
      · replace h := h.2 c
        refine x_st rfl ?_
        refine x_st rfl ?_
        refine x_st rfl ?_
        refine x_st rfl ?_
        refine x_kl ?_ h
        exact ⟨Or.inr rfl, ⟨Or.inr rfl, ⟨Or.inr rfl, ⟨Or.inr rfl, ⟨Or.inr rfl, ⟨Or.inl rfl, True.intro⟩⟩⟩⟩⟩⟩
  · replace h := h.2 c
    refine x_st rfl ?_
    refine x_st rfl ?_
    obtain ⟨x6, M4, N5, hc, h⟩ := h
    refine x_vi (y := 59) (n := 1) (ci := 4) (nx := 10) rfl (fun _ => rfl) sh_3 rfl hc ?_
    refine x_retz rfl h.1 ?_
    exact ⟨_, _, rfl, h.2⟩
theorem BX4_readLevel_40 {D : Nat} {Q : Option Value → mI → mJ → Prop}  {v1 : Int32} {v2 : Int32} {v3 : Int32} {v4 : Int32} {MI : mI} {ML : mJ} 
    (h : (v3 ≤ v4 → Q (some (.int (nI 1))) MI ML) ∧ (¬ v3 ≤ v4 → ∃ (x3 : Int32) (M1 : mI) (N2 : mJ), mrc D 66 [.ref 3] MI ML (some (.int x3)) M1 N2 ∧ (∃ (x6 : Int32) (M4 : mI) (N5 : mJ), mrc D 58 [.int x3] M1 N2 (some (.int x6)) M4 N5 ∧ ((x6 = v1 → ∃ (x9 : Int32) (M7 : mI) (N8 : mJ), mrc D 66 [.ref 3] M4 N5 (some (.int x9)) M7 N8 ∧ (∃ (x12 : Int32) (M10 : mI) (N11 : mJ), mrc D 57 [.ref 3, .int (v1 + (nI 1)), .int v2] (mup M7 3 (mput (M7 3) 4 ((M7 3 4) + (nI 1)))) N8 (some (.int x12)) M10 N11 ∧ ((x12 = nI 0 → Q (some (.int (nI 0))) M10 N11) ∧ (¬ x12 = nI 0 → ∃ (M13 : mI) (N14 : mJ), mrc D 67 [.ref 3, .int (-x9)] M10 N11 none M13 N14 ∧ (VX4_readLevel_40 D Q v1 v2 v3 (v4 + (nI 1)) M13 N14))))) ∧ (¬ x6 = v1 → Q (some (.int (nI 1))) M4 N5))))) :
    VX4_readLevel_40 D Q v1 v2 v3 v4 MI ML := by
  show mEx D TX4_readLevel (mqS Q) (40, [some (.ref 3), some (.int v1), some (.int v2), some (.int v3), some (.int v4), none], [], (W0, Sh0, MI, ML))
  refine x_st rfl ?_
  refine x_st rfl ?_
  refine x_br rfl (fun c => ?_) (fun c => ?_)
  · replace h := h.1 c
    refine x_st rfl ?_
    refine x_ret rfl ?_
    exact ⟨_, _, rfl, h⟩
  · replace h := h.2 c
    refine x_st rfl ?_
    obtain ⟨x3, M1, N2, hc, h⟩ := h
    refine x_vi (y := 66) (n := 0) (ci := 4) (nx := 50) rfl (fun _ => rfl) sh_3 rfl hc ?_
    obtain ⟨x6, M4, N5, hc, h⟩ := h
    refine x_ci rfl hc ?_
    refine x_st rfl ?_
    refine x_br rfl (fun c => ?_) (fun c => ?_)
    · replace h := h.1 c
      refine x_st rfl ?_
      obtain ⟨x9, M7, N8, hc, h⟩ := h
      refine x_vi (y := 66) (n := 0) (ci := 4) (nx := 61) rfl (fun _ => rfl) sh_3 rfl hc ?_
      refine x_st rfl ?_
      refine x_st rfl ?_
      refine x_st rfl ?_
      refine x_gi (ci := 4) (k := 4) (nx := 68) rfl sh_3 rfl ?_
      refine x_st rfl ?_
      refine x_st rfl ?_
      refine x_pi (ci := 4) (k := 4) (nx := 73) rfl sh_3 rfl ?_
      refine x_st rfl ?_
      refine x_st rfl ?_
      refine x_st rfl ?_
      refine x_st rfl ?_
      refine x_st rfl ?_
      obtain ⟨x12, M10, N11, hc, h⟩ := h
      refine x_vi (y := 57) (n := 2) (ci := 4) (nx := 81) rfl (fun _ => rfl) sh_3 rfl hc ?_
      refine x_br rfl (fun c => ?_) (fun c => ?_)
      · replace h := h.1 c
        refine x_st rfl ?_
        refine x_ret rfl ?_
        exact ⟨_, _, rfl, h⟩
      · replace h := h.2 c
        refine x_st rfl ?_
        refine x_st rfl ?_
        refine x_st rfl ?_
        obtain ⟨M13, N14, hc, h⟩ := h
        refine x_vv (y := 67) (n := 1) (ci := 4) (nx := 93) rfl (fun _ => rfl) sh_3 rfl hc ?_
        refine x_st rfl ?_
        refine x_st rfl ?_
        refine x_kl ?_ h
        exact ⟨Or.inr rfl, ⟨Or.inr rfl, ⟨Or.inr rfl, ⟨Or.inr rfl, ⟨Or.inr rfl, ⟨Or.inl rfl, True.intro⟩⟩⟩⟩⟩⟩
    · replace h := h.2 c
      refine x_st rfl ?_
      refine x_ret rfl ?_
      exact ⟨_, _, rfl, h⟩
theorem EX4_readLevel {D : Nat} {Q : Option Value → mI → mJ → Prop}  {v1 : Int32} {v2 : Int32} {MI : mI} {ML : mJ} (h : VX4_readLevel_0 D Q v1 v2 MI ML) : ∃ v MI' ML', Q v MI' ML' ∧ mrc (D + 1) 57 [.ref 3, .int v1, .int v2] MI ML v MI' ML' := by
  refine x_en (n := 3) (T := TX4_readLevel) rfl rfl ?_
  refine x_kl ?_ h
  exact ⟨Or.inr rfl, ⟨Or.inr rfl, ⟨Or.inr rfl, ⟨Or.inl rfl, ⟨Or.inl rfl, ⟨Or.inl rfl, True.intro⟩⟩⟩⟩⟩⟩
def VX4_levelOf_0 (D : Nat) (Q : Option Value → mI → mJ → Prop)  (v0 : Int32) (MI : mI) (ML : mJ) : Prop := mEx D TX4_levelOf (mqS Q) (0, [some (.int v0)], [], (W0, Sh0, MI, ML))
theorem BX4_levelOf_0 {D : Nat} {Q : Option Value → mI → mJ → Prop}  {v0 : Int32} {MI : mI} {ML : mJ} 
    (h : (v0 = (nI 37) → Q (some (.int (nI 4))) MI ML) ∧ (¬ v0 = (nI 37) → (v0 = (nI 38) → Q (some (.int (nI 1))) MI ML) ∧ (¬ v0 = (nI 38) → (v0 = (nI 42) → Q (some (.int (nI 4))) MI ML) ∧ (¬ v0 = (nI 42) → (v0 = (nI 43) → Q (some (.int (nI 3))) MI ML) ∧ (¬ v0 = (nI 43) → (v0 = (nI 45) → Q (some (.int (nI 3))) MI ML) ∧ (¬ v0 = (nI 45) → (v0 = (nI 47) → Q (some (.int (nI 4))) MI ML) ∧ (¬ v0 = (nI 47) → (v0 = (nI 60) → Q (some (.int (nI 2))) MI ML) ∧ (¬ v0 = (nI 60) → (v0 = (nI 61) → Q (some (.int (nI 2))) MI ML) ∧ (¬ v0 = (nI 61) → (v0 = (nI 62) → Q (some (.int (nI 2))) MI ML) ∧ (¬ v0 = (nI 62) → (v0 = (nI 124) → Q (some (.int (nI 0))) MI ML) ∧ (¬ v0 = (nI 124) → Q (some (.int (nI 5))) MI ML))))))))))) :
    VX4_levelOf_0 D Q v0 MI ML := by
  show mEx D TX4_levelOf (mqS Q) (0, [some (.int v0)], [], (W0, Sh0, MI, ML))
  refine x_st rfl ?_
  refine x_sw rfl ?_
  refine ⟨fun c => ?_, fun c => ?_⟩
  · replace h := h.1 c
    refine x_st rfl ?_
    refine x_ret rfl ?_
    exact ⟨_, _, rfl, h⟩
  · replace h := h.2 c
    refine ⟨fun c => ?_, fun c => ?_⟩
    · replace h := h.1 c
      refine x_st rfl ?_
      refine x_ret rfl ?_
      exact ⟨_, _, rfl, h⟩
    · replace h := h.2 c
      refine ⟨fun c => ?_, fun c => ?_⟩
      · replace h := h.1 c
        refine x_st rfl ?_
        refine x_ret rfl ?_
        exact ⟨_, _, rfl, h⟩
      · replace h := h.2 c
        refine ⟨fun c => ?_, fun c => ?_⟩
        · replace h := h.1 c
          refine x_st rfl ?_
          refine x_ret rfl ?_
          exact ⟨_, _, rfl, h⟩
        · replace h := h.2 c
          refine ⟨fun c => ?_, fun c => ?_⟩
          · replace h := h.1 c
            refine x_st rfl ?_
            refine x_ret rfl ?_
            exact ⟨_, _, rfl, h⟩
          · replace h := h.2 c
            refine ⟨fun c => ?_, fun c => ?_⟩
            · replace h := h.1 c
              refine x_st rfl ?_
              refine x_ret rfl ?_
              exact ⟨_, _, rfl, h⟩
            · replace h := h.2 c
              refine ⟨fun c => ?_, fun c => ?_⟩
              · replace h := h.1 c
                refine x_st rfl ?_
                refine x_ret rfl ?_
                exact ⟨_, _, rfl, h⟩
              · replace h := h.2 c
                refine ⟨fun c => ?_, fun c => ?_⟩
                · replace h := h.1 c
                  refine x_st rfl ?_
                  refine x_ret rfl ?_
                  exact ⟨_, _, rfl, h⟩
                · replace h := h.2 c
                  refine ⟨fun c => ?_, fun c => ?_⟩
                  · replace h := h.1 c
                    refine x_st rfl ?_
                    refine x_ret rfl ?_
                    exact ⟨_, _, rfl, h⟩
                  · replace h := h.2 c
                    refine ⟨fun c => ?_, fun c => ?_⟩
                    · replace h := h.1 c
                      refine x_st rfl ?_
                      refine x_ret rfl ?_
                      exact ⟨_, _, rfl, h⟩
                    · replace h := h.2 c
                      refine x_st rfl ?_
                      refine x_ret rfl ?_
                      exact ⟨_, _, rfl, h⟩
theorem EX4_levelOf {D : Nat} {Q : Option Value → mI → mJ → Prop}  {v0 : Int32} {MI : mI} {ML : mJ} (h : VX4_levelOf_0 D Q v0 MI ML) : ∃ v MI' ML', Q v MI' ML' ∧ mrc (D + 1) 58 [.int v0] MI ML v MI' ML' := by
  refine x_en (n := 0) (T := TX4_levelOf) rfl rfl ?_
  refine x_kl ?_ h
  exact ⟨Or.inr rfl, True.intro⟩
def VX4_readOperand_0 (D : Nat) (Q : Option Value → mI → mJ → Prop)  (v1 : Int32) (MI : mI) (ML : mJ) : Prop := mEx D TX4_readOperand (mqS Q) (0, [some (.ref 3), some (.int v1), none], [], (W0, Sh0, MI, ML))
def VX4_readOperand_23 (D : Nat) (Q : Option Value → mI → mJ → Prop)  (v1 : Int32) (v2 : Int32) (MI : mI) (ML : mJ) : Prop := mEx D TX4_readOperand (mqS Q) (23, [some (.ref 3), some (.int v1), some (.int v2)], [], (W0, Sh0, MI, ML))
theorem BX4_readOperand_0 {D : Nat} {Q : Option Value → mI → mJ → Prop}  {v1 : Int32} {MI : mI} {ML : mJ} 
    (h : ∃ (x3 : Int32) (M1 : mI) (N2 : mJ), mrc D 66 [.ref 3] MI ML (some (.int x3)) M1 N2 ∧ ((x3 = (nI 40) → VX4_readOperand_23 D Q v1 x3 M1 N2) ∧ (¬ x3 = (nI 40) → (x3 = (nI 33) → VX4_readOperand_23 D Q v1 x3 M1 N2) ∧ (¬ x3 = (nI 33) → (x3 = (nI 45) → VX4_readOperand_23 D Q v1 x3 M1 N2) ∧ (¬ x3 = (nI 45) → ∃ (x6 : Int32) (M4 : mI) (N5 : mJ), mrc D 65 [.int x3] M1 N2 (some (.int x6)) M4 N5 ∧ ((x6 = nI 0 → ∃ (x9 : Int32) (M7 : mI) (N8 : mJ), mrc D 62 [.ref 3] M4 N5 (some (.int x9)) M7 N8 ∧ ((x9 = nI 0 ∨ x9 = nI 1) ∧ Q (some (.int x9)) M7 N8)) ∧ (¬ x6 = nI 0 → ∃ (M10 : mI) (N11 : mJ), mrc D 61 [.ref 3] M4 N5 none M10 N11 ∧ (Q (some (.int (nI 1))) M10 N11)))))))) :
    VX4_readOperand_0 D Q v1 MI ML := by
  show mEx D TX4_readOperand (mqS Q) (0, [some (.ref 3), some (.int v1), none], [], (W0, Sh0, MI, ML))
  refine x_st rfl ?_
  obtain ⟨x3, M1, N2, hc, h⟩ := h
  refine x_vi (y := 66) (n := 0) (ci := 4) (nx := 4) rfl (fun _ => rfl) sh_3 rfl hc ?_
  refine x_st rfl ?_
  refine x_st rfl ?_
  refine x_st rfl ?_
  refine x_br rfl (fun c => ?_) (fun c => ?_)
  · replace h := h.1 c
    refine x_kl ?_ h
    exact ⟨Or.inr rfl, ⟨Or.inr rfl, ⟨Or.inr rfl, True.intro⟩⟩⟩
  · replace h := h.2 c
    refine x_st rfl ?_
    refine x_st rfl ?_
    refine x_br rfl (fun c => ?_) (fun c => ?_)
    · replace h := h.1 c
      refine x_kl ?_ h
      exact ⟨Or.inr rfl, ⟨Or.inr rfl, ⟨Or.inr rfl, True.intro⟩⟩⟩
    · replace h := h.2 c
      refine x_st rfl ?_
      refine x_st rfl ?_
      refine x_br rfl (fun c => ?_) (fun c => ?_)
      · replace h := h.1 c
        refine x_kl ?_ h
        exact ⟨Or.inr rfl, ⟨Or.inr rfl, ⟨Or.inr rfl, True.intro⟩⟩⟩
      · replace h := h.2 c
        refine x_st rfl ?_
        obtain ⟨x6, M4, N5, hc, h⟩ := h
        refine x_ci rfl hc ?_
        refine x_br rfl (fun c => ?_) (fun c => ?_)
        · replace h := h.1 c
          refine x_st rfl ?_
          obtain ⟨x9, M7, N8, hc, h⟩ := h
          refine x_vi (y := 62) (n := 0) (ci := 4) (nx := 63) rfl (fun _ => rfl) sh_3 rfl hc ?_
          refine x_retz rfl h.1 ?_
          exact ⟨_, _, rfl, h.2⟩
        · replace h := h.2 c
          refine x_st rfl ?_
          obtain ⟨M10, N11, hc, h⟩ := h
          refine x_vv (y := 61) (n := 0) (ci := 4) (nx := 57) rfl (fun _ => rfl) sh_3 rfl hc ?_
          refine x_st rfl ?_
          refine x_ret rfl ?_
          exact ⟨_, _, rfl, h⟩
theorem BX4_readOperand_23 {D : Nat} {Q : Option Value → mI → mJ → Prop}  {v1 : Int32} {v2 : Int32} {MI : mI} {ML : mJ} 
    (h : ((nI 6) ≤ v1 → Q (some (.int (nI 0))) MI ML) ∧ (¬ (nI 6) ≤ v1 → ∃ (x3 : Int32) (M1 : mI) (N2 : mJ), mrc D 60 [.ref 3, .int v2, .int (v1 + (nI 1))] MI ML (some (.int x3)) M1 N2 ∧ ((x3 = nI 0 → Q (some (.int (nI 0))) M1 N2) ∧ (¬ x3 = nI 0 → Q (some (.int (nI 1))) M1 N2)))) :
    VX4_readOperand_23 D Q v1 v2 MI ML := by
  show mEx D TX4_readOperand (mqS Q) (23, [some (.ref 3), some (.int v1), some (.int v2)], [], (W0, Sh0, MI, ML))
  refine x_st rfl ?_
  refine x_st rfl ?_
  refine x_br rfl (fun c => ?_) (fun c => ?_)
  · replace h := h.1 c
    refine x_st rfl ?_
    refine x_ret rfl ?_
    exact ⟨_, _, rfl, h⟩
  · replace h := h.2 c
    refine x_st rfl ?_
    refine x_st rfl ?_
    refine x_st rfl ?_
    refine x_st rfl ?_
    refine x_st rfl ?_
    obtain ⟨x3, M1, N2, hc, h⟩ := h
    refine x_vi (y := 60) (n := 2) (ci := 4) (nx := 37) rfl (fun _ => rfl) sh_3 rfl hc ?_
    refine x_br rfl (fun c => ?_) (fun c => ?_)
    · replace h := h.1 c
      refine x_st rfl ?_
      refine x_ret rfl ?_
      exact ⟨_, _, rfl, h⟩
    · replace h := h.2 c
      refine x_st rfl ?_
      refine x_st rfl ?_
      refine x_ret rfl ?_
      exact ⟨_, _, rfl, h⟩
theorem EX4_readOperand {D : Nat} {Q : Option Value → mI → mJ → Prop}  {v1 : Int32} {MI : mI} {ML : mJ} (h : VX4_readOperand_0 D Q v1 MI ML) : ∃ v MI' ML', Q v MI' ML' ∧ mrc (D + 1) 59 [.ref 3, .int v1] MI ML v MI' ML' := by
  refine x_en (n := 1) (T := TX4_readOperand) rfl rfl ?_
  refine x_kl ?_ h
  exact ⟨Or.inr rfl, ⟨Or.inr rfl, ⟨Or.inl rfl, True.intro⟩⟩⟩
def VX4_readOpened_0 (D : Nat) (Q : Option Value → mI → mJ → Prop)  (v1 : Int32) (v2 : Int32) (MI : mI) (ML : mJ) : Prop := mEx D TX4_readOpened (mqS Q) (0, [some (.ref 3), some (.int v1), some (.int v2)], [], (W0, Sh0, MI, ML))
theorem BX4_readOpened_0 {D : Nat} {Q : Option Value → mI → mJ → Prop}  {v1 : Int32} {v2 : Int32} {MI : mI} {ML : mJ} 
    (h : (v1 = (nI 40) → ∃ (x3 : Int32) (M1 : mI) (N2 : mJ), mrc D 57 [.ref 3, .int (nI 0), .int v2] (mup MI 3 (mput (MI 3) 4 ((MI 3 4) + (nI 1)))) ML (some (.int x3)) M1 N2 ∧ ((x3 = nI 0 → Q (some (.int (nI 0))) M1 N2) ∧ (¬ x3 = nI 0 → ∃ (x6 : Int32) (M4 : mI) (N5 : mJ), mrc D 66 [.ref 3] M1 N2 (some (.int x6)) M4 N5 ∧ ((x6 = (nI 41) → Q (some (.int (nI 1))) (mup M4 3 (mput (M4 3) 4 ((M4 3 4) + (nI 1)))) N5) ∧ (¬ x6 = (nI 41) → Q (some (.int (nI 0))) M4 N5))))) ∧ (¬ v1 = (nI 40) → ∃ (x9 : Int32) (M7 : mI) (N8 : mJ), mrc D 59 [.ref 3, .int v2] (mup MI 3 (mput (MI 3) 4 ((MI 3 4) + (nI 1)))) ML (some (.int x9)) M7 N8 ∧ ((x9 = nI 0 → Q (some (.int (nI 0))) M7 N8) ∧ (¬ x9 = nI 0 → (v1 = (nI 33) → ∃ (M10 : mI) (N11 : mJ), mrc D 67 [.ref 3, .int (-33 : Int32)] M7 N8 none M10 N11 ∧ (Q (some (.int (nI 1))) M10 N11)) ∧ (¬ v1 = (nI 33) → ∃ (M12 : mI) (N13 : mJ), mrc D 67 [.ref 3, .int (-126 : Int32)] M7 N8 none M12 N13 ∧ (Q (some (.int (nI 1))) M12 N13)))))) :
    VX4_readOpened_0 D Q v1 v2 MI ML := by
  show mEx D TX4_readOpened (mqS Q) (0, [some (.ref 3), some (.int v1), some (.int v2)], [], (W0, Sh0, MI, ML))
  refine x_st rfl ?_
  refine x_st rfl ?_
  refine x_gi (ci := 4) (k := 4) (nx := 5) rfl sh_3 rfl ?_
  refine x_st rfl ?_
  refine x_st rfl ?_
  refine x_pi (ci := 4) (k := 4) (nx := 10) rfl sh_3 rfl ?_
  refine x_st rfl ?_
  refine x_st rfl ?_
  refine x_br rfl (fun c => ?_) (fun c => ?_)
  · replace h := h.1 c
    refine x_st rfl ?_
    refine x_st rfl ?_
    refine x_st rfl ?_
    obtain ⟨x3, M1, N2, hc, h⟩ := h
    refine x_vi (y := 57) (n := 2) (ci := 4) (nx := 22) rfl (fun _ => rfl) sh_3 rfl hc ?_
    refine x_br rfl (fun c => ?_) (fun c => ?_)
    · replace h := h.1 c
      refine x_st rfl ?_
      refine x_ret rfl ?_
      exact ⟨_, _, rfl, h⟩
    · replace h := h.2 c
      refine x_st rfl ?_
      obtain ⟨x6, M4, N5, hc, h⟩ := h
      refine x_vi (y := 66) (n := 0) (ci := 4) (nx := 29) rfl (fun _ => rfl) sh_3 rfl hc ?_
      refine x_st rfl ?_
      refine x_br rfl (fun c => ?_) (fun c => ?_)
      · replace h := h.1 c
        refine x_st rfl ?_
        refine x_st rfl ?_
        refine x_gi (ci := 4) (k := 4) (nx := 41) rfl sh_3 rfl ?_
        refine x_st rfl ?_
        refine x_st rfl ?_
        refine x_pi (ci := 4) (k := 4) (nx := 46) rfl sh_3 rfl ?_
        refine x_st rfl ?_
        refine x_ret rfl ?_
        exact ⟨_, _, rfl, h⟩
      · replace h := h.2 c
        refine x_st rfl ?_
        refine x_ret rfl ?_
        exact ⟨_, _, rfl, h⟩
  · replace h := h.2 c
    refine x_st rfl ?_
    refine x_st rfl ?_
    obtain ⟨x9, M7, N8, hc, h⟩ := h
    refine x_vi (y := 59) (n := 1) (ci := 4) (nx := 53) rfl (fun _ => rfl) sh_3 rfl hc ?_
    refine x_br rfl (fun c => ?_) (fun c => ?_)
    · replace h := h.1 c
      refine x_st rfl ?_
      refine x_ret rfl ?_
      exact ⟨_, _, rfl, h⟩
    · replace h := h.2 c
      refine x_st rfl ?_
      refine x_st rfl ?_
      refine x_st rfl ?_
      refine x_br rfl (fun c => ?_) (fun c => ?_)
      · replace h := h.1 c
        refine x_st rfl ?_
        refine x_st rfl ?_
        obtain ⟨M10, N11, hc, h⟩ := h
        refine x_vv (y := 67) (n := 1) (ci := 4) (nx := 75) rfl (fun _ => rfl) sh_3 rfl hc ?_
        refine x_st rfl ?_
        refine x_ret rfl ?_
        exact ⟨_, _, rfl, h⟩
      · replace h := h.2 c
        refine x_st rfl ?_
        obtain ⟨M12, N13, hc, h⟩ := h
        refine x_vv (y := 67) (n := 1) (ci := 4) (nx := 75) rfl (fun _ => rfl) sh_3 rfl hc ?_
        refine x_st rfl ?_
        refine x_ret rfl ?_
        exact ⟨_, _, rfl, h⟩
theorem EX4_readOpened {D : Nat} {Q : Option Value → mI → mJ → Prop}  {v1 : Int32} {v2 : Int32} {MI : mI} {ML : mJ} (h : VX4_readOpened_0 D Q v1 v2 MI ML) : ∃ v MI' ML', Q v MI' ML' ∧ mrc (D + 1) 60 [.ref 3, .int v1, .int v2] MI ML v MI' ML' := by
  refine x_en (n := 0) (T := TX4_readOpened) rfl rfl ?_
  refine x_kl ?_ h
  exact ⟨Or.inr rfl, ⟨Or.inr rfl, ⟨Or.inr rfl, True.intro⟩⟩⟩
def VX4_readNumber_0 (D : Nat) (Q : Option Value → mI → mJ → Prop)  (MI : mI) (ML : mJ) : Prop := mEx D TX4_readNumber (mqS Q) (0, [some (.ref 3), none, none], [], (W0, Sh0, MI, ML))
def VX4_readNumber_4 (D : Nat) (Q : Option Value → mI → mJ → Prop)  (v1 : Int32) (v2 : Int32) (MI : mI) (ML : mJ) : Prop := mEx D TX4_readNumber (mqS Q) (4, [some (.ref 3), some (.int v1), some (.int v2)], [], (W0, Sh0, MI, ML))
def VX4_readNumber_48 (D : Nat) (Q : Option Value → mI → mJ → Prop)  (v1 : Int32) (MI : mI) (ML : mJ) : Prop := mEx D TX4_readNumber (mqS Q) (48, [some (.ref 3), some (.int v1), none], [], (W0, Sh0, MI, ML))
theorem BX4_readNumber_0 {D : Nat} {Q : Option Value → mI → mJ → Prop}  {MI : mI} {ML : mJ} 
    (h : VX4_readNumber_4 D Q (nI 0) (nI 0) MI ML) :
    VX4_readNumber_0 D Q  MI ML := by
  show mEx D TX4_readNumber (mqS Q) (0, [some (.ref 3), none, none], [], (W0, Sh0, MI, ML))
  refine x_st rfl ?_
  refine x_st rfl ?_
  refine x_st rfl ?_
  refine x_st rfl ?_
  refine x_kl ?_ h
  exact ⟨Or.inr rfl, ⟨Or.inr rfl, ⟨Or.inr rfl, True.intro⟩⟩⟩
theorem BX4_readNumber_4 {D : Nat} {Q : Option Value → mI → mJ → Prop}  {v1 : Int32} {v2 : Int32} {MI : mI} {ML : mJ} 
    (h : ((nI 4) ≤ v2 → VX4_readNumber_48 D Q v1 MI ML) ∧ (¬ (nI 4) ≤ v2 → ∃ (x3 : Int32) (M1 : mI) (N2 : mJ), mrc D 66 [.ref 3] MI ML (some (.int x3)) M1 N2 ∧ (∃ (x6 : Int32) (M4 : mI) (N5 : mJ), mrc D 65 [.int x3] M1 N2 (some (.int x6)) M4 N5 ∧ ((x6 = nI 0 → VX4_readNumber_48 D Q v1 M4 N5) ∧ (¬ x6 = nI 0 → ∃ (x9 : Int32) (M7 : mI) (N8 : mJ), mrc D 66 [.ref 3] M4 N5 (some (.int x9)) M7 N8 ∧ (VX4_readNumber_4 D Q (((v1 * (nI 10)) + x9) - (nI 48)) (v2 + (nI 1)) (mup M7 3 (mput (M7 3) 4 ((M7 3 4) + (nI 1)))) N8)))))) :
    VX4_readNumber_4 D Q v1 v2 MI ML := by
  show mEx D TX4_readNumber (mqS Q) (4, [some (.ref 3), some (.int v1), some (.int v2)], [], (W0, Sh0, MI, ML))
  refine x_st rfl ?_
  refine x_st rfl ?_
  refine x_br rfl (fun c => ?_) (fun c => ?_)
  · replace h := h.1 c
    refine x_kl ?_ h
    exact ⟨Or.inr rfl, ⟨Or.inr rfl, ⟨Or.inl rfl, True.intro⟩⟩⟩
  · replace h := h.2 c
    refine x_st rfl ?_
    obtain ⟨x3, M1, N2, hc, h⟩ := h
    refine x_vi (y := 66) (n := 0) (ci := 4) (nx := 13) rfl (fun _ => rfl) sh_3 rfl hc ?_
    obtain ⟨x6, M4, N5, hc, h⟩ := h
    refine x_ci rfl hc ?_
    refine x_br rfl (fun c => ?_) (fun c => ?_)
    · replace h := h.1 c
      refine x_kl ?_ h
      exact ⟨Or.inr rfl, ⟨Or.inr rfl, ⟨Or.inl rfl, True.intro⟩⟩⟩
    · replace h := h.2 c
      refine x_st rfl ?_
      refine x_st rfl ?_
      refine x_st rfl ?_
      refine x_st rfl ?_
      obtain ⟨x9, M7, N8, hc, h⟩ := h
      refine x_vi (y := 66) (n := 0) (ci := 4) (nx := 27) rfl (fun _ => rfl) sh_3 rfl hc ?_
      refine x_st rfl ?_
      refine x_st rfl ?_
      refine x_st rfl ?_
      refine x_st rfl ?_
      refine x_st rfl ?_
      refine x_st rfl ?_
      refine x_gi (ci := 4) (k := 4) (nx := 37) rfl sh_3 rfl ?_
      refine x_st rfl ?_
      refine x_st rfl ?_
      refine x_pi (ci := 4) (k := 4) (nx := 42) rfl sh_3 rfl ?_
      refine x_st rfl ?_
      refine x_st rfl ?_
      refine x_kl ?_ h
      exact ⟨Or.inr rfl, ⟨Or.inr rfl, ⟨Or.inr rfl, True.intro⟩⟩⟩
theorem BX4_readNumber_48 {D : Nat} {Q : Option Value → mI → mJ → Prop}  {v1 : Int32} {MI : mI} {ML : mJ} 
    (h : ∃ (M1 : mI) (N2 : mJ), mrc D 67 [.ref 3, .int v1] MI ML none M1 N2 ∧ (Q none M1 N2)) :
    VX4_readNumber_48 D Q v1 MI ML := by
  show mEx D TX4_readNumber (mqS Q) (48, [some (.ref 3), some (.int v1), none], [], (W0, Sh0, MI, ML))
  refine x_st rfl ?_
  refine x_st rfl ?_
  obtain ⟨M1, N2, hc, h⟩ := h
  refine x_vv (y := 67) (n := 1) (ci := 4) (nx := 53) rfl (fun _ => rfl) sh_3 rfl hc ?_
  refine x_ret rfl ?_
  exact ⟨_, _, rfl, h⟩
theorem EX4_readNumber {D : Nat} {Q : Option Value → mI → mJ → Prop}  {MI : mI} {ML : mJ} (h : VX4_readNumber_0 D Q  MI ML) : ∃ v MI' ML', Q v MI' ML' ∧ mrc (D + 1) 61 [.ref 3] MI ML v MI' ML' := by
  refine x_en (n := 2) (T := TX4_readNumber) rfl rfl ?_
  refine x_kl ?_ h
  exact ⟨Or.inr rfl, ⟨Or.inl rfl, ⟨Or.inl rfl, True.intro⟩⟩⟩
def VX4_readWord_0 (D : Nat) (Q : Option Value → mI → mJ → Prop)  (MI : mI) (ML : mJ) : Prop := mEx D TX4_readWord (mqS Q) (0, [some (.ref 3), none, none], [], (W0, Sh0, MI, ML))
def VX4_readWord_5 (D : Nat) (Q : Option Value → mI → mJ → Prop)  (v1 : Int32) (MI : mI) (ML : mJ) : Prop := mEx D TX4_readWord (mqS Q) (5, [some (.ref 3), some (.int v1), none], [], (W0, Sh0, MI, ML))
def VX4_readWord_50 (D : Nat) (Q : Option Value → mI → mJ → Prop)  (v1 : Int32) (v2 : Int32) (MI : mI) (ML : mJ) : Prop := mEx D TX4_readWord (mqS Q) (50, [some (.ref 3), some (.int v1), some (.int v2)], [], (W0, Sh0, MI, ML))
theorem BX4_readWord_0 {D : Nat} {Q : Option Value → mI → mJ → Prop}  {MI : mI} {ML : mJ} 
    (h : VX4_readWord_5 D Q (MI 3 4) MI ML) :
    VX4_readWord_0 D Q  MI ML := by
  show mEx D TX4_readWord (mqS Q) (0, [some (.ref 3), none, none], [], (W0, Sh0, MI, ML))
  refine x_st rfl ?_
  refine x_gi (ci := 4) (k := 4) (nx := 4) rfl sh_3 rfl ?_
  refine x_st rfl ?_
  refine x_kl ?_ h
  exact ⟨Or.inr rfl, ⟨Or.inr rfl, ⟨Or.inl rfl, True.intro⟩⟩⟩
theorem BX4_readWord_5 {D : Nat} {Q : Option Value → mI → mJ → Prop}  {v1 : Int32} {MI : mI} {ML : mJ} 
    (h : ((MI 3 3) ≤ v1 → VX4_readWord_50 D Q v1 (nI 0) MI ML) ∧ (¬ (MI 3 3) ≤ v1 → ((nI 160) ≤ v1 → VX4_readWord_50 D Q v1 (nI 0) MI ML) ∧ (¬ (nI 160) ≤ v1 → ∃ i1 : Nat, v1 = nI i1 ∧ i1 < 160 ∧ (((MI 5 i1) < (nI 97) → VX4_readWord_50 D Q v1 (nI 0) MI ML) ∧ (¬ (MI 5 i1) < (nI 97) → ∃ i2 : Nat, v1 = nI i2 ∧ i2 < 160 ∧ (((nI 122) < (MI 5 i2) → VX4_readWord_50 D Q v1 (nI 0) MI ML) ∧ (¬ (nI 122) < (MI 5 i2) → VX4_readWord_5 D Q (v1 + (nI 1)) MI ML))))))) :
    VX4_readWord_5 D Q v1 MI ML := by
  show mEx D TX4_readWord (mqS Q) (5, [some (.ref 3), some (.int v1), none], [], (W0, Sh0, MI, ML))
  refine x_st rfl ?_
  refine x_st rfl ?_
  refine x_gi (ci := 4) (k := 3) (nx := 10) rfl sh_3 rfl ?_
  refine x_br rfl (fun c => ?_) (fun c => ?_)
  · replace h := h.1 c
    refine x_st rfl ?_
    refine x_st rfl ?_
    refine x_kl ?_ h
    exact ⟨Or.inr rfl, ⟨Or.inr rfl, ⟨Or.inr rfl, True.intro⟩⟩⟩
  · replace h := h.2 c
    refine x_st rfl ?_
    refine x_st rfl ?_
    refine x_br rfl (fun c => ?_) (fun c => ?_)
    · replace h := h.1 c
      refine x_st rfl ?_
      refine x_st rfl ?_
      refine x_kl ?_ h
      exact ⟨Or.inr rfl, ⟨Or.inr rfl, ⟨Or.inr rfl, True.intro⟩⟩⟩
    · replace h := h.2 c
      refine x_st rfl ?_
      refine x_gr (ci := 4) (k := 2) (nx := 24) rfl sh_3 rfl ?_
      refine x_st rfl ?_
      obtain ⟨i1, hx, hi, h⟩ := h
      refine x_ia (i := i1) (nx := 26) rfl sh_5 hx hi (by decide) ?_
      refine x_st rfl ?_
      refine x_br rfl (fun c => ?_) (fun c => ?_)
      · replace h := h.1 c
        refine x_st rfl ?_
        refine x_st rfl ?_
        refine x_kl ?_ h
        exact ⟨Or.inr rfl, ⟨Or.inr rfl, ⟨Or.inr rfl, True.intro⟩⟩⟩
      · replace h := h.2 c
        refine x_st rfl ?_
        refine x_gr (ci := 4) (k := 2) (nx := 35) rfl sh_3 rfl ?_
        refine x_st rfl ?_
        obtain ⟨i2, hx, hi, h⟩ := h
        refine x_ia (i := i2) (nx := 37) rfl sh_5 hx hi (by decide) ?_
        refine x_st rfl ?_
        refine x_br rfl (fun c => ?_) (fun c => ?_)
        · replace h := h.1 c
          refine x_st rfl ?_
          refine x_st rfl ?_
          refine x_kl ?_ h
          exact ⟨Or.inr rfl, ⟨Or.inr rfl, ⟨Or.inr rfl, True.intro⟩⟩⟩
        · replace h := h.2 c
          refine x_st rfl ?_
          refine x_st rfl ?_
          refine x_kl ?_ h
          exact ⟨Or.inr rfl, ⟨Or.inr rfl, ⟨Or.inl rfl, True.intro⟩⟩⟩
theorem BX4_readWord_50 {D : Nat} {Q : Option Value → mI → mJ → Prop}  {v1 : Int32} {v2 : Int32} {MI : mI} {ML : mJ} 
    (h : ((nI 6) ≤ v2 → Q (some (.int (nI 0))) MI ML) ∧ (¬ (nI 6) ≤ v2 → ∃ (x3 : UInt32) (M1 : mI) (N2 : mJ), mrc D 64 [.int v2] MI ML (some (.float x3)) M1 N2 ∧ (∃ (x6 : Int32) (M4 : mI) (N5 : mJ), mrc D 63 [.ref 3, .float x3, .int v1] M1 N2 (some (.int x6)) M4 N5 ∧ ((x6 = nI 0 → VX4_readWord_50 D Q v1 (v2 + (nI 1)) M4 N5) ∧ (¬ x6 = nI 0 → ∃ (M7 : mI) (N8 : mJ), mrc D 67 [.ref 3, .int ((-1 : Int32) - v2)] (mup M4 3 (mput (M4 3) 4 v1)) N5 none M7 N8 ∧ (Q (some (.int (nI 1))) M7 N8)))))) :
    VX4_readWord_50 D Q v1 v2 MI ML := by
  show mEx D TX4_readWord (mqS Q) (50, [some (.ref 3), some (.int v1), some (.int v2)], [], (W0, Sh0, MI, ML))
  refine x_st rfl ?_
  refine x_st rfl ?_
  refine x_br rfl (fun c => ?_) (fun c => ?_)
  · replace h := h.1 c
    refine x_st rfl ?_
    refine x_ret rfl ?_
    exact ⟨_, _, rfl, h⟩
  · replace h := h.2 c
    refine x_st rfl ?_
    refine x_st rfl ?_
    obtain ⟨x3, M1, N2, hc, h⟩ := h
    refine x_ci rfl hc ?_
    refine x_st rfl ?_
    obtain ⟨x6, M4, N5, hc, h⟩ := h
    refine x_vi (y := 63) (n := 2) (ci := 4) (nx := 65) rfl (fun _ => rfl) sh_3 rfl hc ?_
    refine x_br rfl (fun c => ?_) (fun c => ?_)
    · replace h := h.1 c
      refine x_st rfl ?_
      refine x_st rfl ?_
      refine x_kl ?_ h
      exact ⟨Or.inr rfl, ⟨Or.inr rfl, ⟨Or.inr rfl, True.intro⟩⟩⟩
    · replace h := h.2 c
      refine x_st rfl ?_
      refine x_st rfl ?_
      refine x_pi (ci := 4) (k := 4) (nx := 73) rfl sh_3 rfl ?_
      refine x_st rfl ?_
      refine x_st rfl ?_
      refine x_st rfl ?_
      refine x_st rfl ?_
      obtain ⟨M7, N8, hc, h⟩ := h
      refine x_vv (y := 67) (n := 1) (ci := 4) (nx := 80) rfl (fun _ => rfl) sh_3 rfl hc ?_
      refine x_st rfl ?_
      refine x_ret rfl ?_
      exact ⟨_, _, rfl, h⟩
theorem EX4_readWord {D : Nat} {Q : Option Value → mI → mJ → Prop}  {MI : mI} {ML : mJ} (h : VX4_readWord_0 D Q  MI ML) : ∃ v MI' ML', Q v MI' ML' ∧ mrc (D + 1) 62 [.ref 3] MI ML v MI' ML' := by
  refine x_en (n := 2) (T := TX4_readWord) rfl rfl ?_
  refine x_kl ?_ h
  exact ⟨Or.inr rfl, ⟨Or.inl rfl, ⟨Or.inl rfl, True.intro⟩⟩⟩
