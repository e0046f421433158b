/-! the world after the constructors -/
def Sh0 : List mT := [(0, 10, [some (some 1), some (some 3), some (some 6), some (some 15), some (some 24), some (some 28), some (some 33), some (some 39), some (some 43), some (some 10)]),
  (0, 0, [none, some (some 2)]),
  (1, 84, []),
  (0, 4, [some (some 4), none, some (some 5), none, none]),
  (1, 161, []),
  (1, 160, []),
  (0, 3, [some (some 7), none, some (some 8), some (some 9)]),
  (1, 161, []),
  (1, 6, []),
  (1, 40, []),
  (0, 8, [some (some 11), some (some 12), some (some 13), some (some 14)]),
  (1, 6, []),
  (1, 6, []),
  (1, 6, []),
  (2, 360, []),
  (0, 9, [some (some 16), none, none, none, none, none, none, some (some 1), some (some 6), some (some 10), some (some 18), some (some 23)]),
  (0, 0, [none, some (some 17)]),
  (1, 84, []),
  (0, 7, [none, some (some 19), some (some 20), some (some 21), some (some 22), none, none]),
  (1, 8, []),
  (1, 8, []),
  (1, 8, []),
  (1, 8, []),
  (1, 19, []),
  (0, 6, [some (some 1), some (some 25), some (some 26), some (some 27)]),
  (1, 72, []),
  (1, 2304, []),
  (1, 8, []),
  (0, 7, [none, some (some 29), some (some 30), some (some 31), some (some 32), none, none]),
  (1, 8, []),
  (1, 8, []),
  (1, 8, []),
  (1, 8, []),
  (0, 1, [some (some 34), some (some 35), none, some (some 36), some (some 38), none]),
  (1, 6, []),
  (1, 72, []),
  (0, 0, [none, some (some 37)]),
  (1, 84, []),
  (1, 6, []),
  (0, 2, [some (some 40), some (some 41), some (some 42), none, none]),
  (1, 40, []),
  (1, 40, []),
  (1, 40, []),
  (0, 5, [some (some 44), none, some (some 45), none]),
  (1, 50, []),
  (1, 24, [])]
abbrev W0 : Nat := 3977
theorem sh_0 : Sh0[0]? = some (0, 10, [some (some 1), some (some 3), some (some 6), some (some 15), some (some 24), some (some 28), some (some 33), some (some 39), some (some 43), some (some 10)]) := rfl
theorem sh_1 : Sh0[1]? = some (0, 0, [none, some (some 2)]) := rfl
theorem sh_2 : Sh0[2]? = some (1, 84, []) := rfl
theorem sh_3 : Sh0[3]? = some (0, 4, [some (some 4), none, some (some 5), none, none]) := rfl
theorem sh_4 : Sh0[4]? = some (1, 161, []) := rfl
theorem sh_5 : Sh0[5]? = some (1, 160, []) := rfl
theorem sh_6 : Sh0[6]? = some (0, 3, [some (some 7), none, some (some 8), some (some 9)]) := rfl
theorem sh_7 : Sh0[7]? = some (1, 161, []) := rfl
theorem sh_8 : Sh0[8]? = some (1, 6, []) := rfl
theorem sh_9 : Sh0[9]? = some (1, 40, []) := rfl
theorem sh_10 : Sh0[10]? = some (0, 8, [some (some 11), some (some 12), some (some 13), some (some 14)]) := rfl
theorem sh_11 : Sh0[11]? = some (1, 6, []) := rfl
theorem sh_12 : Sh0[12]? = some (1, 6, []) := rfl
theorem sh_13 : Sh0[13]? = some (1, 6, []) := rfl
theorem sh_14 : Sh0[14]? = some (2, 360, []) := rfl
theorem sh_15 : Sh0[15]? = some (0, 9, [some (some 16), none, none, none, none, none, none, some (some 1), some (some 6), some (some 10), some (some 18), some (some 23)]) := rfl
theorem sh_16 : Sh0[16]? = some (0, 0, [none, some (some 17)]) := rfl
theorem sh_17 : Sh0[17]? = some (1, 84, []) := rfl
theorem sh_18 : Sh0[18]? = some (0, 7, [none, some (some 19), some (some 20), some (some 21), some (some 22), none, none]) := rfl
theorem sh_19 : Sh0[19]? = some (1, 8, []) := rfl
theorem sh_20 : Sh0[20]? = some (1, 8, []) := rfl
theorem sh_21 : Sh0[21]? = some (1, 8, []) := rfl
theorem sh_22 : Sh0[22]? = some (1, 8, []) := rfl
theorem sh_23 : Sh0[23]? = some (1, 19, []) := rfl
theorem sh_24 : Sh0[24]? = some (0, 6, [some (some 1), some (some 25), some (some 26), some (some 27)]) := rfl
theorem sh_25 : Sh0[25]? = some (1, 72, []) := rfl
theorem sh_26 : Sh0[26]? = some (1, 2304, []) := rfl
theorem sh_27 : Sh0[27]? = some (1, 8, []) := rfl
theorem sh_28 : Sh0[28]? = some (0, 7, [none, some (some 29), some (some 30), some (some 31), some (some 32), none, none]) := rfl
theorem sh_29 : Sh0[29]? = some (1, 8, []) := rfl
theorem sh_30 : Sh0[30]? = some (1, 8, []) := rfl
theorem sh_31 : Sh0[31]? = some (1, 8, []) := rfl
theorem sh_32 : Sh0[32]? = some (1, 8, []) := rfl
theorem sh_33 : Sh0[33]? = some (0, 1, [some (some 34), some (some 35), none, some (some 36), some (some 38), none]) := rfl
theorem sh_34 : Sh0[34]? = some (1, 6, []) := rfl
theorem sh_35 : Sh0[35]? = some (1, 72, []) := rfl
theorem sh_36 : Sh0[36]? = some (0, 0, [none, some (some 37)]) := rfl
theorem sh_37 : Sh0[37]? = some (1, 84, []) := rfl
theorem sh_38 : Sh0[38]? = some (1, 6, []) := rfl
theorem sh_39 : Sh0[39]? = some (0, 2, [some (some 40), some (some 41), some (some 42), none, none]) := rfl
theorem sh_40 : Sh0[40]? = some (1, 40, []) := rfl
theorem sh_41 : Sh0[41]? = some (1, 40, []) := rfl
theorem sh_42 : Sh0[42]? = some (1, 40, []) := rfl
theorem sh_43 : Sh0[43]? = some (0, 5, [some (some 44), none, some (some 45), none]) := rfl
theorem sh_44 : Sh0[44]? = some (1, 50, []) := rfl
theorem sh_45 : Sh0[45]? = some (1, 24, []) := rfl
abbrev mI : Type := Nat → Nat → Int32
abbrev mJ : Type := Nat → Nat → Int64
/-- the bazaars; the rounds -/
def bz (k a : Nat) : Prop := (k = 1 ∧ a = 2) ∨ (k = 16 ∧ a = 17) ∨ (k = 36 ∧ a = 37)
def rd (r r1 r2 r3 r4 : Nat) : Prop := (r = 18 ∧ r1 = 19 ∧ r2 = 20 ∧ r3 = 21 ∧ r4 = 22) ∨ (r = 28 ∧ r1 = 29 ∧ r2 = 30 ∧ r3 = 31 ∧ r4 = 32)
theorem bz1 : bz 1 2 := Or.inl ⟨rfl, rfl⟩
theorem bz16 : bz 16 17 := Or.inr (Or.inl ⟨rfl, rfl⟩)
theorem bz36 : bz 36 37 := Or.inr (Or.inr ⟨rfl, rfl⟩)
theorem rd18 : rd 18 19 20 21 22 := Or.inl ⟨rfl, rfl, rfl, rfl, rfl⟩
theorem rd28 : rd 28 29 30 31 32 := Or.inr ⟨rfl, rfl, rfl, rfl, rfl⟩
theorem bz_o {k a : Nat} (h : bz k a) : Sh0[k]? = some (0, 0, [none, some (some a)]) := by
  rcases h with ⟨rfl, rfl⟩ | ⟨rfl, rfl⟩ | ⟨rfl, rfl⟩ <;> rfl
theorem bz_a {k a : Nat} (h : bz k a) : Sh0[a]? = some (1, 84, []) := by
  rcases h with ⟨rfl, rfl⟩ | ⟨rfl, rfl⟩ | ⟨rfl, rfl⟩ <;> rfl
theorem bz_n {k a : Nat} (h : bz k a) : k ≠ a ∧ a ≠ k := by
  rcases h with ⟨rfl, rfl⟩ | ⟨rfl, rfl⟩ | ⟨rfl, rfl⟩ <;> decide
theorem rd_o {r r1 r2 r3 r4 : Nat} (h : rd r r1 r2 r3 r4) : Sh0[r]? = some (0, 7, [none, some (some r1), some (some r2), some (some r3), some (some r4), none, none]) := by
  rcases h with ⟨rfl, rfl, rfl, rfl, rfl⟩ | ⟨rfl, rfl, rfl, rfl, rfl⟩ <;> rfl
theorem rd_1 {r r1 r2 r3 r4 : Nat} (h : rd r r1 r2 r3 r4) : Sh0[r1]? = some (1, 8, []) := by
  rcases h with ⟨rfl, rfl, rfl, rfl, rfl⟩ | ⟨rfl, rfl, rfl, rfl, rfl⟩ <;> rfl
theorem rd_2 {r r1 r2 r3 r4 : Nat} (h : rd r r1 r2 r3 r4) : Sh0[r2]? = some (1, 8, []) := by
  rcases h with ⟨rfl, rfl, rfl, rfl, rfl⟩ | ⟨rfl, rfl, rfl, rfl, rfl⟩ <;> rfl
theorem rd_3 {r r1 r2 r3 r4 : Nat} (h : rd r r1 r2 r3 r4) : Sh0[r3]? = some (1, 8, []) := by
  rcases h with ⟨rfl, rfl, rfl, rfl, rfl⟩ | ⟨rfl, rfl, rfl, rfl, rfl⟩ <;> rfl
theorem rd_4 {r r1 r2 r3 r4 : Nat} (h : rd r r1 r2 r3 r4) : Sh0[r4]? = some (1, 8, []) := by
  rcases h with ⟨rfl, rfl, rfl, rfl, rfl⟩ | ⟨rfl, rfl, rfl, rfl, rfl⟩ <;> rfl
def mrc (D y : Nat) (as : List Value) (MI : mI) (ML : mJ) (v : Option Value) (MI' : mI) (ML' : mJ) : Prop := mrn D y as (W0, Sh0, MI, ML) v (W0, Sh0, MI', ML')
def mqS (Q : Option Value → mI → mJ → Prop) : Option Value → mS → Prop := fun v S => ∃ MI ML, S = (W0, Sh0, MI, ML) ∧ Q v MI ML
theorem x_en {D y n : Nat} {as : List Value} {MI : mI} {ML : mJ} {T : Nat → mO} {Q : Option Value → mI → mJ → Prop} (hT : mTb y = T) (hl : (men as n).length = (mM y).2.2.1) (k : mEx (mrn D) T (mqS Q) (0, men as n, [], (W0, Sh0, MI, ML))) : ∃ v MI' ML', Q v MI' ML' ∧ mrc (D + 1) y as MI ML v MI' ML' := by
  subst hT
  obtain ⟨N, hN⟩ := k
  obtain ⟨v, S', ⟨MI', ML', rfl, hq⟩, h2⟩ := mex_det hN
  exact ⟨v, MI', ML', hq, Nat.le_refl _, Nat.le_refl _, N, n, hl, h2⟩
def eR (v : Option Value) (M : mI) (L : mJ) : Option Value → mI → mJ → Prop := fun v2 M2 L2 => v2 = v ∧ M2 = M ∧ L2 = L
theorem eRr {v : Option Value} {M : mI} {L : mJ} : eR v M L v M L := ⟨rfl, rfl, rfl⟩
theorem mrc_of {D y : Nat} {as : List Value} {MI MI' : mI} {ML ML' : mJ} {v : Option Value} (h : ∃ v2 MI2 ML2, eR v MI' ML' v2 MI2 ML2 ∧ mrc D y as MI ML v2 MI2 ML2) : mrc D y as MI ML v MI' ML' := by
  obtain ⟨_, _, _, ⟨rfl, rfl, rfl⟩, h⟩ := h
  exact h
theorem mup_s {α : Type} {M : Nat → Nat → α} {a : Nat} {r : Nat → α} : mup M a r a = r := if_pos rfl
theorem mup_n {α : Type} {M : Nat → Nat → α} {a b : Nat} {r : Nat → α} (h : b ≠ a) : mup M a r b = M b := if_neg h
theorem mput_s {α : Type} {f : Nat → α} {k : Nat} {x : α} : mput f k x k = x := if_pos rfl
theorem mput_n {α : Type} {f : Nat → α} {k j : Nat} {x : α} (h : j ≠ k) : mput f k x j = f j := if_neg h
theorem mup_id {α : Type} {M : Nat → Nat → α} {a : Nat} : mup M a (M a) = M := by
  funext b
  unfold mup
  split
  · next h => rw [h]
  · rfl
theorem mput_id {α : Type} {f : Nat → α} {k : Nat} : mput f k (f k) = f := by
  funext j
  unfold mput
  split
  · next h => rw [h]
  · rfl
theorem mup_mup {α : Type} {M : Nat → Nat → α} {a : Nat} {r r' : Nat → α} : mup (mup M a r) a r' = mup M a r' := by
  funext b
  unfold mup
  split <;> rfl
