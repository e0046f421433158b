/-! what holds between two calls -/
def lob (p : Nat) : Int := if p < 20 then 0 else if (p - 20) / 8 = (p - 20) % 8 then 0 else -9
def hib (p : Nat) : Int := if p < 8 then 99 else if p < 16 then 9 else if p = 16 then 3 else if p = 17 then 9 else if p = 18 then 20 else if p = 19 then 99 else if (p - 20) / 8 = (p - 20) % 8 then 0 else 9
def okv (p : Nat) (v : Int32) : Prop := lob p ≤ v.toInt ∧ v.toInt ≤ hib p
def Z84 (f : Nat → Int32) : Prop := ∀ p, 84 ≤ p → f p = 0
def PB (f : Nat → Int32) : Prop := (∀ p, p < 84 → okv p (f p)) ∧ Z84 f
def Ipn (n : Nat) (MI : mI) : Prop := n ≤ 8 ∧ MI 1 0 = nI n ∧ MI 46 6 = nI n ∧ MI 47 = MI 2 ∧ PB (MI 2) ∧ Z84 (MI 17) ∧ Z84 (MI 37) ∧ Z84 (MI 61) ∧ Z84 (MI 72)
def Ip (MI : mI) : Prop := ∃ n, Ipn n MI
def chE (MI : mI) (j : Nat) : Prop := (∃ p, p < 84 ∧ MI 40 j = nI p ∧ MI 48 j = nI p ∧ okv p (MI 41 j) ∧ okv p (MI 42 j)) ∧ MI 49 j = MI 41 j ∧ MI 50 j = MI 42 j
def Icd (d m : Nat) (MI : mI) : Prop := d ≤ m ∧ m ≤ 40 ∧ MI 39 3 = nI d ∧ MI 46 5 = nI d ∧ MI 39 4 = nI m ∧ MI 46 4 = nI m ∧ ∀ j, j < m → (∃ p, p < 84 ∧ MI 40 j = nI p ∧ MI 48 j = nI p ∧ okv p (MI 41 j) ∧ okv p (MI 42 j)) ∧ MI 49 j = MI 41 j ∧ MI 50 j = MI 42 j
def Ic (MI : mI) : Prop := ∃ d m, Icd d m MI
def Itt (t : Nat) (MI : mI) : Prop := t ≤ 160 ∧ MI 3 3 = nI t ∧ MI 46 8 = nI t ∧ ∀ j, j < t → MI 51 j = MI 5 j ∧ ∃ c, c < 256 ∧ MI 5 j = nI c
def It (MI : mI) : Prop := ∃ t, Itt t MI
def Inb (nb : Nat) (MI : mI) : Prop := nb ≤ 50 ∧ MI 43 1 = nI nb ∧ MI 46 41 = nI nb ∧ ∀ j, j < nb → ∃ k, k < 8 ∧ MI 44 j = nI k ∧ MI 74 j = nI k
def Isd (nb d : Nat) (MI : mI) (ML : mJ) : Prop :=
  (MI 11 d = nI 6 ∧ MI 76 d = -1 ∧ MI 12 d = nI 0 ∧ MI 77 d = nI 0) ∨
  (∃ b, b < nb ∧ MI 11 d = nI 5 ∧ MI 13 d = nI b ∧ MI 76 d = nI b ∧ MI 12 d = nI 0 ∧ MI 77 d = nI 0) ∨
  (∃ s z, s < 5 ∧ z ≤ 60 ∧ MI 11 d = nI s ∧ MI 76 d = nI (50 + s) ∧ MI 12 d = nI z ∧ MI 77 d = nI z ∧ ∀ i, i < z → ML 78 (d * 60 + i) = ML 14 (d * 60 + i) ∧ (s = 0 → -128 ≤ (ML 14 (d * 60 + i)).toInt ∧ (ML 14 (d * 60 + i)).toInt ≤ 127))
def Is (MI : mI) (ML : mJ) : Prop := ∃ nb, Inb nb MI ∧ ∀ d, d < 6 → Isd nb d MI ML
def Ir (MI : mI) : Prop := MI 46 30 = nI 0 ∧ ∃ r, r < 100000 ∧ MI 43 3 = nI r ∧ MI 46 44 = nI r ∧ ∀ j, j < 24 → j < r → MI 75 j = MI 45 j
def Ib (MI : mI) : Prop := (∀ j, j < 6 → MI 70 j = MI 34 j) ∧ ∃ tl, tl ≤ 72 ∧ MI 33 2 = nI tl ∧ MI 46 37 = nI tl ∧ ∀ j, j < tl → MI 71 j = MI 35 j
def Ii (MI : mI) : Prop := (MI 33 5 = nI 0 ∧ MI 46 40 = -1) ∨ (MI 33 5 = nI 1 ∧ ∃ m, m ≤ 8 ∧ MI 36 0 = nI m ∧ MI 46 40 = nI m ∧ MI 72 = MI 37 ∧ PB (MI 37) ∧ ∀ j, j < 6 → MI 73 j = MI 38 j)
/-- the words' numbers -/
def Iw (ML : mJ) : Prop := ML 60 0 = 263813 ∧ ML 60 1 = 409285 ∧ ML 60 2 = 290921650 ∧ ML 60 3 = 755156 ∧ ML 60 4 = 4153 ∧ ML 60 5 = 146885
def Inv (MI : mI) (ML : mJ) : Prop := Ip MI ∧ Ic MI ∧ It MI ∧ Il MI ∧ Is MI ML ∧ Ir MI ∧ Ib MI ∧ Ii MI ∧ Iw ML
theorem PB.ok {f : Nat → Int32} (h : PB f) {p : Nat} (hp : p < 84) : okv p (f p) := h.1 p hp
theorem PB.put {f : Nat → Int32} (h : PB f) {p : Nat} (hp : p < 84) {v : Int32} (hv : okv p v) : PB (mput f p v) := by
  refine ⟨fun q hq => ?_, fun q hq => ?_⟩
  · unfold mput
    split
    · next e => subst e; exact hv
    · exact h.1 q hq
  · rw [mput_n (by omega)]
    exact h.2 q hq
theorem okv_0 : ∀ p, p < 84 → okv p (nI 0) := by
  intro p hp
  unfold okv lob hib
  rw [nI_toInt (by decide)]
  grind
theorem Ip_c {MI MI' : mI} (h0 : MI' 1 0 = MI 1 0) (h1 : MI' 2 = MI 2) (h2 : MI' 46 6 = MI 46 6) (h3 : MI' 47 = MI 47) (h4 : MI' 17 = MI 17) (h5 : MI' 37 = MI 37) (h6 : MI' 61 = MI 61) (h7 : MI' 72 = MI 72)  (h : Ip MI) : Ip MI' := by
  simp only [Ip, Ipn, PB, h0, h1, h2, h3, h4, h5, h6, h7] at h ⊢
  first | exact h | simpa only [Ip, Ipn, PB, h0, h1, h2, h3, h4, h5, h6, h7] using h
theorem Ic_c {MI MI' : mI} (h0 : MI' 39 3 = MI 39 3) (h1 : MI' 39 4 = MI 39 4) (h2 : MI' 40 = MI 40) (h3 : MI' 41 = MI 41) (h4 : MI' 42 = MI 42) (h5 : MI' 46 4 = MI 46 4) (h6 : MI' 46 5 = MI 46 5) (h7 : MI' 48 = MI 48) (h8 : MI' 49 = MI 49) (h9 : MI' 50 = MI 50)  (h : Ic MI) : Ic MI' := by
  simp only [Ic, Icd, h0, h1, h2, h3, h4, h5, h6, h7, h8, h9] at h ⊢
  first | exact h | simpa only [Ic, Icd, h0, h1, h2, h3, h4, h5, h6, h7, h8, h9] using h
theorem It_c {MI MI' : mI} (h0 : MI' 3 3 = MI 3 3) (h1 : MI' 5 = MI 5) (h2 : MI' 46 8 = MI 46 8) (h3 : MI' 51 = MI 51)  (h : It MI) : It MI' := by
  simp only [It, Itt, h0, h1, h2, h3] at h ⊢
  first | exact h | simpa only [It, Itt, h0, h1, h2, h3] using h
theorem Il_c {MI MI' : mI} (h0 : MI' 6 1 = MI 6 1) (h1 : MI' 7 = MI 7) (h2 : MI' 46 17 = MI 46 17) (h3 : MI' 53 = MI 53) (h4 : MI' 56 = MI 56) (h5 : MI' 57 = MI 57)  (h : Il MI) : Il MI' := by
  simp only [Il, h0, h1, h2, h3, h4, h5] at h ⊢
  first | exact h | simpa only [h0, h1, h2, h3, h4, h5] using h
theorem Is_c {MI MI' : mI} {ML ML' : mJ} (h0 : MI' 11 = MI 11) (h1 : MI' 12 = MI 12) (h2 : MI' 13 = MI 13) (h3 : MI' 43 1 = MI 43 1) (h4 : MI' 44 = MI 44) (h5 : MI' 46 41 = MI 46 41) (h6 : MI' 74 = MI 74) (h7 : MI' 76 = MI 76) (h8 : MI' 77 = MI 77) (l0 : ML' 14 = ML 14) (l1 : ML' 78 = ML 78) (h : Is MI ML) : Is MI' ML' := by
  simp only [Is, Inb, Isd, h0, h1, h2, h3, h4, h5, h6, h7, h8, l0, l1] at h ⊢
  first | exact h | simpa only [Is, Inb, Isd, h0, h1, h2, h3, h4, h5, h6, h7, h8, l0, l1] using h
theorem Ir_c {MI MI' : mI} (h0 : MI' 43 3 = MI 43 3) (h1 : MI' 45 = MI 45) (h2 : MI' 46 44 = MI 46 44) (h3 : MI' 75 = MI 75) (h4 : MI' 46 30 = MI 46 30) (h : Ir MI) : Ir MI' := by
  simp only [Ir, h0, h1, h2, h3, h4] at h ⊢
  first | exact h | simpa only [h0, h1, h2, h3, h4] using h
theorem Ib_c {MI MI' : mI} (h0 : MI' 34 = MI 34) (h1 : MI' 70 = MI 70) (h2 : MI' 33 2 = MI 33 2) (h3 : MI' 35 = MI 35) (h4 : MI' 46 37 = MI 46 37) (h5 : MI' 71 = MI 71)  (h : Ib MI) : Ib MI' := by
  simp only [Ib, h0, h1, h2, h3, h4, h5] at h ⊢
  first | exact h | simpa only [h0, h1, h2, h3, h4, h5] using h
theorem Ii_c {MI MI' : mI} (h0 : MI' 33 5 = MI 33 5) (h1 : MI' 36 0 = MI 36 0) (h2 : MI' 37 = MI 37) (h3 : MI' 38 = MI 38) (h4 : MI' 46 40 = MI 46 40) (h5 : MI' 72 = MI 72) (h6 : MI' 73 = MI 73)  (h : Ii MI) : Ii MI' := by
  simp only [Ii, PB, h0, h1, h2, h3, h4, h5, h6] at h ⊢
  first | exact h | simpa only [Ii, PB, h0, h1, h2, h3, h4, h5, h6] using h
theorem Iw_c {ML ML' : mJ}  (l0 : ML' 60 = ML 60) (h : Iw ML) : Iw ML' := by
  simp only [Iw, l0] at h ⊢
  first | exact h | simpa only [l0] using h
