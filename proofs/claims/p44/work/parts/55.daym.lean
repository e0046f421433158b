/-! a day: the model; the tale's bytes -/
def tl1 (q : dR) : List Int32 := [nI 48 + nI q.1, nI 60, nI 48 + nI q.2.1, nI 124, nI 48 + nI q.2.2.1, nI 58] ++ ((if q.2.2.2 ≤ nI 9 then [] else [nI 48 + q.2.2.2 / nI 10]) ++ [nI 48 + (q.2.2.2 - q.2.2.2 / nI 10 * nI 10), nI 59])
def tlB : List dR → List Int32
  | [] => []
  | q :: L => tl1 q ++ tlB L
theorem tlB_app : ∀ (L : List dR) (q : dR), tlB (L ++ [q]) = tlB L ++ tl1 q
  | [], q => by simp [tlB]
  | x :: L, q => by
    show tl1 x ++ tlB (L ++ [q]) = (tl1 x ++ tlB L) ++ tl1 q
    rw [tlB_app L q, List.append_assoc]
theorem tl1_len (q : dR) : (tl1 q).length ≤ 9 := by
  unfold tl1
  split <;> simp
theorem tlB_len : ∀ L : List dR, (tlB L).length ≤ 9 * L.length
  | [] => Nat.le_refl _
  | q :: L => by
    have h1 := tl1_len q
    have h2 := tlB_len L
    show (tl1 q ++ tlB L).length ≤ _
    rw [List.length_append, List.length_cons]
    omega
/-- a row with bytes written from c on -/
def wf (f : Nat → Int32) (c : Nat) (l : List Int32) : Nat → Int32 := fun j => if c ≤ j ∧ j < c + l.length then l.getD (j - c) 0 else f j
theorem wf_0 (f : Nat → Int32) (c : Nat) : wf f c [] = f := by
  funext j
  unfold wf
  rw [if_neg (by simp)]
theorem wf_app (f : Nat → Int32) (c : Nat) (l l' : List Int32) : wf (wf f c l) (c + l.length) l' = wf f c (l ++ l') := by
  funext j
  unfold wf
  rw [List.length_append]
  by_cases h1 : c + l.length ≤ j ∧ j < c + l.length + l'.length
  · rw [if_pos h1, if_pos (by omega), show j - c = l.length + (j - (c + l.length)) by omega, getD_app (by omega)]
  · rw [if_neg h1]
    by_cases h2 : c ≤ j ∧ j < c + l.length
    · rw [if_pos h2, if_pos (by omega), getD_app1 (by omega)]
    · rw [if_neg h2, if_neg (by omega)]
theorem wf_1 (f : Nat → Int32) (c : Nat) (x : Int32) : wf f c [x] = mput f c x := by
  funext j
  unfold wf mput
  by_cases h : j = c
  · subst h
    rw [if_pos (by simp), if_pos rfl, Nat.sub_self]; rfl
  · rw [if_neg (by simp; omega), if_neg h]
def wtS (l : List Int32) (c : Nat) (MI : mI) : mI := mup (mup MI 71 (wf (MI 71) c l)) 46 (mput (MI 46) 37 (nI (c + l.length)))
theorem wtS_0 {c : Nat} {MI : mI} (h : MI 46 37 = nI c) : wtS [] c MI = MI := by
  unfold wtS
  rw [wf_0, mup_id]
  show mup MI 46 (mput (MI 46) 37 (nI c)) = MI
  rw [← h, mput_id, mup_id]
theorem wtS_app (l l' : List Int32) (c : Nat) (MI : mI) : wtS l' (c + l.length) (wtS l c MI) = wtS (l ++ l') c MI := by
  funext q
  unfold wtS
  by_cases h : q = 46
  · subst h
    simp only [mup_s, mput_mput, List.length_append, Nat.add_assoc]
  · by_cases h2 : q = 71
    · subst h2
      simp (disch := omega) only [mup_s, mup_n, wf_app]
    · simp only [mup_n h, mup_n h2]
theorem wtS_c (l : List Int32) (c : Nat) (MI : mI) : wtS l c MI 46 37 = nI (c + l.length) := by
  unfold wtS
  simp (disch := omega) only [mup_n, mup_s, mput_n, mput_s, mup_mup]
theorem wtS_1 (l : List Int32) (c : Nat) (MI : mI) (x : Int32) : wtS (l ++ [x]) c MI = mup (mup (wtS l c MI) 71 (mput ((wtS l c MI) 71) (c + l.length) x)) 46 (mput ((wtS l c MI) 46) 37 (nI (c + l.length + 1))) := by
  rw [← wtS_app l [x] c MI]
  show mup (mup (wtS l c MI) 71 (wf ((wtS l c MI) 71) (c + l.length) [x])) 46 (mput ((wtS l c MI) 46) 37 (nI (c + l.length + 1))) = _
  rw [wf_1]
def wcS (l : List Int32) (c : Nat) (MI : mI) : mI := mup (mup MI 35 (wf (MI 35) c l)) 33 (mput (MI 33) 2 (nI (c + l.length)))
theorem wcS_0 {c : Nat} {MI : mI} (h : MI 33 2 = nI c) : wcS [] c MI = MI := by
  unfold wcS
  rw [wf_0, mup_id]
  show mup MI 33 (mput (MI 33) 2 (nI c)) = MI
  rw [← h, mput_id, mup_id]
theorem wcS_app (l l' : List Int32) (c : Nat) (MI : mI) : wcS l' (c + l.length) (wcS l c MI) = wcS (l ++ l') c MI := by
  funext q
  unfold wcS
  by_cases h : q = 33
  · subst h
    simp only [mup_s, mput_mput, List.length_append, Nat.add_assoc]
  · by_cases h2 : q = 35
    · subst h2
      simp (disch := omega) only [mup_s, mup_n, wf_app]
    · simp only [mup_n h, mup_n h2]
theorem wcS_c (l : List Int32) (c : Nat) (MI : mI) : wcS l c MI 33 2 = nI (c + l.length) := by
  unfold wcS
  simp (disch := omega) only [mup_n, mup_s, mput_n, mput_s, mup_mup]
theorem wcS_1 (l : List Int32) (c : Nat) (MI : mI) (x : Int32) : wcS (l ++ [x]) c MI = mup (mup (wcS l c MI) 35 (mput ((wcS l c MI) 35) (c + l.length) x)) 33 (mput ((wcS l c MI) 33) 2 (nI (c + l.length + 1))) := by
  rw [← wcS_app l [x] c MI]
  show mup (mup (wcS l c MI) 35 (wf ((wcS l c MI) 35) (c + l.length) [x])) 33 (mput ((wcS l c MI) 33) 2 (nI (c + l.length + 1))) = _
  rw [wf_1]
section TT
variable {D : Nat} {MI : mI} {ML : mJ} {x : Int32}
theorem s_wr {c : Nat} {N : mI} (l : List Int32) (hN : N = wcS l c MI) (h : c + l.length < 72) : mrc (D + 1) 32 [.ref 33, .int x] N ML none (wcS (l ++ [x]) c MI) ML := by
  subst hN
  have := s_bkWrite (D := D) (MI := wcS l c MI) (ML := ML) (x := x) (n := c + l.length) (wcS_c l c MI) h
  rw [wcS_1]
  exact this
end TT
/-- a number, or that there is none: -1 -/
def fI (x : Nat) : Int32 := if x = 8 then -1 else nI x
theorem fI_no {x : Nat} (hx : x ≤ 8) : fI x = -1 ↔ x = 8 := by
  have : ∀ x : Fin 9, fI x.val = -1 ↔ x.val = 8 := by decide
  exact this ⟨x, by omega⟩
theorem fI_yes {x : Nat} (h : ¬ x = 8) : fI x = nI x := if_neg h
theorem mx_sub {x o : Int32} (h1 : 0 ≤ x.toInt) (h2 : x.toInt ≤ 99) (h3 : 0 ≤ o.toInt) (h4 : o.toInt ≤ 50) : mx (x - o) (nI 0) = if x ≤ o then nI 0 else x - o := by
  have e0 : (nI 0).toInt = 0 := by decide
  rw [fa_eq, mx_ti, ti_sub (by omega) (by omega) (by omega) (by omega), e0]
  by_cases h : x ≤ o
  · rw [if_pos h, e0]
    rw [fa_le] at h
    omega
  · rw [if_neg h, ti_sub (by omega) (by omega) (by omega) (by omega)]
    rw [fa_le] at h
    omega
theorem mput_cm {α : Type} {f : Nat → α} {i j : Nat} {x y : α} (h : i ≠ j) : mput (mput f i x) j y = mput (mput f j y) i x := by
  funext k
  unfold mput
  by_cases h1 : k = j
  · by_cases h2 : k = i
    · exact absurd (h2.symm.trans h1) h
    · rw [if_pos h1, if_neg h2, if_pos h1]
  · rw [if_neg h1, if_neg h1]
/-- what the model keeps of a day of n people -/
def RM (n : Nat) (told : Bool) (L : List dR) (M MI : mI) : Prop := M 46 29 = nI L.length ∧ (∀ i, i < n → M 62 i = bI (fbL L i)) ∧ (∀ i, i < n → M 64 i = bI (wbL L i)) ∧ (∀ i, i < n → M 65 i = nI (wgL L i)) ∧ (M 46 37 = if told then nI (tlB L).length else MI 46 37) ∧ (M 71 = if told then wf (MI 71) 0 (tlB L) else MI 71) ∧ ∀ j, j ≠ 29 → j ≠ 37 → M 46 j = MI 46 j
def FM (M MI : mI) : Prop := ∀ q, q ≠ 46 → q ≠ 58 → q ≠ 59 → q ≠ 61 → q ≠ 62 → q ≠ 63 → q ≠ 64 → q ≠ 65 → q ≠ 71 → M q = MI q
theorem FM.tr {M N MI : mI} (h : FM M N) (h2 : FM N MI) : FM M MI := fun q a1 a2 a3 a4 a5 a6 a7 a8 a9 => (h q a1 a2 a3 a4 a5 a6 a7 a8 a9).trans (h2 q a1 a2 a3 a4 a5 a6 a7 a8 a9)
section DM
variable {D n : Nat} {MI : mI} {ML : mJ} {x y : Int32}
end DM
