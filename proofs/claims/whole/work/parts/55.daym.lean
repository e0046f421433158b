/-! a day: the model; the tale's bytes -/
def tl1 (q : dR) : List Int32 := [nI 48 + nI q.1, nI 60, nI 48 + nI q.2.1, nI 124, nI 48 + nI q.2.2.1, nI 58] ++ ((if q.2.2.2 ≤ nI 9 then [] else [nI 48 + q.2.2.2 / nI 10]) ++ [nI 48 + (q.2.2.2 - q.2.2.2 / nI 10 * nI 10), nI 59])
def tlB : List dR → List Int32
  | [] => []
  | q :: L => tl1 q ++ tlB L
theorem tlB_app : ∀ (L : List dR) (q : dR), tlB (L ++ [q]) = tlB L ++ tl1 q
  | [], q => by simp [tlB]
  | x :: L, q => by
    show tl1 x ++ tlB (L ++ [q]) = (tl1 x ++ tlB L) ++ tl1 q
    rw [tlB_app L q, List.append_assoc]
theorem tl1_len (q : dR) : (tl1 q).length ≤ 9 := by
  unfold tl1
  split <;> simp
theorem tlB_len : ∀ L : List dR, (tlB L).length ≤ 9 * L.length
  | [] => Nat.le_refl _
  | q :: L => by
    have h1 := tl1_len q
    have h2 := tlB_len L
    show (tl1 q ++ tlB L).length ≤ _
    rw [List.length_append, List.length_cons]
    omega
/-- a row with bytes written from c on -/
def wf (f : Nat → Int32) (c : Nat) (l : List Int32) : Nat → Int32 := fun j => if c ≤ j ∧ j < c + l.length then l.getD (j - c) 0 else f j
theorem wf_0 (f : Nat → Int32) (c : Nat) : wf f c [] = f := by
  funext j
  unfold wf
  rw [if_neg (by simp)]
theorem wf_app (f : Nat → Int32) (c : Nat) (l l' : List Int32) : wf (wf f c l) (c + l.length) l' = wf f c (l ++ l') := by
  funext j
  unfold wf
  rw [List.length_append]
  by_cases h1 : c + l.length ≤ j ∧ j < c + l.length + l'.length
  · rw [if_pos h1, if_pos (by omega), show j - c = l.length + (j - (c + l.length)) by omega, getD_app (by omega)]
  · rw [if_neg h1]
    by_cases h2 : c ≤ j ∧ j < c + l.length
    · rw [if_pos h2, if_pos (by omega), getD_app1 (by omega)]
    · rw [if_neg h2, if_neg (by omega)]
theorem wf_1 (f : Nat → Int32) (c : Nat) (x : Int32) : wf f c [x] = mput f c x := by
  funext j
  unfold wf mput
  by_cases h : j = c
  · subst h
    rw [if_pos (by simp), if_pos rfl, Nat.sub_self]; rfl
  · rw [if_neg (by simp; omega), if_neg h]
def wtS (l : List Int32) (c : Nat) (MI : mI) : mI := mup (mup MI 71 (wf (MI 71) c l)) 46 (mput (MI 46) 37 (nI (c + l.length)))
theorem wtS_0 {c : Nat} {MI : mI} (h : MI 46 37 = nI c) : wtS [] c MI = MI := by
  unfold wtS
  rw [wf_0, mup_id]
  show mup MI 46 (mput (MI 46) 37 (nI c)) = MI
  rw [← h, mput_id, mup_id]
theorem wtS_app (l l' : List Int32) (c : Nat) (MI : mI) : wtS l' (c + l.length) (wtS l c MI) = wtS (l ++ l') c MI := by
  funext q
  unfold wtS
  by_cases h : q = 46
  · subst h
    simp only [mup_s, mput_mput, List.length_append, Nat.add_assoc]
  · by_cases h2 : q = 71
    · subst h2
      simp (disch := omega) only [mup_s, mup_n, wf_app]
    · simp only [mup_n h, mup_n h2]
theorem wtS_c (l : List Int32) (c : Nat) (MI : mI) : wtS l c MI 46 37 = nI (c + l.length) := by
  unfold wtS
  simp (disch := omega) only [mup_n, mup_s, mput_n, mput_s, mup_mup]
theorem wtS_1 (l : List Int32) (c : Nat) (MI : mI) (x : Int32) : wtS (l ++ [x]) c MI = mup (mup (wtS l c MI) 71 (mput ((wtS l c MI) 71) (c + l.length) x)) 46 (mput ((wtS l c MI) 46) 37 (nI (c + l.length + 1))) := by
  rw [← wtS_app l [x] c MI]
  show mup (mup (wtS l c MI) 71 (wf ((wtS l c MI) 71) (c + l.length) [x])) 46 (mput ((wtS l c MI) 46) 37 (nI (c + l.length + 1))) = _
  rw [wf_1]
def wcS (l : List Int32) (c : Nat) (MI : mI) : mI := mup (mup MI 35 (wf (MI 35) c l)) 33 (mput (MI 33) 2 (nI (c + l.length)))
theorem wcS_0 {c : Nat} {MI : mI} (h : MI 33 2 = nI c) : wcS [] c MI = MI := by
  unfold wcS
  rw [wf_0, mup_id]
  show mup MI 33 (mput (MI 33) 2 (nI c)) = MI
  rw [← h, mput_id, mup_id]
theorem wcS_app (l l' : List Int32) (c : Nat) (MI : mI) : wcS l' (c + l.length) (wcS l c MI) = wcS (l ++ l') c MI := by
  funext q
  unfold wcS
  by_cases h : q = 33
  · subst h
    simp only [mup_s, mput_mput, List.length_append, Nat.add_assoc]
  · by_cases h2 : q = 35
    · subst h2
      simp (disch := omega) only [mup_s, mup_n, wf_app]
    · simp only [mup_n h, mup_n h2]
theorem wcS_c (l : List Int32) (c : Nat) (MI : mI) : wcS l c MI 33 2 = nI (c + l.length) := by
  unfold wcS
  simp (disch := omega) only [mup_n, mup_s, mput_n, mput_s, mup_mup]
theorem wcS_1 (l : List Int32) (c : Nat) (MI : mI) (x : Int32) : wcS (l ++ [x]) c MI = mup (mup (wcS l c MI) 35 (mput ((wcS l c MI) 35) (c + l.length) x)) 33 (mput ((wcS l c MI) 33) 2 (nI (c + l.length + 1))) := by
  rw [← wcS_app l [x] c MI]
  show mup (mup (wcS l c MI) 35 (wf ((wcS l c MI) 35) (c + l.length) [x])) 33 (mput ((wcS l c MI) 33) 2 (nI (c + l.length + 1))) = _
  rw [wf_1]
section TT
variable {D : Nat} {MI : mI} {ML : mJ} {x : Int32}
theorem t_wtl {c : Nat} {N : mI} (l : List Int32) (hN : N = wtS l c MI) (h : c + l.length < 72) : mrc (D + 1) 239 [.ref 46, .int x] N ML none (wtS (l ++ [x]) c MI) ML := by
  subst hN
  refine mrc_of (EX11_writesTale (BX11_writesTale_0 ⟨c + l.length, wtS_c l c MI, h, vR ?_⟩))
  rw [wtS_1, mup_n (by decide), wtS_c, nI_add]
theorem s_wr {c : Nat} {N : mI} (l : List Int32) (hN : N = wcS l c MI) (h : c + l.length < 72) : mrc (D + 1) 32 [.ref 33, .int x] N ML none (wcS (l ++ [x]) c MI) ML := by
  subst hN
  have := s_bkWrite (D := D) (MI := wcS l c MI) (ML := ML) (x := x) (n := c + l.length) (wcS_c l c MI) h
  rw [wcS_1]
  exact this
theorem t_tells {q : dR} {c : Nat} (hc : MI 46 37 = nI c) (h : c + (tl1 q).length ≤ 72) : mrc (D + 2) 240 [.ref 46, .int (nI q.1), .int (nI q.2.1), .int (nI q.2.2.1), .int q.2.2.2] MI ML none (wtS (tl1 q) c MI) ML := by
  refine mrc_of (EX11_tells (BX11_tells_0 ?_))
  by_cases ho : q.2.2.2 ≤ nI 9
  · have e : tl1 q = [] ++ [nI 48 + nI q.1] ++ [nI 60] ++ [nI 48 + nI q.2.1] ++ [nI 124] ++ [nI 48 + nI q.2.2.1] ++ [nI 58] ++ [nI 48 + (q.2.2.2 - q.2.2.2 / nI 10 * nI 10)] ++ [nI 59] := by
      unfold tl1
      rw [if_pos ho]; rfl
    rw [e] at h ⊢
    simp only [List.length_append, List.length_cons, List.length_nil] at h
    refine usev (t_wtl [] (wtS_0 hc).symm (by simp; omega)) (usev (t_wtl _ rfl (by simp; omega)) (usev (t_wtl _ rfl (by simp; omega)) (usev (t_wtl _ rfl (by simp; omega)) (usev (t_wtl _ rfl (by simp; omega)) (usev (t_wtl _ rfl (by simp; omega)) (cT ho ?_))))))
    exact BX11_tells_61 (usev (t_wtl _ rfl (by simp; omega)) (usev (t_wtl _ rfl (by simp; omega)) eRr))
  · have e : tl1 q = [] ++ [nI 48 + nI q.1] ++ [nI 60] ++ [nI 48 + nI q.2.1] ++ [nI 124] ++ [nI 48 + nI q.2.2.1] ++ [nI 58] ++ [nI 48 + q.2.2.2 / nI 10] ++ [nI 48 + (q.2.2.2 - q.2.2.2 / nI 10 * nI 10)] ++ [nI 59] := by
      unfold tl1
      rw [if_neg ho]; rfl
    rw [e] at h ⊢
    simp only [List.length_append, List.length_cons, List.length_nil] at h
    refine usev (t_wtl [] (wtS_0 hc).symm (by simp; omega)) (usev (t_wtl _ rfl (by simp; omega)) (usev (t_wtl _ rfl (by simp; omega)) (usev (t_wtl _ rfl (by simp; omega)) (usev (t_wtl _ rfl (by simp; omega)) (usev (t_wtl _ rfl (by simp; omega)) (cF ho (usev (t_wtl _ rfl (by simp; omega)) ?_)))))))
    exact BX11_tells_61 (usev (t_wtl _ rfl (by simp; omega)) (usev (t_wtl _ rfl (by simp; omega)) eRr))
end TT
/-- a number, or that there is none: -1 -/
def fI (x : Nat) : Int32 := if x = 8 then -1 else nI x
theorem fI_no {x : Nat} (hx : x ≤ 8) : fI x = -1 ↔ x = 8 := by
  have : ∀ x : Fin 9, fI x.val = -1 ↔ x.val = 8 := by decide
  exact this ⟨x, by omega⟩
theorem fI_yes {x : Nat} (h : ¬ x = 8) : fI x = nI x := if_neg h
theorem mx_sub {x o : Int32} (h1 : 0 ≤ x.toInt) (h2 : x.toInt ≤ 99) (h3 : 0 ≤ o.toInt) (h4 : o.toInt ≤ 50) : mx (x - o) (nI 0) = if x ≤ o then nI 0 else x - o := by
  have e0 : (nI 0).toInt = 0 := by decide
  rw [fa_eq, mx_ti, ti_sub (by omega) (by omega) (by omega) (by omega), e0]
  by_cases h : x ≤ o
  · rw [if_pos h, e0]
    rw [fa_le] at h
    omega
  · rw [if_neg h, ti_sub (by omega) (by omega) (by omega) (by omega)]
    rw [fa_le] at h
    omega
theorem mput_cm {α : Type} {f : Nat → α} {i j : Nat} {x y : α} (h : i ≠ j) : mput (mput f i x) j y = mput (mput f j y) i x := by
  funext k
  unfold mput
  by_cases h1 : k = j
  · by_cases h2 : k = i
    · exact absurd (h2.symm.trans h1) h
    · rw [if_pos h1, if_neg h2, if_pos h1]
  · rw [if_neg h1, if_neg h1]
/-- what the model keeps of a day of n people -/
def RM (n : Nat) (told : Bool) (L : List dR) (M MI : mI) : Prop := M 46 29 = nI L.length ∧ (∀ i, i < n → M 62 i = bI (fbL L i)) ∧ (∀ i, i < n → M 64 i = bI (wbL L i)) ∧ (∀ i, i < n → M 65 i = nI (wgL L i)) ∧ (M 46 37 = if told then nI (tlB L).length else MI 46 37) ∧ (M 71 = if told then wf (MI 71) 0 (tlB L) else MI 71) ∧ ∀ j, j ≠ 29 → j ≠ 37 → M 46 j = MI 46 j
def FM (M MI : mI) : Prop := ∀ q, q ≠ 46 → q ≠ 58 → q ≠ 59 → q ≠ 61 → q ≠ 62 → q ≠ 63 → q ≠ 64 → q ≠ 65 → q ≠ 71 → M q = MI q
theorem FM.tr {M N MI : mI} (h : FM M N) (h2 : FM N MI) : FM M MI := fun q a1 a2 a3 a4 a5 a6 a7 a8 a9 => (h q a1 a2 a3 a4 a5 a6 a7 a8 a9).trans (h2 q a1 a2 a3 a4 a5 a6 a7 a8 a9)
section DM
variable {D n : Nat} {MI : mI} {ML : mJ} {x y : Int32}
theorem t_friendOf {b u : Nat} (hn : MI 46 6 = nI n) (h8 : n ≤ 8) (hb : b < 8) (hu : u ≤ 8) (hd : MI 61 (20 + b * 8 + b) = nI 0) : mrc (D + 2) 212 [.ref 46, .int (nI b), .int (nI u)] MI ML (some (.int (fI (frd (MI 61) b u n).1))) MI ML := by
  refine mrc_of (EX11_friendOf (BX11_friendOf_0 ?_))
  refine up (P := fun i => VX11_friendOf_5 (D + 1) _ (nI b) (nI u) (fI (frd (MI 61) b u i).1) (nI i) MI ML) n (Nat.zero_le _) ?_ ?_
  · exact BX11_friendOf_5 (cT (by rw [hn]; exact nI_le (Nat.le_refl _) (by omega)) eRr)
  · intro i _ hi ih
    have hfo := frd_ok (MI 61) b u i
    have h0 : nI 0 ≤ (frd (MI 61) b u i).2 := by
      rcases hfo with q | q
      · rw [q.2]; exact nI_le (Nat.le_refl _) (by omega)
      · exact (fa_of_lt q.2.2.2).1
    have e : frd (MI 61) b u (i + 1) = if i = u ∨ MI 61 (20 + i * 8 + b) ≤ (frd (MI 61) b u i).2 then frd (MI 61) b u i else (i, MI 61 (20 + i * 8 + b)) := rfl
    rw [e] at ih
    have k0 : (i = u ∨ MI 61 (20 + i * 8 + b) ≤ (frd (MI 61) b u i).2) → VX11_friendOf_45 (D + 1) (eR (some (.int (fI (frd (MI 61) b u n).1))) MI ML) (nI b) (nI u) (fI (frd (MI 61) b u i).1) (nI i) (nI 0) MI ML := by
      intro h
      rw [if_pos h] at ih
      refine BX11_friendOf_45 (cT rfl ?_)
      rw [nI_add]
      exact ih
    refine BX11_friendOf_5 (cF (by rw [hn]; exact nI_ge hi (by omega)) ?_)
    rw [nI_eq (by omega) (by omega), nI_eq (by omega) (by omega)]
    refine br (fun h => ?_) (fun h => br (fun h2 => ?_) (fun h2 => ?_))
    · refine k0 (Or.inr ?_)
      rw [h, hd]
      rw [h] at h0
      exact h0
    · exact k0 (Or.inl h2)
    · refine usei t_felt ⟨20 + i * 8 + b, rfl, by omega, br (fun h3 => ?_) (fun h3 => ?_)⟩
      · refine k0 (Or.inr ?_)
        rw [fa_le] at h0 h3 ⊢
        omega
      · refine BX11_friendOf_45 (cF (by decide) ?_)
        rw [fI_no (by rcases hfo with q | q <;> omega), nI_add]
        refine br (fun h4 => ?_) (fun h4 => ?_)
        · rw [if_neg (by
            rintro (q | q)
            · exact h2 q
            · have := (hfo.resolve_right (fun w => by omega)).2
              rw [this] at q
              exact h3 q)] at ih
          rw [show fI (i, MI 61 (20 + i * 8 + b)).1 = nI i from fI_yes (by show ¬ i = 8; omega)] at ih
          exact ih
        · have hfo := hfo.resolve_left (fun q => h4 q.1)
          rw [fI_yes h4]
          refine usei t_felt ⟨20 + i * 8 + b, rfl, by omega, usei t_felt ⟨20 + (frd (MI 61) b u i).1 * 8 + b, rfl, by omega, ?_⟩⟩
          rw [← hfo.2.2.1]
          refine br (fun h5 => ?_) (fun h5 => ?_)
          · rw [if_pos (Or.inr h5), fI_yes h4] at ih
            exact ih
          · rw [if_neg (fun q => q.elim (fun q => h2 q) (fun q => h5 q))] at ih
            rw [show fI (i, MI 61 (20 + i * 8 + b)).1 = nI i from fI_yes (by show ¬ i = 8; omega)] at ih
            exact ih
theorem t_nextBuyer {T : Nat → Bool} (hn : MI 46 6 = nI n) (h8 : n ≤ 8) (hf : ∀ i, i < 8 → 0 ≤ (MI 61 i).toInt) (hT : ∀ i, i < n → MI 63 i = bI (T i)) : mrc (D + 1) 214 [.ref 46] MI ML (some (.int (fI (hgr (MI 61) T n).1))) MI ML := by
  refine mrc_of (EX11_nextBuyer (BX11_nextBuyer_0 ?_))
  refine up (P := fun i => VX11_nextBuyer_4 D _ (fI (hgr (MI 61) T i).1) (nI i) MI ML) n (Nat.zero_le _) ?_ ?_
  · exact BX11_nextBuyer_4 (cT (by rw [hn]; exact nI_le (Nat.le_refl _) (by omega)) eRr)
  · intro i _ hi ih
    have hh := hgr_ok (T := T) hf i (by omega)
    have e : hgr (MI 61) T (i + 1) = if T i = false then (if MI 61 i ≤ (hgr (MI 61) T i).2 then hgr (MI 61) T i else (i, MI 61 i)) else hgr (MI 61) T i := rfl
    rw [e] at ih
    refine BX11_nextBuyer_4 (cF (by rw [hn]; exact nI_ge hi (by omega)) ⟨i, rfl, by omega, ?_⟩)
    rw [hT i hi, bI_0, nI_add, fI_no (by rcases hh with q | q <;> omega)]
    have ei : fI (i, MI 61 i).1 = nI i := fI_yes (by show ¬ i = 8; omega)
    refine br (fun h => ?_) (fun h => ?_)
    · rw [if_pos h] at ih
      refine br (fun h2 => ?_) (fun h2 => ⟨i, rfl, by omega, ?_⟩)
      · have := (hh.resolve_right (fun w => by omega)).2.1
        rw [this, if_neg (by
          rw [fa_le, show (-1 : Int32).toInt = -1 by decide]
          have := hf i (by omega)
          omega), ei] at ih
        exact ih
      · have hh := hh.resolve_left (fun q => h2 q.1)
        refine ⟨(hgr (MI 61) T i).1, fI_yes h2, by omega, ?_⟩
        rw [← hh.2.2]
        refine br (fun h3 => ?_) (fun h3 => ?_)
        · rw [if_pos h3] at ih
          exact ih
        · rw [if_neg h3, ei] at ih
          exact ih
    · rwa [if_neg h] at ih
end DM
