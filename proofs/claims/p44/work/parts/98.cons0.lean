/-! the constructors, from an empty heap: what they leave -/
def rdI : List (Nat × Nat × Int32) → Nat → Nat → Int32
  | [], _, _ => 0
  | e :: t, a, k => if a = e.1 ∧ k = e.2.1 then e.2.2 else rdI t a k
def rdJ : List (Nat × Nat × Int64) → Nat → Nat → Int64
  | [], _, _ => 0
  | e :: t, a, k => if a = e.1 ∧ k = e.2.1 then e.2.2 else rdJ t a k
theorem rdI_w {al : List (Nat × Nat × Int32)} {a k : Nat} {x : Int32} : mup (rdI al) a (mput (rdI al a) k x) = rdI ((a, k, x) :: al) := by
  funext b j
  unfold mup mput
  show _ = if b = a ∧ j = k then x else rdI al b j
  by_cases hb : b = a
  · subst hb
    by_cases hj : j = k <;> simp [hj]
  · simp [hb]
theorem rdJ_w {al : List (Nat × Nat × Int64)} {a k : Nat} {x : Int64} : mup (rdJ al) a (mput (rdJ al a) k x) = rdJ ((a, k, x) :: al) := by
  funext b j
  unfold mup mput
  show _ = if b = a ∧ j = k then x else rdJ al b j
  by_cases hb : b = a
  · subst hb
    by_cases hj : j = k <;> simp [hj]
  · simp [hb]
theorem rdI_0 {z j : Nat} : ∀ {al : List (Nat × Nat × Int32)}, (al.all (fun e => !(Nat.beq e.1 z))) = true → rdI al z j = 0
  | [], _ => rfl
  | e :: t, h => by
    rw [List.all_cons, Bool.and_eq_true] at h
    have h1 : ¬ (z = e.1 ∧ j = e.2.1) := fun q => by
      have h2 := h.1
      rw [q.1, Nat.beq_refl] at h2
      cases h2
    show (if z = e.1 ∧ j = e.2.1 then e.2.2 else rdI t z j) = 0
    rw [if_neg h1]
    exact rdI_0 h.2
theorem rdJ_0 {z j : Nat} : ∀ {al : List (Nat × Nat × Int64)}, (al.all (fun e => !(Nat.beq e.1 z))) = true → rdJ al z j = 0
  | [], _ => rfl
  | e :: t, h => by
    rw [List.all_cons, Bool.and_eq_true] at h
    have h1 : ¬ (z = e.1 ∧ j = e.2.1) := fun q => by
      have h2 := h.1
      rw [q.1, Nat.beq_refl] at h2
      cases h2
    show (if z = e.1 ∧ j = e.2.1 then e.2.2 else rdJ t z j) = 0
    rw [if_neg h1]
    exact rdJ_0 h.2
theorem rdI_z {al : List (Nat × Nat × Int32)} {z : Nat} (h : (al.all (fun e => !(Nat.beq e.1 z))) = true) : mup (rdI al) z (fun _ => 0) = rdI al := by
  funext b j
  unfold mup
  by_cases hb : b = z
  · subst hb
    rw [if_pos rfl, rdI_0 h]
  · rw [if_neg hb]
theorem rdJ_z {al : List (Nat × Nat × Int64)} {z : Nat} (h : (al.all (fun e => !(Nat.beq e.1 z))) = true) : mup (rdJ al) z (fun _ => 0) = rdJ al := by
  funext b j
  unfold mup
  by_cases hb : b = z
  · subst hb
    rw [if_pos rfl, rdJ_0 h]
  · rw [if_neg hb]
section CO
variable {C : mC} {T : Nat → mO} {Q : Option Value → mS → Prop} {pc nx w w' z a : Nat} {l l' : mL} {st st' r : mK} {Sh Sh' : List mT} {MI : mI} {ML : mJ} {al : List (Nat × Nat × Int32)} {bl : List (Nat × Nat × Int64)}
theorem xA_new (h : T pc l st (w, Sh, rdI al, ML) = some (.inl (nx, l', st', (w', Sh', mup (rdI al) z (fun _ => 0), ML)))) (hz : (al.all (fun e => !(Nat.beq e.1 z))) = true) (k : mEx C T Q (nx, l', st', (w', Sh', rdI al, ML))) : mEx C T Q (pc, l, st, (w, Sh, rdI al, ML)) := x_st h (by rw [rdI_z hz]; exact k)
theorem xA_nl (h : T pc l st (w, Sh, MI, rdJ bl) = some (.inl (nx, l', st', (w', Sh', MI, mup (rdJ bl) z (fun _ => 0))))) (hz : (bl.all (fun e => !(Nat.beq e.1 z))) = true) (k : mEx C T Q (nx, l', st', (w', Sh', MI, rdJ bl))) : mEx C T Q (pc, l, st, (w, Sh, MI, rdJ bl)) := x_st h (by rw [rdJ_z hz]; exact k)
theorem xA_pi {ci k : Nat} {x : Int32} {rf : List (Option (Option Nat))} (hT : T pc = o_pi ci k nx) (h : Sh[a]? = some (0, ci, rf)) (hr : rf[k]? = some none) (K : mEx C T Q (nx, l, r, (w, Sh, rdI ((a, k, x) :: al), ML))) : mEx C T Q (pc, l, .int x :: .ref a :: r, (w, Sh, rdI al, ML)) := x_pi hT h hr (by rw [rdI_w]; exact K)
theorem xA_pz {ci k : Nat} {x : Int32} {rf : List (Option (Option Nat))} (hT : T pc = o_pz ci k nx) (h : Sh[a]? = some (0, ci, rf)) (hr : rf[k]? = some none) (hx : x = 0 ∨ x = 1) (K : mEx C T Q (nx, l, r, (w, Sh, rdI ((a, k, x) :: al), ML))) : mEx C T Q (pc, l, .int x :: .ref a :: r, (w, Sh, rdI al, ML)) := x_pz hT h hr hx (by rw [rdI_w]; exact K)
theorem xA_iast {n i : Nat} {x y : Int32} {rf : List (Option (Option Nat))} (hT : T pc = o_iast nx) (h : Sh[a]? = some (1, n, rf)) (hx : x = nI i) (hi : i < n) (hn : n < 10001) (K : mEx C T Q (nx, l, r, (w, Sh, rdI ((a, i, y) :: al), ML))) : mEx C T Q (pc, l, .int y :: .int x :: .ref a :: r, (w, Sh, rdI al, ML)) := x_iast hT h hx hi hn (by rw [rdI_w]; exact K)
theorem xA_last {n i : Nat} {x : Int32} {y : Int64} {rf : List (Option (Option Nat))} (hT : T pc = o_last nx) (h : Sh[a]? = some (2, n, rf)) (hx : x = nI i) (hi : i < n) (hn : n < 10001) (K : mEx C T Q (nx, l, r, (w, Sh, MI, rdJ ((a, i, y) :: bl)))) : mEx C T Q (pc, l, .long y :: .int x :: .ref a :: r, (w, Sh, MI, rdJ bl)) := x_last hT h hx hi hn (by rw [rdJ_w]; exact K)
theorem xA_en {D y n : Nat} {as : List Value} {v : Option Value} {S S' : mS} (hT : mTb y = T) (hl : (men as n).length = (mM y).2.2.1) (h1 : S.2.1.length ≤ S'.2.1.length) (h2 : S.1 ≤ S'.1) (k : mEx (mrn D) T (fun v2 S2 => v2 = v ∧ S2 = S') (0, men as n, [], S)) : mrn (D + 1) y as S v S' := by
  subst hT
  obtain ⟨N, hN⟩ := k
  exact ⟨h1, h2, N, n, hl, hN⟩
end CO
