/-! rules for the law's own bodies: any world -/
def aok (Sh : List mT) (a i : Nat) (x : Int32) : Prop := ∃ n, Sh[a]? = some (1, n, []) ∧ n < 10001 ∧ x = nI i ∧ i < n
def alo (Sh : List mT) (a n : Nat) : Prop := Sh[a]? = some (1, n, [])
def isO (Sh : List mT) (a ci : Nat) : Prop := ∃ rf, Sh[a]? = some (0, ci, rf)
section YR
variable {C : mC} {T : Nat → mO} {Q : Option Value → mS → Prop} {pc nx : Nat} {l : mL} {r : mK} {w a : Nat} {Sh : List mT} {MI : mI} {ML : mJ}
theorem y_ia {i : Nat} {x : Int32} (hT : T pc = o_ia nx) (h : aok Sh a i x) (K : mEx C T Q (nx, l, .int (MI a i) :: r, (w, Sh, MI, ML))) : mEx C T Q (pc, l, .int x :: .ref a :: r, (w, Sh, MI, ML)) := by
  obtain ⟨n, h1, h2, h3, h4⟩ := h
  exact x_ia hT h1 h3 h4 h2 K
theorem y_iast {i : Nat} {x y : Int32} (hT : T pc = o_iast nx) (h : aok Sh a i x) (K : mEx C T Q (nx, l, r, (w, Sh, mup MI a (mput (MI a) i y), ML))) : mEx C T Q (pc, l, .int y :: .int x :: .ref a :: r, (w, Sh, MI, ML)) := by
  obtain ⟨n, h1, h2, h3, h4⟩ := h
  exact x_iast hT h1 h3 h4 h2 K
theorem mapp_eq {α : Type} {v : α} : ∀ {l : List α} {k : List α → Option mR}, mapp l v k = k (l ++ [v])
  | [], _ => rfl
  | a :: t, k => mapp_eq (l := t) (k := fun t' => k (a :: t'))
theorem mlits_z : ∀ z, z < 80 → mlits[z]? = some z := by decide
theorem y_nwi {N : Nat} (hT : T pc = o_nwi N nx) (hl : Sh.length < 80) (K : mEx C T Q (nx, l, .ref Sh.length :: r, (w + N, Sh ++ [(1, N, [])], mup MI Sh.length (fun _ => 0), ML))) : mEx C T Q (pc, l, .int (nI N) :: r, (w, Sh, MI, ML)) :=
  x_st (by rw [hT]; exact (if_pos rfl).trans ((mnth_eq (mlits_z _ hl)).trans mapp_eq)) K
theorem y_vi {y n ci : Nat} {as st : List Value} {x : Value} {S2 : mS} (hT : T pc = o_cv y n ci nx) (hp : ∀ k, mpop (n + 1) st [] k = k (.ref a :: as) r) (h : isO Sh a ci) (hb : Nat.ble (mcat r) 8 = true) (hc : C y (.ref a :: as) (w, Sh, MI, ML) (some x) S2) (K : mEx C T Q (nx, l, x :: r, S2)) : mEx C T Q (pc, l, st, (w, Sh, MI, ML)) := by
  obtain ⟨rf, h⟩ := h
  exact x_vi hT hp h hb hc K
theorem y_en {D y n : Nat} {as : List Value} {S : mS} {Tb : Nat → Nat → mO} {Q : Option Value → mS → Prop} (hl : (men as n).length = (mM y).2.2.1) (hQ : ∀ v S', Q v S' → S.2.1.length ≤ S'.2.1.length ∧ S.1 ≤ S'.1) (k : mEx (mrnT Tb D) (Tb y) Q (0, men as n, [], S)) : ∃ v S', Q v S' ∧ mrnT Tb (D + 1) y as S v S' := by
  obtain ⟨N, hN⟩ := k
  obtain ⟨v, S', hq, h2⟩ := mex_det hN
  obtain ⟨q1, q2⟩ := hQ v S' hq
  exact ⟨v, S', hq, q1, q2, N, n, hl, h2⟩
end YR
