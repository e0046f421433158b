/-! walking a body over my machine: rules -/
abbrev mC : Type := Nat → List Value → mS → Option Value → mS → Prop
def mEx (C : mC) (T : Nat → mO) (Q : Option Value → mS → Prop) (f : mF) : Prop := ∃ N, mex T C Q N f
section XR
variable {C : mC} {T : Nat → mO} {Q : Option Value → mS → Prop} {pc : Nat} {l : mL} {st : mK} {S : mS}
theorem x_st {g : mF} (h : T pc l st S = some (.inl g)) (k : mEx C T Q g) : mEx C T Q (pc, l, st, S) := by
  obtain ⟨N, hN⟩ := k
  exact ⟨N + 1, by unfold mex; exact ⟨l, lle_rfl l, by dsimp only; rw [h]; exact hN⟩⟩
theorem x_kl {l' : mL} (h : lle l' l) (k : mEx C T Q (pc, l', st, S)) : mEx C T Q (pc, l, st, S) := by
  obtain ⟨N, hN⟩ := k
  cases N with
  | zero => exact hN.elim
  | succ N =>
    unfold mex at hN
    obtain ⟨L, hL, hN⟩ := hN
    exact ⟨N + 1, by unfold mex; exact ⟨L, lle_trans hL h, hN⟩⟩
theorem x_br {c : Prop} {inst : Decidable c} {a b : mF} (h : T pc l st S = @ite _ c inst (some (.inl a)) (some (.inl b))) (k1 : c → mEx C T Q a) (k2 : ¬ c → mEx C T Q b) : mEx C T Q (pc, l, st, S) := by
  by_cases hc : c
  · exact x_st (h.trans (if_pos hc)) (k1 hc)
  · exact x_st (h.trans (if_neg hc)) (k2 hc)
theorem x_ck {c : Prop} {inst : Decidable c} {a : mF} (h : T pc l st S = @ite _ c inst none (some (.inl a))) (hc : ¬ c) (k : mEx C T Q a) : mEx C T Q (pc, l, st, S) := x_st (h.trans (if_neg hc)) k
theorem x_ok {c : Prop} {inst : Decidable c} {a : mF} (h : T pc l st S = @ite _ c inst (some (.inl a)) none) (hc : c) (k : mEx C T Q a) : mEx C T Q (pc, l, st, S) := x_st (h.trans (if_pos hc)) k
theorem x_rt {r : Option Value × mS} (h : T pc l st S = some (.inr (.inl r))) (k : Q r.1 r.2) : mEx C T Q (pc, l, st, S) := ⟨1, by unfold mex; exact ⟨l, lle_rfl l, by dsimp only; rw [h]; exact k⟩⟩
theorem x_rz {c : Prop} {inst : Decidable c} {r : Option Value × mS} (h : T pc l st S = @ite _ c inst (some (.inr (.inl r))) none) (hc : c) (k : Q r.1 r.2) : mEx C T Q (pc, l, st, S) := x_rt (h.trans (if_pos hc)) k
theorem x_ret {v : Option Value} {S' : mS} (h : T pc l st S = some (.inr (.inl (v, S')))) (k : Q v S') : mEx C T Q (pc, l, st, S) := x_rt h k
theorem x_retz {c : Prop} {inst : Decidable c} {v : Option Value} {S' : mS} (h : T pc l st S = @ite _ c inst (some (.inr (.inl (v, S')))) none) (hc : c) (k : Q v S') : mEx C T Q (pc, l, st, S) := x_rt (h.trans (if_pos hc)) k
theorem x_ci {y : Nat} {as : List Value} {pc' : Nat} {l' : mL} {st' : mK} {S' S2 : mS} {x : Value} (h : T pc l st S = some (.inr (.inr (y, as, (pc', l', st', S'))))) (hc : C y as S' (some x) S2) (k : mEx C T Q (pc', l', x :: st', S2)) : mEx C T Q (pc, l, st, S) := by
  obtain ⟨N, hN⟩ := k
  exact ⟨N + 1, by unfold mex; exact ⟨l, lle_rfl l, by dsimp only; rw [h]; exact ⟨some x, S2, hc, hN⟩⟩⟩
theorem x_cv {y : Nat} {as : List Value} {pc' : Nat} {l' : mL} {st' : mK} {S' S2 : mS} (h : T pc l st S = some (.inr (.inr (y, as, (pc', l', st', S'))))) (hc : C y as S' none S2) (k : mEx C T Q (pc', l', st', S2)) : mEx C T Q (pc, l, st, S) := by
  obtain ⟨N, hN⟩ := k
  exact ⟨N + 1, by unfold mex; exact ⟨l, lle_rfl l, by dsimp only; rw [h]; exact ⟨none, S2, hc, hN⟩⟩⟩
end XR
theorem mnth_eq {α : Type} {k : α → Option mR} {x : α} : ∀ {l : List α} {i : Nat}, l[i]? = some x → mnth l i k = k x
  | [], _, h => by cases h
  | a :: t, 0, h => by
    have h : a = x := by simpa using h
    rw [h]; rfl
  | a :: t, j + 1, h => mnth_eq (l := t) (i := j) (by simpa using h)
theorem nI_ok {x : Int32} {i n : Nat} (hx : x = nI i) (hi : i < n) (hn : n < 10001) : ¬ (x < 0 ∨ n ≤ x.toNatClampNeg) ∧ x.toNatClampNeg = i := by
  subst hx
  have h1 : (nI i).toInt = (i : Int) := by
    show (Int32.ofNat i).toInt = _
    rw [Int32.toInt_ofNat_of_lt (by omega)]
  have h2 : (nI i).toNatClampNeg = i := by
    show (nI i).toInt.toNat = i
    rw [h1]; exact Int.toNat_natCast i
  refine ⟨?_, h2⟩
  rw [h2, Int32.lt_iff_toInt_lt, h1]
  intro q
  rcases q with q | q
  · have : (0 : Int32).toInt = 0 := rfl
    omega
  · omega
section XO
variable {C : mC} {T : Nat → mO} {Q : Option Value → mS → Prop} {pc nx : Nat} {l : mL} {r : mK} {w : Nat} {Sh : List mT} {MI : Nat → Nat → Int32} {ML : Nat → Nat → Int64} {a : Nat}
theorem x_gi {ci k : Nat} {rf : List (Option (Option Nat))} (hT : T pc = o_gi ci k nx) (h : Sh[a]? = some (0, ci, rf)) (hr : rf[k]? = some none) (K : mEx C T Q (nx, l, .int (MI a k) :: r, (w, Sh, MI, ML))) : mEx C T Q (pc, l, .ref a :: r, (w, Sh, MI, ML)) :=
  x_st (by rw [hT]; exact (mnth_eq h).trans (by show cond (Nat.beq ci ci) _ _ = _; rw [Nat.beq_refl, cond_true]; exact mnth_eq hr)) K
theorem x_gr {ci k b : Nat} {rf : List (Option (Option Nat))} (hT : T pc = o_gr ci k nx) (h : Sh[a]? = some (0, ci, rf)) (hr : rf[k]? = some (some (some b))) (K : mEx C T Q (nx, l, .ref b :: r, (w, Sh, MI, ML))) : mEx C T Q (pc, l, .ref a :: r, (w, Sh, MI, ML)) :=
  x_st (by rw [hT]; exact (mnth_eq h).trans (by show cond (Nat.beq ci ci) _ _ = _; rw [Nat.beq_refl, cond_true]; exact mnth_eq hr)) K
theorem x_pi {ci k : Nat} {x : Int32} {rf : List (Option (Option Nat))} (hT : T pc = o_pi ci k nx) (h : Sh[a]? = some (0, ci, rf)) (hr : rf[k]? = some none) (K : mEx C T Q (nx, l, r, (w, Sh, mup MI a (mput (MI a) k x), ML))) : mEx C T Q (pc, l, .int x :: .ref a :: r, (w, Sh, MI, ML)) :=
  x_st (by rw [hT]; exact (mnth_eq h).trans (by show cond (Nat.beq ci ci) _ _ = _; rw [Nat.beq_refl, cond_true]; exact mnth_eq hr)) K
theorem x_pz {ci k : Nat} {x : Int32} {rf : List (Option (Option Nat))} (hT : T pc = o_pz ci k nx) (h : Sh[a]? = some (0, ci, rf)) (hr : rf[k]? = some none) (hx : x = 0 ∨ x = 1) (K : mEx C T Q (nx, l, r, (w, Sh, mup MI a (mput (MI a) k x), ML))) : mEx C T Q (pc, l, .int x :: .ref a :: r, (w, Sh, MI, ML)) :=
  x_st (by rw [hT]; exact (mnth_eq h).trans (by show cond (Nat.beq ci ci) _ _ = _; rw [Nat.beq_refl, cond_true]; exact (mnth_eq hr).trans (if_pos hx))) K
theorem x_alen {t n : Nat} {rf : List (Option (Option Nat))} (hT : T pc = o_alen nx) (h : Sh[a]? = some (t + 1, n, rf)) (K : mEx C T Q (nx, l, .int (nI n) :: r, (w, Sh, MI, ML))) : mEx C T Q (pc, l, .ref a :: r, (w, Sh, MI, ML)) :=
  x_st (by rw [hT]; exact mnth_eq h) K
theorem x_ia {n i : Nat} {x : Int32} {rf : List (Option (Option Nat))} (hT : T pc = o_ia nx) (h : Sh[a]? = some (1, n, rf)) (hx : x = nI i) (hi : i < n) (hn : n < 10001) (K : mEx C T Q (nx, l, .int (MI a i) :: r, (w, Sh, MI, ML))) : mEx C T Q (pc, l, .int x :: .ref a :: r, (w, Sh, MI, ML)) := by
  obtain ⟨h1, h2⟩ := nI_ok hx hi hn
  exact x_st (by rw [hT]; exact (mnth_eq h).trans ((if_neg h1).trans (by rw [h2]))) K
theorem x_za {n i : Nat} {x : Int32} {rf : List (Option (Option Nat))} (hT : T pc = o_za nx) (h : Sh[a]? = some (3, n, rf)) (hx : x = nI i) (hi : i < n) (hn : n < 10001) (K : mEx C T Q (nx, l, .int (MI a i) :: r, (w, Sh, MI, ML))) : mEx C T Q (pc, l, .int x :: .ref a :: r, (w, Sh, MI, ML)) := by
  obtain ⟨h1, h2⟩ := nI_ok hx hi hn
  exact x_st (by rw [hT]; exact (mnth_eq h).trans ((if_neg h1).trans (by rw [h2]))) K
theorem x_la {n i : Nat} {x : Int32} {rf : List (Option (Option Nat))} (hT : T pc = o_la nx) (h : Sh[a]? = some (2, n, rf)) (hx : x = nI i) (hi : i < n) (hn : n < 10001) (K : mEx C T Q (nx, l, .long (ML a i) :: r, (w, Sh, MI, ML))) : mEx C T Q (pc, l, .int x :: .ref a :: r, (w, Sh, MI, ML)) := by
  obtain ⟨h1, h2⟩ := nI_ok hx hi hn
  exact x_st (by rw [hT]; exact (mnth_eq h).trans ((if_neg h1).trans (by rw [h2]))) K
theorem x_iast {n i : Nat} {x y : Int32} {rf : List (Option (Option Nat))} (hT : T pc = o_iast nx) (h : Sh[a]? = some (1, n, rf)) (hx : x = nI i) (hi : i < n) (hn : n < 10001) (K : mEx C T Q (nx, l, r, (w, Sh, mup MI a (mput (MI a) i y), ML))) : mEx C T Q (pc, l, .int y :: .int x :: .ref a :: r, (w, Sh, MI, ML)) := by
  obtain ⟨h1, h2⟩ := nI_ok hx hi hn
  exact x_st (by rw [hT]; exact (mnth_eq h).trans ((if_neg h1).trans (by rw [h2]))) K
theorem x_zast {n i : Nat} {x y : Int32} {rf : List (Option (Option Nat))} (hT : T pc = o_zast nx) (h : Sh[a]? = some (3, n, rf)) (hx : x = nI i) (hi : i < n) (hn : n < 10001) (K : mEx C T Q (nx, l, r, (w, Sh, mup MI a (mput (MI a) i (y &&& 1)), ML))) : mEx C T Q (pc, l, .int y :: .int x :: .ref a :: r, (w, Sh, MI, ML)) := by
  obtain ⟨h1, h2⟩ := nI_ok hx hi hn
  exact x_st (by rw [hT]; exact (mnth_eq h).trans ((if_neg h1).trans (by rw [h2]))) K
theorem x_last {n i : Nat} {x : Int32} {y : Int64} {rf : List (Option (Option Nat))} (hT : T pc = o_last nx) (h : Sh[a]? = some (2, n, rf)) (hx : x = nI i) (hi : i < n) (hn : n < 10001) (K : mEx C T Q (nx, l, r, (w, Sh, MI, mup ML a (mput (ML a) i y)))) : mEx C T Q (pc, l, .long y :: .int x :: .ref a :: r, (w, Sh, MI, ML)) := by
  obtain ⟨h1, h2⟩ := nI_ok hx hi hn
  exact x_st (by rw [hT]; exact (mnth_eq h).trans ((if_neg h1).trans (by rw [h2]))) K
theorem x_tl {j : UInt32} {N i : Nat} {f : Nat → Int32} {x : Int32} {S : mS} (hT : T pc = o_tl j N f nx) (hx : x = nI i) (hi : i < N) (hn : N < 10001) (K : mEx C T Q (nx, l, .int (f i) :: r, S)) : mEx C T Q (pc, l, .int x :: .float j :: r, S) := by
  obtain ⟨h1, h2⟩ := nI_ok hx hi hn
  exact x_st (by rw [hT]; exact (if_pos rfl).trans ((if_neg h1).trans (by rw [h2]))) K
theorem x_cp_ok {sx dx cx : Int32} {s d c n0 n1 : Nat} (hs : sx = nI s) (hd : dx = nI d) (hc : cx = nI c) (h0 : s + c ≤ n0) (h1 : d + c ≤ n1) (m0 : n0 < 10000) (m1 : n1 < 10000) : ¬ (sx < 0 ∨ dx < 0 ∨ cx < 0 ∨ n0 < sx.toNatClampNeg + cx.toNatClampNeg ∨ n1 < dx.toNatClampNeg + cx.toNatClampNeg) ∧ sx.toNatClampNeg = s ∧ dx.toNatClampNeg = d ∧ cx.toNatClampNeg = c := by
  obtain ⟨a1, a2⟩ := nI_ok (n := 10000) hs (by omega) (by omega) |> fun q => (⟨fun z => q.1 (Or.inl z), q.2⟩ : ¬ sx < 0 ∧ _)
  obtain ⟨b1, b2⟩ := nI_ok (n := 10000) hd (by omega) (by omega) |> fun q => (⟨fun z => q.1 (Or.inl z), q.2⟩ : ¬ dx < 0 ∧ _)
  obtain ⟨c1, c2⟩ := nI_ok (n := 10000) hc (by omega) (by omega) |> fun q => (⟨fun z => q.1 (Or.inl z), q.2⟩ : ¬ cx < 0 ∧ _)
  refine ⟨?_, a2, b2, c2⟩
  rw [a2, b2, c2]
  rintro (q | q | q | q | q)
  · exact a1 q
  · exact b1 q
  · exact c1 q
  · omega
  · omega
theorem x_cpi {b s d c n0 n1 : Nat} {sx dx cx : Int32} {f0 f1 : List (Option (Option Nat))} (hT : T pc = o_cpi nx) (ha : Sh[a]? = some (1, n0, f0)) (hb : Sh[b]? = some (1, n1, f1)) (hs : sx = nI s) (hd : dx = nI d) (hc : cx = nI c) (h0 : s + c ≤ n0) (h1 : d + c ≤ n1) (m0 : n0 < 10000) (m1 : n1 < 10000) (hr : Nat.ble (mcat r) 8 = true) (K : mEx C T Q (nx, l, r, (w, Sh, mup MI b (va_cpy (MI a) (MI b) s d c), ML))) : mEx C T Q (pc, l, .int cx :: .int dx :: .ref b :: .int sx :: .ref a :: r, (w, Sh, MI, ML)) := by
  obtain ⟨e1, e2, e3, e4⟩ := x_cp_ok hs hd hc h0 h1 m0 m1
  exact x_st (by rw [hT]; exact (mnth_eq ha).trans ((mnth_eq hb).trans ((if_neg e1).trans (by rw [hr, cond_true, e2, e3, e4])))) K
theorem x_cpj {b s d c n0 n1 : Nat} {sx dx cx : Int32} {f0 f1 : List (Option (Option Nat))} (hT : T pc = o_cpj nx) (ha : Sh[a]? = some (2, n0, f0)) (hb : Sh[b]? = some (2, n1, f1)) (hs : sx = nI s) (hd : dx = nI d) (hc : cx = nI c) (h0 : s + c ≤ n0) (h1 : d + c ≤ n1) (m0 : n0 < 10000) (m1 : n1 < 10000) (hr : Nat.ble (mcat r) 8 = true) (K : mEx C T Q (nx, l, r, (w, Sh, MI, mup ML b (va_cpy (ML a) (ML b) s d c)))) : mEx C T Q (pc, l, .int cx :: .int dx :: .ref b :: .int sx :: .ref a :: r, (w, Sh, MI, ML)) := by
  obtain ⟨e1, e2, e3, e4⟩ := x_cp_ok hs hd hc h0 h1 m0 m1
  exact x_st (by rw [hT]; exact (mnth_eq ha).trans ((mnth_eq hb).trans ((if_neg e1).trans (by rw [hr, cond_true, e2, e3, e4])))) K
theorem x_vi {y n ci : Nat} {as st : List Value} {rf : List (Option (Option Nat))} {x : Value} {S2 : mS} (hT : T pc = o_cv y n ci nx) (hp : ∀ k, mpop (n + 1) st [] k = k (.ref a :: as) r) (h : Sh[a]? = some (0, ci, rf)) (hb : Nat.ble (mcat r) 8 = true) (hc : C y (.ref a :: as) (w, Sh, MI, ML) (some x) S2) (K : mEx C T Q (nx, l, x :: r, S2)) : mEx C T Q (pc, l, st, (w, Sh, MI, ML)) :=
  x_ci (by rw [hT]; exact (hp _).trans ((mnth_eq h).trans (by show cond (Nat.beq ci ci) _ _ = _; rw [Nat.beq_refl, cond_true, hb, cond_true]))) hc K
theorem x_vv {y n ci : Nat} {as st : List Value} {rf : List (Option (Option Nat))} {S2 : mS} (hT : T pc = o_cv y n ci nx) (hp : ∀ k, mpop (n + 1) st [] k = k (.ref a :: as) r) (h : Sh[a]? = some (0, ci, rf)) (hb : Nat.ble (mcat r) 8 = true) (hc : C y (.ref a :: as) (w, Sh, MI, ML) none S2) (K : mEx C T Q (nx, l, r, S2)) : mEx C T Q (pc, l, st, (w, Sh, MI, ML)) :=
  x_cv (by rw [hT]; exact (hp _).trans ((mnth_eq h).trans (by show cond (Nat.beq ci ci) _ _ = _; rw [Nat.beq_refl, cond_true, hb, cond_true]))) hc K
theorem x_slen {q : UInt32} {j m : Nat} {S : mS} (hT : T pc = o_slen2 nx) (hq : q.toNat = 10 + j) (hm : mstl[j]? = some m) (hb : Nat.ble (mcat r) 8 = true) (K : mEx C T Q (nx, l, .int (nI m) :: r, S)) : mEx C T Q (pc, l, .float q :: r, S) :=
  x_st (by rw [hT]; simp only [o_slen2]; rw [hq, hb, cond_true, show 10 + j - 10 = j by omega, mnth_eq hm, show Nat.ble 10 (10 + j) = true from Nat.ble_eq_true_of_le (Nat.le_add_right _ _)]; rfl) K
theorem x_sat {q : UInt32} {j i : Nat} {x : Int32} {bs : List Int32} {S : mS} (hT : T pc = o_sat nx) (hq : q.toNat = 10 + j) (hm : mstb[j]? = some bs) (hb : Nat.ble (mcat r) 8 = true) (hx : x = nI i) (hi : i < bs.length) (hn : bs.length < 10001) (K : mEx C T Q (nx, l, .int (bs.getD i 0) :: r, S)) : mEx C T Q (pc, l, .int x :: .float q :: r, S) := by
  obtain ⟨h1, h2⟩ := nI_ok hx hi hn
  exact x_st (by rw [hT]; simp only [o_sat]; rw [hq, hb, cond_true, show 10 + j - 10 = j by omega, mnth_eq hm, show Nat.ble 10 (10 + j) = true from Nat.ble_eq_true_of_le (Nat.le_add_right _ _), cond_true, if_neg h1, h2]) K
theorem x_mulv {x y : Int32} {S : mS} (hT : T pc = o_mul nx) (K : ∀ z, z = x * y → mEx C T Q (nx, l, .int z :: r, S)) : mEx C T Q (pc, l, .int y :: .int x :: r, S) :=
  x_st (by rw [hT]; rfl) (K _ rfl)
/-- a switch: each case, then none of them -/
def wsw (x : Int32) (d : Nat) (P : Nat → Prop) : List (Int32 × Nat) → Prop
  | [] => P d
  | q :: t => (x = q.1 → P q.2) ∧ (¬ x = q.1 → wsw x d P t)
theorem x_sw_ {x : Int32} {d : Nat} {S : mS} {P : Nat → Prop} (hP : ∀ t, P t → mEx C T Q (t, l, r, S)) : ∀ {ps : List (Int32 × Nat)}, wsw x d P ps → ∃ t, mEx C T Q (t, l, r, S) ∧ ∀ k : Nat → Option mR, msw x d k ps = k t
  | [], h => ⟨d, hP _ h, fun _ => rfl⟩
  | q :: t, h => by
    by_cases hx : x = q.1
    · exact ⟨q.2, hP _ (h.1 hx), fun k => by simp only [msw]; exact if_pos hx⟩
    · obtain ⟨t', h1, h2⟩ := x_sw_ hP (h.2 hx)
      exact ⟨t', h1, fun k => by simp only [msw]; rw [if_neg hx]; exact h2 k⟩
theorem x_sw {x : Int32} {d : Nat} {S : mS} {ps : List (Int32 × Nat)} (hT : T pc = o_sw ps d) (h : wsw x d (fun t => mEx C T Q (t, l, r, S)) ps) : mEx C T Q (pc, l, .int x :: r, S) := by
  obtain ⟨t, h1, h2⟩ := x_sw_ (fun _ h => h) h
  exact x_st (by rw [hT]; simp only [o_sw]; rw [h2]) h1
end XO
/-- a run has one end that it speaks of -/
theorem mex_det {T : Nat → mO} {C : Nat → List Value → mS → Option Value → mS → Prop} {Q : Option Value → mS → Prop} : ∀ {N : Nat} {f : mF}, mex T C Q N f → ∃ v S', Q v S' ∧ mex T C (fun v2 S2 => v2 = v ∧ S2 = S') N f
  | 0, f, h => h.elim
  | N + 1, f, h => by
    unfold mex at h
    obtain ⟨L, hL, h⟩ := h
    cases hT : T f.1 L f.2.2.1 f.2.2.2 with
    | none => rw [hT] at h; cases h
    | some r =>
      rw [hT] at h
      match r, h, hT with
      | .inl g, h, hT =>
        obtain ⟨v, S', h1, h2⟩ := mex_det (N := N) h
        exact ⟨v, S', h1, by unfold mex; exact ⟨L, hL, by rw [hT]; exact h2⟩⟩
      | .inr (.inl r), h, hT => exact ⟨r.1, r.2, h, by unfold mex; exact ⟨L, hL, by rw [hT]; exact ⟨rfl, rfl⟩⟩⟩
      | .inr (.inr q), h, hT =>
        obtain ⟨v0, S0, hc, h⟩ := h
        obtain ⟨v, S', h1, h2⟩ := mex_det (N := N) h
        exact ⟨v, S', h1, by unfold mex; exact ⟨L, hL, by rw [hT]; exact ⟨v0, S0, hc, h2⟩⟩⟩
