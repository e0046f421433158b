/-! new cells -/
theorem m_new_q {G : mG} {p : Program} {l : Launch} {e : Env} {R : Room} {s : State} {m : MethodId} {args : Array Value} {below : List Frame} {meth : Method} {c : Code} {T : State} {locs : List Loc} {cells slots n0 q : Nat} {S : mS} {ee : va_E} (X : Stand p l e R s m args below meth c T locs (cells + 1) slots) (h0 : s.heap.size = G.1.1 + n0) (h1 : cells + n0 = S.2.1.length) (hP : va_P G.2.2.1 vwCl (mws G S ++ [(q, ee)]) T.heap) (hD : va_D (mA G) (mws G S ++ [(q, ee)])) : q = G.1.1 + S.2.1.length := by
  have a1 := X.heapSize
  have hl : (mws G S ++ [(q, ee)])[S.2.1.length]? = some (q, ee) := by
    rw [List.getElem?_append_right (by rw [mws_len]; omega), mws_len, Nat.sub_self]; rfl
  have a2 : q < T.heap.size := (hP _ _ hl).lt
  have a3 : G.1.1 ≤ q := hD.2 _ _ hl
  by_cases hz : q - G.1.1 < S.2.1.length
  · have hk : (mws G S ++ [(q, ee)])[q - G.1.1]? = some (G.1.1 + (q - G.1.1), mce G S (q - G.1.1)) := by
      rw [List.getElem?_append_left (by rw [mws_len]; exact hz), mws_at hz]
    have := hD.1 _ _ _ _ hk hl (by show G.1.1 + (q - G.1.1) = q; omega)
    omega
  · omega
theorem m_oldA {G : mG} {s : State} {n0 : Nat} (h0 : s.heap.size = G.1.1 + n0) : ∀ q, s.heap.size ≤ q → mA G q := fun q h => by
  show G.1.1 ≤ q
  omega
theorem mws_new {G : mG} {w w' : Nat} {Sh : List mT} {MI : Nat → Nat → Int32} {ML : Nat → Nat → Int64} {t : mT} {e : va_E} {f : Nat → Int32} (he : mce G (w', Sh ++ [t], mup MI Sh.length f, ML) Sh.length = e) : mws G (w, Sh, MI, ML) ++ [(G.1.1 + Sh.length, e)] = mws G (w', Sh ++ [t], mup MI Sh.length f, ML) :=
  mws_push (S := (w, Sh, MI, ML)) (by simp) he (fun j hj => by
    have hj : j < Sh.length := hj
    simp only [mce, List.getElem?_append_left hj, mup, if_neg (Nat.ne_of_lt hj)])
theorem mws_newL {G : mG} {w w' : Nat} {Sh : List mT} {MI : Nat → Nat → Int32} {ML : Nat → Nat → Int64} {t : mT} {e : va_E} {f : Nat → Int64} (he : mce G (w', Sh ++ [t], MI, mup ML Sh.length f) Sh.length = e) : mws G (w, Sh, MI, ML) ++ [(G.1.1 + Sh.length, e)] = mws G (w', Sh ++ [t], MI, mup ML Sh.length f) :=
  mws_push (S := (w, Sh, MI, ML)) (by simp) he (fun j hj => by
    have hj : j < Sh.length := hj
    simp only [mce, List.getElem?_append_left hj, mup, if_neg (Nat.ne_of_lt hj)])
theorem m_last {Sh : List mT} {t : mT} : (Sh ++ [t])[Sh.length]? = some t := by
  rw [List.getElem?_append_right (Nat.le_refl _), Nat.sub_self]; rfl
theorem k_new {l : Launch} {G : mG} {own : String} {cc : ByteArray} {nL : Nat} {ret : Option FieldType} {nm : String} {pc nx : Nat} {ci N ix : Nat} {C : String} {TT : u_T} {tt : Nat → FieldType} {rf : List (Option (Option Nat))} (hc : vwCl[ci]? = some (C, TT, N)) (hin : ∀ w ∈ u_ws C TT N, w ∈ mtbl) (hty : ∀ k, k < N → parseFieldDescriptor (TT k).2.2.1 = some (tt k)) (w1 : Cond.classLink own ix C ∈ mtbl) (w2 : Cond.instantiable C N ∈ mtbl) (w3 : Cond.initialized C ∈ mtbl)
    (hrf : ∀ j, j < N → (rf[j]? = some none ∧ defaultValue (tt j) = .int 0) ∨ (rf[j]? = some (some none) ∧ defaultValue (tt j) = .null)) (hdg : decode cc pc = .ok (.new ix, 3)) (hn : pc + 3 = nx) : mOk l G own cc nL ret nm pc (o_new ci N rf nx) := by
  intro D p e R s m args below meth c n0 w0 Q hC L st S r hr
  obtain ⟨w, Sh, MI, ML⟩ := S
  obtain ⟨z, g1, g2⟩ := mnth_spec hr
  have hz := mlits_at g1
  subst hz
  have g3 := mapp_spec g2
  cases g3
  subst hn
  refine And.intro (by simp) (And.intro (Nat.le_add_right _ _) (fun a1 a2 kk => ?_)); intro H locs ls cells slots h1 h2 hP hS hL
  have h1' : cells + n0 = Sh.length := h1
  have h2' : slots + w0 = w := h2
  have a1' : Sh.length + 1 ≤ n0 + R.cells := by simpa using a1
  have a2' : w + N ≤ w0 + R.slots := a2
  refine va_new hC.1 hC.2.1 hC.hts hin tt hty hC.ow (hC.hts _ w1) (hC.hts _ w2) (hC.hts _ w3) hC.hK hP mws_D hS (m_oldA hC.sz) hc (fs := mfl G rf (fun _ => 0)) (fun j hj => ?_) (by omega) (by omega) hdg (fun q H1 hP1 hD1 hS1 => ?_)
  · rcases hrf j hj with ⟨g4, g5⟩ | ⟨g4, g5⟩
    · rw [g5, vp_V, List.getD_eq_getElem?_getD, mfl_at g4]; rfl
    · rw [g5, vp_V, List.getD_eq_getElem?_getD, mfl_at g4]; rfl
  · intro T hT X
    subst hT
    have hq := m_new_q (S := (w, Sh, MI, ML)) X hC.sz h1 hP1 hD1
    subst hq
    exact kk T.heap locs ls (cells + 1) (slots + N) (by show cells + 1 + n0 = (Sh ++ [_]).length; simp; omega) (by show slots + N + w0 = w + N; omega) ((congrArg (fun ws => va_P G.2.2.1 vwCl ws T.heap) (mws_new (by rw [mce_o (S := (w + N, Sh ++ [(0, ci, rf)], mup MI Sh.length (fun _ => 0), ML)) m_last]; simp only [mup, if_pos]))).mp hP1) hS1 hL T rfl X
theorem m_newA {l : Launch} {G : mG} {own : String} {cc : ByteArray} {nL : Nat} {ret : Option FieldType} {nm : String} {p : Program} {e : Env} {R : Room} {s : State} {m : MethodId} {args : Array Value} {below : List Frame} {meth : Method} {c : Code} {H : Heap} {locs : List Loc} {cells slots n0 D : Nat} {Q : State → Prop} {pc : Nat} {ls : Array Slot} {rest : List Value} {S : mS} (hC : mCx G own cc nL ret nm D p R s m args meth c n0) {atype : ArrayType} {ty : FieldType} (hty : newarray.typeOf atype = ty) (w1 : Cond.arrayClass ty ∈ mtbl) {cA0 : ClassId} {t0 : Nat} (ht : (mty G)[t0]? = some (cA0, ty)) (hno : ∀ C, ty ≠ .object C)
    (h1 : cells + n0 = S.2.1.length) (hP : va_P G.2.2.1 vwCl (mws G S) H) (hS : va_S (mA G) s.heap H locs) {n : Int32} {N : Nat} {a0 : vp_A} (ha : ∀ cA : ClassId, vp_cell cA a0 = arrV cA N (fun _ => defaultValue ty)) (hn : ¬ n < 0) (hN : n.toNatClampNeg = N) (hbytes : N * componentBytes ty ≤ 536870912) (hcells : cells + 1 ≤ R.cells) (hslots : slots + N ≤ R.slots) (hdg : decode cc pc = .ok (.newarray atype, 2))
    (kk : ∀ (H1 : Heap), va_P G.2.2.1 vwCl (mws G S ++ [(G.1.1 + S.2.1.length, .inl (cA0, a0))]) H1 → va_S (mA G) s.heap H1 locs → W p l e R s m args below meth c H1 locs (cells + 1) (slots + N) Q (F0 m (pc + 2) ls (.ref (G.1.1 + S.2.1.length) :: rest))) : W p l e R s m args below meth c H locs cells slots Q (F0 m pc ls (.int n :: rest)) := by
  refine va_newa hC.1 hC.2.1 (by rw [hty]; exact hC.hts _ w1) hty hC.hK hP mws_D hS (m_oldA hC.sz) ha hn hN hbytes hcells hslots hdg (fun q cA H1 hK1 hP1 hD1 hS1 => ?_)
  have e1 : (mty G ++ [(cA, ty)])[(mty G).length]? = some (cA, ty) := by rw [List.getElem?_append_right (Nat.le_refl _), Nat.sub_self]; rfl
  have r1 := (hK1.2 _ _ e1).2
  have r2 := (hC.hK.2 _ _ ht).2
  have hcA : cA = cA0 := by
    cases ty with
    | object C => exact absurd rfl (hno C)
    | _ => exact Option.some.inj (r1.symm.trans r2)
  subst hcA
  intro T hT X
  subst hT
  have hq := m_new_q X hC.sz h1 hP1 hD1
  subst hq
  exact kk T.heap hP1 hS1 T rfl X
theorem k_nwi {l : Launch} {G : mG} {own : String} {cc : ByteArray} {nL : Nat} {ret : Option FieldType} {nm : String} {pc nx : Nat} {N : Nat} {atype : ArrayType} (hty : newarray.typeOf atype = .int) (w1 : Cond.arrayClass .int ∈ mtbl) (hneg : ¬ Int32.ofNat N < 0) (hN : (Int32.ofNat N).toNatClampNeg = N) (hb : N * componentBytes .int ≤ 536870912) (hdg : decode cc pc = .ok (.newarray atype, 2)) (hn : pc + 2 = nx) : mOk l G own cc nL ret nm pc (o_nwi N nx) := by
  intro D p e R s m args below meth c n0 w0 Q hC L st S r hr
  obtain ⟨w, Sh, MI, ML⟩ := S
  simp only [o_nwi] at hr
  split at hr
  rotate_left
  · cases hr
  split at hr
  rotate_left
  · cases hr
  next hz =>
  subst hz
  obtain ⟨z, g1, g2⟩ := mnth_spec hr
  have hz := mlits_at g1
  subst hz
  have g3 := mapp_spec g2
  cases g3
  subst hn
  refine And.intro (by simp) (And.intro (Nat.le_add_right _ _) (fun a1 a2 kk => ?_)); intro H locs ls cells slots h1 h2 hP hS hL
  have h1' : cells + n0 = Sh.length := h1
  have h2' : slots + w0 = w := h2
  have a1' : Sh.length + 1 ≤ n0 + R.cells := by simpa using a1
  have a2' : w + N ≤ w0 + R.slots := a2
  refine m_newA (S := (w, Sh, MI, ML)) hC hty w1 (t0 := 0) rfl (fun C h => by cases h) h1 hP hS (a0 := (N, .inl (fun _ => 0))) (fun _ => rfl) hneg hN hb (by omega) (by omega) hdg (fun H1 hP1 hS1 => ?_)
  exact kk H1 locs ls (cells + 1) (slots + N) (by show cells + 1 + n0 = (Sh ++ [_]).length; simp; omega) (by show slots + N + w0 = w + N; omega) ((congrArg (fun ws => va_P G.2.2.1 vwCl ws H1) (mws_new (by rw [mce_i (S := (w + N, Sh ++ [(1, N, [])], mup MI Sh.length (fun _ => 0), ML)) m_last]; simp only [mup, if_pos]))).mp hP1) hS1 hL
theorem k_nwj {l : Launch} {G : mG} {own : String} {cc : ByteArray} {nL : Nat} {ret : Option FieldType} {nm : String} {pc nx : Nat} {N : Nat} {atype : ArrayType} (hty : newarray.typeOf atype = .long) (w1 : Cond.arrayClass .long ∈ mtbl) (hneg : ¬ Int32.ofNat N < 0) (hN : (Int32.ofNat N).toNatClampNeg = N) (hb : N * componentBytes .long ≤ 536870912) (hdg : decode cc pc = .ok (.newarray atype, 2)) (hn : pc + 2 = nx) : mOk l G own cc nL ret nm pc (o_nwj N nx) := by
  intro D p e R s m args below meth c n0 w0 Q hC L st S r hr
  obtain ⟨w, Sh, MI, ML⟩ := S
  simp only [o_nwj] at hr
  split at hr
  rotate_left
  · cases hr
  split at hr
  rotate_left
  · cases hr
  next hz =>
  subst hz
  obtain ⟨z, g1, g2⟩ := mnth_spec hr
  have hz := mlits_at g1
  subst hz
  have g3 := mapp_spec g2
  cases g3
  subst hn
  refine And.intro (by simp) (And.intro (Nat.le_add_right _ _) (fun a1 a2 kk => ?_)); intro H locs ls cells slots h1 h2 hP hS hL
  have h1' : cells + n0 = Sh.length := h1
  have h2' : slots + w0 = w := h2
  have a1' : Sh.length + 1 ≤ n0 + R.cells := by simpa using a1
  have a2' : w + N ≤ w0 + R.slots := a2
  refine m_newA (S := (w, Sh, MI, ML)) hC hty w1 (t0 := 1) rfl (fun C h => by cases h) h1 hP hS (a0 := (N, .inr (.inl (fun _ => 0)))) (fun _ => rfl) hneg hN hb (by omega) (by omega) hdg (fun H1 hP1 hS1 => ?_)
  exact kk H1 locs ls (cells + 1) (slots + N) (by show cells + 1 + n0 = (Sh ++ [_]).length; simp; omega) (by show slots + N + w0 = w + N; omega) ((congrArg (fun ws => va_P G.2.2.1 vwCl ws H1) (mws_newL (by rw [mce_j (S := (w + N, Sh ++ [(2, N, [])], MI, mup ML Sh.length (fun _ => 0))) m_last]; simp only [mup, if_pos]))).mp hP1) hS1 hL
