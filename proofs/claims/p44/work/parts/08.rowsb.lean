/-! the rows over the world, calls, ends -/
theorem m_cond {b : Bool} {a : Option mR} {r : mR} (h : cond b a none = some r) : b = true ∧ a = some r := by
  cases b with
  | false => cases h
  | true => exact ⟨rfl, h⟩
theorem mlits_at {n z : Nat} (h : mlits[n]? = some z) : z = n := by
  have e : mlits = List.range 120 := by decide +kernel
  rw [e] at h
  obtain ⟨h1, h2⟩ := List.getElem?_eq_some_iff.mp h
  simp at h2
  exact h2.symm
theorem mce_o {G : mG} {S : mS} {k ci : Nat} {rf : List (Option (Option Nat))} (h : S.2.1[k]? = some (0, ci, rf)) : mce G S k = .inr (ci, mfl G rf (S.2.2.1 k)) := by simp [mce, h]
theorem mce_i {G : mG} {S : mS} {k n : Nat} {rf : List (Option (Option Nat))} (h : S.2.1[k]? = some (1, n, rf)) : mce G S k = .inl (G.2.1.1, n, .inl (S.2.2.1 k)) := by simp [mce, h]
theorem mce_j {G : mG} {S : mS} {k n : Nat} {rf : List (Option (Option Nat))} (h : S.2.1[k]? = some (2, n, rf)) : mce G S k = .inl (G.2.1.2.1, n, .inr (.inl (S.2.2.2 k))) := by simp [mce, h]
theorem mce_z {G : mG} {S : mS} {k n : Nat} {rf : List (Option (Option Nat))} (h : S.2.1[k]? = some (3, n, rf)) : mce G S k = .inl (G.2.1.2.2, n, .inl (S.2.2.1 k)) := by simp [mce, h]
theorem mws_o {G : mG} {S : mS} {k ci : Nat} {rf : List (Option (Option Nat))} (h : S.2.1[k]? = some (0, ci, rf)) : (mws G S)[k]? = some (G.1.1 + k, .inr (ci, mfl G rf (S.2.2.1 k))) := by
  rw [mws_at (List.getElem?_eq_some_iff.mp h).1, mce_o h]
theorem mws_i {G : mG} {S : mS} {k n : Nat} {rf : List (Option (Option Nat))} (h : S.2.1[k]? = some (1, n, rf)) : (mws G S)[k]? = some (G.1.1 + k, .inl (G.2.1.1, n, .inl (S.2.2.1 k))) := by
  rw [mws_at (List.getElem?_eq_some_iff.mp h).1, mce_i h]
theorem mws_j {G : mG} {S : mS} {k n : Nat} {rf : List (Option (Option Nat))} (h : S.2.1[k]? = some (2, n, rf)) : (mws G S)[k]? = some (G.1.1 + k, .inl (G.2.1.2.1, n, .inr (.inl (S.2.2.2 k)))) := by
  rw [mws_at (List.getElem?_eq_some_iff.mp h).1, mce_j h]
theorem mws_z {G : mG} {S : mS} {k n : Nat} {rf : List (Option (Option Nat))} (h : S.2.1[k]? = some (3, n, rf)) : (mws G S)[k]? = some (G.1.1 + k, .inl (G.2.1.2.2, n, .inl (S.2.2.1 k))) := by
  rw [mws_at (List.getElem?_eq_some_iff.mp h).1, mce_z h]
theorem mce_up {G : mG} {w : Nat} {Sh : List mT} {MI : Nat → Nat → Int32} {ML : Nat → Nat → Int64} {a j : Nat} {f : Nat → Int32} (h : j ≠ a) : mce G (w, Sh, mup MI a f, ML) j = mce G (w, Sh, MI, ML) j := by
  simp [mce, mup, h]
theorem mce_uL {G : mG} {w : Nat} {Sh : List mT} {MI : Nat → Nat → Int32} {ML : Nat → Nat → Int64} {a j : Nat} {f : Nat → Int64} (h : j ≠ a) : mce G (w, Sh, MI, mup ML a f) j = mce G (w, Sh, MI, ML) j := by
  simp [mce, mup, h]
theorem m_size {l : Launch} {G : mG} {p : Program} {e : Env} {R : Room} {s : State} {m : MethodId} {args : Array Value} {below : List Frame} {meth : Method} {c : Code} {T : State} {locs : List Loc} {cells slots n0 : Nat} {S : mS} (X : Stand p l e R s m args below meth c T locs cells slots) (h0 : s.heap.size = G.1.1 + n0) (h1 : cells + n0 = S.2.1.length) (hP : va_P G.2.2.1 vwCl (mws G S) T.heap) (hS : va_S (mA G) s.heap T.heap locs) : T.heap.size = G.1.1 + S.2.1.length := by
  have a1 := X.heapSize
  have a2 := hS.1
  by_cases hz : S.2.1.length = 0
  · omega
  · have a3 := (hP (S.2.1.length - 1) _ (mws_at (by omega))).lt
    have a4 : G.1.1 + (S.2.1.length - 1) < T.heap.size := a3
    omega
theorem mws_putI {G : mG} {w : Nat} {Sh : List mT} {MI : Nat → Nat → Int32} {ML : Nat → Nat → Int64} {a ci k : Nat} {rf : List (Option (Option Nat))} {x : Int32} (g1 : Sh[a]? = some (0, ci, rf)) (g4 : rf[k]? = some none) :
    (mws G (w, Sh, MI, ML)).set a (G.1.1 + a, .inr (ci, (mfl G rf (MI a)).set k (.int x))) = mws G (w, Sh, mup MI a (mput (MI a) k x), ML) := by
  refine mws_set rfl ?_ (fun j hj => mce_up hj)
  rw [mce_o (S := (w, Sh, mup MI a (mput (MI a) k x), ML)) g1]
  simp only [mup, if_pos]
  rw [mfl_put g4]
theorem mws_arI {G : mG} {w : Nat} {Sh : List mT} {MI : Nat → Nat → Int32} {ML : Nat → Nat → Int64} {a n : Nat} {rf : List (Option (Option Nat))} {f : Nat → Int32} (g1 : Sh[a]? = some (1, n, rf)) :
    (mws G (w, Sh, MI, ML)).set a (G.1.1 + a, .inl (G.2.1.1, n, .inl f)) = mws G (w, Sh, mup MI a f, ML) := by
  refine mws_set rfl ?_ (fun j hj => mce_up hj)
  rw [mce_i (S := (w, Sh, mup MI a f, ML)) g1]
  simp only [mup, if_pos]
theorem mws_arZ {G : mG} {w : Nat} {Sh : List mT} {MI : Nat → Nat → Int32} {ML : Nat → Nat → Int64} {a n : Nat} {rf : List (Option (Option Nat))} {f : Nat → Int32} (g1 : Sh[a]? = some (3, n, rf)) :
    (mws G (w, Sh, MI, ML)).set a (G.1.1 + a, .inl (G.2.1.2.2, n, .inl f)) = mws G (w, Sh, mup MI a f, ML) := by
  refine mws_set rfl ?_ (fun j hj => mce_up hj)
  rw [mce_z (S := (w, Sh, mup MI a f, ML)) g1]
  simp only [mup, if_pos]
theorem mws_arJ {G : mG} {w : Nat} {Sh : List mT} {MI : Nat → Nat → Int32} {ML : Nat → Nat → Int64} {a n : Nat} {rf : List (Option (Option Nat))} {f : Nat → Int64} (g1 : Sh[a]? = some (2, n, rf)) :
    (mws G (w, Sh, MI, ML)).set a (G.1.1 + a, .inl (G.2.1.2.1, n, .inr (.inl f))) = mws G (w, Sh, MI, mup ML a f) := by
  refine mws_set rfl ?_ (fun j hj => mce_uL hj)
  rw [mce_j (S := (w, Sh, MI, mup ML a f)) g1]
  simp only [mup, if_pos]
theorem mws_ref {G : mG} {w : Nat} {Sh : List mT} {MI : Nat → Nat → Int32} {ML : Nat → Nat → Int64} {a ci k b : Nat} {rf : List (Option (Option Nat))} (g1 : Sh[a]? = some (0, ci, rf)) (g6 : k < rf.length) :
    (mws G (w, Sh, MI, ML)).set a (G.1.1 + a, .inr (ci, (mfl G rf (MI a)).set k (.ref (G.1.1 + b)))) = mws G (w, Sh.set a (0, ci, rf.set k (some (some b))), MI, ML) := by
  have hl : a < Sh.length := (List.getElem?_eq_some_iff.mp g1).1
  refine mws_set (by simp) ?_ (fun j hj => ?_)
  · rw [mce_o (S := (w, Sh.set a (0, ci, rf.set k (some (some b))), MI, ML)) (List.getElem?_set_self hl), mfl_ref g6]
  · simp only [mce, List.getElem?_set_ne (fun q => hj q.symm)]
theorem mws_zz {G : mG} {S : mS} {k n q : Nat} {rf : List (Option (Option Nat))} (h : S.2.1[k]? = some (q + 3, n, rf)) : (mws G S)[k]? = some (G.1.1 + k, .inl (G.2.1.2.2, n, .inl (S.2.2.1 k))) := by
  rw [mws_at (List.getElem?_eq_some_iff.mp h).1]
  simp only [mce, h]

theorem k_gi {l : Launch} {G : mG} {own : String} {cc : ByteArray} {nL : Nat} {ret : Option FieldType} {nm : String} {pc nx : Nat} {ci N ix k : Nat} {C : String} {TT : u_T} (hc : vwCl[ci]? = some (C, TT, N)) (hin : ∀ w ∈ u_ws C TT N, w ∈ mtbl) (hk : k < N) (hw : Cond.fieldLink own ix (TT k).1 (TT k).2.1 (TT k).2.2.1 ∈ mtbl) (hdg : decode cc pc = .ok (.getfield ix, 3)) (hn : pc + 3 = nx) : mOk l G own cc nL ret nm pc (o_gi ci k nx) := by
  intro D p e R s m args below meth c n0 w0 Q hC L st S r hr
  obtain ⟨w, Sh, MI, ML⟩ := S
  simp only [o_gi] at hr
  split at hr
  · obtain ⟨t, g1, g2⟩ := mnth_spec hr
    split at g2
    · obtain ⟨e1, g3⟩ := m_cond g2
      have e1 := Nat.eq_of_beq_eq_true e1
      subst e1
      obtain ⟨q, g4, g5⟩ := mnth_spec g3
      split at g5
      · cases g5
        subst hn
        refine And.intro (Nat.le_refl _) (And.intro (Nat.le_refl _) (fun _ _ kk => ?_)); intro H locs ls cells slots h1 h2 hP hS hL
        exact va_get hC.1 hC.2.1 hC.hts hin hC.ow hC.hK hP _ (mws_o g1) hc k hk (hC.hts _ hw) (fun _ h9 => h9) (mfl_at g4) hdg (kk H locs ls cells slots h1 h2 hP hS hL)
      · cases g5
    · cases g2
  · cases hr
theorem k_gr {l : Launch} {G : mG} {own : String} {cc : ByteArray} {nL : Nat} {ret : Option FieldType} {nm : String} {pc nx : Nat} {ci N ix k : Nat} {C : String} {TT : u_T} (hc : vwCl[ci]? = some (C, TT, N)) (hin : ∀ w ∈ u_ws C TT N, w ∈ mtbl) (hk : k < N) (hw : Cond.fieldLink own ix (TT k).1 (TT k).2.1 (TT k).2.2.1 ∈ mtbl) (hdg : decode cc pc = .ok (.getfield ix, 3)) (hn : pc + 3 = nx) : mOk l G own cc nL ret nm pc (o_gr ci k nx) := by
  intro D p e R s m args below meth c n0 w0 Q hC L st S r hr
  obtain ⟨w, Sh, MI, ML⟩ := S
  simp only [o_gr] at hr
  split at hr
  · obtain ⟨t, g1, g2⟩ := mnth_spec hr
    split at g2
    · obtain ⟨e1, g3⟩ := m_cond g2
      have e1 := Nat.eq_of_beq_eq_true e1
      subst e1
      obtain ⟨q, g4, g5⟩ := mnth_spec g3
      split at g5
      · cases g5
        subst hn
        refine And.intro (Nat.le_refl _) (And.intro (Nat.le_refl _) (fun _ _ kk => ?_)); intro H locs ls cells slots h1 h2 hP hS hL
        exact va_get hC.1 hC.2.1 hC.hts hin hC.ow hC.hK hP _ (mws_o g1) hc k hk (hC.hts _ hw) (fun _ h9 => h9) (mfl_at g4) hdg (kk H locs ls cells slots h1 h2 hP hS hL)
      · cases g5
    · cases g2
  · cases hr
theorem k_pi {l : Launch} {G : mG} {own : String} {cc : ByteArray} {nL : Nat} {ret : Option FieldType} {nm : String} {pc nx : Nat} {ci N ix k : Nat} {C : String} {TT : u_T} (hc : vwCl[ci]? = some (C, TT, N)) (hin : ∀ w ∈ u_ws C TT N, w ∈ mtbl) (hk : k < N) (hw : Cond.fieldLink own ix (TT k).1 (TT k).2.1 (TT k).2.2.1 ∈ mtbl) {tt : Nat → FieldType} (hty : ∀ k, k < N → parseFieldDescriptor (TT k).2.2.1 = some (tt k)) (hnm : ∀ a, a < N → ∀ b, b < N → a ≠ b → (TT a).2.1 ≠ (TT b).2.1) (hfin : (TT k).2.2.2 = false) (hd : parseFieldDescriptor (TT k).2.2.1 = some .int) (hdg : decode cc pc = .ok (.putfield ix, 3)) (hn : pc + 3 = nx) : mOk l G own cc nL ret nm pc (o_pi ci k nx) := by
  intro D p e R s m args below meth c n0 w0 Q hC L st S r hr
  obtain ⟨w, Sh, MI, ML⟩ := S
  simp only [o_pi] at hr
  split at hr
  · obtain ⟨t, g1, g2⟩ := mnth_spec hr
    split at g2
    · obtain ⟨e1, g3⟩ := m_cond g2
      have e1 := Nat.eq_of_beq_eq_true e1
      subst e1
      obtain ⟨q, g4, g5⟩ := mnth_spec g3
      split at g5
      · cases g5
        subst hn
        refine And.intro (Nat.le_refl _) (And.intro (Nat.le_refl _) (fun _ _ kk => ?_)); intro H locs ls cells slots h1 h2 hP hS hL
        refine va_put hC.1 hC.2.1 hC.hts hin tt hty hnm hC.ow hC.hK hP mws_D hS _ (mws_o g1) hc k hk (hC.hts _ hw) (fun _ h9 => h9) hfin hd rfl rfl (by rw [mfl_len]; exact (List.getElem?_eq_some_iff.mp g4).1) hdg (fun H1 locs1 hP1 _ hS1 => ?_)
        exact kk H1 locs1 ls cells slots h1 h2 ((congrArg (fun ws => va_P G.2.2.1 vwCl ws H1) (mws_putI g1 g4)).mp hP1) hS1 hL
      · cases g5
    · cases g2
  · cases hr
theorem k_pz {l : Launch} {G : mG} {own : String} {cc : ByteArray} {nL : Nat} {ret : Option FieldType} {nm : String} {pc nx : Nat} {ci N ix k : Nat} {C : String} {TT : u_T} (hc : vwCl[ci]? = some (C, TT, N)) (hin : ∀ w ∈ u_ws C TT N, w ∈ mtbl) (hk : k < N) (hw : Cond.fieldLink own ix (TT k).1 (TT k).2.1 (TT k).2.2.1 ∈ mtbl) {tt : Nat → FieldType} (hty : ∀ k, k < N → parseFieldDescriptor (TT k).2.2.1 = some (tt k)) (hnm : ∀ a, a < N → ∀ b, b < N → a ≠ b → (TT a).2.1 ≠ (TT b).2.1) (hfin : (TT k).2.2.2 = false) (hd : parseFieldDescriptor (TT k).2.2.1 = some .boolean) (hdg : decode cc pc = .ok (.putfield ix, 3)) (hn : pc + 3 = nx) : mOk l G own cc nL ret nm pc (o_pz ci k nx) := by
  intro D p e R s m args below meth c n0 w0 Q hC L st S r hr
  obtain ⟨w, Sh, MI, ML⟩ := S
  simp only [o_pz] at hr
  split at hr
  · obtain ⟨t, g1, g2⟩ := mnth_spec hr
    split at g2
    · obtain ⟨e1, g3⟩ := m_cond g2
      have e1 := Nat.eq_of_beq_eq_true e1
      subst e1
      obtain ⟨q, g4, g5⟩ := mnth_spec g3
      split at g5
      · split at g5
        rotate_left
        · cases g5
        rename_i hz
        cases g5
        subst hn
        refine And.intro (Nat.le_refl _) (And.intro (Nat.le_refl _) (fun _ _ kk => ?_)); intro H locs ls cells slots h1 h2 hP hS hL
        refine va_put hC.1 hC.2.1 hC.hts hin tt hty hnm hC.ow hC.hK hP mws_D hS _ (mws_o g1) hc k hk (hC.hts _ hw) (fun _ h9 => h9) hfin hd (by rcases hz with rfl | rfl <;> rfl) (by rcases hz with rfl | rfl <;> rfl) (by rw [mfl_len]; exact (List.getElem?_eq_some_iff.mp g4).1) hdg (fun H1 locs1 hP1 _ hS1 => ?_)
        exact kk H1 locs1 ls cells slots h1 h2 ((congrArg (fun ws => va_P G.2.2.1 vwCl ws H1) (mws_putI g1 g4)).mp hP1) hS1 hL
      · cases g5
    · cases g2
  · cases hr
theorem k_pr {l : Launch} {G : mG} {own : String} {cc : ByteArray} {nL : Nat} {ret : Option FieldType} {nm : String} {pc nx : Nat} {ci N ix k : Nat} {C : String} {TT : u_T} (hc : vwCl[ci]? = some (C, TT, N)) (hin : ∀ w ∈ u_ws C TT N, w ∈ mtbl) (hk : k < N) (hw : Cond.fieldLink own ix (TT k).1 (TT k).2.1 (TT k).2.2.1 ∈ mtbl) {tt : Nat → FieldType} (hty : ∀ k, k < N → parseFieldDescriptor (TT k).2.2.1 = some (tt k)) (hnm : ∀ a, a < N → ∀ b, b < N → a ≠ b → (TT a).2.1 ≠ (TT b).2.1) {ty : FieldType} (hfin : (TT k).2.2.2 = true) (hd : parseFieldDescriptor (TT k).2.2.1 = some ty) (hnr : ∀ a, narrow ty (.ref a) = .ref a) (hft : ∀ a, fits ty (.ref a) = true) (hi : nm = "<init>") (ho : (TT k).1 = own) (hdg : decode cc pc = .ok (.putfield ix, 3)) (hn : pc + 3 = nx) : mOk l G own cc nL ret nm pc (o_pr ci k nx) := by
  intro D p e R s m args below meth c n0 w0 Q hC L st S r hr
  obtain ⟨w, Sh, MI, ML⟩ := S
  simp only [o_pr] at hr
  split at hr
  · obtain ⟨t, g1, g2⟩ := mnth_spec hr
    split at g2
    · obtain ⟨e1, g3⟩ := m_cond g2
      have e1 := Nat.eq_of_beq_eq_true e1
      subst e1
      obtain ⟨q, g4, g5⟩ := mnth_spec g3
      split at g5
      · obtain ⟨g6, g7⟩ := mrep_spec g5
        obtain ⟨g8, g9⟩ := mrep_spec g7
        cases g9
        subst hn
        refine And.intro (by simp) (And.intro (Nat.le_refl _) (fun _ _ kk => ?_)); intro H locs ls cells slots h1 h2 hP hS hL
        refine va_putF hC.1 hC.2.1 hC.hts hin tt hty hnm hC.ow hC.hK hP mws_D hS _ (mws_o g1) hc k hk (hC.hts _ hw) (fun _ h9 => h9) hfin (hC.2.2.2.2.1.trans hi) ho hd (hnr _) (hft _) (by rw [mfl_len]; exact g6) hdg (fun H1 locs1 hP1 _ hS1 => ?_)
        exact kk H1 locs1 ls cells slots (by simpa using h1) h2 ((congrArg (fun ws => va_P G.2.2.1 vwCl ws H1) (mws_ref g1 g6)).mp hP1) hS1 hL
      · cases g5
    · cases g2
  · cases hr
theorem k_ia {l : Launch} {G : mG} {own : String} {cc : ByteArray} {nL : Nat} {ret : Option FieldType} {nm : String} {pc nx : Nat} (hdg : decode cc pc = .ok (.iaload, 1)) (hn : pc + 1 = nx) : mOk l G own cc nL ret nm pc (o_ia nx) := by
  intro D p e R s m args below meth c n0 w0 Q hC L st S r hr
  obtain ⟨w, Sh, MI, ML⟩ := S
  simp only [o_ia] at hr
  split at hr
  · obtain ⟨t, g1, g2⟩ := mnth_spec hr
    split at g2
    · split at g2
      · cases g2
      next hz =>
        cases g2
        subst hn
        refine And.intro (Nat.le_refl _) (And.intro (Nat.le_refl _) (fun _ _ kk => ?_)); intro H locs ls cells slots h1 h2 hP hS hL
        exact va_iald hC.1 hC.2.1 hC.hK hP _ 0 (mws_i g1) rfl hz hdg (kk H locs ls cells slots h1 h2 hP hS hL)
    · cases g2
  · cases hr
theorem k_la {l : Launch} {G : mG} {own : String} {cc : ByteArray} {nL : Nat} {ret : Option FieldType} {nm : String} {pc nx : Nat} (hdg : decode cc pc = .ok (.laload, 1)) (hn : pc + 1 = nx) : mOk l G own cc nL ret nm pc (o_la nx) := by
  intro D p e R s m args below meth c n0 w0 Q hC L st S r hr
  obtain ⟨w, Sh, MI, ML⟩ := S
  simp only [o_la] at hr
  split at hr
  · obtain ⟨t, g1, g2⟩ := mnth_spec hr
    split at g2
    · split at g2
      · cases g2
      next hz =>
        cases g2
        subst hn
        refine And.intro (Nat.le_refl _) (And.intro (Nat.le_refl _) (fun _ _ kk => ?_)); intro H locs ls cells slots h1 h2 hP hS hL
        exact va_lald hC.1 hC.2.1 hC.hK hP _ 1 (mws_j g1) rfl hz hdg (kk H locs ls cells slots h1 h2 hP hS hL)
    · cases g2
  · cases hr
theorem k_iast {l : Launch} {G : mG} {own : String} {cc : ByteArray} {nL : Nat} {ret : Option FieldType} {nm : String} {pc nx : Nat} (hdg : decode cc pc = .ok (.iastore, 1)) (hn : pc + 1 = nx) : mOk l G own cc nL ret nm pc (o_iast nx) := by
  intro D p e R s m args below meth c n0 w0 Q hC L st S r hr
  obtain ⟨w, Sh, MI, ML⟩ := S
  simp only [o_iast] at hr
  split at hr
  · obtain ⟨t, g1, g2⟩ := mnth_spec hr
    split at g2
    · split at g2
      · cases g2
      next hz =>
        cases g2
        subst hn
        refine And.intro (Nat.le_refl _) (And.intro (Nat.le_refl _) (fun _ _ kk => ?_)); intro H locs ls cells slots h1 h2 hP hS hL
        refine va_iast hC.1 hC.2.1 hC.hK hP mws_D hS _ 0 (mws_i g1) rfl hz hdg (fun H1 locs1 hP1 _ hS1 => ?_)
        exact kk H1 locs1 ls cells slots h1 h2 ((congrArg (fun ws => va_P G.2.2.1 vwCl ws H1) (mws_arI g1)).mp hP1) hS1 hL
    · cases g2
  · cases hr
theorem k_last {l : Launch} {G : mG} {own : String} {cc : ByteArray} {nL : Nat} {ret : Option FieldType} {nm : String} {pc nx : Nat} (hdg : decode cc pc = .ok (.lastore, 1)) (hn : pc + 1 = nx) : mOk l G own cc nL ret nm pc (o_last nx) := by
  intro D p e R s m args below meth c n0 w0 Q hC L st S r hr
  obtain ⟨w, Sh, MI, ML⟩ := S
  simp only [o_last] at hr
  split at hr
  · obtain ⟨t, g1, g2⟩ := mnth_spec hr
    split at g2
    · split at g2
      · cases g2
      next hz =>
        cases g2
        subst hn
        refine And.intro (Nat.le_refl _) (And.intro (Nat.le_refl _) (fun _ _ kk => ?_)); intro H locs ls cells slots h1 h2 hP hS hL
        refine va_last hC.1 hC.2.1 hC.hK hP mws_D hS _ 1 (mws_j g1) rfl hz hdg (fun H1 locs1 hP1 _ hS1 => ?_)
        exact kk H1 locs1 ls cells slots h1 h2 ((congrArg (fun ws => va_P G.2.2.1 vwCl ws H1) (mws_arJ g1)).mp hP1) hS1 hL
    · cases g2
  · cases hr
theorem k_alen {l : Launch} {G : mG} {own : String} {cc : ByteArray} {nL : Nat} {ret : Option FieldType} {nm : String} {pc nx : Nat} (hdg : decode cc pc = .ok (.arraylength, 1)) (hn : pc + 1 = nx) : mOk l G own cc nL ret nm pc (o_alen nx) := by
  intro D p e R s m args below meth c n0 w0 Q hC L st S r hr
  obtain ⟨w, Sh, MI, ML⟩ := S
  simp only [o_alen] at hr
  split at hr
  · obtain ⟨t, g1, g2⟩ := mnth_spec hr
    split at g2
    · cases g2
    · next kd n rf =>
      cases g2
      subst hn
      refine And.intro (Nat.le_refl _) (And.intro (Nat.le_refl _) (fun _ _ kk => ?_)); intro H locs ls cells slots h1 h2 hP hS hL
      match kd, g1 with
      | 0, g1 => exact va_alen hC.1 hC.2.1 hC.hK hP _ 0 (mws_i g1) rfl rfl hdg (kk H locs ls cells slots h1 h2 hP hS hL)
      | 1, g1 => exact va_alen hC.1 hC.2.1 hC.hK hP _ 1 (mws_j g1) rfl rfl hdg (kk H locs ls cells slots h1 h2 hP hS hL)
      | q + 2, g1 => exact va_alen hC.1 hC.2.1 hC.hK hP _ 2 (mws_zz (q := q) g1) rfl rfl hdg (kk H locs ls cells slots h1 h2 hP hS hL)
  · cases hr
