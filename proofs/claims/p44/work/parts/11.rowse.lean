/-! calls -/
theorem m_call {p : Program} {l : Launch} {e : Env} {R : Room} {s : State} {m : MethodId} {args : Array Value} {below : List Frame} {meth : Method} {c : Code} {H : Heap} {locs : List Loc} {cells slots mc ms : Nat} {Q : State → Prop} {pc : Nat} {ls : Array Slot} {st0 rest : List Value} {A : Nat → Prop} {v1 : Option Value} {Qp : State → Prop}
    (hr : va_Run p l e R s m args below meth c H locs cells slots mc ms (F0 m pc ls st0) rest (fun st oc t => (oc = .returned v1 ∧ Qp t) ∧ va_F A st t) A) (hS : va_S A s.heap H locs)
    (kk : ∀ (t : State) (locs1 : List Loc), Qp t → va_S A s.heap t.heap locs1 → W p l e R s m args below meth c t.heap locs1 (cells + mc) (slots + ms) Q (F0 m (pc + 3) ls (v1.toList ++ rest))) : W p l e R s m args below meth c H locs cells slots Q (F0 m pc ls st0) := by
  intro T hT X
  obtain ⟨v, st₀, t, T', L, h0, X', hL, e1, e2, ⟨⟨hv, hp⟩, hz, hk⟩, st⟩ := hr T hT X
  cases hv
  rw [h0] at hz hk
  obtain ⟨t2, a1, b1⟩ := kk t (locs ++ L) hp ⟨Nat.le_trans hS.1 hz, fun q h1 h2 => (hk q (Nat.lt_of_lt_of_le h1 hS.1) h2).trans (hS.2.1 q h1 h2), fun q hq => by
      rcases List.mem_append.mp hq with h | h
      · exact hS.2.2 q h
      · exact hL q h⟩ T' e1 X'
  exact ⟨t2, st t2 a1, b1⟩
theorem m_goodC {y : MethodName} {b : ByteArray} {n : Nat} {rt : Option FieldType} (h : Cond.code y b n rt ∈ mtbl) : ∀ w ∈ (Cond.code y b n rt :: mtbl), w ∈ mtbl := fun w hw => by
  rcases List.mem_cons.mp hw with rfl | hw
  · exact h
  · exact hw
section KE
variable {l : Launch} {G : mG} {own : String} {cc : ByteArray} {nL : Nat} {ret : Option FieldType} {nm : String} {pc nx : Nat}
theorem m_pre {s : State} {H : Heap} {locs : List Loc} {n0 D : Nat} {p : Program} {R : Room} {m : MethodId} {args : Array Value} {meth : Method} {c : Code} {S : mS} (hC : mCx G own cc nL ret nm D p R s m args meth c n0) (hz : H.size = G.1.1 + S.2.1.length) (hP : va_P G.2.2.1 vwCl (mws G S) H) (hS : va_S (mA G) s.heap H locs) {U : State} (hU : U.heap = H) (hW : s.WarmedH U.vm) : mW G S U := by
  subst hU
  exact ⟨hz, hP, va_K.moved hW.alike hC.hK, hC.sf.pass hW (by have := hC.sz; omega) (fun q h1 h2 => hS.2.1 q h1 h2)⟩
theorem k_cv {ix y n ci Nf mL2 : Nat} {Y : MethodName} {B : ByteArray} {rt : Option FieldType} {C : String} {TT : u_T} (hM : mM y = (Y, B, mL2, rt)) (hc : vwCl[ci]? = some (C, TT, Nf)) (hm : mL2 ≤ 21)
    (w1 : Cond.methodLink own ix Y ∈ mtbl) (w2 : Cond.instanceMethod Y ∈ mtbl) (w3 : Cond.selects C Y Y ∈ mtbl) (w4 : Cond.initialized C ∈ mtbl) (w5 : Cond.code Y B mL2 rt ∈ mtbl)
    (hd : Y.cls = C ∧ Y.cls ≠ "java/lang/invoke/MethodHandle" ∧ Y.cls ≠ "java/lang/invoke/VarHandle" ∧ (parseMethodDescriptor Y.desc).map (fun d => d.parameters.length) = some n) (hdg : decode cc pc = .ok (.invokevirtual ix, 3)) (hn : pc + 3 = nx) : mOk l G own cc nL ret nm pc (o_cv y n ci nx) := by
  intro D p e R s m args below meth c n0 w0 Q hC L st S r hr
  obtain ⟨as, rest, g1, g2, g3⟩ := mpop_spec hr
  rw [List.append_nil] at g1
  split at g1
  rotate_left
  · cases g1
  next a as2 =>
  obtain ⟨w, Sh, MI, ML⟩ := S
  obtain ⟨t, f1, f2⟩ := mnth_spec g1
  split at f2
  rotate_left
  · cases f2
  next cj rf =>
  obtain ⟨e1, f3⟩ := m_cond f2
  have e1 := Nat.eq_of_beq_eq_true e1
  subst e1
  obtain ⟨e2, f4⟩ := m_cond f3
  cases f4
  subst hn
  refine And.intro rfl (fun v S2 hct b1 b2 b3 b4 kk => ?_)
  intro H locs ls cells slots h1 h2 hP hS hL
  have q8 := m_mcat (G := G) e2
  have hfr := hC.fr
  have hlo := hC.lo
  have h1' : cells + n0 = Sh.length := h1
  have h2' : slots + w0 = w := h2
  have b1' : Sh.length ≤ S2.2.1.length := b1
  have b2' : w ≤ S2.1 := b2
  intro T hT X
  subst hT
  have hz := m_size (S := (w, Sh, MI, ML)) X hC.sz h1 hP hS
  unfold mCt at hct
  rw [hM] at hct
  have hG : GoodIn mtbl (wsV own ix C Y (Cond.code Y B mL2 rt :: mtbl)) := mtbl_goodIn (fun w hw => by
    unfold wsV at hw
    rcases List.mem_append.mp hw with hw | hw
    · simp only [List.mem_cons, List.not_mem_nil, or_false] at hw
      rcases hw with rfl | rfl | rfl | rfl
      · exact w1
      · exact w2
      · exact w3
      · exact w4
    · exact m_goodC w5 w hw)
  have hst : st.map (mtr G) = (as2.map (mtr G)).reverse ++ Value.ref (G.1.1 + a) :: rest.map (mtr G) := by
    rw [g3]
    simp [mtr]
  have hrun := va_runV (C := C) (b := G.1.1 + a) (As := as2.map (mtr G)) (rest := rest.map (mtr G)) (g := F0 m pc ls (st.map (mtr G))) (H := T.heap) (cells := cells) (slots := slots) (locs := locs) ⟨hC.1, hC.2.1, hC.2.2.1, hC.ow, hC.hts⟩ hct
    (cwV n hC.hts hG rfl rfl rfl hd (R := R) ⟨hfr, by show 8 + (mL2 + 11) + 40 * (D + 4) ≤ R.locals; omega⟩)
    ⟨fun x U g mk q => ⟨q.1, q.2.blind g mk x⟩, va_recv hC.hK hP hc (mws_o f1), fun U hU hW => ⟨rfl, m_pre hC hz hP hS hU hW⟩⟩ rfl (by simp at g2 ⊢; omega) hL.2.1 hst (lv_room q8) hdg (below := below) (meth := meth) (e := e) ⟨by show cells + (S2.2.1.length - Sh.length) ≤ _; omega, by show slots + (S2.1 - w) ≤ _; omega⟩
  refine m_call hrun hS (fun t locs1 hq hS1 => ?_) T rfl X
  have := kk t.heap locs1 ls (cells + (S2.2.1.length - Sh.length)) (slots + (S2.1 - w)) (by omega) (by omega) hq hS1 hL
  cases v <;> exact this
theorem k_cs {ix y n mL2 : Nat} {Y : MethodName} {B : ByteArray} {rt : Option FieldType} (hM : mM y = (Y, B, mL2, rt)) (hm : mL2 ≤ 21)
    (w1 : Cond.methodLink own ix Y ∈ mtbl) (w2 : Cond.static Y ∈ mtbl) (w4 : Cond.initialized Y.cls ∈ mtbl) (w5 : Cond.code Y B mL2 rt ∈ mtbl)
    (hd : Y.cls ≠ "java/lang/invoke/MethodHandle" ∧ Y.cls ≠ "java/lang/invoke/VarHandle" ∧ (parseMethodDescriptor Y.desc).map (fun d => d.parameters.length) = some n) (hdg : decode cc pc = .ok (.invokestatic ix, 3)) (hn : pc + 3 = nx) : mOk l G own cc nL ret nm pc (o_cs y n nx) := by
  intro D p e R s m args below meth c n0 w0 Q hC L st S r hr
  obtain ⟨as, rest, g1, g2, g3⟩ := mpop_spec hr
  rw [List.append_nil] at g1
  obtain ⟨e2, f4⟩ := m_cond g1
  obtain ⟨w, Sh, MI, ML⟩ := S
  cases f4
  subst hn
  refine And.intro rfl (fun v S2 hct b1 b2 b3 b4 kk => ?_)
  intro H locs ls cells slots h1 h2 hP hS hL
  have q8 := m_mcat (G := G) e2
  have hfr := hC.fr
  have hlo := hC.lo
  have h1' : cells + n0 = Sh.length := h1
  have h2' : slots + w0 = w := h2
  have b1' : Sh.length ≤ S2.2.1.length := b1
  have b2' : w ≤ S2.1 := b2
  intro T hT X
  subst hT
  have hz := m_size (S := (w, Sh, MI, ML)) X hC.sz h1 hP hS
  unfold mCt at hct
  rw [hM] at hct
  have hG : GoodIn mtbl (va_wsS own ix Y (Cond.code Y B mL2 rt :: mtbl)) := mtbl_goodIn (fun w hw => by
    unfold va_wsS at hw
    rcases List.mem_append.mp hw with hw | hw
    · simp only [List.mem_cons, List.not_mem_nil, or_false] at hw
      rcases hw with rfl | rfl | rfl
      · exact w1
      · exact w2
      · exact w4
    · exact m_goodC w5 w hw)
  have hst : st.map (mtr G) = (as.map (mtr G)).reverse ++ rest.map (mtr G) := by
    rw [g3]
    simp
  have hrun := va_runS (As := as.map (mtr G)) (rest := rest.map (mtr G)) (g := F0 m pc ls (st.map (mtr G))) (H := T.heap) (cells := cells) (slots := slots) (locs := locs) ⟨hC.1, hC.2.1, hC.2.2.1, hC.ow, hC.hts⟩ hct
    (va_cwS n hC.hts hG rfl rfl rfl hd (R := R) ⟨hfr, by show 8 + (mL2 + 11) + 40 * (D + 4) ≤ R.locals; omega⟩)
    ⟨fun x U g mk q => ⟨q.1, q.2.blind g mk x⟩, fun U hU hW => ⟨rfl, m_pre hC hz hP hS hU hW⟩⟩ rfl (by simp at g2 ⊢; omega) hL.2.1 hst (lv_room q8) hdg (below := below) (meth := meth) (e := e) ⟨by show cells + (S2.2.1.length - Sh.length) ≤ _; omega, by show slots + (S2.1 - w) ≤ _; omega⟩
  refine m_call hrun hS (fun t locs1 hq hS1 => ?_) T rfl X
  have := kk t.heap locs1 ls (cells + (S2.2.1.length - Sh.length)) (slots + (S2.1 - w)) (by omega) (by omega) hq hS1 hL
  cases v <;> exact this
theorem k_ci {ix y n mL2 : Nat} {Y : MethodName} {B : ByteArray} (hM : mM y = (Y, B, mL2, none)) (hm : mL2 ≤ 21) (hy : Y.name = "<init>")
    (w1 : Cond.methodLink own ix Y ∈ mtbl) (w2 : Cond.instanceMethod Y ∈ mtbl) (w4 : Cond.initialized Y.cls ∈ mtbl) (w5 : Cond.code Y B mL2 none ∈ mtbl)
    (hd : Y.cls ≠ "java/lang/invoke/MethodHandle" ∧ Y.cls ≠ "java/lang/invoke/VarHandle" ∧ (parseMethodDescriptor Y.desc).map (fun d => d.parameters.length) = some n) (hdg : decode cc pc = .ok (.invokespecial ix, 3)) (hn : pc + 3 = nx) : mOk l G own cc nL ret nm pc (o_ci y n nx) := by
  intro D p e R s m args below meth c n0 w0 Q hC L st S r hr
  obtain ⟨as, rest, g1, g2, g3⟩ := mpop_spec hr
  rw [List.append_nil] at g1
  split at g1
  rotate_left
  · cases g1
  next a as2 =>
  obtain ⟨e2, f4⟩ := m_cond g1
  obtain ⟨w, Sh, MI, ML⟩ := S
  cases f4
  subst hn
  refine And.intro rfl (fun v S2 hct b1 b2 b3 b4 kk => ?_)
  intro H locs ls cells slots h1 h2 hP hS hL
  have q8 := m_mcat (G := G) e2
  have hfr := hC.fr
  have hlo := hC.lo
  have h1' : cells + n0 = Sh.length := h1
  have h2' : slots + w0 = w := h2
  have b1' : Sh.length ≤ S2.2.1.length := b1
  have b2' : w ≤ S2.1 := b2
  intro T hT X
  subst hT
  have hz := m_size (S := (w, Sh, MI, ML)) X hC.sz h1 hP hS
  unfold mCt at hct
  rw [hM] at hct
  have hG : GoodIn mtbl (Cond.code Y B mL2 none :: mtbl) := mtbl_goodIn (fun w hw => m_goodC w5 w hw)
  have hst : st.map (mtr G) = (as2.map (mtr G)).reverse ++ Value.ref (G.1.1 + a) :: rest.map (mtr G) := by
    rw [g3]
    simp [mtr]
  have hrun := va_runI (b := G.1.1 + a) (As := as2.map (mtr G)) (rest := rest.map (mtr G)) (g := F0 m pc ls (st.map (mtr G))) (H := T.heap) (cells := cells) (slots := slots) (locs := locs) ⟨hC.1, hC.2.1, hC.2.2.1, hC.ow, hC.hts⟩ hct
    (cwI n hC.hts hG rfl rfl rfl (hC.hts _ w4) (hC.hts _ w1) (hC.hts _ w2) hy hd (R := R) ⟨hfr, by show 8 + (mL2 + 11) + 40 * (D + 4) ≤ R.locals; omega⟩)
    ⟨fun x U g mk q => ⟨q.1, q.2.blind g mk x⟩, fun U hU hW => ⟨rfl, m_pre hC hz hP hS hU hW⟩⟩ rfl (by simp at g2 ⊢; omega) hL.2.1 hst (lv_room q8) hdg (below := below) (meth := meth) (e := e) ⟨by show cells + (S2.2.1.length - Sh.length) ≤ _; omega, by show slots + (S2.1 - w) ≤ _; omega⟩
  refine m_call hrun hS (fun t locs1 hq hS1 => ?_) T rfl X
  have := kk t.heap locs1 ls (cells + (S2.2.1.length - Sh.length)) (slots + (S2.1 - w)) (by omega) (by omega) hq hS1 hL
  cases v <;> exact this
theorem k_cn {ix y n mL2 : Nat} {Y : MethodName} {B : ByteArray} {host : String} (hM : mM y = (Y, B, mL2, none)) (hm : mL2 ≤ 21) (hy : Y.name = "<init>")
    (w1 : (own, ix, Y, host) ∈ mnest) (w2 : Cond.instanceMethod Y ∈ mtbl) (w4 : Cond.initialized Y.cls ∈ mtbl) (w5 : Cond.code Y B mL2 none ∈ mtbl)
    (hd : Y.cls ≠ "java/lang/invoke/MethodHandle" ∧ Y.cls ≠ "java/lang/invoke/VarHandle" ∧ (parseMethodDescriptor Y.desc).map (fun d => d.parameters.length) = some n) (hdg : decode cc pc = .ok (.invokespecial ix, 3)) (hn : pc + 3 = nx) : mOk l G own cc nL ret nm pc (o_ci y n nx) := by
  intro D p e R s m args below meth c n0 w0 Q hC L st S r hr
  obtain ⟨as, rest, g1, g2, g3⟩ := mpop_spec hr
  rw [List.append_nil] at g1
  split at g1
  rotate_left
  · cases g1
  next a as2 =>
  obtain ⟨e2, f4⟩ := m_cond g1
  obtain ⟨w, Sh, MI, ML⟩ := S
  cases f4
  subst hn
  refine And.intro rfl (fun v S2 hct b1 b2 b3 b4 kk => ?_)
  intro H locs ls cells slots h1 h2 hP hS hL
  have q8 := m_mcat (G := G) e2
  have hfr := hC.fr
  have hlo := hC.lo
  have h1' : cells + n0 = Sh.length := h1
  have h2' : slots + w0 = w := h2
  have b1' : Sh.length ≤ S2.2.1.length := b1
  have b2' : w ≤ S2.1 := b2
  intro T hT X
  subst hT
  have hz := m_size (S := (w, Sh, MI, ML)) X hC.sz h1 hP hS
  unfold mCt at hct
  rw [hM] at hct
  have hG : GoodIn mtbl (Cond.code Y B mL2 none :: mtbl) := mtbl_goodIn (fun w hw => m_goodC w5 w hw)
  have hst : st.map (mtr G) = (as2.map (mtr G)).reverse ++ Value.ref (G.1.1 + a) :: rest.map (mtr G) := by
    rw [g3]
    simp [mtr]
  have hrun := va_runIN (b := G.1.1 + a) (As := as2.map (mtr G)) (rest := rest.map (mtr G)) (g := F0 m pc ls (st.map (mtr G))) (H := T.heap) (cells := cells) (slots := slots) (locs := locs) ⟨hC.1, hC.2.1, hC.2.2.1, hC.ow, hC.hts⟩ hct
    ⟨va_cnB n hC.hts hG rfl rfl rfl (hC.sf.2.2.2.2.2.2.2 _ w1) (hC.hts _ w4) hd (R := R) ⟨hfr, by show 8 + (mL2 + 11) + 40 * (D + 4) ≤ R.locals; omega⟩, hy, hC.hts _ w2⟩
    ⟨fun x U g mk q => ⟨q.1, q.2.blind g mk x⟩, fun U hU hW => ⟨rfl, m_pre hC hz hP hS hU hW⟩⟩ rfl (by simp at g2 ⊢; omega) hL.2.1 hst (lv_room q8) hdg (below := below) (meth := meth) (e := e) ⟨by show cells + (S2.2.1.length - Sh.length) ≤ _; omega, by show slots + (S2.1 - w) ≤ _; omega⟩
  refine m_call hrun hS (fun t locs1 hq hS1 => ?_) T rfl X
  have := kk t.heap locs1 ls (cells + (S2.2.1.length - Sh.length)) (slots + (S2.1 - w)) (by omega) (by omega) hq hS1 hL
  cases v <;> exact this
end KE
