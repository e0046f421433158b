/-! String.length and String.charAt at the String constants: the JDK's own methods, walked -/
theorem kj_89 : Cond.initialized RJ0 ∈ mtbl := mtbl_in (List.mem_of_getElem? (i := 28) (by decide +kernel)) (by first | rfl | decide +kernel)
theorem kj_90 : Cond.initialized RJ1 ∈ mtbl := mtbl_in (List.mem_of_getElem? (i := 29) (by decide +kernel)) (by first | rfl | decide +kernel)
theorem kj_91 : Cond.initialized RJ3 ∈ mtbl := mtbl_in (List.mem_of_getElem? (i := 30) (by decide +kernel)) (by first | rfl | decide +kernel)
theorem kj_564 : Cond.instanceMethod yJ0_length_8abf5 ∈ mtbl := mtbl_in (List.mem_of_getElem? (i := 658) (by decide +kernel)) (by first | rfl | decide +kernel)
theorem kj_565 : Cond.selects RJ0 yJ0_length_8abf5 yJ0_length_8abf5 ∈ mtbl := mtbl_in (List.mem_of_getElem? (i := 659) (by decide +kernel)) (by first | rfl | decide +kernel)
theorem kj_566 : Cond.code yJ0_length_8abf5 cJ0_length_8abf5 1 (some .int) ∈ mtbl := mtbl_in (List.mem_of_getElem? (i := 660) (by decide +kernel)) (by first | rfl | decide +kernel)
theorem kj_567 : Cond.methodLink RJ0 335 yJ0_coder_7d493 ∈ mtbl := mtbl_in (List.mem_of_getElem? (i := 661) (by decide +kernel)) (by first | rfl | decide +kernel)
theorem kj_568 : Cond.instanceMethod yJ0_coder_7d493 ∈ mtbl := mtbl_in (List.mem_of_getElem? (i := 662) (by decide +kernel)) (by first | rfl | decide +kernel)
theorem kj_569 : Cond.selects RJ0 yJ0_coder_7d493 yJ0_coder_7d493 ∈ mtbl := mtbl_in (List.mem_of_getElem? (i := 663) (by decide +kernel)) (by first | rfl | decide +kernel)
theorem kj_570 : Cond.code yJ0_coder_7d493 cJ0_coder_7d493 1 (some .byte) ∈ mtbl := mtbl_in (List.mem_of_getElem? (i := 664) (by decide +kernel)) (by first | rfl | decide +kernel)
theorem kj_571 : Cond.fieldLink RJ0 38 "java/lang/String" "COMPACT_STRINGS" "Z" ∈ mtbl := mtbl_in (List.mem_of_getElem? (i := 665) (by decide +kernel)) (by first | rfl | decide +kernel)
theorem kj_574 : Cond.instanceMethod yJ0_charAt_5068e ∈ mtbl := mtbl_in (List.mem_of_getElem? (i := 668) (by decide +kernel)) (by first | rfl | decide +kernel)
theorem kj_575 : Cond.selects RJ0 yJ0_charAt_5068e yJ0_charAt_5068e ∈ mtbl := mtbl_in (List.mem_of_getElem? (i := 669) (by decide +kernel)) (by first | rfl | decide +kernel)
theorem kj_576 : Cond.code yJ0_charAt_5068e cJ0_charAt_5068e 2 (some .char) ∈ mtbl := mtbl_in (List.mem_of_getElem? (i := 670) (by decide +kernel)) (by first | rfl | decide +kernel)
theorem kj_577 : Cond.methodLink RJ0 492 yJ0_isLatin1_aae02 ∈ mtbl := mtbl_in (List.mem_of_getElem? (i := 671) (by decide +kernel)) (by first | rfl | decide +kernel)
theorem kj_578 : Cond.instanceMethod yJ0_isLatin1_aae02 ∈ mtbl := mtbl_in (List.mem_of_getElem? (i := 672) (by decide +kernel)) (by first | rfl | decide +kernel)
theorem kj_579 : Cond.selects RJ0 yJ0_isLatin1_aae02 yJ0_isLatin1_aae02 ∈ mtbl := mtbl_in (List.mem_of_getElem? (i := 673) (by decide +kernel)) (by first | rfl | decide +kernel)
theorem kj_580 : Cond.code yJ0_isLatin1_aae02 cJ0_isLatin1_aae02 1 (some .boolean) ∈ mtbl := mtbl_in (List.mem_of_getElem? (i := 674) (by decide +kernel)) (by first | rfl | decide +kernel)
theorem kj_581 : Cond.methodLink RJ0 495 yJ1_charAt_3b067 ∈ mtbl := mtbl_in (List.mem_of_getElem? (i := 675) (by decide +kernel)) (by first | rfl | decide +kernel)
theorem kj_582 : Cond.static yJ1_charAt_3b067 ∈ mtbl := mtbl_in (List.mem_of_getElem? (i := 676) (by decide +kernel)) (by first | rfl | decide +kernel)
theorem kj_583 : Cond.code yJ1_charAt_3b067 cJ1_charAt_3b067 2 (some .char) ∈ mtbl := mtbl_in (List.mem_of_getElem? (i := 677) (by decide +kernel)) (by first | rfl | decide +kernel)
theorem kj_584 : Cond.methodLink RJ1 9 yJ0_checkIndex_df160 ∈ mtbl := mtbl_in (List.mem_of_getElem? (i := 678) (by decide +kernel)) (by first | rfl | decide +kernel)
theorem kj_585 : Cond.static yJ0_checkIndex_df160 ∈ mtbl := mtbl_in (List.mem_of_getElem? (i := 679) (by decide +kernel)) (by first | rfl | decide +kernel)
theorem kj_586 : Cond.code yJ0_checkIndex_df160 cJ0_checkIndex_df160 2 none ∈ mtbl := mtbl_in (List.mem_of_getElem? (i := 680) (by decide +kernel)) (by first | rfl | decide +kernel)
theorem kj_587 : Cond.fieldLink RJ0 1053 "jdk/internal/util/Preconditions" "SIOOBE_FORMATTER" "Ljava/util/function/BiFunction;" ∈ mtbl := mtbl_in (List.mem_of_getElem? (i := 681) (by decide +kernel)) (by first | rfl | decide +kernel)
theorem kj_589 : Cond.methodLink RJ0 1059 yJ3_checkIndex_8e157 ∈ mtbl := mtbl_in (List.mem_of_getElem? (i := 683) (by decide +kernel)) (by first | rfl | decide +kernel)
theorem kj_590 : Cond.static yJ3_checkIndex_8e157 ∈ mtbl := mtbl_in (List.mem_of_getElem? (i := 684) (by decide +kernel)) (by first | rfl | decide +kernel)
theorem kj_591 : Cond.code yJ3_checkIndex_8e157 cJ3_checkIndex_8e157 3 (some .int) ∈ mtbl := mtbl_in (List.mem_of_getElem? (i := 685) (by decide +kernel)) (by first | rfl | decide +kernel)
theorem kj_1710 : Cond.fieldLink RJ0 9 "java/lang/String" "value" "[B" ∈ mtbl := mtbl_in (List.mem_of_getElem? (i := 731) (by decide +kernel)) (by first | rfl | decide +kernel)
theorem kj_1711 : Cond.fieldLink RJ0 15 "java/lang/String" "coder" "B" ∈ mtbl := mtbl_in (List.mem_of_getElem? (i := 732) (by decide +kernel)) (by first | rfl | decide +kernel)
theorem jd_len_0 : decode cJ0_length_8abf5 0 = .ok (.aload_n 0, 1) := by decide +kernel
theorem jd_len_1 : decode cJ0_length_8abf5 1 = .ok (.getfield 9, 3) := by decide +kernel
theorem jd_len_4 : decode cJ0_length_8abf5 4 = .ok (.arraylength, 1) := by decide +kernel
theorem jd_len_5 : decode cJ0_length_8abf5 5 = .ok (.aload_n 0, 1) := by decide +kernel
theorem jd_len_6 : decode cJ0_length_8abf5 6 = .ok (.invokevirtual 335, 3) := by decide +kernel
theorem jd_len_9 : decode cJ0_length_8abf5 9 = .ok (.ishr, 1) := by decide +kernel
theorem jd_len_10 : decode cJ0_length_8abf5 10 = .ok (.ireturn, 1) := by decide +kernel
theorem jd_cod_0 : decode cJ0_coder_7d493 0 = .ok (.getstatic 38, 3) := by decide +kernel
theorem jd_cod_3 : decode cJ0_coder_7d493 3 = .ok (.ifCond .eq 10, 3) := by decide +kernel
theorem jd_cod_6 : decode cJ0_coder_7d493 6 = .ok (.aload_n 0, 1) := by decide +kernel
theorem jd_cod_7 : decode cJ0_coder_7d493 7 = .ok (.getfield 15, 3) := by decide +kernel
theorem jd_cod_10 : decode cJ0_coder_7d493 10 = .ok (.goto 4, 3) := by decide +kernel
theorem jd_cod_14 : decode cJ0_coder_7d493 14 = .ok (.ireturn, 1) := by decide +kernel
theorem jd_lat_0 : decode cJ0_isLatin1_aae02 0 = .ok (.getstatic 38, 3) := by decide +kernel
theorem jd_lat_3 : decode cJ0_isLatin1_aae02 3 = .ok (.ifCond .eq 14, 3) := by decide +kernel
theorem jd_lat_6 : decode cJ0_isLatin1_aae02 6 = .ok (.aload_n 0, 1) := by decide +kernel
theorem jd_lat_7 : decode cJ0_isLatin1_aae02 7 = .ok (.getfield 15, 3) := by decide +kernel
theorem jd_lat_10 : decode cJ0_isLatin1_aae02 10 = .ok (.ifCond .ne 7, 3) := by decide +kernel
theorem jd_lat_13 : decode cJ0_isLatin1_aae02 13 = .ok (.iconst 1, 1) := by decide +kernel
theorem jd_lat_14 : decode cJ0_isLatin1_aae02 14 = .ok (.goto 4, 3) := by decide +kernel
theorem jd_lat_18 : decode cJ0_isLatin1_aae02 18 = .ok (.ireturn, 1) := by decide +kernel
theorem jd_cha_0 : decode cJ0_charAt_5068e 0 = .ok (.aload_n 0, 1) := by decide +kernel
theorem jd_cha_1 : decode cJ0_charAt_5068e 1 = .ok (.invokevirtual 492, 3) := by decide +kernel
theorem jd_cha_4 : decode cJ0_charAt_5068e 4 = .ok (.ifCond .eq 12, 3) := by decide +kernel
theorem jd_cha_7 : decode cJ0_charAt_5068e 7 = .ok (.aload_n 0, 1) := by decide +kernel
theorem jd_cha_8 : decode cJ0_charAt_5068e 8 = .ok (.getfield 9, 3) := by decide +kernel
theorem jd_cha_11 : decode cJ0_charAt_5068e 11 = .ok (.iload_n 1, 1) := by decide +kernel
theorem jd_cha_12 : decode cJ0_charAt_5068e 12 = .ok (.invokestatic 495, 3) := by decide +kernel
theorem jd_cha_15 : decode cJ0_charAt_5068e 15 = .ok (.ireturn, 1) := by decide +kernel
theorem jd_lch_0 : decode cJ1_charAt_3b067 0 = .ok (.iload_n 1, 1) := by decide +kernel
theorem jd_lch_1 : decode cJ1_charAt_3b067 1 = .ok (.aload_n 0, 1) := by decide +kernel
theorem jd_lch_2 : decode cJ1_charAt_3b067 2 = .ok (.arraylength, 1) := by decide +kernel
theorem jd_lch_3 : decode cJ1_charAt_3b067 3 = .ok (.invokestatic 9, 3) := by decide +kernel
theorem jd_lch_6 : decode cJ1_charAt_3b067 6 = .ok (.aload_n 0, 1) := by decide +kernel
theorem jd_lch_7 : decode cJ1_charAt_3b067 7 = .ok (.iload_n 1, 1) := by decide +kernel
theorem jd_lch_8 : decode cJ1_charAt_3b067 8 = .ok (.baload, 1) := by decide +kernel
theorem jd_lch_9 : decode cJ1_charAt_3b067 9 = .ok (.sipush 255, 3) := by decide +kernel
theorem jd_lch_12 : decode cJ1_charAt_3b067 12 = .ok (.iand, 1) := by decide +kernel
theorem jd_lch_13 : decode cJ1_charAt_3b067 13 = .ok (.i2c, 1) := by decide +kernel
theorem jd_lch_14 : decode cJ1_charAt_3b067 14 = .ok (.ireturn, 1) := by decide +kernel
theorem jd_chk_0 : decode cJ0_checkIndex_df160 0 = .ok (.iload_n 0, 1) := by decide +kernel
theorem jd_chk_1 : decode cJ0_checkIndex_df160 1 = .ok (.iload_n 1, 1) := by decide +kernel
theorem jd_chk_2 : decode cJ0_checkIndex_df160 2 = .ok (.getstatic 1053, 3) := by decide +kernel
theorem jd_chk_5 : decode cJ0_checkIndex_df160 5 = .ok (.invokestatic 1059, 3) := by decide +kernel
theorem jd_chk_8 : decode cJ0_checkIndex_df160 8 = .ok (.pop, 1) := by decide +kernel
theorem jd_chk_9 : decode cJ0_checkIndex_df160 9 = .ok (.return_, 1) := by decide +kernel
theorem jd_pre_0 : decode cJ3_checkIndex_8e157 0 = .ok (.iload_n 0, 1) := by decide +kernel
theorem jd_pre_1 : decode cJ3_checkIndex_8e157 1 = .ok (.ifCond .lt 8, 3) := by decide +kernel
theorem jd_pre_4 : decode cJ3_checkIndex_8e157 4 = .ok (.iload_n 0, 1) := by decide +kernel
theorem jd_pre_5 : decode cJ3_checkIndex_8e157 5 = .ok (.iload_n 1, 1) := by decide +kernel
theorem jd_pre_6 : decode cJ3_checkIndex_8e157 6 = .ok (.if_icmp .lt 10, 3) := by decide +kernel
theorem jd_pre_16 : decode cJ3_checkIndex_8e157 16 = .ok (.iload_n 0, 1) := by decide +kernel
theorem jd_pre_17 : decode cJ3_checkIndex_8e157 17 = .ok (.ireturn, 1) := by decide +kernel
def jRm (F : Nat) : Room := { frames := F, cells := 0, slots := 0, locals := 40 * F }
def jQ (G : mG) (S : mS) (v : Option Value) : Array Value → State → Outcome → State → Prop := fun _ st oc t => (oc = .returned v ∧ va_P G.2.2.1 vwCl (mws G S) t.heap) ∧ va_F (mA G) st t
def jPc (l : Launch) (G : mG) (Y : MethodName) (B : ByteArray) (nL : Nat) (rt : Option FieldType) (F : Nat) (as : List Value) (v : Option Value) : Prop := ∀ S : mS, Met l Y (.code Y B nL rt :: mtbl) (jRm F) (va_Pc as (mW G S)) (jQ G S v) 0 0 (mA G)
def jAt (G : mG) (S : mS) (own : String) (B : ByteArray) (nL : Nat) (rt : Option FieldType) (p : Program) (s : State) (m : MethodId) (args : Array Value) (meth : Method) (c : Code) : Prop :=
  p.tables.exec = Jvm.exec ∧ c.code = B ∧ c.maxLocals = nL ∧ meth.sig.returnType = rt ∧ s.vm.findClass own = some m.cls ∧ (∀ w ∈ mtbl, w.before args s = true) ∧ mW G S s ∧ meth.locks = false
theorem jP_of {l : Launch} {G : mG} {Y : MethodName} {B : ByteArray} {nL F : Nat} {rt : Option FieldType} {as : List Value} {v : Option Value} (hp : plainName Y.cls = true) (hn : (lg_sl as).length ≤ nL)
    (K : ∀ (S : mS) (p : Program) (e : Env) (s : State) (m : MethodId) (args : Array Value) (below : List Frame) (meth : Method) (c : Code) (ls : Array Slot), jAt G S Y.cls B nL rt p s m args meth c → lv_has ls nL (lv_args 0 as) → W p l e (jRm F) s m args below meth c s.heap [] 0 0 (MQ below (jQ G S v) args s 0 0 (mA G)) (F0 m 0 ls [])) : jPc l G Y B nL rt F as v := by
  intro S
  refine Met.ofW (cc := B) (maxL := nL) (ret := rt) hp rfl ?_
  intro p e s m args below meth c s₁ Bd hml hv
  obtain ⟨rfl, hW⟩ := hv
  have hts := atoms_spec (ws := .code Y B nL rt :: mtbl) Bd.pre
  have hlocks := Bd.notSynchronized
  rw [lg_entry_eq]
  exact K S p e s m _ below meth c _ ⟨Bd.exec, Bd.bytes, hml, Bd.returns, findClass_of_methodNamed Bd.named, fun w hw => hts w (List.mem_cons_of_mem _ hw), hW, hlocks⟩ (lv_entry as hn)
section JR
variable {l : Launch} {G : mG} {S : mS} {p : Program} {e : Env} {R : Room} {s : State} {m : MethodId} {args : Array Value} {below : List Frame} {meth : Method} {c : Code} {H : Heap} {locs : List Loc} {cells slots n0 : Nat} {Q : State → Prop} {own : String} {cc : ByteArray} {nL pc : Nat} {ls : Array Slot} {rest : List Value}
theorem j_pre {T : State} (hz : T.heap.size = G.1.1 + S.2.1.length) (hK : va_K G.2.2.1 vwCl (mty G) s) (hsf : mSF G s) (hsz : G.1.1 ≤ s.heap.size) (hP : va_P G.2.2.1 vwCl (mws G S) T.heap) (hS : va_S (mA G) s.heap T.heap locs) {U : State} (hU : U.heap = T.heap) (hW : s.WarmedH U.vm) : mW G S U := by
  refine ⟨by rw [hU]; exact hz, by rw [hU]; exact hP, va_K.moved hW.alike hK, hsf.pass hW hsz (fun q h1 h2 => by rw [hU]; exact hS.2.1 q h1 h2)⟩
theorem j_cs {Y2 : MethodName} {B2 : ByteArray} {nL2 F2 ix n : Nat} {rt2 : Option FieldType} {as2 : List Value} {v2 : Option Value} (hx : p.tables.exec = Jvm.exec) (hb : c.code = cc) (hml : c.maxLocals = nL) (hown : s.vm.findClass own = some m.cls) (hts : ∀ w ∈ mtbl, w.before args s = true) (hK : va_K G.2.2.1 vwCl (mty G) s) (hsf : mSF G s) (hsz : s.heap.size = G.1.1 + n0) (h1 : cells + n0 = S.2.1.length) (hcl : cells ≤ R.cells ∧ slots ≤ R.slots)
    (h2 : jPc l G Y2 B2 nL2 rt2 F2 as2 v2) (hF : F2 + 1 ≤ R.frames) (hlo : 8 + (nL2 + 11) + 40 * F2 ≤ R.locals) (w1 : Cond.methodLink own ix Y2 ∈ mtbl) (w2 : Cond.static Y2 ∈ mtbl) (w4 : Cond.initialized Y2.cls ∈ mtbl) (w5 : Cond.code Y2 B2 nL2 rt2 ∈ mtbl)
    (hd : Y2.cls ≠ "java/lang/invoke/MethodHandle" ∧ Y2.cls ≠ "java/lang/invoke/VarHandle" ∧ (parseMethodDescriptor Y2.desc).map (fun d => d.parameters.length) = some n) (hn : as2.length = n) {st : List Value} (hst : st = as2.reverse ++ rest) (q8 : (rest.map fun v => v.category).sum ≤ 8) (hls : ls.size = nL) (hdg : decode cc pc = .ok (.invokestatic ix, 3))
    (hP : va_P G.2.2.1 vwCl (mws G S) H) (hS : va_S (mA G) s.heap H locs)
    (k : ∀ (H : Heap) (locs : List Loc), va_P G.2.2.1 vwCl (mws G S) H → va_S (mA G) s.heap H locs → W p l e R s m args below meth c H locs cells slots Q (F0 m (pc + 3) ls (v2.toList ++ rest))) : W p l e R s m args below meth c H locs cells slots Q (F0 m pc ls st) := by
  intro T hT X
  subst hT
  subst hst
  have hz := m_size (S := S) X hsz h1 hP hS
  have hG : GoodIn mtbl (va_wsS own ix Y2 (Cond.code Y2 B2 nL2 rt2 :: mtbl)) := mtbl_goodIn (fun w hw => by
    unfold va_wsS at hw
    rcases List.mem_append.mp hw with hw | hw
    · simp only [List.mem_cons, List.not_mem_nil, or_false] at hw
      rcases hw with rfl | rfl | rfl
      · exact w1
      · exact w2
      · exact w4
    · exact m_goodC w5 w hw)
  have hrun : va_Run p l e R s m args below meth c T.heap locs cells slots 0 0 (F0 m pc ls (as2.reverse ++ rest)) rest (fun st oc t => (oc = .returned v2 ∧ va_P G.2.2.1 vwCl (mws G S) t.heap) ∧ va_F (mA G) st t) (mA G) :=
    va_runS (As := as2) (rest := rest) (g := F0 m pc ls (as2.reverse ++ rest)) (H := T.heap) (cells := cells) (slots := slots) (locs := locs) ⟨hx, hb, hml, hown, hts⟩ (h2 S)
      (va_cwS n hts hG rfl rfl rfl hd (R := R) ⟨hF, hlo⟩)
      ⟨fun x U g mk q => ⟨q.1, q.2.blind g mk x⟩, fun U hU hW => ⟨rfl, j_pre hz hK hsf (by omega) hP hS hU hW⟩⟩ rfl hn hls rfl (lv_room q8) hdg (below := below) (meth := meth) (e := e) hcl
  exact m_call hrun hS (fun t locs1 hq hS1 => k t.heap locs1 hq hS1) T rfl X
theorem j_cv {Y2 : MethodName} {B2 : ByteArray} {nL2 F2 ix n j : Nat} {rt2 : Option FieldType} {as2 : List Value} {v2 : Option Value} (hj : j < 6) (hx : p.tables.exec = Jvm.exec) (hb : c.code = cc) (hml : c.maxLocals = nL) (hown : s.vm.findClass own = some m.cls) (hts : ∀ w ∈ mtbl, w.before args s = true) (hK : va_K G.2.2.1 vwCl (mty G) s) (hsf : mSF G s) (hsz : s.heap.size = G.1.1 + n0) (h1 : cells + n0 = S.2.1.length) (hcl : cells ≤ R.cells ∧ slots ≤ R.slots)
    (h2 : jPc l G Y2 B2 nL2 rt2 F2 (.ref (G.1.2 (10 + j)) :: as2) v2) (hF : F2 + 1 ≤ R.frames) (hlo : 8 + (nL2 + 11) + 40 * F2 ≤ R.locals) (w1 : Cond.methodLink own ix Y2 ∈ mtbl) (w2 : Cond.instanceMethod Y2 ∈ mtbl) (w3 : Cond.selects RJ0 Y2 Y2 ∈ mtbl) (w5 : Cond.code Y2 B2 nL2 rt2 ∈ mtbl)
    (hd : Y2.cls = RJ0 ∧ Y2.cls ≠ "java/lang/invoke/MethodHandle" ∧ Y2.cls ≠ "java/lang/invoke/VarHandle" ∧ (parseMethodDescriptor Y2.desc).map (fun d => d.parameters.length) = some n) (hn : as2.length = n) {st : List Value} (hst : st = as2.reverse ++ .ref (G.1.2 (10 + j)) :: rest) (q8 : (rest.map fun v => v.category).sum ≤ 8) (hls : ls.size = nL) (hdg : decode cc pc = .ok (.invokevirtual ix, 3))
    (hP : va_P G.2.2.1 vwCl (mws G S) H) (hS : va_S (mA G) s.heap H locs)
    (k : ∀ (H : Heap) (locs : List Loc), va_P G.2.2.1 vwCl (mws G S) H → va_S (mA G) s.heap H locs → W p l e R s m args below meth c H locs cells slots Q (F0 m (pc + 3) ls (v2.toList ++ rest))) : W p l e R s m args below meth c H locs cells slots Q (F0 m pc ls st) := by
  intro T hT X
  subst hT
  subst hst
  have hz := m_size (S := S) X hsz h1 hP hS
  have hG : GoodIn mtbl (wsV own ix RJ0 Y2 (Cond.code Y2 B2 nL2 rt2 :: mtbl)) := mtbl_goodIn (fun w hw => by
    unfold wsV at hw
    rcases List.mem_append.mp hw with hw | hw
    · simp only [List.mem_cons, List.not_mem_nil, or_false] at hw
      rcases hw with rfl | rfl | rfl | rfl
      · exact w1
      · exact w2
      · exact w3
      · exact kj_89
    · exact m_goodC w5 w hw)
  have hrun : va_Run p l e R s m args below meth c T.heap locs cells slots 0 0 (F0 m pc ls (as2.reverse ++ .ref (G.1.2 (10 + j)) :: rest)) rest (fun st oc t => (oc = .returned v2 ∧ va_P G.2.2.1 vwCl (mws G S) t.heap) ∧ va_F (mA G) st t) (mA G) :=
    va_runV (C := RJ0) (b := G.1.2 (10 + j)) (As := as2) (rest := rest) (g := F0 m pc ls (as2.reverse ++ .ref (G.1.2 (10 + j)) :: rest)) (H := T.heap) (cells := cells) (slots := slots) (locs := locs) ⟨hx, hb, hml, hown, hts⟩ (h2 S)
      (cwV n hts hG rfl rfl rfl hd (R := R) ⟨hF, hlo⟩)
      ⟨fun x U g mk q => ⟨q.1, q.2.blind g mk x⟩, vk_recv (N := 6) (len := mstl) (byt := mstb) (adK := fun j => G.1.2 (10 + j)) (adV := fun j => G.1.2 (20 + j)) (i := j) hsf.2.2.2.2.2.1 hj hS, fun U hU hW => ⟨rfl, j_pre hz hK hsf (by omega) hP hS hU hW⟩⟩ rfl hn hls rfl (lv_room q8) hdg (below := below) (meth := meth) (e := e) hcl
  exact m_call hrun hS (fun t locs1 hq hS1 => k t.heap locs1 hq hS1) T rfl X
end JR
theorem jt_len : ∀ j, j < 6 → mstl.getD j 0 ≤ 6 ∧ (mstb.getD j []).length = mstl.getD j 0 := by decide
theorem jt_ch : ∀ j, j < 6 → ∀ i, i < 6 → ((((mstb.getD j []).getD i 0 &&& 255).toUInt32 % 65536).toInt32 = (mstb.getD j []).getD i 0) ∧ ((mstb.getD j []).getD i 0).toUInt32.toUInt16.toUInt32.toInt32 = (mstb.getD j []).getD i 0 := by decide
section JM
variable {l : Launch} {G : mG}
theorem jc_cod {j F : Nat} (hj : j < 6) : jPc l G yJ0_coder_7d493 cJ0_coder_7d493 1 (some .byte) F [.ref (G.1.2 (10 + j))] (some (.int 0)) := by
  refine jP_of (by decide) (Nat.le_of_ble_eq_true rfl) ?_
  intro S p e s m args below meth c ls hC hl
  obtain ⟨hx, hb, hml, hr, hown, hts, hW, hlk⟩ := hC
  have hsf := hW.2.2.2
  have hS : va_S (mA G) s.heap s.heap [] := va_S.rf
  have hl : lv_has ls 1 [(0, .ref (G.1.2 (10 + j)))] := hl
  refine va_gets hx hb hsf.2.2.2.2.2.2.1.1 hS hown (hts _ kj_571) (fun _ h => h) jd_cod_0 ?_
  refine lv_if_eq hx hb jd_cod_3 (tgt := 13) rfl (fun h => absurd h (by decide)) (fun _ => ?_)
  refine lv_aload_n hx hb jd_cod_6 rfl (lv_at hl 0 rfl) ?_
  refine vk_getf hx hb (hsf.2.2.2.2.2.1.1 j hj).2.1 hS hown (hts _ kj_1711) (fun _ h => h) jd_cod_7 ?_
  refine lv_goto hx hb jd_cod_10 (tgt := 14) rfl ?_
  exact W.zret hx hb hr rfl (fun t ht _ => ⟨⟨rfl, by rw [ht]; exact hW.2.1⟩, hS.F ht⟩) hS.2.2 jd_cod_14 hlk
theorem jc_lat {j F : Nat} (hj : j < 6) : jPc l G yJ0_isLatin1_aae02 cJ0_isLatin1_aae02 1 (some .boolean) F [.ref (G.1.2 (10 + j))] (some (.int 1)) := by
  refine jP_of (by decide) (Nat.le_of_ble_eq_true rfl) ?_
  intro S p e s m args below meth c ls hC hl
  obtain ⟨hx, hb, hml, hr, hown, hts, hW, hlk⟩ := hC
  have hsf := hW.2.2.2
  have hS : va_S (mA G) s.heap s.heap [] := va_S.rf
  have hl : lv_has ls 1 [(0, .ref (G.1.2 (10 + j)))] := hl
  refine va_gets hx hb hsf.2.2.2.2.2.2.1.1 hS hown (hts _ kj_571) (fun _ h => h) jd_lat_0 ?_
  refine lv_if_eq hx hb jd_lat_3 (tgt := 17) rfl (fun h => absurd h (by decide)) (fun _ => ?_)
  refine lv_aload_n hx hb jd_lat_6 rfl (lv_at hl 0 rfl) ?_
  refine vk_getf hx hb (hsf.2.2.2.2.2.1.1 j hj).2.1 hS hown (hts _ kj_1711) (fun _ h => h) jd_lat_7 ?_
  refine lv_if_ne hx hb jd_lat_10 (tgt := 17) rfl (fun h => absurd rfl h) (fun _ => ?_)
  refine lv_iconst hx hb jd_lat_13 rfl ?_
  refine lv_goto hx hb jd_lat_14 (tgt := 18) rfl ?_
  exact W.zret hx hb hr rfl (fun t ht _ => ⟨⟨rfl, by rw [ht]; exact hW.2.1⟩, hS.F ht⟩) hS.2.2 jd_lat_18 hlk
theorem jc_len {j : Nat} (hj : j < 6) : jPc l G yJ0_length_8abf5 cJ0_length_8abf5 1 (some .int) 2 [.ref (G.1.2 (10 + j))] (some (.int (Int32.ofNat (mstl.getD j 0)))) := by
  refine jP_of (by decide) (Nat.le_of_ble_eq_true rfl) ?_
  intro S p e s m args below meth c ls hC hl
  obtain ⟨hx, hb, hml, hr, hown, hts, hW, hlk⟩ := hC
  have hsf := hW.2.2.2
  have hS : va_S (mA G) s.heap s.heap [] := va_S.rf
  have hl : lv_has ls 1 [(0, .ref (G.1.2 (10 + j)))] := hl
  refine lv_aload_n hx hb jd_len_0 rfl (lv_at hl 0 rfl) ?_
  refine vk_getf hx hb (hsf.2.2.2.2.2.1.1 j hj).2.2.1 hS hown (hts _ kj_1710) (fun _ h => h) jd_len_1 ?_
  refine va_tlen hx hb (hsf.2.2.2.2.2.1.1 j hj).2.2.2 hS rfl jd_len_4 ?_
  refine lv_aload_n hx hb jd_len_5 rfl (lv_at hl 0 rfl) ?_
  refine j_cv (n := 0) (as2 := []) (rest := [.int (Int32.ofNat (mstl.getD j 0))]) (S := S) (cells := 0) (slots := 0) hj hx hb hml hown hts hW.2.2.1 hsf hW.1 (Nat.zero_add _) ⟨Nat.le_refl _, Nat.le_refl _⟩ (jc_cod (F := 1) hj) (Nat.le_refl _) (Nat.le_of_ble_eq_true rfl) kj_567 kj_568 kj_569 kj_570 (by decide +kernel) rfl rfl (Nat.le_of_ble_eq_true rfl) hl.1 jd_len_6 hW.2.1 hS (fun H locs hP hS => ?_)
  refine lv_ishr hx hb jd_len_9 ?_
  have e0 : (Int32.ofNat (mstl.getD j 0)) >>> ((0 : Int32) &&& 31) = Int32.ofNat (mstl.getD j 0) := by
    have h : ∀ j, j < 6 → (Int32.ofNat (mstl.getD j 0)) >>> ((0 : Int32) &&& 31) = Int32.ofNat (mstl.getD j 0) := by decide
    exact h j hj
  rw [e0]
  exact W.zret hx hb hr rfl (fun t ht _ => ⟨⟨rfl, by rw [ht]; exact hP⟩, hS.F ht⟩) hS.2.2 jd_len_10 hlk
theorem jc_pre {i n : Int32} {f : Value} {F : Nat} (hf : f = .null ∨ ∃ t, f = .ref t) (h0 : ¬ i < 0) (h1 : i < n) : jPc l G yJ3_checkIndex_8e157 cJ3_checkIndex_8e157 3 (some .int) F [.int i, .int n, f] (some (.int i)) := by
  have hc : f.category = 1 := by rcases hf with rfl | ⟨t, rfl⟩ <;> rfl
  refine jP_of (by decide) (by rcases hf with rfl | ⟨t, rfl⟩ <;> exact Nat.le_of_ble_eq_true rfl) ?_
  intro S p e s m args below meth c ls hC hl
  obtain ⟨hx, hb, hml, hr, hown, hts, hW, hlk⟩ := hC
  have hS : va_S (mA G) s.heap s.heap [] := va_S.rf
  have hl : lv_has ls 3 [(0, .int i), (1, .int n), (2, f)] := hl
  refine lv_iload_n hx hb jd_pre_0 rfl (lv_at hl 0 rfl) ?_
  refine lv_if_lt hx hb jd_pre_1 (tgt := 9) rfl (fun h => absurd h h0) (fun _ => ?_)
  refine lv_iload_n hx hb jd_pre_4 rfl (lv_at hl 0 rfl) ?_
  refine lv_iload_n hx hb jd_pre_5 rfl (lv_at hl 1 rfl) ?_
  refine lv_icmp_lt hx hb jd_pre_6 (tgt := 16) rfl (fun _ => ?_) (fun h => absurd h1 h)
  refine lv_iload_n hx hb jd_pre_16 rfl (lv_at hl 0 rfl) ?_
  exact W.zret hx hb hr rfl (fun t ht _ => ⟨⟨rfl, by rw [ht]; exact hW.2.1⟩, hS.F ht⟩) hS.2.2 jd_pre_17 hlk
theorem jc_chk {i n : Int32} (h0 : ¬ i < 0) (h1 : i < n) : jPc l G yJ0_checkIndex_df160 cJ0_checkIndex_df160 2 none 2 [.int i, .int n] none := by
  refine jP_of (by decide) (Nat.le_of_ble_eq_true rfl) ?_
  intro S p e s m args below meth c ls hC hl
  obtain ⟨hx, hb, hml, hr, hown, hts, hW, hlk⟩ := hC
  have hsf := hW.2.2.2
  have hS : va_S (mA G) s.heap s.heap [] := va_S.rf
  have hl : lv_has ls 2 [(0, .int i), (1, .int n)] := hl
  refine lv_iload_n hx hb jd_chk_0 rfl (lv_at hl 0 rfl) ?_
  refine lv_iload_n hx hb jd_chk_1 rfl (lv_at hl 1 rfl) ?_
  have go : ∀ f : Value, (f = .null ∨ ∃ t, f = .ref t) → va_Z "jdk/internal/util/Preconditions" "SIOOBE_FORMATTER" "Ljava/util/function/BiFunction;" f (mA G) s s.heap → W p l e (jRm 2) s m args below meth c s.heap [] 0 0 (MQ below (jQ G S none) args s 0 0 (mA G)) (F0 m 2 ls [.int n, .int i]) := by
    intro f hf hZ
    have hc : f.category = 1 := by rcases hf with rfl | ⟨t, rfl⟩ <;> rfl
    refine va_gets hx hb hZ hS hown (hts _ kj_587) (fun _ h => h) jd_chk_2 ?_
    refine j_cs (n := 3) (as2 := [.int i, .int n, f]) (rest := []) (S := S) (cells := 0) (slots := 0) hx hb hml hown hts hW.2.2.1 hsf hW.1 (Nat.zero_add _) ⟨Nat.le_refl _, Nat.le_refl _⟩ (jc_pre (F := 1) hf h0 h1) (Nat.le_refl _) (Nat.le_of_ble_eq_true rfl) kj_589 kj_590 kj_91 kj_591 (by decide +kernel) rfl rfl (Nat.le_of_ble_eq_true rfl) hl.1 jd_chk_5 hW.2.1 hS (fun H locs hP hS => ?_)
    refine lv_pop hx hb jd_chk_8 rfl ?_
    exact W.vret hx hb hr (fun t ht _ => ⟨⟨rfl, by rw [ht]; exact hP⟩, hS.F ht⟩) hS.2.2 jd_chk_9 hlk
  rcases hsf.2.2.2.2.2.2.1.2 with hZ | ⟨t, hZ⟩
  · exact go _ (Or.inl rfl) hZ
  · exact go _ (Or.inr ⟨t, rfl⟩) hZ
theorem jc_lch {j i : Nat} {x : Int32} (hj : j < 6) (hi : i < mstl.getD j 0) (hx0 : x.toNatClampNeg = i) (h0 : ¬ x < 0) : jPc l G yJ1_charAt_3b067 cJ1_charAt_3b067 2 (some .char) 3 [.ref (G.1.2 (20 + j)), .int x] (some (.int ((mstb.getD j []).getD i 0))) := by
  refine jP_of (by decide) (Nat.le_of_ble_eq_true rfl) ?_
  intro S p e s m args below meth c ls hC hl
  obtain ⟨hx, hb, hml, hr, hown, hts, hW, hlk⟩ := hC
  have hsf := hW.2.2.2
  have hS : va_S (mA G) s.heap s.heap [] := va_S.rf
  have hl : lv_has ls 2 [(0, .ref (G.1.2 (20 + j))), (1, .int x)] := hl
  have h6 := (jt_len j hj).1
  obtain ⟨ch1, ch2⟩ := jt_ch j hj i (by omega)
  have h1 : x < Int32.ofNat (mstl.getD j 0) := by
    rw [Int32.lt_iff_toInt_lt]
    have e1 : (Int32.ofNat (mstl.getD j 0)).toInt = (mstl.getD j 0 : Int) := Int32.toInt_ofNat_of_lt (by omega)
    have e2 : x.toInt = (i : Int) := by
      have e3 : x.toInt.toNat = i := hx0
      have e4 : ¬ x.toInt < 0 := fun z => h0 (by rw [Int32.lt_iff_toInt_lt]; simpa using z)
      omega
    omega
  refine lv_iload_n hx hb jd_lch_0 rfl (lv_at hl 1 rfl) ?_
  refine lv_aload_n hx hb jd_lch_1 rfl (lv_at hl 0 rfl) ?_
  refine va_tlen hx hb (hsf.2.2.2.2.2.1.1 j hj).2.2.2 hS rfl jd_lch_2 ?_
  refine j_cs (n := 2) (as2 := [.int x, .int (Int32.ofNat (mstl.getD j 0))]) (rest := []) (S := S) (cells := 0) (slots := 0) hx hb hml hown hts hW.2.2.1 hsf hW.1 (Nat.zero_add _) ⟨Nat.le_refl _, Nat.le_refl _⟩ (jc_chk h0 h1) (Nat.le_refl _) (Nat.le_of_ble_eq_true rfl) kj_584 kj_585 kj_89 kj_586 (by decide +kernel) rfl rfl (Nat.le_of_ble_eq_true rfl) hl.1 jd_lch_3 hW.2.1 hS (fun H locs hP hS => ?_)
  refine lv_aload_n hx hb jd_lch_6 rfl (lv_at hl 0 rfl) ?_
  refine lv_iload_n hx hb jd_lch_7 rfl (lv_at hl 1 rfl) ?_
  refine va_tb hx hb (hsf.2.2.2.2.2.1.1 j hj).2.2.2 hS (fun q => by rcases q with q | q; exact h0 q; omega) rfl jd_lch_8 ?_
  refine lv_sipush hx hb jd_lch_9 rfl ?_
  refine lv_iand hx hb jd_lch_12 ?_
  rw [hx0]
  refine lv_i2c hx hb jd_lch_13 ch1 ?_
  exact W.zret hx hb hr (by show Value.int _ = Value.int _; rw [ch2]) (fun t ht _ => ⟨⟨rfl, by rw [ht]; exact hP⟩, hS.F ht⟩) hS.2.2 jd_lch_14 hlk
theorem jc_cha {j i : Nat} {x : Int32} (hj : j < 6) (hi : i < mstl.getD j 0) (hx0 : x.toNatClampNeg = i) (h0 : ¬ x < 0) : jPc l G yJ0_charAt_5068e cJ0_charAt_5068e 2 (some .char) 4 [.ref (G.1.2 (10 + j)), .int x] (some (.int ((mstb.getD j []).getD i 0))) := by
  refine jP_of (by decide) (Nat.le_of_ble_eq_true rfl) ?_
  intro S p e s m args below meth c ls hC hl
  obtain ⟨hx, hb, hml, hr, hown, hts, hW, hlk⟩ := hC
  have hsf := hW.2.2.2
  have hS : va_S (mA G) s.heap s.heap [] := va_S.rf
  have hl : lv_has ls 2 [(0, .ref (G.1.2 (10 + j))), (1, .int x)] := hl
  have h6 := (jt_len j hj).1
  obtain ⟨ch1, ch2⟩ := jt_ch j hj i (by omega)
  refine lv_aload_n hx hb jd_cha_0 rfl (lv_at hl 0 rfl) ?_
  refine j_cv (n := 0) (as2 := []) (rest := []) (S := S) (cells := 0) (slots := 0) hj hx hb hml hown hts hW.2.2.1 hsf hW.1 (Nat.zero_add _) ⟨Nat.le_refl _, Nat.le_refl _⟩ (jc_lat (F := 1) hj) (Nat.le_of_ble_eq_true rfl) (Nat.le_of_ble_eq_true rfl) kj_577 kj_578 kj_579 kj_580 (by decide +kernel) rfl rfl (Nat.le_of_ble_eq_true rfl) hl.1 jd_cha_1 hW.2.1 hS (fun H locs hP hS => ?_)
  refine lv_if_eq hx hb jd_cha_4 (tgt := 16) rfl (fun h => absurd h (by decide)) (fun _ => ?_)
  refine lv_aload_n hx hb jd_cha_7 rfl (lv_at hl 0 rfl) ?_
  refine vk_getf hx hb (hsf.2.2.2.2.2.1.1 j hj).2.2.1 hS hown (hts _ kj_1710) (fun _ h => h) jd_cha_8 ?_
  refine lv_iload_n hx hb jd_cha_11 rfl (lv_at hl 1 rfl) ?_
  refine j_cs (n := 2) (as2 := [.ref (G.1.2 (20 + j)), .int x]) (rest := []) (S := S) (cells := 0) (slots := 0) hx hb hml hown hts hW.2.2.1 hsf hW.1 (Nat.zero_add _) ⟨Nat.le_refl _, Nat.le_refl _⟩ (jc_lch hj hi hx0 h0) (Nat.le_refl _) (Nat.le_of_ble_eq_true rfl) kj_581 kj_582 kj_90 kj_583 (by decide +kernel) rfl rfl (Nat.le_of_ble_eq_true rfl) hl.1 jd_cha_12 hP hS (fun H locs hP hS => ?_)
  exact W.zret hx hb hr (by show Value.int _ = Value.int _; rw [ch2]) (fun t ht _ => ⟨⟨rfl, by rw [ht]; exact hP⟩, hS.F ht⟩) hS.2.2 jd_cha_15 hlk
end JM
section ST
variable {l : Launch} {G : mG} {own : String} {cc : ByteArray} {nL : Nat} {ret : Option FieldType} {nm : String} {pc nx : Nat}
theorem k_slen2 {ix : Nat} (hw : Cond.methodLink own ix yJ0_length_8abf5 ∈ mtbl) (hdg : decode cc pc = .ok (.invokevirtual ix, 3)) (hn : pc + 3 = nx) : mOk l G own cc nL ret nm pc (o_slen2 nx) := by
  intro D p e R s m args below meth c n0 w0 Q hC L st S r hr
  simp only [o_slen2] at hr
  split at hr
  rotate_left
  · cases hr
  next q rest =>
  obtain ⟨e1, hr⟩ := m_cond hr
  obtain ⟨e2, hr⟩ := m_cond hr
  obtain ⟨len, e3, hr⟩ := mnth_spec hr
  cases hr
  subst hn
  have e1 := Nat.le_of_ble_eq_true e1
  have q8 := m_mcat (G := G) e2
  have hfr := hC.fr
  have hlo := hC.lo
  refine And.intro (Nat.le_refl _) (And.intro (Nat.le_refl _) (fun a1 a2 kk => ?_)); intro H locs ls cells slots h1 h2 hP hS hL
  have hj : q.toNat - 10 < 6 := (List.getElem?_eq_some_iff.mp e3).1
  have hq : q.toNat = 10 + (q.toNat - 10) := by omega
  have hlen : len = mstl.getD (q.toNat - 10) 0 := by rw [List.getD_eq_getElem?_getD, e3]; rfl
  subst hlen
  exact j_cv (n := 0) (as2 := []) (rest := rest.map (mtr G)) (S := S) hj hC.1 hC.2.1 hC.2.2.1 hC.ow hC.hts hC.hK hC.sf hC.sz h1 ⟨by omega, by omega⟩ (jc_len hj) (by omega) (by omega) hw kj_564 kj_565 kj_566 (by decide +kernel) rfl (by show Value.ref (G.1.2 q.toNat) :: _ = _; rw [← hq]; rfl) q8 hL.2.1 hdg hP hS (fun H locs hP hS => kk H locs ls cells slots h1 h2 hP hS hL)
theorem k_sat {ix : Nat} (hw : Cond.methodLink own ix yJ0_charAt_5068e ∈ mtbl) (hdg : decode cc pc = .ok (.invokevirtual ix, 3)) (hn : pc + 3 = nx) : mOk l G own cc nL ret nm pc (o_sat nx) := by
  intro D p e R s m args below meth c n0 w0 Q hC L st S r hr
  simp only [o_sat] at hr
  split at hr
  rotate_left
  · cases hr
  next x q rest =>
  obtain ⟨e1, hr⟩ := m_cond hr
  obtain ⟨e2, hr⟩ := m_cond hr
  obtain ⟨bs, e3, hr⟩ := mnth_spec hr
  split at hr
  · cases hr
  next hi =>
  cases hr
  subst hn
  have e1 := Nat.le_of_ble_eq_true e1
  have q8 := m_mcat (G := G) e2
  have hfr := hC.fr
  have hlo := hC.lo
  refine And.intro (Nat.le_refl _) (And.intro (Nat.le_refl _) (fun a1 a2 kk => ?_)); intro H locs ls cells slots h1 h2 hP hS hL
  have hj : q.toNat - 10 < 6 := (List.getElem?_eq_some_iff.mp e3).1
  have hq : q.toNat = 10 + (q.toNat - 10) := by omega
  have hbs : bs = mstb.getD (q.toNat - 10) [] := by rw [List.getD_eq_getElem?_getD, e3]; rfl
  subst hbs
  have hlt : x.toNatClampNeg < mstl.getD (q.toNat - 10) 0 := by
    rw [← (jt_len _ hj).2]
    exact Nat.not_le.mp fun z => hi (Or.inr z)
  exact j_cv (n := 1) (as2 := [.int x]) (rest := rest.map (mtr G)) (S := S) hj hC.1 hC.2.1 hC.2.2.1 hC.ow hC.hts hC.hK hC.sf hC.sz h1 ⟨by omega, by omega⟩ (jc_cha hj hlt rfl (fun z => hi (Or.inl z))) (by omega) (by omega) hw kj_574 kj_575 kj_576 (by decide +kernel) rfl (by show Value.int x :: Value.ref (G.1.2 q.toNat) :: _ = _; rw [← hq]; rfl) q8 hL.2.1 hdg hP hS (fun H locs hP hS => kk H locs ls cells slots h1 h2 hP hS hL)
end ST
