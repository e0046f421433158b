/-! methods by number; contracts over my machine; the rows: each op is what the machine does -/
def mM0 (y : Nat) : MethodName × ByteArray × Nat × Option FieldType := (cond (Nat.blt y 16) (cond (Nat.blt y 8) (cond (Nat.blt y 4) (cond (Nat.blt y 2) (cond (Nat.blt y 1) (yX0_init, cX0_init, 1, none) (yX0_mayCome, cX0_mayCome, 2, (some .boolean))) (cond (Nat.blt y 3) (yX0_isFeeling, cX0_isFeeling, 1, (some .boolean)) (yX0_mostOf, cX0_mostOf, 1, (some .int)))) (cond (Nat.blt y 6) (cond (Nat.blt y 5) (yX0_placeOfFeeling, cX0_placeOfFeeling, 2, (some .int)) (yX0_admit, cX0_admit, 3, (some .int))) (cond (Nat.blt y 7) (yX0_has, cX0_has, 2, (some .boolean)) (yX0_hasPair, cX0_hasPair, 2, (some .boolean))))) (cond (Nat.blt y 12) (cond (Nat.blt y 10) (cond (Nat.blt y 9) (yX0_placeOf, cX0_placeOf, 3, (some .int)) (yX0_numberAt, cX0_numberAt, 2, (some .int))) (cond (Nat.blt y 11) (yX0_setNumber, cX0_setNumber, 3, none) (yX0_hungerOf, cX0_hungerOf, 2, (some .int)))) (cond (Nat.blt y 14) (cond (Nat.blt y 13) (yX0_hungerMore, cX0_hungerMore, 3, none) (yX0_hungerLess, cX0_hungerLess, 3, none)) (cond (Nat.blt y 15) (yX0_felt, cX0_felt, 4, (some .int)) (yX0_setFelt, cX0_setFelt, 4, none))))) (cond (Nat.blt y 30) (cond (Nat.blt y 25) (cond (Nat.blt y 20) (cond (Nat.blt y 18) (yX0_friendOf, cX0_friendOf, 7, (some .int)) (yX0_hatersOf, cX0_hatersOf, 4, (some .int))) (cond (Nat.blt y 24) (yX0_feelingsBelowNone, cX0_feelingsBelowNone, 3, (some .int)) (yX0_endDay, cX0_endDay, 3, none))) (cond (Nat.blt y 28) (cond (Nat.blt y 26) (yX0_fade, cX0_fade, 3, none) (yX0_takeOver, cX0_takeOver, 2, none)) (cond (Nat.blt y 29) (yX1_init, cX1_init, 1, none) (yX1_add, cX1_add, 3, none)))) (cond (Nat.blt y 34) (cond (Nat.blt y 32) (cond (Nat.blt y 31) (yX1_told, cX1_told, 2, (some .int)) (yX1_tell, cX1_tell, 4, none)) (cond (Nat.blt y 33) (yX1_write, cX1_write, 2, none) (yX1_taleLength, cX1_taleLength, 1, (some .int)))) (cond (Nat.blt y 39) (cond (Nat.blt y 38) (yX1_taleByte, cX1_taleByte, 2, (some .int)) (yX2_init, cX2_init, 1, none)) (cond (Nat.blt y 40) (yX2_add, cX2_add, 4, none) (yX2_forgetFirst, cX2_forgetFirst, 1, none))))))
def mM1 (y : Nat) : MethodName × ByteArray × Nat × Option FieldType := (cond (Nat.blt y 60) (cond (Nat.blt y 52) (cond (Nat.blt y 48) (cond (Nat.blt y 46) (cond (Nat.blt y 45) (yX2_undoable, cX2_undoable, 1, (some .int)) (yX3_init, cX3_init, 1, none)) (cond (Nat.blt y 47) (yX3_become, cX3_become, 2, none) (yX3_setWords, cX3_setWords, 6, none))) (cond (Nat.blt y 50) (cond (Nat.blt y 49) (yX3_weighedOut, cX3_weighedOut, 6, (some .int)) (yX3_held, cX3_held, 1, (some .int))) (cond (Nat.blt y 51) (yX3_joined, cX3_joined, 3, (some .int)) (yX4_init, cX4_init, 1, none)))) (cond (Nat.blt y 56) (cond (Nat.blt y 54) (cond (Nat.blt y 53) (yX4_take, cX4_take, 2, (some .int)) (yX4_length, cX4_length, 1, (some .int))) (cond (Nat.blt y 55) (yX4_clear, cX4_clear, 1, none) (yX4_read, cX4_read, 2, (some .int)))) (cond (Nat.blt y 58) (cond (Nat.blt y 57) (yX4_readLine, cX4_readLine, 1, (some .boolean)) (yX4_readLevel, cX4_readLevel, 6, (some .boolean))) (cond (Nat.blt y 59) (yX4_levelOf, cX4_levelOf, 1, (some .int)) (yX4_readOperand, cX4_readOperand, 3, (some .boolean)))))) (cond (Nat.blt y 68) (cond (Nat.blt y 64) (cond (Nat.blt y 62) (cond (Nat.blt y 61) (yX4_readOpened, cX4_readOpened, 3, (some .boolean)) (yX4_readNumber, cX4_readNumber, 3, none)) (cond (Nat.blt y 63) (yX4_readWord, cX4_readWord, 3, (some .boolean)) (yX4_isWord, cX4_isWord, 5, (some .boolean)))) (cond (Nat.blt y 66) (cond (Nat.blt y 65) (yX4_wordOf, cX4_wordOf, 1, (some (.object "java/lang/String"))) (yX4_isDigit, cX4_isDigit, 1, (some .boolean))) (cond (Nat.blt y 67) (yX4_next, cX4_next, 1, (some .int)) (yX4_write, cX4_write, 2, none)))) (cond (Nat.blt y 95) (cond (Nat.blt y 77) (cond (Nat.blt y 74) (yX5_init, cX5_init, 1, none) (yX5_bodies, cX5_bodies, 1, (some .int))) (cond (Nat.blt y 83) (yX5_ran, cX5_ran, 1, (some .int)) (yX6_init, cX6_init, 2, none))) (cond (Nat.blt y 97) (cond (Nat.blt y 96) (yX7_init, cX7_init, 1, none) (yX7_goBy, cX7_goBy, 6, (some .int))) (cond (Nat.blt y 98) (yX7_hungriest, cX7_hungriest, 6, (some .int)) (yX7_serve, cX7_serve, 10, none))))))
def mM2 (y : Nat) : MethodName × ByteArray × Nat × Option FieldType := (cond (Nat.blt y 147) (cond (Nat.blt y 135) (cond (Nat.blt y 122) (cond (Nat.blt y 100) (yX7_weigherOf, cX7_weigherOf, 3, (some .int)) (cond (Nat.blt y 121) (yX8_init, cX8_init, 1, none) (yX9_init, cX9_init, 4, none))) (cond (Nat.blt y 124) (cond (Nat.blt y 123) (yX9_begin, cX9_begin, 1, none) (yX9_goOn, cX9_goOn, 4, (some .int))) (cond (Nat.blt y 134) (yX9_daysFed, cX9_daysFed, 3, (some .int)) (yX10_init, cX10_init, 1, none)))) (cond (Nat.blt y 140) (cond (Nat.blt y 138) (cond (Nat.blt y 137) (yX10_person, cX10_person, 3, (some .int)) (yX10_mend, cX10_mend, 5, (some .int))) (cond (Nat.blt y 139) (yX10_of, cX10_of, 4, (some .int)) (yX10_feel, cX10_feel, 3, (some .int)))) (cond (Nat.blt y 142) (cond (Nat.blt y 141) (yX10_feeling, cX10_feeling, 2, (some .int)) (yX10_feed, cX10_feed, 2, (some .int))) (cond (Nat.blt y 143) (yX10_law, cX10_law, 2, (some .int)) (yX10_changeTo, cX10_changeTo, 4, (some .int)))))) (cond (Nat.blt y 162) (cond (Nat.blt y 158) (cond (Nat.blt y 149) (cond (Nat.blt y 148) (yX10_later, cX10_later, 4, (some .int)) (yX10_feltLater, cX10_feltLater, 3, (some .int))) (cond (Nat.blt y 153) (yX10_lasts, cX10_lasts, 2, (some .int)) (yX10_isOneOrAll, cX10_isOneOrAll, 2, (some .boolean)))) (cond (Nat.blt y 160) (cond (Nat.blt y 159) (yX10_day, cX10_day, 2, (some .int)) (yX10_wrong, cX10_wrong, 4, (some .int))) (cond (Nat.blt y 161) (yX10_lease, cX10_lease, 6, (some .int)) (yX10_gift, cX10_gift, 3, (some .int))))) (cond (Nat.blt y 281) (cond (Nat.blt y 177) (cond (Nat.blt y 163) (yX10_tale, cX10_tale, 2, (some .int)) (yX10_led, cX10_led, 2, (some .int))) (cond (Nat.blt y 280) (yX10_count, cX10_count, 2, (some .int)) (yL_friend, cL_friend, 5, (some .int)))) (cond (Nat.blt y 283) (cond (Nat.blt y 282) (yL_out, cL_out, 10, (some .int)) (yL_day, cL_day, 12, (some .int))) (cond (Nat.blt y 284) (yL_copy, cL_copy, 3, (some (.array .int))) (yL_three, cL_three, 4, (some .boolean)))))))
def mM (y : Nat) : MethodName × ByteArray × Nat × Option FieldType := cond (Nat.blt y 300) (cond (Nat.blt y 41) (mM0 y) (cond (Nat.blt y 99) (mM1 y) (mM2 y))) (cond (Nat.blt y 301) (yL_cell, cL_cell, 2, (some .int)) (yL_bazaar, cL_bazaar, 12, (some .boolean)))
def mCt (l : Launch) (G : mG) (D y : Nat) (as : List Value) (S : mS) (v : Option Value) (S' : mS) : Prop :=
  Met l (mM y).1 (.code (mM y).1 (mM y).2.1 (mM y).2.2.1 (mM y).2.2.2 :: mtbl) (mRm D (S'.2.1.length - S.2.1.length) (S'.1 - S.1)) (va_Pc (as.map (mtr G)) (mW G S))
    (fun _ st oc t => (oc = .returned (v.map (mtr G)) ∧ va_P G.2.2.1 vwCl (mws G S') t.heap) ∧ va_F (mA G) st t) (S'.2.1.length - S.2.1.length) (S'.1 - S.1) (mA G)
def mCx (G : mG) (own : String) (cc : ByteArray) (nL : Nat) (ret : Option FieldType) (nm : String) (D : Nat) (p : Program) (R : Room) (s : State) (m : MethodId) (args : Array Value) (meth : Method) (c : Code) (n0 : Nat) : Prop :=
  p.tables.exec = Jvm.exec ∧ c.code = cc ∧ c.maxLocals = nL ∧ meth.sig.returnType = ret ∧ meth.name = nm ∧ s.vm.findClass own = some m.cls ∧ (∀ w ∈ mtbl, w.before args s = true) ∧ va_K G.2.2.1 vwCl (mty G) s ∧ mSF G s ∧ s.heap.size = G.1.1 + n0 ∧ D + 5 ≤ R.frames ∧ 40 * (D + 5) ≤ R.locals
section mCxL
variable {G : mG} {own : String} {cc : ByteArray} {nL : Nat} {ret : Option FieldType} {nm : String} {D : Nat} {p : Program} {R : Room} {s : State} {m : MethodId} {args : Array Value} {meth : Method} {c : Code} {n0 : Nat}
theorem mCx.ow (h : mCx G own cc nL ret nm D p R s m args meth c n0) : s.vm.findClass own = some m.cls := h.2.2.2.2.2.1
theorem mCx.hts (h : mCx G own cc nL ret nm D p R s m args meth c n0) : ∀ w ∈ mtbl, w.before args s = true := h.2.2.2.2.2.2.1
theorem mCx.hK (h : mCx G own cc nL ret nm D p R s m args meth c n0) : va_K G.2.2.1 vwCl (mty G) s := h.2.2.2.2.2.2.2.1
theorem mCx.sf (h : mCx G own cc nL ret nm D p R s m args meth c n0) : mSF G s := h.2.2.2.2.2.2.2.2.1
theorem mCx.sz (h : mCx G own cc nL ret nm D p R s m args meth c n0) : s.heap.size = G.1.1 + n0 := h.2.2.2.2.2.2.2.2.2.1
theorem mCx.fr (h : mCx G own cc nL ret nm D p R s m args meth c n0) : D + 5 ≤ R.frames := h.2.2.2.2.2.2.2.2.2.2.1
theorem mCx.lo (h : mCx G own cc nL ret nm D p R s m args meth c n0) : 40 * (D + 5) ≤ R.locals := h.2.2.2.2.2.2.2.2.2.2.2
end mCxL
def mWt (l : Launch) (G : mG) (nL n0 w0 : Nat) (p : Program) (e : Env) (R : Room) (s : State) (m : MethodId) (args : Array Value) (below : List Frame) (meth : Method) (c : Code) (Q : State → Prop) (pc : Nat) (L : mL) (st : mK) (S : mS) : Prop :=
  ∀ (H : Heap) (locs : List Loc) (ls : Array Slot) (cells slots : Nat), cells + n0 = S.2.1.length → slots + w0 = S.1 → va_P G.2.2.1 vwCl (mws G S) H → va_S (mA G) s.heap H locs → mlo G ls nL L → W p l e R s m args below meth c H locs cells slots Q (F0 m pc ls (st.map (mtr G)))
def mRt (G : mG) (cc : ByteArray) (ret : Option FieldType) (pc : Nat) (st : mK) (v : Option Value) : Prop :=
  (∃ (x : Int32) (ty : FieldType), v = some (.int x) ∧ st = [.int x] ∧ ret = some ty ∧ narrow ty (.int x) = .int x ∧ decode cc pc = .ok (.ireturn, 1)) ∨
  (v = none ∧ st = [] ∧ ret = none ∧ decode cc pc = .ok (.return_, 1)) ∨
  (∃ x : Int64, v = some (.long x) ∧ st = [.long x] ∧ ret = some .long ∧ decode cc pc = .ok (.lreturn, 1)) ∨
  (∃ (j : UInt32) (n : String), v = some (.float j) ∧ st = [.float j] ∧ ret = some (.object n) ∧ decode cc pc = .ok (.areturn, 1)) ∨
  (∃ a : Nat, v = some (.ref a) ∧ st = [.ref a] ∧ ret = some (.array .int) ∧ decode cc pc = .ok (.areturn, 1))
def mOk (l : Launch) (G : mG) (own : String) (cc : ByteArray) (nL : Nat) (ret : Option FieldType) (nm : String) (pc : Nat) (op : mO) : Prop :=
  ∀ (D : Nat) (p : Program) (e : Env) (R : Room) (s : State) (m : MethodId) (args : Array Value) (below : List Frame) (meth : Method) (c : Code) (n0 w0 : Nat) (Q : State → Prop), mCx G own cc nL ret nm D p R s m args meth c n0 →
  ∀ (L : mL) (st : mK) (S : mS) (r : mR), op L st S = some r → match r with
    | .inl (pc', L', st', S') => S.2.1.length ≤ S'.2.1.length ∧ S.1 ≤ S'.1 ∧ (S'.2.1.length ≤ n0 + R.cells → S'.1 ≤ w0 + R.slots →
        mWt l G nL n0 w0 p e R s m args below meth c Q pc' L' st' S' → mWt l G nL n0 w0 p e R s m args below meth c Q pc L st S)
    | .inr (.inl (v, S')) => S' = S ∧ mRt G cc ret pc st v
    | .inr (.inr (y, as, (pc', L', st', S'))) => S' = S ∧ ∀ (v : Option Value) (S2 : mS), mCt l G D y as S v S2 → S.2.1.length ≤ S2.2.1.length → S.1 ≤ S2.1 → S2.2.1.length ≤ n0 + R.cells → S2.1 ≤ w0 + R.slots →
        mWt l G nL n0 w0 p e R s m args below meth c Q pc' L' (v.toList ++ st') S2 → mWt l G nL n0 w0 p e R s m args below meth c Q pc L st S

theorem k_ic1 {l : Launch} {G : mG} {own : String} {cc : ByteArray} {nL : Nat} {ret : Option FieldType} {nm : String} {pc nx : Nat} {n : Int} {v : Int32} (hdg : decode cc pc = .ok (.iconst n, 1)) (hv : Int32.ofInt n = v) (hn : pc + 1 = nx) : mOk l G own cc nL ret nm pc (o_ic v nx) := by
  intro D p e R s m args below meth c n0 w0 Q hC L st S r hr
  cases hr
  subst hn
  refine And.intro (Nat.le_refl _) (And.intro (Nat.le_refl _) (fun _ _ k => ?_)); intro H locs ls cells slots h1 h2 hP hS hL; exact lv_iconst hC.1 hC.2.1 hdg hv (k H locs ls cells slots h1 h2 hP hS hL)
theorem k_ic2 {l : Launch} {G : mG} {own : String} {cc : ByteArray} {nL : Nat} {ret : Option FieldType} {nm : String} {pc nx : Nat} {n : Int} {v : Int32} (hdg : decode cc pc = .ok (.bipush n, 2)) (hv : (Int8.ofInt n).toInt32 = v) (hn : pc + 2 = nx) : mOk l G own cc nL ret nm pc (o_ic v nx) := by
  intro D p e R s m args below meth c n0 w0 Q hC L st S r hr
  cases hr
  subst hn
  refine And.intro (Nat.le_refl _) (And.intro (Nat.le_refl _) (fun _ _ k => ?_)); intro H locs ls cells slots h1 h2 hP hS hL; exact lv_bipush hC.1 hC.2.1 hdg hv (k H locs ls cells slots h1 h2 hP hS hL)
theorem k_ic3 {l : Launch} {G : mG} {own : String} {cc : ByteArray} {nL : Nat} {ret : Option FieldType} {nm : String} {pc nx : Nat} {n : Int} {v : Int32} (hdg : decode cc pc = .ok (.sipush n, 3)) (hv : (Int16.ofInt n).toInt32 = v) (hn : pc + 3 = nx) : mOk l G own cc nL ret nm pc (o_ic v nx) := by
  intro D p e R s m args below meth c n0 w0 Q hC L st S r hr
  cases hr
  subst hn
  refine And.intro (Nat.le_refl _) (And.intro (Nat.le_refl _) (fun _ _ k => ?_)); intro H locs ls cells slots h1 h2 hP hS hL; exact lv_sipush hC.1 hC.2.1 hdg hv (k H locs ls cells slots h1 h2 hP hS hL)
theorem k_ic4 {l : Launch} {G : mG} {own : String} {cc : ByteArray} {nL : Nat} {ret : Option FieldType} {nm : String} {pc nx : Nat} {ix : Nat} {v : Int32} (hdg : decode cc pc = .ok (.ldc ix, 2)) (hw : Cond.constant own ix v ∈ mtbl) (hn : pc + 2 = nx) : mOk l G own cc nL ret nm pc (o_ic v nx) := by
  intro D p e R s m args below meth c n0 w0 Q hC L st S r hr
  cases hr
  subst hn
  refine And.intro (Nat.le_refl _) (And.intro (Nat.le_refl _) (fun _ _ k => ?_)); intro H locs ls cells slots h1 h2 hP hS hL; exact lv_ldc hC.1 hC.2.1 hC.ow (hC.hts _ hw) hdg (k H locs ls cells slots h1 h2 hP hS hL)
theorem k_ic5 {l : Launch} {G : mG} {own : String} {cc : ByteArray} {nL : Nat} {ret : Option FieldType} {nm : String} {pc nx : Nat} {ix : Nat} {v : Int32} (hdg : decode cc pc = .ok (.ldc_w ix, 3)) (hw : Cond.constant own ix v ∈ mtbl) (hn : pc + 3 = nx) : mOk l G own cc nL ret nm pc (o_ic v nx) := by
  intro D p e R s m args below meth c n0 w0 Q hC L st S r hr
  cases hr
  subst hn
  refine And.intro (Nat.le_refl _) (And.intro (Nat.le_refl _) (fun _ _ k => ?_)); intro H locs ls cells slots h1 h2 hP hS hL; exact lv_ldcw hC.1 hC.2.1 hC.ow (hC.hts _ hw) hdg (k H locs ls cells slots h1 h2 hP hS hL)
theorem k_lc1 {l : Launch} {G : mG} {own : String} {cc : ByteArray} {nL : Nat} {ret : Option FieldType} {nm : String} {pc nx : Nat} {n : Fin 2} {v : Int64} (hdg : decode cc pc = .ok (.lconst n, 1)) (hv : Int64.ofNat (n : Nat) = v) (hn : pc + 1 = nx) : mOk l G own cc nL ret nm pc (o_lc v nx) := by
  intro D p e R s m args below meth c n0 w0 Q hC L st S r hr
  cases hr
  subst hn
  refine And.intro (Nat.le_refl _) (And.intro (Nat.le_refl _) (fun _ _ k => ?_)); intro H locs ls cells slots h1 h2 hP hS hL; exact lv_lconst hC.1 hC.2.1 hdg hv (k H locs ls cells slots h1 h2 hP hS hL)
theorem k_lc2 {l : Launch} {G : mG} {own : String} {cc : ByteArray} {nL : Nat} {ret : Option FieldType} {nm : String} {pc nx : Nat} {ix : Nat} {v : Int64} (hdg : decode cc pc = .ok (.ldc2_w ix, 3)) (hw : Cond.constantLong own ix v ∈ mtbl) (hn : pc + 3 = nx) : mOk l G own cc nL ret nm pc (o_lc v nx) := by
  intro D p e R s m args below meth c n0 w0 Q hC L st S r hr
  cases hr
  subst hn
  refine And.intro (Nat.le_refl _) (And.intro (Nat.le_refl _) (fun _ _ k => ?_)); intro H locs ls cells slots h1 h2 hP hS hL; exact lv_ldc2 hC.1 hC.2.1 hC.ow (hC.hts _ hw) hdg (k H locs ls cells slots h1 h2 hP hS hL)
theorem k_il1 {l : Launch} {G : mG} {own : String} {cc : ByteArray} {nL : Nat} {ret : Option FieldType} {nm : String} {pc nx : Nat} {q : Fin 4} {i : Nat} (hdg : decode cc pc = .ok (.iload_n q, 1)) (hq : (q : Nat) = i) (hn : pc + 1 = nx) : mOk l G own cc nL ret nm pc (o_il i nx) := by
  intro D p e R s m args below meth c n0 w0 Q hC L st S r hr
  obtain ⟨v, g1, g2⟩ := mget_spec hr
  split at g2
  · cases g2
    subst hn
    refine And.intro (Nat.le_refl _) (And.intro (Nat.le_refl _) (fun _ _ k => ?_)); intro H locs ls cells slots h1 h2 hP hS hL; exact lv_iload_n hC.1 hC.2.1 hdg hq (hL.2.2.2 _ _ g1) (k H locs ls cells slots h1 h2 hP hS hL)
  · cases g2
theorem k_il2 {l : Launch} {G : mG} {own : String} {cc : ByteArray} {nL : Nat} {ret : Option FieldType} {nm : String} {pc nx : Nat} {i : Nat} (hdg : decode cc pc = .ok (.iload i, 2)) (hn : pc + 2 = nx) : mOk l G own cc nL ret nm pc (o_il i nx) := by
  intro D p e R s m args below meth c n0 w0 Q hC L st S r hr
  obtain ⟨v, g1, g2⟩ := mget_spec hr
  split at g2
  · cases g2
    subst hn
    refine And.intro (Nat.le_refl _) (And.intro (Nat.le_refl _) (fun _ _ k => ?_)); intro H locs ls cells slots h1 h2 hP hS hL; exact lv_iload hC.1 hC.2.1 hdg (hL.2.2.2 _ _ g1) (k H locs ls cells slots h1 h2 hP hS hL)
  · cases g2
theorem k_ll1 {l : Launch} {G : mG} {own : String} {cc : ByteArray} {nL : Nat} {ret : Option FieldType} {nm : String} {pc nx : Nat} {q : Fin 4} {i : Nat} (hdg : decode cc pc = .ok (.lload_n q, 1)) (hq : (q : Nat) = i) (hn : pc + 1 = nx) : mOk l G own cc nL ret nm pc (o_ll i nx) := by
  intro D p e R s m args below meth c n0 w0 Q hC L st S r hr
  obtain ⟨v, g1, g2⟩ := mget_spec hr
  split at g2
  · cases g2
    subst hn
    refine And.intro (Nat.le_refl _) (And.intro (Nat.le_refl _) (fun _ _ k => ?_)); intro H locs ls cells slots h1 h2 hP hS hL; exact lv_lload_n hC.1 hC.2.1 hdg hq (hL.2.2.2 _ _ g1) (k H locs ls cells slots h1 h2 hP hS hL)
  · cases g2
theorem k_ll2 {l : Launch} {G : mG} {own : String} {cc : ByteArray} {nL : Nat} {ret : Option FieldType} {nm : String} {pc nx : Nat} {i : Nat} (hdg : decode cc pc = .ok (.lload i, 2)) (hn : pc + 2 = nx) : mOk l G own cc nL ret nm pc (o_ll i nx) := by
  intro D p e R s m args below meth c n0 w0 Q hC L st S r hr
  obtain ⟨v, g1, g2⟩ := mget_spec hr
  split at g2
  · cases g2
    subst hn
    refine And.intro (Nat.le_refl _) (And.intro (Nat.le_refl _) (fun _ _ k => ?_)); intro H locs ls cells slots h1 h2 hP hS hL; exact lv_lload hC.1 hC.2.1 hdg (hL.2.2.2 _ _ g1) (k H locs ls cells slots h1 h2 hP hS hL)
  · cases g2
theorem k_al1 {l : Launch} {G : mG} {own : String} {cc : ByteArray} {nL : Nat} {ret : Option FieldType} {nm : String} {pc nx : Nat} {q : Fin 4} {i : Nat} (hdg : decode cc pc = .ok (.aload_n q, 1)) (hq : (q : Nat) = i) (hn : pc + 1 = nx) : mOk l G own cc nL ret nm pc (o_al i nx) := by
  intro D p e R s m args below meth c n0 w0 Q hC L st S r hr
  obtain ⟨v, g1, g2⟩ := mget_spec hr
  split at g2
  · cases g2
    subst hn
    refine And.intro (Nat.le_refl _) (And.intro (Nat.le_refl _) (fun _ _ k => ?_)); intro H locs ls cells slots h1 h2 hP hS hL; exact lv_aload_n hC.1 hC.2.1 hdg hq (hL.2.2.2 _ _ g1) (k H locs ls cells slots h1 h2 hP hS hL)
  · cases g2
    subst hn
    refine And.intro (Nat.le_refl _) (And.intro (Nat.le_refl _) (fun _ _ k => ?_)); intro H locs ls cells slots h1 h2 hP hS hL; exact lv_aload_n hC.1 hC.2.1 hdg hq (hL.2.2.2 _ _ g1) (k H locs ls cells slots h1 h2 hP hS hL)
  · cases g2
theorem k_al2 {l : Launch} {G : mG} {own : String} {cc : ByteArray} {nL : Nat} {ret : Option FieldType} {nm : String} {pc nx : Nat} {i : Nat} (hdg : decode cc pc = .ok (.aload i, 2)) (hn : pc + 2 = nx) : mOk l G own cc nL ret nm pc (o_al i nx) := by
  intro D p e R s m args below meth c n0 w0 Q hC L st S r hr
  obtain ⟨v, g1, g2⟩ := mget_spec hr
  split at g2
  · cases g2
    subst hn
    refine And.intro (Nat.le_refl _) (And.intro (Nat.le_refl _) (fun _ _ k => ?_)); intro H locs ls cells slots h1 h2 hP hS hL; exact lv_aload hC.1 hC.2.1 hdg (hL.2.2.2 _ _ g1) (k H locs ls cells slots h1 h2 hP hS hL)
  · cases g2
    subst hn
    refine And.intro (Nat.le_refl _) (And.intro (Nat.le_refl _) (fun _ _ k => ?_)); intro H locs ls cells slots h1 h2 hP hS hL; exact lv_aload hC.1 hC.2.1 hdg (hL.2.2.2 _ _ g1) (k H locs ls cells slots h1 h2 hP hS hL)
  · cases g2
theorem k_is1 {l : Launch} {G : mG} {own : String} {cc : ByteArray} {nL : Nat} {ret : Option FieldType} {nm : String} {pc nx : Nat} {q : Fin 4} {i : Nat} (hdg : decode cc pc = .ok (.istore_n q, 1)) (hq : (q : Nat) = i) (hn : pc + 1 = nx) : mOk l G own cc nL ret nm pc (o_is i nx) := by
  intro D p e R s m args below meth c n0 w0 Q hC L st S r hr
  simp only [o_is] at hr
  split at hr
  · obtain ⟨L2, g1, g2, g3, g4⟩ := mset1_spec hr
    cases g1
    subst hn
    refine And.intro (Nat.le_refl _) (And.intro (Nat.le_refl _) (fun _ _ k => ?_)); intro H locs ls cells slots h1 h2 hP hS hL; exact lv_istore_n hC.1 hC.2.1 hdg hq (mlo_has hL) (by rw [← hL.1]; exact g3) rfl (fun ls2 hl2 => k H locs ls2 cells slots h1 h2 hP hS (mlo_set1 hL hl2 g2 g4))
  · cases hr
theorem k_is2 {l : Launch} {G : mG} {own : String} {cc : ByteArray} {nL : Nat} {ret : Option FieldType} {nm : String} {pc nx : Nat} {i : Nat} (hdg : decode cc pc = .ok (.istore i, 2)) (hn : pc + 2 = nx) : mOk l G own cc nL ret nm pc (o_is i nx) := by
  intro D p e R s m args below meth c n0 w0 Q hC L st S r hr
  simp only [o_is] at hr
  split at hr
  · obtain ⟨L2, g1, g2, g3, g4⟩ := mset1_spec hr
    cases g1
    subst hn
    refine And.intro (Nat.le_refl _) (And.intro (Nat.le_refl _) (fun _ _ k => ?_)); intro H locs ls cells slots h1 h2 hP hS hL; exact lv_istore hC.1 hC.2.1 hdg (mlo_has hL) (by rw [← hL.1]; exact g3) rfl (fun ls2 hl2 => k H locs ls2 cells slots h1 h2 hP hS (mlo_set1 hL hl2 g2 g4))
  · cases hr
theorem k_ls1 {l : Launch} {G : mG} {own : String} {cc : ByteArray} {nL : Nat} {ret : Option FieldType} {nm : String} {pc nx : Nat} {q : Fin 4} {i : Nat} (hdg : decode cc pc = .ok (.lstore_n q, 1)) (hq : (q : Nat) = i) (hn : pc + 1 = nx) : mOk l G own cc nL ret nm pc (o_ls i nx) := by
  intro D p e R s m args below meth c n0 w0 Q hC L st S r hr
  simp only [o_ls] at hr
  split at hr
  · obtain ⟨L2, g1, g2, g3, g4⟩ := mset2_spec hr
    cases g1
    subst hn
    refine And.intro (Nat.le_refl _) (And.intro (Nat.le_refl _) (fun _ _ k => ?_)); intro H locs ls cells slots h1 h2 hP hS hL; exact lv_lstore_n hC.1 hC.2.1 hdg hq (mlo_has hL) (by rw [← hL.1]; exact g3) rfl (fun ls2 hl2 => k H locs ls2 cells slots h1 h2 hP hS (mlo_set2 hL hl2 g2 g4))
  · cases hr
theorem k_ls2 {l : Launch} {G : mG} {own : String} {cc : ByteArray} {nL : Nat} {ret : Option FieldType} {nm : String} {pc nx : Nat} {i : Nat} (hdg : decode cc pc = .ok (.lstore i, 2)) (hn : pc + 2 = nx) : mOk l G own cc nL ret nm pc (o_ls i nx) := by
  intro D p e R s m args below meth c n0 w0 Q hC L st S r hr
  simp only [o_ls] at hr
  split at hr
  · obtain ⟨L2, g1, g2, g3, g4⟩ := mset2_spec hr
    cases g1
    subst hn
    refine And.intro (Nat.le_refl _) (And.intro (Nat.le_refl _) (fun _ _ k => ?_)); intro H locs ls cells slots h1 h2 hP hS hL; exact lv_lstore hC.1 hC.2.1 hdg (mlo_has hL) (by rw [← hL.1]; exact g3) rfl (fun ls2 hl2 => k H locs ls2 cells slots h1 h2 hP hS (mlo_set2 hL hl2 g2 g4))
  · cases hr
theorem k_as1 {l : Launch} {G : mG} {own : String} {cc : ByteArray} {nL : Nat} {ret : Option FieldType} {nm : String} {pc nx : Nat} {q : Fin 4} {i : Nat} (hdg : decode cc pc = .ok (.astore_n q, 1)) (hq : (q : Nat) = i) (hn : pc + 1 = nx) : mOk l G own cc nL ret nm pc (o_as i nx) := by
  intro D p e R s m args below meth c n0 w0 Q hC L st S r hr
  simp only [o_as] at hr
  split at hr
  · obtain ⟨L2, g1, g2, g3, g4⟩ := mset1_spec hr
    cases g1
    subst hn
    refine And.intro (Nat.le_refl _) (And.intro (Nat.le_refl _) (fun _ _ k => ?_)); intro H locs ls cells slots h1 h2 hP hS hL; exact lv_astore_n hC.1 hC.2.1 hdg hq (mlo_has hL) (by rw [← hL.1]; exact g3) rfl (fun ls2 hl2 => k H locs ls2 cells slots h1 h2 hP hS (mlo_set1 hL hl2 g2 g4))
  · cases hr
theorem k_as2 {l : Launch} {G : mG} {own : String} {cc : ByteArray} {nL : Nat} {ret : Option FieldType} {nm : String} {pc nx : Nat} {i : Nat} (hdg : decode cc pc = .ok (.astore i, 2)) (hn : pc + 2 = nx) : mOk l G own cc nL ret nm pc (o_as i nx) := by
  intro D p e R s m args below meth c n0 w0 Q hC L st S r hr
  simp only [o_as] at hr
  split at hr
  · obtain ⟨L2, g1, g2, g3, g4⟩ := mset1_spec hr
    cases g1
    subst hn
    refine And.intro (Nat.le_refl _) (And.intro (Nat.le_refl _) (fun _ _ k => ?_)); intro H locs ls cells slots h1 h2 hP hS hL; exact lv_astore hC.1 hC.2.1 hdg (mlo_has hL) (by rw [← hL.1]; exact g3) rfl (fun ls2 hl2 => k H locs ls2 cells slots h1 h2 hP hS (mlo_set1 hL hl2 g2 g4))
  · cases hr
theorem k_inc {l : Launch} {G : mG} {own : String} {cc : ByteArray} {nL : Nat} {ret : Option FieldType} {nm : String} {pc nx : Nat} {i : Nat} {n : Int} {cv : Int32} (hdg : decode cc pc = .ok (.iinc i n, 3)) (hv : Int32.ofInt n = cv) (hn : pc + 3 = nx) : mOk l G own cc nL ret nm pc (o_inc i cv nx) := by
  intro D p e R s m args below meth c n0 w0 Q hC L st S r hr
  obtain ⟨v, g1, g2⟩ := mget_spec hr
  split at g2
  · obtain ⟨L2, f1, f2, f3, f4⟩ := mset1_spec g2
    cases f1
    subst hn
    refine And.intro (Nat.le_refl _) (And.intro (Nat.le_refl _) (fun _ _ k => ?_)); intro H locs ls cells slots h1 h2 hP hS hL; obtain ⟨kk, hk⟩ := List.getElem?_of_mem (mpa_mem.mpr ⟨_, g1, rfl⟩ : (i, _) ∈ mpa G L)
    exact lv_iinc hC.1 hC.2.1 hdg (mlo_has hL) hk (by rw [hv]) (by rw [← hL.1]; exact f3) rfl (fun ls2 hl2 => k H locs ls2 cells slots h1 h2 hP hS (mlo_set1 hL hl2 f2 f4))
  · cases g2
theorem k_add {l : Launch} {G : mG} {own : String} {cc : ByteArray} {nL : Nat} {ret : Option FieldType} {nm : String} {pc nx : Nat}  (hdg : decode cc pc = .ok (.iadd, 1)) (hn : pc + 1 = nx) : mOk l G own cc nL ret nm pc (o_add nx) := by
  intro D p e R s m args below meth c n0 w0 Q hC L st S r hr
  simp only [o_add] at hr
  split at hr
  · cases hr
    subst hn
    refine And.intro (Nat.le_refl _) (And.intro (Nat.le_refl _) (fun _ _ k => ?_)); intro H locs ls cells slots h1 h2 hP hS hL; exact lv_iadd hC.1 hC.2.1 hdg (k H locs ls cells slots h1 h2 hP hS hL)
  · cases hr
theorem k_sub {l : Launch} {G : mG} {own : String} {cc : ByteArray} {nL : Nat} {ret : Option FieldType} {nm : String} {pc nx : Nat}  (hdg : decode cc pc = .ok (.isub, 1)) (hn : pc + 1 = nx) : mOk l G own cc nL ret nm pc (o_sub nx) := by
  intro D p e R s m args below meth c n0 w0 Q hC L st S r hr
  simp only [o_sub] at hr
  split at hr
  · cases hr
    subst hn
    refine And.intro (Nat.le_refl _) (And.intro (Nat.le_refl _) (fun _ _ k => ?_)); intro H locs ls cells slots h1 h2 hP hS hL; exact lv_isub hC.1 hC.2.1 hdg (k H locs ls cells slots h1 h2 hP hS hL)
  · cases hr
theorem k_mul {l : Launch} {G : mG} {own : String} {cc : ByteArray} {nL : Nat} {ret : Option FieldType} {nm : String} {pc nx : Nat}  (hdg : decode cc pc = .ok (.imul, 1)) (hn : pc + 1 = nx) : mOk l G own cc nL ret nm pc (o_mul nx) := by
  intro D p e R s m args below meth c n0 w0 Q hC L st S r hr
  simp only [o_mul] at hr
  split at hr
  · cases hr
    subst hn
    refine And.intro (Nat.le_refl _) (And.intro (Nat.le_refl _) (fun _ _ k => ?_)); intro H locs ls cells slots h1 h2 hP hS hL; exact lv_imul hC.1 hC.2.1 hdg (k H locs ls cells slots h1 h2 hP hS hL)
  · cases hr
theorem k_and {l : Launch} {G : mG} {own : String} {cc : ByteArray} {nL : Nat} {ret : Option FieldType} {nm : String} {pc nx : Nat}  (hdg : decode cc pc = .ok (.iand, 1)) (hn : pc + 1 = nx) : mOk l G own cc nL ret nm pc (o_and nx) := by
  intro D p e R s m args below meth c n0 w0 Q hC L st S r hr
  simp only [o_and] at hr
  split at hr
  · cases hr
    subst hn
    refine And.intro (Nat.le_refl _) (And.intro (Nat.le_refl _) (fun _ _ k => ?_)); intro H locs ls cells slots h1 h2 hP hS hL; exact lv_iand hC.1 hC.2.1 hdg (k H locs ls cells slots h1 h2 hP hS hL)
  · cases hr
theorem k_or {l : Launch} {G : mG} {own : String} {cc : ByteArray} {nL : Nat} {ret : Option FieldType} {nm : String} {pc nx : Nat}  (hdg : decode cc pc = .ok (.ior, 1)) (hn : pc + 1 = nx) : mOk l G own cc nL ret nm pc (o_or nx) := by
  intro D p e R s m args below meth c n0 w0 Q hC L st S r hr
  simp only [o_or] at hr
  split at hr
  · cases hr
    subst hn
    refine And.intro (Nat.le_refl _) (And.intro (Nat.le_refl _) (fun _ _ k => ?_)); intro H locs ls cells slots h1 h2 hP hS hL; exact lv_ior hC.1 hC.2.1 hdg (k H locs ls cells slots h1 h2 hP hS hL)
  · cases hr
theorem k_xor {l : Launch} {G : mG} {own : String} {cc : ByteArray} {nL : Nat} {ret : Option FieldType} {nm : String} {pc nx : Nat}  (hdg : decode cc pc = .ok (.ixor, 1)) (hn : pc + 1 = nx) : mOk l G own cc nL ret nm pc (o_xor nx) := by
  intro D p e R s m args below meth c n0 w0 Q hC L st S r hr
  simp only [o_xor] at hr
  split at hr
  · cases hr
    subst hn
    refine And.intro (Nat.le_refl _) (And.intro (Nat.le_refl _) (fun _ _ k => ?_)); intro H locs ls cells slots h1 h2 hP hS hL; exact lv_ixor hC.1 hC.2.1 hdg (k H locs ls cells slots h1 h2 hP hS hL)
  · cases hr
theorem k_shl {l : Launch} {G : mG} {own : String} {cc : ByteArray} {nL : Nat} {ret : Option FieldType} {nm : String} {pc nx : Nat}  (hdg : decode cc pc = .ok (.ishl, 1)) (hn : pc + 1 = nx) : mOk l G own cc nL ret nm pc (o_shl nx) := by
  intro D p e R s m args below meth c n0 w0 Q hC L st S r hr
  simp only [o_shl] at hr
  split at hr
  · cases hr
    subst hn
    refine And.intro (Nat.le_refl _) (And.intro (Nat.le_refl _) (fun _ _ k => ?_)); intro H locs ls cells slots h1 h2 hP hS hL; exact lv_ishl hC.1 hC.2.1 hdg (k H locs ls cells slots h1 h2 hP hS hL)
  · cases hr
theorem k_shr {l : Launch} {G : mG} {own : String} {cc : ByteArray} {nL : Nat} {ret : Option FieldType} {nm : String} {pc nx : Nat}  (hdg : decode cc pc = .ok (.ishr, 1)) (hn : pc + 1 = nx) : mOk l G own cc nL ret nm pc (o_shr nx) := by
  intro D p e R s m args below meth c n0 w0 Q hC L st S r hr
  simp only [o_shr] at hr
  split at hr
  · cases hr
    subst hn
    refine And.intro (Nat.le_refl _) (And.intro (Nat.le_refl _) (fun _ _ k => ?_)); intro H locs ls cells slots h1 h2 hP hS hL; exact lv_ishr hC.1 hC.2.1 hdg (k H locs ls cells slots h1 h2 hP hS hL)
  · cases hr
theorem k_ushr {l : Launch} {G : mG} {own : String} {cc : ByteArray} {nL : Nat} {ret : Option FieldType} {nm : String} {pc nx : Nat}  (hdg : decode cc pc = .ok (.iushr, 1)) (hn : pc + 1 = nx) : mOk l G own cc nL ret nm pc (o_ushr nx) := by
  intro D p e R s m args below meth c n0 w0 Q hC L st S r hr
  simp only [o_ushr] at hr
  split at hr
  · cases hr
    subst hn
    refine And.intro (Nat.le_refl _) (And.intro (Nat.le_refl _) (fun _ _ k => ?_)); intro H locs ls cells slots h1 h2 hP hS hL; exact lv_iushr hC.1 hC.2.1 hdg rfl (k H locs ls cells slots h1 h2 hP hS hL)
  · cases hr
theorem k_ladd {l : Launch} {G : mG} {own : String} {cc : ByteArray} {nL : Nat} {ret : Option FieldType} {nm : String} {pc nx : Nat}  (hdg : decode cc pc = .ok (.ladd, 1)) (hn : pc + 1 = nx) : mOk l G own cc nL ret nm pc (o_ladd nx) := by
  intro D p e R s m args below meth c n0 w0 Q hC L st S r hr
  simp only [o_ladd] at hr
  split at hr
  · cases hr
    subst hn
    refine And.intro (Nat.le_refl _) (And.intro (Nat.le_refl _) (fun _ _ k => ?_)); intro H locs ls cells slots h1 h2 hP hS hL; exact lv_ladd hC.1 hC.2.1 hdg (k H locs ls cells slots h1 h2 hP hS hL)
  · cases hr
theorem k_lsub {l : Launch} {G : mG} {own : String} {cc : ByteArray} {nL : Nat} {ret : Option FieldType} {nm : String} {pc nx : Nat}  (hdg : decode cc pc = .ok (.lsub, 1)) (hn : pc + 1 = nx) : mOk l G own cc nL ret nm pc (o_lsub nx) := by
  intro D p e R s m args below meth c n0 w0 Q hC L st S r hr
  simp only [o_lsub] at hr
  split at hr
  · cases hr
    subst hn
    refine And.intro (Nat.le_refl _) (And.intro (Nat.le_refl _) (fun _ _ k => ?_)); intro H locs ls cells slots h1 h2 hP hS hL; exact lv_lsub hC.1 hC.2.1 hdg (k H locs ls cells slots h1 h2 hP hS hL)
  · cases hr
theorem k_lmul {l : Launch} {G : mG} {own : String} {cc : ByteArray} {nL : Nat} {ret : Option FieldType} {nm : String} {pc nx : Nat}  (hdg : decode cc pc = .ok (.lmul, 1)) (hn : pc + 1 = nx) : mOk l G own cc nL ret nm pc (o_lmul nx) := by
  intro D p e R s m args below meth c n0 w0 Q hC L st S r hr
  simp only [o_lmul] at hr
  split at hr
  · cases hr
    subst hn
    refine And.intro (Nat.le_refl _) (And.intro (Nat.le_refl _) (fun _ _ k => ?_)); intro H locs ls cells slots h1 h2 hP hS hL; exact lv_lmul hC.1 hC.2.1 hdg (k H locs ls cells slots h1 h2 hP hS hL)
  · cases hr
theorem k_land {l : Launch} {G : mG} {own : String} {cc : ByteArray} {nL : Nat} {ret : Option FieldType} {nm : String} {pc nx : Nat}  (hdg : decode cc pc = .ok (.land, 1)) (hn : pc + 1 = nx) : mOk l G own cc nL ret nm pc (o_land nx) := by
  intro D p e R s m args below meth c n0 w0 Q hC L st S r hr
  simp only [o_land] at hr
  split at hr
  · cases hr
    subst hn
    refine And.intro (Nat.le_refl _) (And.intro (Nat.le_refl _) (fun _ _ k => ?_)); intro H locs ls cells slots h1 h2 hP hS hL; exact lv_land hC.1 hC.2.1 hdg (k H locs ls cells slots h1 h2 hP hS hL)
  · cases hr
theorem k_lor {l : Launch} {G : mG} {own : String} {cc : ByteArray} {nL : Nat} {ret : Option FieldType} {nm : String} {pc nx : Nat}  (hdg : decode cc pc = .ok (.lor, 1)) (hn : pc + 1 = nx) : mOk l G own cc nL ret nm pc (o_lor nx) := by
  intro D p e R s m args below meth c n0 w0 Q hC L st S r hr
  simp only [o_lor] at hr
  split at hr
  · cases hr
    subst hn
    refine And.intro (Nat.le_refl _) (And.intro (Nat.le_refl _) (fun _ _ k => ?_)); intro H locs ls cells slots h1 h2 hP hS hL; exact lv_lor hC.1 hC.2.1 hdg (k H locs ls cells slots h1 h2 hP hS hL)
  · cases hr
theorem k_lcmp {l : Launch} {G : mG} {own : String} {cc : ByteArray} {nL : Nat} {ret : Option FieldType} {nm : String} {pc nx : Nat}  (hdg : decode cc pc = .ok (.lcmp, 1)) (hn : pc + 1 = nx) : mOk l G own cc nL ret nm pc (o_lcmp nx) := by
  intro D p e R s m args below meth c n0 w0 Q hC L st S r hr
  simp only [o_lcmp] at hr
  split at hr
  · cases hr
    subst hn
    refine And.intro (Nat.le_refl _) (And.intro (Nat.le_refl _) (fun _ _ k => ?_)); intro H locs ls cells slots h1 h2 hP hS hL; exact W.lcmp hC.1 hC.2.1 hdg (k H locs ls cells slots h1 h2 hP hS hL)
  · cases hr
theorem k_lshl {l : Launch} {G : mG} {own : String} {cc : ByteArray} {nL : Nat} {ret : Option FieldType} {nm : String} {pc nx : Nat}  (hdg : decode cc pc = .ok (.lshl, 1)) (hn : pc + 1 = nx) : mOk l G own cc nL ret nm pc (o_lshl nx) := by
  intro D p e R s m args below meth c n0 w0 Q hC L st S r hr
  simp only [o_lshl] at hr
  split at hr
  · cases hr
    subst hn
    refine And.intro (Nat.le_refl _) (And.intro (Nat.le_refl _) (fun _ _ k => ?_)); intro H locs ls cells slots h1 h2 hP hS hL; exact lv_lshl hC.1 hC.2.1 hdg rfl (k H locs ls cells slots h1 h2 hP hS hL)
  · cases hr
theorem k_neg {l : Launch} {G : mG} {own : String} {cc : ByteArray} {nL : Nat} {ret : Option FieldType} {nm : String} {pc nx : Nat}  (hdg : decode cc pc = .ok (.ineg, 1)) (hn : pc + 1 = nx) : mOk l G own cc nL ret nm pc (o_neg nx) := by
  intro D p e R s m args below meth c n0 w0 Q hC L st S r hr
  simp only [o_neg] at hr
  split at hr
  · cases hr
    subst hn
    refine And.intro (Nat.le_refl _) (And.intro (Nat.le_refl _) (fun _ _ k => ?_)); intro H locs ls cells slots h1 h2 hP hS hL; exact lv_ineg hC.1 hC.2.1 hdg (k H locs ls cells slots h1 h2 hP hS hL)
  · cases hr
theorem k_i2l {l : Launch} {G : mG} {own : String} {cc : ByteArray} {nL : Nat} {ret : Option FieldType} {nm : String} {pc nx : Nat}  (hdg : decode cc pc = .ok (.i2l, 1)) (hn : pc + 1 = nx) : mOk l G own cc nL ret nm pc (o_i2l nx) := by
  intro D p e R s m args below meth c n0 w0 Q hC L st S r hr
  simp only [o_i2l] at hr
  split at hr
  · cases hr
    subst hn
    refine And.intro (Nat.le_refl _) (And.intro (Nat.le_refl _) (fun _ _ k => ?_)); intro H locs ls cells slots h1 h2 hP hS hL; exact lv_i2l hC.1 hC.2.1 hdg rfl (k H locs ls cells slots h1 h2 hP hS hL)
  · cases hr
theorem k_l2i {l : Launch} {G : mG} {own : String} {cc : ByteArray} {nL : Nat} {ret : Option FieldType} {nm : String} {pc nx : Nat}  (hdg : decode cc pc = .ok (.l2i, 1)) (hn : pc + 1 = nx) : mOk l G own cc nL ret nm pc (o_l2i nx) := by
  intro D p e R s m args below meth c n0 w0 Q hC L st S r hr
  simp only [o_l2i] at hr
  split at hr
  · cases hr
    subst hn
    refine And.intro (Nat.le_refl _) (And.intro (Nat.le_refl _) (fun _ _ k => ?_)); intro H locs ls cells slots h1 h2 hP hS hL; exact lv_l2i hC.1 hC.2.1 hdg rfl (k H locs ls cells slots h1 h2 hP hS hL)
  · cases hr
theorem k_i2b {l : Launch} {G : mG} {own : String} {cc : ByteArray} {nL : Nat} {ret : Option FieldType} {nm : String} {pc nx : Nat}  (hdg : decode cc pc = .ok (.i2b, 1)) (hn : pc + 1 = nx) : mOk l G own cc nL ret nm pc (o_i2b nx) := by
  intro D p e R s m args below meth c n0 w0 Q hC L st S r hr
  simp only [o_i2b] at hr
  split at hr
  · cases hr
    subst hn
    refine And.intro (Nat.le_refl _) (And.intro (Nat.le_refl _) (fun _ _ k => ?_)); intro H locs ls cells slots h1 h2 hP hS hL; exact lv_i2b hC.1 hC.2.1 hdg rfl (k H locs ls cells slots h1 h2 hP hS hL)
  · cases hr
theorem k_i2s {l : Launch} {G : mG} {own : String} {cc : ByteArray} {nL : Nat} {ret : Option FieldType} {nm : String} {pc nx : Nat}  (hdg : decode cc pc = .ok (.i2s, 1)) (hn : pc + 1 = nx) : mOk l G own cc nL ret nm pc (o_i2s nx) := by
  intro D p e R s m args below meth c n0 w0 Q hC L st S r hr
  simp only [o_i2s] at hr
  split at hr
  · cases hr
    subst hn
    refine And.intro (Nat.le_refl _) (And.intro (Nat.le_refl _) (fun _ _ k => ?_)); intro H locs ls cells slots h1 h2 hP hS hL; exact lv_i2s hC.1 hC.2.1 hdg rfl (k H locs ls cells slots h1 h2 hP hS hL)
  · cases hr
theorem k_dup {l : Launch} {G : mG} {own : String} {cc : ByteArray} {nL : Nat} {ret : Option FieldType} {nm : String} {pc nx : Nat}  (hdg : decode cc pc = .ok (.dup, 1)) (hn : pc + 1 = nx) : mOk l G own cc nL ret nm pc (o_dup nx) := by
  intro D p e R s m args below meth c n0 w0 Q hC L st S r hr
  simp only [o_dup] at hr
  split at hr
  · cases hr
    subst hn
    refine And.intro (Nat.le_refl _) (And.intro (Nat.le_refl _) (fun _ _ k => ?_)); intro H locs ls cells slots h1 h2 hP hS hL; exact lv_dup hC.1 hC.2.1 hdg rfl (k H locs ls cells slots h1 h2 hP hS hL)
  · cases hr
    subst hn
    refine And.intro (Nat.le_refl _) (And.intro (Nat.le_refl _) (fun _ _ k => ?_)); intro H locs ls cells slots h1 h2 hP hS hL; exact lv_dup hC.1 hC.2.1 hdg rfl (k H locs ls cells slots h1 h2 hP hS hL)
  · cases hr
theorem k_pop {l : Launch} {G : mG} {own : String} {cc : ByteArray} {nL : Nat} {ret : Option FieldType} {nm : String} {pc nx : Nat}  (hdg : decode cc pc = .ok (.pop, 1)) (hn : pc + 1 = nx) : mOk l G own cc nL ret nm pc (o_pop nx) := by
  intro D p e R s m args below meth c n0 w0 Q hC L st S r hr
  simp only [o_pop] at hr
  split at hr
  · cases hr
    subst hn
    refine And.intro (Nat.le_refl _) (And.intro (Nat.le_refl _) (fun _ _ k => ?_)); intro H locs ls cells slots h1 h2 hP hS hL; exact lv_pop hC.1 hC.2.1 hdg rfl (k H locs ls cells slots h1 h2 hP hS hL)
  · cases hr
theorem k_dup2 {l : Launch} {G : mG} {own : String} {cc : ByteArray} {nL : Nat} {ret : Option FieldType} {nm : String} {pc nx : Nat}  (hdg : decode cc pc = .ok (.dup2, 1)) (hn : pc + 1 = nx) : mOk l G own cc nL ret nm pc (o_dup2 nx) := by
  intro D p e R s m args below meth c n0 w0 Q hC L st S r hr
  simp only [o_dup2] at hr
  split at hr
  · cases hr
    subst hn
    refine And.intro (Nat.le_refl _) (And.intro (Nat.le_refl _) (fun _ _ k => ?_)); intro H locs ls cells slots h1 h2 hP hS hL; exact lv_dup2_11 hC.1 hC.2.1 hdg rfl rfl (k H locs ls cells slots h1 h2 hP hS hL)
  · cases hr
    subst hn
    refine And.intro (Nat.le_refl _) (And.intro (Nat.le_refl _) (fun _ _ k => ?_)); intro H locs ls cells slots h1 h2 hP hS hL; exact lv_dup2_11 hC.1 hC.2.1 hdg rfl rfl (k H locs ls cells slots h1 h2 hP hS hL)
  · cases hr
theorem k_div {l : Launch} {G : mG} {own : String} {cc : ByteArray} {nL : Nat} {ret : Option FieldType} {nm : String} {pc nx : Nat} (hdg : decode cc pc = .ok (.idiv, 1)) (hn : pc + 1 = nx) : mOk l G own cc nL ret nm pc (o_div nx) := by
  intro D p e R s m args below meth c n0 w0 Q hC L st S r hr
  simp only [o_div] at hr
  split at hr
  · split at hr
    · cases hr
    · next hz =>
      cases hr
      subst hn
      refine And.intro (Nat.le_refl _) (And.intro (Nat.le_refl _) (fun _ _ k => ?_)); intro H locs ls cells slots h1 h2 hP hS hL; exact lv_idiv hC.1 hC.2.1 hdg hz (k H locs ls cells slots h1 h2 hP hS hL)
  · cases hr
theorem k_rem {l : Launch} {G : mG} {own : String} {cc : ByteArray} {nL : Nat} {ret : Option FieldType} {nm : String} {pc nx : Nat} (hdg : decode cc pc = .ok (.irem, 1)) (hn : pc + 1 = nx) : mOk l G own cc nL ret nm pc (o_rem nx) := by
  intro D p e R s m args below meth c n0 w0 Q hC L st S r hr
  simp only [o_rem] at hr
  split at hr
  · split at hr
    · cases hr
    · next hz =>
      cases hr
      subst hn
      refine And.intro (Nat.le_refl _) (And.intro (Nat.le_refl _) (fun _ _ k => ?_)); intro H locs ls cells slots h1 h2 hP hS hL; exact lv_irem hC.1 hC.2.1 hdg hz (k H locs ls cells slots h1 h2 hP hS hL)
  · cases hr
theorem k_go {l : Launch} {G : mG} {own : String} {cc : ByteArray} {nL : Nat} {ret : Option FieldType} {nm : String} {pc : Nat} {t : Nat} {off : Int} (hdg : decode cc pc = .ok (.goto off, 3)) (ht : (pc : Int) + off = (t : Int)) : mOk l G own cc nL ret nm pc (o_go t) := by
  intro D p e R s m args below meth c n0 w0 Q hC L st S r hr
  cases hr
  refine And.intro (Nat.le_refl _) (And.intro (Nat.le_refl _) (fun _ _ k => ?_)); intro H locs ls cells slots h1 h2 hP hS hL; exact lv_goto hC.1 hC.2.1 hdg ht (k H locs ls cells slots h1 h2 hP hS hL)
theorem k_ifeq {l : Launch} {G : mG} {own : String} {cc : ByteArray} {nL : Nat} {ret : Option FieldType} {nm : String} {pc nx : Nat} {t : Nat} {off : Int} (hdg : decode cc pc = .ok (.ifCond .eq off, 3)) (ht : (pc : Int) + off = (t : Int)) (hn : pc + 3 = nx) : mOk l G own cc nL ret nm pc (o_ifeq t nx) := by
  intro D p e R s m args below meth c n0 w0 Q hC L st S r hr
  simp only [o_ifeq] at hr
  split at hr
  · subst hn
    split at hr
    · next hc =>
      cases hr
      refine And.intro (Nat.le_refl _) (And.intro (Nat.le_refl _) (fun _ _ k => ?_)); intro H locs ls cells slots h1 h2 hP hS hL; exact lv_if_eq hC.1 hC.2.1 hdg ht (fun _ => k H locs ls cells slots h1 h2 hP hS hL) (fun hf => absurd hc hf)
    · next hc =>
      cases hr
      refine And.intro (Nat.le_refl _) (And.intro (Nat.le_refl _) (fun _ _ k => ?_)); intro H locs ls cells slots h1 h2 hP hS hL; exact lv_if_eq hC.1 hC.2.1 hdg ht (fun hf => absurd hf hc) (fun _ => k H locs ls cells slots h1 h2 hP hS hL)
  · cases hr
theorem k_ifne {l : Launch} {G : mG} {own : String} {cc : ByteArray} {nL : Nat} {ret : Option FieldType} {nm : String} {pc nx : Nat} {t : Nat} {off : Int} (hdg : decode cc pc = .ok (.ifCond .ne off, 3)) (ht : (pc : Int) + off = (t : Int)) (hn : pc + 3 = nx) : mOk l G own cc nL ret nm pc (o_ifne t nx) := by
  intro D p e R s m args below meth c n0 w0 Q hC L st S r hr
  simp only [o_ifne] at hr
  split at hr
  · subst hn
    split at hr
    · next hc =>
      cases hr
      refine And.intro (Nat.le_refl _) (And.intro (Nat.le_refl _) (fun _ _ k => ?_)); intro H locs ls cells slots h1 h2 hP hS hL; exact lv_if_ne hC.1 hC.2.1 hdg ht (fun hf => absurd hc hf) (fun _ => k H locs ls cells slots h1 h2 hP hS hL)
    · next hc =>
      cases hr
      refine And.intro (Nat.le_refl _) (And.intro (Nat.le_refl _) (fun _ _ k => ?_)); intro H locs ls cells slots h1 h2 hP hS hL; exact lv_if_ne hC.1 hC.2.1 hdg ht (fun _ => k H locs ls cells slots h1 h2 hP hS hL) (fun hf => absurd hf hc)
  · cases hr
theorem k_iflt {l : Launch} {G : mG} {own : String} {cc : ByteArray} {nL : Nat} {ret : Option FieldType} {nm : String} {pc nx : Nat} {t : Nat} {off : Int} (hdg : decode cc pc = .ok (.ifCond .lt off, 3)) (ht : (pc : Int) + off = (t : Int)) (hn : pc + 3 = nx) : mOk l G own cc nL ret nm pc (o_iflt t nx) := by
  intro D p e R s m args below meth c n0 w0 Q hC L st S r hr
  simp only [o_iflt] at hr
  split at hr
  · subst hn
    split at hr
    · next hc =>
      cases hr
      refine And.intro (Nat.le_refl _) (And.intro (Nat.le_refl _) (fun _ _ k => ?_)); intro H locs ls cells slots h1 h2 hP hS hL; exact lv_if_lt hC.1 hC.2.1 hdg ht (fun _ => k H locs ls cells slots h1 h2 hP hS hL) (fun hf => absurd hc hf)
    · next hc =>
      cases hr
      refine And.intro (Nat.le_refl _) (And.intro (Nat.le_refl _) (fun _ _ k => ?_)); intro H locs ls cells slots h1 h2 hP hS hL; exact lv_if_lt hC.1 hC.2.1 hdg ht (fun hf => absurd hf hc) (fun _ => k H locs ls cells slots h1 h2 hP hS hL)
  · cases hr
theorem k_ifge {l : Launch} {G : mG} {own : String} {cc : ByteArray} {nL : Nat} {ret : Option FieldType} {nm : String} {pc nx : Nat} {t : Nat} {off : Int} (hdg : decode cc pc = .ok (.ifCond .ge off, 3)) (ht : (pc : Int) + off = (t : Int)) (hn : pc + 3 = nx) : mOk l G own cc nL ret nm pc (o_ifge t nx) := by
  intro D p e R s m args below meth c n0 w0 Q hC L st S r hr
  simp only [o_ifge] at hr
  split at hr
  · subst hn
    split at hr
    · next hc =>
      cases hr
      refine And.intro (Nat.le_refl _) (And.intro (Nat.le_refl _) (fun _ _ k => ?_)); intro H locs ls cells slots h1 h2 hP hS hL; exact lv_if_ge hC.1 hC.2.1 hdg ht (fun _ => k H locs ls cells slots h1 h2 hP hS hL) (fun hf => absurd hc hf)
    · next hc =>
      cases hr
      refine And.intro (Nat.le_refl _) (And.intro (Nat.le_refl _) (fun _ _ k => ?_)); intro H locs ls cells slots h1 h2 hP hS hL; exact lv_if_ge hC.1 hC.2.1 hdg ht (fun hf => absurd hf hc) (fun _ => k H locs ls cells slots h1 h2 hP hS hL)
  · cases hr
theorem k_ifgt {l : Launch} {G : mG} {own : String} {cc : ByteArray} {nL : Nat} {ret : Option FieldType} {nm : String} {pc nx : Nat} {t : Nat} {off : Int} (hdg : decode cc pc = .ok (.ifCond .gt off, 3)) (ht : (pc : Int) + off = (t : Int)) (hn : pc + 3 = nx) : mOk l G own cc nL ret nm pc (o_ifgt t nx) := by
  intro D p e R s m args below meth c n0 w0 Q hC L st S r hr
  simp only [o_ifgt] at hr
  split at hr
  · subst hn
    split at hr
    · next hc =>
      cases hr
      refine And.intro (Nat.le_refl _) (And.intro (Nat.le_refl _) (fun _ _ k => ?_)); intro H locs ls cells slots h1 h2 hP hS hL; exact lv_if_gt hC.1 hC.2.1 hdg ht (fun _ => k H locs ls cells slots h1 h2 hP hS hL) (fun hf => absurd hc hf)
    · next hc =>
      cases hr
      refine And.intro (Nat.le_refl _) (And.intro (Nat.le_refl _) (fun _ _ k => ?_)); intro H locs ls cells slots h1 h2 hP hS hL; exact lv_if_gt hC.1 hC.2.1 hdg ht (fun hf => absurd hf hc) (fun _ => k H locs ls cells slots h1 h2 hP hS hL)
  · cases hr
theorem k_ifle {l : Launch} {G : mG} {own : String} {cc : ByteArray} {nL : Nat} {ret : Option FieldType} {nm : String} {pc nx : Nat} {t : Nat} {off : Int} (hdg : decode cc pc = .ok (.ifCond .le off, 3)) (ht : (pc : Int) + off = (t : Int)) (hn : pc + 3 = nx) : mOk l G own cc nL ret nm pc (o_ifle t nx) := by
  intro D p e R s m args below meth c n0 w0 Q hC L st S r hr
  simp only [o_ifle] at hr
  split at hr
  · subst hn
    split at hr
    · next hc =>
      cases hr
      refine And.intro (Nat.le_refl _) (And.intro (Nat.le_refl _) (fun _ _ k => ?_)); intro H locs ls cells slots h1 h2 hP hS hL; exact lv_if_le hC.1 hC.2.1 hdg ht (fun _ => k H locs ls cells slots h1 h2 hP hS hL) (fun hf => absurd hc hf)
    · next hc =>
      cases hr
      refine And.intro (Nat.le_refl _) (And.intro (Nat.le_refl _) (fun _ _ k => ?_)); intro H locs ls cells slots h1 h2 hP hS hL; exact lv_if_le hC.1 hC.2.1 hdg ht (fun hf => absurd hf hc) (fun _ => k H locs ls cells slots h1 h2 hP hS hL)
  · cases hr
theorem k_iceq {l : Launch} {G : mG} {own : String} {cc : ByteArray} {nL : Nat} {ret : Option FieldType} {nm : String} {pc nx : Nat} {t : Nat} {off : Int} (hdg : decode cc pc = .ok (.if_icmp .eq off, 3)) (ht : (pc : Int) + off = (t : Int)) (hn : pc + 3 = nx) : mOk l G own cc nL ret nm pc (o_iceq t nx) := by
  intro D p e R s m args below meth c n0 w0 Q hC L st S r hr
  simp only [o_iceq] at hr
  split at hr
  · subst hn
    split at hr
    · next hc =>
      cases hr
      refine And.intro (Nat.le_refl _) (And.intro (Nat.le_refl _) (fun _ _ k => ?_)); intro H locs ls cells slots h1 h2 hP hS hL; exact lv_icmp_eq hC.1 hC.2.1 hdg ht (fun _ => k H locs ls cells slots h1 h2 hP hS hL) (fun hf => absurd hc hf)
    · next hc =>
      cases hr
      refine And.intro (Nat.le_refl _) (And.intro (Nat.le_refl _) (fun _ _ k => ?_)); intro H locs ls cells slots h1 h2 hP hS hL; exact lv_icmp_eq hC.1 hC.2.1 hdg ht (fun hf => absurd hf hc) (fun _ => k H locs ls cells slots h1 h2 hP hS hL)
  · cases hr
theorem k_icne {l : Launch} {G : mG} {own : String} {cc : ByteArray} {nL : Nat} {ret : Option FieldType} {nm : String} {pc nx : Nat} {t : Nat} {off : Int} (hdg : decode cc pc = .ok (.if_icmp .ne off, 3)) (ht : (pc : Int) + off = (t : Int)) (hn : pc + 3 = nx) : mOk l G own cc nL ret nm pc (o_icne t nx) := by
  intro D p e R s m args below meth c n0 w0 Q hC L st S r hr
  simp only [o_icne] at hr
  split at hr
  · subst hn
    split at hr
    · next hc =>
      cases hr
      refine And.intro (Nat.le_refl _) (And.intro (Nat.le_refl _) (fun _ _ k => ?_)); intro H locs ls cells slots h1 h2 hP hS hL; exact lv_icmp_ne hC.1 hC.2.1 hdg ht (fun hf => absurd hc hf) (fun _ => k H locs ls cells slots h1 h2 hP hS hL)
    · next hc =>
      cases hr
      refine And.intro (Nat.le_refl _) (And.intro (Nat.le_refl _) (fun _ _ k => ?_)); intro H locs ls cells slots h1 h2 hP hS hL; exact lv_icmp_ne hC.1 hC.2.1 hdg ht (fun _ => k H locs ls cells slots h1 h2 hP hS hL) (fun hf => absurd hf hc)
  · cases hr
theorem k_iclt {l : Launch} {G : mG} {own : String} {cc : ByteArray} {nL : Nat} {ret : Option FieldType} {nm : String} {pc nx : Nat} {t : Nat} {off : Int} (hdg : decode cc pc = .ok (.if_icmp .lt off, 3)) (ht : (pc : Int) + off = (t : Int)) (hn : pc + 3 = nx) : mOk l G own cc nL ret nm pc (o_iclt t nx) := by
  intro D p e R s m args below meth c n0 w0 Q hC L st S r hr
  simp only [o_iclt] at hr
  split at hr
  · subst hn
    split at hr
    · next hc =>
      cases hr
      refine And.intro (Nat.le_refl _) (And.intro (Nat.le_refl _) (fun _ _ k => ?_)); intro H locs ls cells slots h1 h2 hP hS hL; exact lv_icmp_lt hC.1 hC.2.1 hdg ht (fun _ => k H locs ls cells slots h1 h2 hP hS hL) (fun hf => absurd hc hf)
    · next hc =>
      cases hr
      refine And.intro (Nat.le_refl _) (And.intro (Nat.le_refl _) (fun _ _ k => ?_)); intro H locs ls cells slots h1 h2 hP hS hL; exact lv_icmp_lt hC.1 hC.2.1 hdg ht (fun hf => absurd hf hc) (fun _ => k H locs ls cells slots h1 h2 hP hS hL)
  · cases hr
theorem k_icge {l : Launch} {G : mG} {own : String} {cc : ByteArray} {nL : Nat} {ret : Option FieldType} {nm : String} {pc nx : Nat} {t : Nat} {off : Int} (hdg : decode cc pc = .ok (.if_icmp .ge off, 3)) (ht : (pc : Int) + off = (t : Int)) (hn : pc + 3 = nx) : mOk l G own cc nL ret nm pc (o_icge t nx) := by
  intro D p e R s m args below meth c n0 w0 Q hC L st S r hr
  simp only [o_icge] at hr
  split at hr
  · subst hn
    split at hr
    · next hc =>
      cases hr
      refine And.intro (Nat.le_refl _) (And.intro (Nat.le_refl _) (fun _ _ k => ?_)); intro H locs ls cells slots h1 h2 hP hS hL; exact lv_icmp_ge hC.1 hC.2.1 hdg ht (fun _ => k H locs ls cells slots h1 h2 hP hS hL) (fun hf => absurd hc hf)
    · next hc =>
      cases hr
      refine And.intro (Nat.le_refl _) (And.intro (Nat.le_refl _) (fun _ _ k => ?_)); intro H locs ls cells slots h1 h2 hP hS hL; exact lv_icmp_ge hC.1 hC.2.1 hdg ht (fun hf => absurd hf hc) (fun _ => k H locs ls cells slots h1 h2 hP hS hL)
  · cases hr
theorem k_icgt {l : Launch} {G : mG} {own : String} {cc : ByteArray} {nL : Nat} {ret : Option FieldType} {nm : String} {pc nx : Nat} {t : Nat} {off : Int} (hdg : decode cc pc = .ok (.if_icmp .gt off, 3)) (ht : (pc : Int) + off = (t : Int)) (hn : pc + 3 = nx) : mOk l G own cc nL ret nm pc (o_icgt t nx) := by
  intro D p e R s m args below meth c n0 w0 Q hC L st S r hr
  simp only [o_icgt] at hr
  split at hr
  · subst hn
    split at hr
    · next hc =>
      cases hr
      refine And.intro (Nat.le_refl _) (And.intro (Nat.le_refl _) (fun _ _ k => ?_)); intro H locs ls cells slots h1 h2 hP hS hL; exact lv_icmp_gt hC.1 hC.2.1 hdg ht (fun _ => k H locs ls cells slots h1 h2 hP hS hL) (fun hf => absurd hc hf)
    · next hc =>
      cases hr
      refine And.intro (Nat.le_refl _) (And.intro (Nat.le_refl _) (fun _ _ k => ?_)); intro H locs ls cells slots h1 h2 hP hS hL; exact lv_icmp_gt hC.1 hC.2.1 hdg ht (fun hf => absurd hf hc) (fun _ => k H locs ls cells slots h1 h2 hP hS hL)
  · cases hr
theorem k_icle {l : Launch} {G : mG} {own : String} {cc : ByteArray} {nL : Nat} {ret : Option FieldType} {nm : String} {pc nx : Nat} {t : Nat} {off : Int} (hdg : decode cc pc = .ok (.if_icmp .le off, 3)) (ht : (pc : Int) + off = (t : Int)) (hn : pc + 3 = nx) : mOk l G own cc nL ret nm pc (o_icle t nx) := by
  intro D p e R s m args below meth c n0 w0 Q hC L st S r hr
  simp only [o_icle] at hr
  split at hr
  · subst hn
    split at hr
    · next hc =>
      cases hr
      refine And.intro (Nat.le_refl _) (And.intro (Nat.le_refl _) (fun _ _ k => ?_)); intro H locs ls cells slots h1 h2 hP hS hL; exact lv_icmp_le hC.1 hC.2.1 hdg ht (fun _ => k H locs ls cells slots h1 h2 hP hS hL) (fun hf => absurd hc hf)
    · next hc =>
      cases hr
      refine And.intro (Nat.le_refl _) (And.intro (Nat.le_refl _) (fun _ _ k => ?_)); intro H locs ls cells slots h1 h2 hP hS hL; exact lv_icmp_le hC.1 hC.2.1 hdg ht (fun hf => absurd hf hc) (fun _ => k H locs ls cells slots h1 h2 hP hS hL)
  · cases hr
