/-! what is given of old cells: the script, static tables, String constants -/
def mtab1 : Nat → Int32 := fun j => ([99, 9, 3, 9, 20, 99] : List Int32).getD j 0
def mstx (j : Nat) : Nat × String := ([(80, "hate"), (82, "love"), (84, "hunger"), (86, "want"), (88, "day"), (90, "done")] : List (Nat × String)).getD j (0, "")
def mnest : List (String × Nat × MethodName × String) := [(RX10, 18, yX4_init, RX10), (RX10, 25, yX3_init, RX10), (RX10, 32, yX8_init, RX10), (RX9, 39, yX7_init, RX10), (RX10, 57, yX7_init, RX10), (RX10, 64, yX1_init, RX10), (RX10, 71, yX2_init, RX10), (RX10, 78, yX5_init, RX10)]
def mSF (G : mG) (U : State) : Prop :=
  (va_X (G.1.2 0) G.2.2.2.1 G.2.2.2.2 U U.heap ∧ G.1.2 0 < G.1.1) ∧
  (va_Z "ScalesByHate$Bazaar" "MOST_OF" "[I" (.ref (G.1.2 1)) (mA G) U U.heap ∧ va_T .int (G.1.2 1) 6 (fun j => .int (mtab1 j)) (mA G) U U.heap) ∧
  True ∧
  True ∧
  (∀ j, j < 6 → vk_R "ScalesByHate$LawReader" (mstx j).1 (mstx j).2 (G.1.2 (10 + j)) U) ∧
  vk_S 6 mstl mstb (fun j => G.1.2 (10 + j)) (fun j => G.1.2 (20 + j)) (mA G) U U.heap ∧
  (va_Z "java/lang/String" "COMPACT_STRINGS" "Z" (.int 1) (mA G) U U.heap ∧ va_Zq "jdk/internal/util/Preconditions" "SIOOBE_FORMATTER" "Ljava/util/function/BiFunction;" (mA G) U U.heap) ∧
  (∀ q ∈ mnest, va_Nw (.methodLinkNest q.1 q.2.1 q.2.2.1 q.2.2.2) U)
theorem mSF.pass {G : mG} {s U : State} (h : mSF G s) (hW : s.WarmedH U.vm) (hb : G.1.1 ≤ s.heap.size) (hq : ∀ q : Nat, q < s.heap.size → ¬ mA G q → U.heap[q]? = s.heap[q]?) : mSF G U := by
  obtain ⟨⟨h1, h2⟩, ⟨h3, h4⟩, h5, h7, h9, h10, h11, h12⟩ := h
  have hv := hW.alike
  refine ⟨⟨(va_X.moved hv h1).kept (hq _ (by omega) (fun z => by have z : G.1.1 ≤ _ := z; omega)), h2⟩, ⟨(va_Z.moved hv h3).kept hq, (va_T.moved hv h4).kept hq⟩, True.intro, True.intro, fun j hj => vk_R.warm hW (h9 j hj), (vk_S.moved hv h10).kept hq, ⟨(va_Z.moved hv h11.1).kept hq, (va_Zq.moved hv h11.2).kept hq⟩, fun q hq => va_Nw.warmM hW (h12 q hq)⟩
theorem mSF.blind {G : mG} {U : State} (h : mSF G U) (g : JFrame) (mk : MethodId) (a : Array Value) : mSF G (U.calling g mk a) := by
  obtain ⟨⟨h1, h2⟩, ⟨h3, h4⟩, h5, h7, h9, h10, h11, h12⟩ := h
  have hv : U.vm.Alike (U.calling g mk a).vm := Vm.Alike.refl U.vm
  exact ⟨⟨va_X.moved hv h1, h2⟩, ⟨va_Z.moved hv h3, va_T.moved hv h4⟩, True.intro, True.intro, fun j hj => vk_R.same rfl (h9 j hj), vk_S.moved hv h10, ⟨va_Z.moved hv h11.1, va_Zq.moved hv h11.2⟩, fun q hq => va_Nw.same rfl rfl (h12 q hq)⟩
def mW (G : mG) (S : mS) (U : State) : Prop := U.heap.size = G.1.1 + S.2.1.length ∧ va_P G.2.2.1 vwCl (mws G S) U.heap ∧ va_K G.2.2.1 vwCl (mty G) U ∧ mSF G U
theorem mW.blind {G : mG} {S : mS} {U : State} (h : mW G S U) (g : JFrame) (mk : MethodId) (a : Array Value) : mW G S (U.calling g mk a) :=
  ⟨h.1, h.2.1, va_K.moved (u := U) (U := U.calling g mk a) (Vm.Alike.refl U.vm) h.2.2.1, h.2.2.2.blind g mk a⟩
def mtbl : List Cond := lw_tbl.filter goodWord
theorem mtbl_in {w : Cond} (h : w ∈ lw_tbl) (hg : goodWord w = true) : w ∈ mtbl := List.mem_filter.mpr ⟨h, hg⟩
theorem mtbl_good : ∀ w ∈ mtbl, (w.onTables && w.keeps) = true ∨ ∃ ty, w = .arrayClass ty := fun w hw => good_of_word (List.mem_filter.mp hw).2
theorem mtbl_goodIn {ws : List Cond} (h : ∀ w ∈ ws, w ∈ mtbl) : GoodIn mtbl ws := fun w hw => ⟨h w hw, mtbl_good w (h w hw)⟩
def mRm (D mc ms : Nat) : Room := { frames := D + 4, cells := mc, slots := ms, locals := 40 * (D + 4) }
