/-! the law from its entry on -/
theorem lm_103 : Cond.instantiable RX0 2 ∈ lw_tbl := List.mem_of_getElem? (i := 42) (by decide +kernel)
theorem lm_290 : Cond.instantiable RX1 6 ∈ lw_tbl := List.mem_of_getElem? (i := 221) (by decide +kernel)
theorem lm_317 : Cond.instantiable RX2 5 ∈ lw_tbl := List.mem_of_getElem? (i := 248) (by decide +kernel)
theorem lm_145 : Cond.instantiable RX3 4 ∈ lw_tbl := List.mem_of_getElem? (i := 82) (by decide +kernel)
theorem lm_121 : Cond.instantiable RX4 5 ∈ lw_tbl := List.mem_of_getElem? (i := 58) (by decide +kernel)
theorem lm_339 : Cond.instantiable RX5 4 ∈ lw_tbl := List.mem_of_getElem? (i := 270) (by decide +kernel)
theorem lm_269 : Cond.instantiable RX6 4 ∈ lw_tbl := List.mem_of_getElem? (i := 200) (by decide +kernel)
theorem lm_192 : Cond.instantiable RX7 7 ∈ lw_tbl := List.mem_of_getElem? (i := 129) (by decide +kernel)
theorem lm_164 : Cond.instantiable RX8 4 ∈ lw_tbl := List.mem_of_getElem? (i := 101) (by decide +kernel)
theorem lm_184 : Cond.instantiable RX9 12 ∈ lw_tbl := List.mem_of_getElem? (i := 121) (by decide +kernel)
theorem lm_95 : Cond.instantiable RX10 10 ∈ lw_tbl := List.mem_of_getElem? (i := 34) (by decide +kernel)
theorem lm_119 : Cond.arrayClass .int ∈ lw_tbl := List.mem_of_getElem? (i := 56) (by decide +kernel)
theorem lm_182 : Cond.arrayClass .long ∈ lw_tbl := List.mem_of_getElem? (i := 119) (by decide +kernel)
theorem lm_449 : Cond.laysStatic "ScalesByHate$Bazaar" "MOST_OF" "[I" ∈ lw_tbl := List.mem_of_getElem? (i := 556) (by decide +kernel)
theorem lm_572 : Cond.laysStatic "java/lang/String" "COMPACT_STRINGS" "Z" ∈ lw_tbl := List.mem_of_getElem? (i := 666) (by decide +kernel)
theorem lm_588 : Cond.laysStatic "jdk/internal/util/Preconditions" "SIOOBE_FORMATTER" "Ljava/util/function/BiFunction;" ∈ lw_tbl := List.mem_of_getElem? (i := 682) (by decide +kernel)
theorem lm_ini : ∀ C ∈ (["ScalesByHate$Bazaar", "java/lang/String", "jdk/internal/util/Preconditions"] : List String), Cond.initialized C ∈ lw_tbl := by decide +kernel
theorem lm_str : ∀ j, j < 6 → Cond.stringRef "ScalesByHate$LawReader" (mstx j).1 (mstx j).2 ∈ lw_tbl := by decide +kernel
theorem lm_nst : ∀ q ∈ mnest, Cond.methodLinkNest q.1 q.2.1 q.2.2.1 q.2.2.2 ∈ lw_tbl := by decide +kernel
abbrev gvC : Cond := Jvm.Cond.and given_1 narrow_1
theorem fm_11 : Cond.arrayOf (.static "ScalesByHate$Bazaar" "MOST_OF" "[I") .int ∈ flatC gvC := by decide +kernel
theorem fm_12 : Cond.eq (.length (.static "ScalesByHate$Bazaar" "MOST_OF" "[I")) (.int (Int32.ofNat 6)) ∈ flatC gvC := by decide +kernel
theorem fm_13 : ∀ j, j < 6 → Cond.eq (.elem (.static "ScalesByHate$Bazaar" "MOST_OF" "[I") (.int (Int32.ofNat j))) (.int (mtab1 j)) ∈ flatC gvC := by decide +kernel
theorem fm_c : Cond.eq (.static "java/lang/String" "COMPACT_STRINGS" "Z") (.int 1) ∈ flatC gvC := by decide +kernel
theorem fm_f : Cond.isRef (.static "jdk/internal/util/Preconditions" "SIOOBE_FORMATTER" "Ljava/util/function/BiFunction;") ∈ flatC gvC := by decide +kernel
def stm (i : Nat) : Term := .string "ScalesByHate$LawReader" (mstx i).1
theorem fs_1 : ∀ i, i < 6 → Cond.exactly (stm i) "java/lang/String" ∈ flatC gvC := by decide +kernel
theorem fs_2 : ∀ i, i < 6 → Cond.eq (.field (stm i) "java/lang/String" "coder" "B") (.int 0) ∈ flatC gvC := by decide +kernel
theorem fs_3 : ∀ i, i < 6 → Cond.arrayOf (.field (stm i) "java/lang/String" "value" "[B") .byte ∈ flatC gvC := by decide +kernel
theorem fs_4 : ∀ i, i < 6 → Cond.eq (.length (.field (stm i) "java/lang/String" "value" "[B")) (.int (Int32.ofNat (mstl.getD i 0))) ∈ flatC gvC := by decide +kernel
theorem fs_5 : ∀ i, i < 6 → ∀ j, j < mstl.getD i 0 → Cond.eq (.elem (.field (stm i) "java/lang/String" "value" "[B") (.int (Int32.ofNat j))) (.int ((mstb.getD i []).getD j 0)) ∈ flatC gvC := by decide +kernel
theorem fs_6 : ∀ i, i < 6 → ∀ j, j < 6 → i ≠ j → (Cond.not (Cond.eq (stm i) (stm j)) ∈ flatC gvC ∨ Cond.not (Cond.eq (stm j) (stm i)) ∈ flatC gvC) := by decide +kernel
theorem arr_K {args : Array Value} {s : State} {ty : FieldType} (h : (Cond.arrayClass ty).before args s = true) (ho : ty = .int ∨ ty = .long ∨ ty = .boolean) : ∃ c : ClassId, ArrOfT s c ty ∧ va_RA s c ty := by
  obtain ⟨c, k, comp, h1, h2, h3⟩ := Cond.arrayClass_spec h
  refine ⟨c, fun n z => ⟨fun k h => (by cases h), k, h2, comp, h3⟩, ?_⟩
  rcases ho with rfl | rfl | rfl <;> exact h1
def spc (b t1 t2 t3 : Nat) (ak av : Nat → Nat) (n : Nat) : Nat := if n = 0 then b else if n = 1 then t1 else if n = 2 then t2 else if n = 3 then t3 else if n < 20 then ak (n - 10) else av (n - 20)
theorem spc_k {b t1 t2 t3 : Nat} {ak av : Nat → Nat} : ∀ j, j < 6 → spc b t1 t2 t3 ak av (10 + j) = ak j := by
  intro j hj
  unfold spc
  rw [if_neg (by omega), if_neg (by omega), if_neg (by omega), if_neg (by omega), if_pos (by omega), Nat.add_sub_cancel_left]
theorem spc_v {b t1 t2 t3 : Nat} {ak av : Nat → Nat} : ∀ j, j < 6 → spc b t1 t2 t3 ak av (20 + j) = av j := by
  intro j hj
  unfold spc
  rw [if_neg (by omega), if_neg (by omega), if_neg (by omega), if_neg (by omega), if_neg (by omega), Nat.add_sub_cancel_left]
theorem vkS_cg {ak av ak' av' : Nat → Nat} {A : Nat → Prop} {U : State} {H : Heap} (h : vk_S 6 mstl mstb ak av A U H) (e1 : ∀ j, j < 6 → ak' j = ak j) (e2 : ∀ j, j < 6 → av' j = av j) : vk_S 6 mstl mstb ak' av' A U H := by
  refine ⟨fun i hi => ?_, fun i j hi hj e => h.2 i j hi hj (by rw [← e1 i hi, ← e1 j hj]; exact e)⟩
  rw [e1 i hi, e2 i hi]
  exact h.1 i hi
/-- what a start gives my machine -/
theorem given_G {s : State} {b L : Nat} {xs : Nat → Int32} (hts : ∀ w ∈ lw_tbl, w.before #[Value.ref b] s = true) (hX : va_X b L xs s s.heap) (hbl : b < s.heap.size) (hgv : gvC.before #[Value.ref b] s = true) :
    ∃ G : mG, G.1.1 = s.heap.size ∧ G.1.2 0 = b ∧ G.2.2.2 = (L, xs) ∧ va_K G.2.2.1 vwCl (mty G) s ∧ mSF G s := by
  have hts' : ∀ w ∈ mtbl, w.before #[Value.ref b] s = true := fun w hw => hts w (List.mem_filter.mp hw).1
  have hs := flat_of_before _ hgv
  have hA : ∀ a : Nat, a < s.heap.size → ¬ (fun q : Nat => s.heap.size ≤ q) a := fun a h => Nat.not_le.mpr h
  obtain ⟨t1, g1, T1⟩ := va_Tof (tm := .static "ScalesByHate$Bazaar" "MOST_OF" "[I") (ty := .int) (N := 6) (f := fun j => .int (mtab1 j)) (A := fun q : Nat => s.heap.size ≤ q) (by decide) (hs _ fm_11) (va_eqt (hs _ fm_12)) (fun j hj => va_eqt (hs _ (fm_13 j hj))) hA
  have Z1 := va_Zref (A := fun q : Nat => s.heap.size ≤ q) (hts _ lm_449) (hts _ (lm_ini "ScalesByHate$Bazaar" (by decide))) g1 hA
  have ZC := va_Zof (A := fun q : Nat => s.heap.size ≤ q) (hts _ lm_572) (hts _ (lm_ini "java/lang/String" (by decide))) (va_eqt (hs _ fm_c)) hA
  have ZF := va_Zqof (A := fun q : Nat => s.heap.size ≤ q) (hts _ lm_588) (hts _ (lm_ini "jdk/internal/util/Preconditions" (by decide))) (hs _ fm_f) hA
  obtain ⟨ak, av, hS, hk⟩ := vk_Sof (N := 6) (tm := stm) (len := mstl) (byt := mstb) (A := fun q : Nat => s.heap.size ≤ q) (by decide) (fun i hi => hs _ (fs_1 i hi)) (fun i hi => hs _ (fs_2 i hi)) (fun i hi => hs _ (fs_3 i hi)) (fun i hi => hs _ (fs_4 i hi)) (fun i hi j hj => hs _ (fs_5 i hi j hj)) (fun i j hi hj hne => (fs_6 i hi j hj hne).elim (fun q => Or.inl (hs _ q)) (fun q => Or.inr (hs _ q))) hA
  obtain ⟨cI, aI⟩ := arr_K (hts _ lm_119) (Or.inl rfl)
  obtain ⟨cJ, aJ⟩ := arr_K (hts _ lm_182) (Or.inr (Or.inl rfl))
  have h0 : ∀ k : Nat, ∃ r : ClassId × (Nat → Nat), ∀ q : vw_C, vwCl[k]? = some q → u_Kn s q.1 q.2.1 q.2.2 r.1 r.2 := by
    intro k
    match k with
    | 0 =>
      obtain ⟨c0, i0, h⟩ := u_known (C := RX0) (T := TX0) (N := 2) (n := 2) hts' in_0 (hts _ lm_103)
      exact ⟨(c0, i0), fun q hq => by cases hq; exact h⟩
    | 1 =>
      obtain ⟨c0, i0, h⟩ := u_known (C := RX1) (T := TX1) (N := 6) (n := 6) hts' in_1 (hts _ lm_290)
      exact ⟨(c0, i0), fun q hq => by cases hq; exact h⟩
    | 2 =>
      obtain ⟨c0, i0, h⟩ := u_known (C := RX2) (T := TX2) (N := 5) (n := 5) hts' in_2 (hts _ lm_317)
      exact ⟨(c0, i0), fun q hq => by cases hq; exact h⟩
    | 3 =>
      obtain ⟨c0, i0, h⟩ := u_known (C := RX3) (T := TX3) (N := 4) (n := 4) hts' in_3 (hts _ lm_145)
      exact ⟨(c0, i0), fun q hq => by cases hq; exact h⟩
    | 4 =>
      obtain ⟨c0, i0, h⟩ := u_known (C := RX4) (T := TX4) (N := 5) (n := 5) hts' in_4 (hts _ lm_121)
      exact ⟨(c0, i0), fun q hq => by cases hq; exact h⟩
    | 5 =>
      obtain ⟨c0, i0, h⟩ := u_known (C := RX5) (T := TX5) (N := 4) (n := 4) hts' in_5 (hts _ lm_339)
      exact ⟨(c0, i0), fun q hq => by cases hq; exact h⟩
    | 6 =>
      obtain ⟨c0, i0, h⟩ := u_known (C := RX6) (T := TX6) (N := 4) (n := 4) hts' in_6 (hts _ lm_269)
      exact ⟨(c0, i0), fun q hq => by cases hq; exact h⟩
    | 7 =>
      obtain ⟨c0, i0, h⟩ := u_known (C := RX7) (T := TX7) (N := 7) (n := 7) hts' in_7 (hts _ lm_192)
      exact ⟨(c0, i0), fun q hq => by cases hq; exact h⟩
    | 8 =>
      obtain ⟨c0, i0, h⟩ := u_known (C := RX8) (T := TX8) (N := 4) (n := 4) hts' in_8 (hts _ lm_164)
      exact ⟨(c0, i0), fun q hq => by cases hq; exact h⟩
    | 9 =>
      obtain ⟨c0, i0, h⟩ := u_known (C := RX9) (T := TX9) (N := 12) (n := 12) hts' in_9 (hts _ lm_184)
      exact ⟨(c0, i0), fun q hq => by cases hq; exact h⟩
    | 10 =>
      obtain ⟨c0, i0, h⟩ := u_known (C := RX10) (T := TX10) (N := 10) (n := 10) hts' in_10 (hts _ lm_95)
      exact ⟨(c0, i0), fun q hq => by cases hq; exact h⟩
    | k + 11 => exact ⟨(cI, fun _ => 0), fun q hq => by cases hq⟩
  obtain ⟨g, hg⟩ := Classical.axiomOfChoice h0
  refine ⟨((s.heap.size, spc b t1 0 0 ak av), (cI, cJ, cI), (fun k => (g k).1, fun k => (g k).2), (L, xs)), rfl, rfl, rfl, ⟨fun k q hq => hg k q hq, ?_⟩, ⟨hX, hbl⟩, ⟨Z1, T1⟩, True.intro, True.intro, ?_, vkS_cg hS spc_k spc_v, ⟨ZC, ZF⟩, fun q hq => va_Nw.of rfl (hts _ (lm_nst q hq))⟩
  · intro k q hq
    match k, hq with
    | 0, hq => cases hq; exact aI
    | 1, hq => cases hq; exact aJ
    | 2, hq => cases hq; exact aI
    | k + 3, hq => cases hq
  · intro j hj
    show vk_R _ _ _ (spc b t1 0 0 ak av (10 + j)) s
    rw [spc_k j hj]
    exact vk_R.of (A := #[Value.ref b]) (hts _ (lm_str j hj)) (hk j hj)
