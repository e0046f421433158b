/-! the world of my machine's state, over the kit's worlds. A name mG: ((the first new cell, special cells), (classes of int, long, boolean arrays), the layouts, the script) -/
abbrev mG : Type := (Nat × (Nat → Nat)) × (ClassId × ClassId × ClassId) × va_G × (Nat × (Nat → Int32))
def mtr (G : mG) : Value → Value
  | .ref k => .ref (G.1.1 + k)
  | .float j => .ref (G.1.2 j.toNat)
  | v => v
theorem mtr_cat (G : mG) (v : Value) : (mtr G v).category = v.category := by cases v <;> rfl
theorem mtr_mcat (G : mG) (st : mK) : mcat (st.map (mtr G)) = mcat st := by
  induction st with
  | nil => rfl
  | cons v t ih => simp [mcat, mtr_cat, ih]
def mfv (G : mG) (x : Int32) (r : Option (Option Nat)) : Value := match r with
  | none => .int x
  | some none => .null
  | some (some b) => .ref (G.1.1 + b)
def mfl (G : mG) (rf : List (Option (Option Nat))) (f : Nat → Int32) : List Value := rf.mapIdx (fun k r => mfv G (f k) r)
def mce (G : mG) (S : mS) (k : Nat) : va_E := match S.2.1[k]? with
  | some (0, ci, rf) => .inr (ci, mfl G rf (S.2.2.1 k))
  | some (1, n, _) => .inl (G.2.1.1, n, .inl (S.2.2.1 k))
  | some (2, n, _) => .inl (G.2.1.2.1, n, .inr (.inl (S.2.2.2 k)))
  | some (_, n, _) => .inl (G.2.1.2.2, n, .inl (S.2.2.1 k))
  | none => .inl (G.2.1.1, 0, .inl (fun _ => 0))
def mws (G : mG) (S : mS) : va_W := (List.range S.2.1.length).map (fun k => (G.1.1 + k, mce G S k))
def mA (G : mG) : Nat → Prop := fun q => G.1.1 ≤ q
def mty (G : mG) : List (ClassId × FieldType) := [(G.2.1.1, .int), (G.2.1.2.1, .long), (G.2.1.2.2, .int)]
theorem mws_at {G : mG} {S : mS} {k : Nat} (h : k < S.2.1.length) : (mws G S)[k]? = some (G.1.1 + k, mce G S k) := by
  simp [mws, List.getElem?_map, List.getElem?_range h]
theorem mws_len {G : mG} {S : mS} : (mws G S).length = S.2.1.length := by simp [mws]
theorem mws_get {G : mG} {S : mS} {k : Nat} {q : Nat × va_E} (h : (mws G S)[k]? = some q) : k < S.2.1.length ∧ q = (G.1.1 + k, mce G S k) := by
  have hk : k < S.2.1.length := by rw [← mws_len (G := G)]; exact (List.getElem?_eq_some_iff.mp h).1
  rw [mws_at hk] at h
  exact ⟨hk, (Option.some.inj h).symm⟩
theorem mws_D {G : mG} {S : mS} : va_D (mA G) (mws G S) := by
  refine ⟨fun i j p q hi hj hpq => ?_, fun k q hk => ?_⟩
  · obtain ⟨-, h1⟩ := mws_get hi
    obtain ⟨-, h2⟩ := mws_get hj
    rw [h1, h2] at hpq
    simpa using hpq
  · obtain ⟨-, h1⟩ := mws_get hk
    rw [h1]
    exact Nat.le_add_right _ _
theorem mws_set {G : mG} {S S' : mS} {k : Nat} {e : va_E} (hlen : S'.2.1.length = S.2.1.length) (he : mce G S' k = e) (ho : ∀ j, j ≠ k → mce G S' j = mce G S j) : (mws G S).set k (G.1.1 + k, e) = mws G S' := by
  apply List.ext_getElem?
  intro j
  by_cases hj : j < S.2.1.length
  · rw [mws_at (S := S') (by omega)]
    by_cases hjk : j = k
    · subst hjk
      rw [List.getElem?_set_self (by rw [mws_len]; exact hj), he]
    · rw [List.getElem?_set_ne (fun q => hjk q.symm), mws_at hj, ho j hjk]
  · rw [List.getElem?_eq_none (by rw [List.length_set, mws_len]; omega), List.getElem?_eq_none (by rw [mws_len]; omega)]
theorem mws_push {G : mG} {S S' : mS} {e : va_E} (hlen : S'.2.1.length = S.2.1.length + 1) (he : mce G S' S.2.1.length = e) (ho : ∀ j, j < S.2.1.length → mce G S' j = mce G S j) : mws G S ++ [(G.1.1 + S.2.1.length, e)] = mws G S' := by
  apply List.ext_getElem?
  intro j
  rcases Nat.lt_trichotomy j S.2.1.length with hj | hj | hj
  · rw [List.getElem?_append_left (by rw [mws_len]; exact hj), mws_at hj, mws_at (S := S') (by omega), ho j hj]
  · subst hj
    rw [List.getElem?_append_right (by rw [mws_len]; omega), mws_len, Nat.sub_self, mws_at (S := S') (by omega), he]
    rfl
  · rw [List.getElem?_eq_none (by rw [List.length_append, mws_len]; simp; omega), List.getElem?_eq_none (by rw [mws_len]; omega)]
theorem mfl_at {G : mG} {rf : List (Option (Option Nat))} {f : Nat → Int32} {k : Nat} {r : Option (Option Nat)} (h : rf[k]? = some r) : (mfl G rf f)[k]? = some (mfv G (f k) r) := by
  simp [mfl, List.getElem?_mapIdx, h]
theorem mfl_len {G : mG} {rf : List (Option (Option Nat))} {f : Nat → Int32} : (mfl G rf f).length = rf.length := by simp [mfl]
theorem mfl_put {G : mG} {rf : List (Option (Option Nat))} {f : Nat → Int32} {k : Nat} {x : Int32} (h : rf[k]? = some none) : mfl G rf (mput f k x) = (mfl G rf f).set k (.int x) := by
  have hk : k < rf.length := (List.getElem?_eq_some_iff.mp h).1
  apply List.ext_getElem?
  intro j
  by_cases hj : j = k
  · subst hj
    rw [List.getElem?_set_self (by rw [mfl_len]; exact hk), mfl_at h]
    simp [mput, mfv]
  · rw [List.getElem?_set_ne (fun q => hj q.symm)]
    simp only [mfl, List.getElem?_mapIdx]
    cases hr : rf[j]? with
    | none => rfl
    | some r => cases r with
      | none => simp [mput, hj]
      | some r => cases r <;> rfl
theorem mfl_ref {G : mG} {rf : List (Option (Option Nat))} {f : Nat → Int32} {k b : Nat} (hk : k < rf.length) : mfl G (rf.set k (some (some b))) f = (mfl G rf f).set k (.ref (G.1.1 + b)) := by
  apply List.ext_getElem?
  intro j
  by_cases hj : j = k
  · subst hj
    rw [List.getElem?_set_self (by rw [mfl_len]; exact hk)]
    simp [mfl, List.getElem?_mapIdx, hk, mfv]
  · rw [List.getElem?_set_ne (fun q => hj q.symm)]
    simp only [mfl, List.getElem?_mapIdx, List.getElem?_set_ne (fun q => hj q.symm)]
/-- the locals -/
def mlo (G : mG) (ls : Array Slot) (nL : Nat) (L : mL) : Prop := L.length = nL ∧ ls.size = nL ∧ lv_wf ls ∧ ∀ (i : Nat) (v : Value), L[i]? = some (some v) → ls[i]? = some (.val (mtr G v))
def mpa (G : mG) (L : mL) : List (Nat × Value) := L.zipIdx.filterMap (fun q => q.1.map (fun v => (q.2, mtr G v)))
theorem mpa_mem {G : mG} {L : mL} {i : Nat} {w : Value} : (i, w) ∈ mpa G L ↔ ∃ v, L[i]? = some (some v) ∧ w = mtr G v := by
  constructor
  · intro h
    obtain ⟨q, h1, h2⟩ := List.mem_filterMap.mp h
    obtain ⟨a, j⟩ := q
    cases a with
    | none => simp at h2
    | some v =>
      simp at h2
      obtain ⟨rfl, rfl⟩ := h2
      exact ⟨v, by simpa using List.mem_zipIdx_iff_getElem?.mp h1, rfl⟩
  · rintro ⟨v, h1, rfl⟩
    exact List.mem_filterMap.mpr ⟨(some v, i), List.mem_zipIdx_iff_getElem?.mpr (by simpa using h1), rfl⟩
theorem mlo_has {G : mG} {ls : Array Slot} {nL : Nat} {L : mL} (h : mlo G ls nL L) : lv_has ls nL (mpa G L) :=
  ⟨h.2.1, h.2.2.1, fun q hq => by
    obtain ⟨i, w⟩ := q
    obtain ⟨v, h1, rfl⟩ := mpa_mem.mp hq
    exact h.2.2.2 i v h1⟩
theorem mlo_set1 {G : mG} {ls ls' : Array Slot} {nL i : Nat} {L L' : mL} {v : Value} (h : mlo G ls nL L) (h' : lv_has ls' nL ((i, mtr G v) :: (mpa G L).filter (fun q => !(q.1 == i) && !(q.1 + 1 == i && q.2.category == 2))))
    (hl : L'.length = L.length) (hs : ∀ (j : Nat) (w : Value), L'[j]? = some (some w) → (j = i ∧ w = v) ∨ (¬ j = i ∧ L[j]? = some (some w) ∧ ¬ (j + 1 = i ∧ w.category = 2))) : mlo G ls' nL L' := by
  refine ⟨hl.trans h.1, h'.1, h'.2.1, fun j w hj => ?_⟩
  rcases hs j w hj with ⟨rfl, rfl⟩ | ⟨h1, h2, h3⟩
  · exact h'.2.2 _ List.mem_cons_self
  · refine h'.2.2 (j, mtr G w) (List.mem_cons_of_mem _ (List.mem_filter.mpr ⟨mpa_mem.mpr ⟨w, h2, rfl⟩, ?_⟩))
    simp only [mtr_cat, Bool.and_eq_true, Bool.not_eq_true', beq_eq_false_iff_ne, ne_eq, Bool.and_eq_false_iff]
    refine ⟨h1, ?_⟩
    by_cases h4 : j + 1 = i
    · exact Or.inr (fun h5 => h3 ⟨h4, h5⟩)
    · exact Or.inl h4
theorem mlo_set2 {G : mG} {ls ls' : Array Slot} {nL i : Nat} {L L' : mL} {v : Value} (h : mlo G ls nL L) (h' : lv_has ls' nL ((i, mtr G v) :: (mpa G L).filter (fun q => !(q.1 == i) && (!(q.1 == i + 1) && !(q.1 + 1 == i && q.2.category == 2)))))
    (hl : L'.length = L.length) (hs : ∀ (j : Nat) (w : Value), L'[j]? = some (some w) → (j = i ∧ w = v) ∨ (¬ j = i ∧ ¬ j = i + 1 ∧ L[j]? = some (some w) ∧ ¬ (j + 1 = i ∧ w.category = 2))) : mlo G ls' nL L' := by
  refine ⟨hl.trans h.1, h'.1, h'.2.1, fun j w hj => ?_⟩
  rcases hs j w hj with ⟨rfl, rfl⟩ | ⟨h1, h1', h2, h3⟩
  · exact h'.2.2 _ List.mem_cons_self
  · refine h'.2.2 (j, mtr G w) (List.mem_cons_of_mem _ (List.mem_filter.mpr ⟨mpa_mem.mpr ⟨w, h2, rfl⟩, ?_⟩))
    simp only [mtr_cat, Bool.and_eq_true, Bool.not_eq_true', beq_eq_false_iff_ne, ne_eq, Bool.and_eq_false_iff]
    refine ⟨h1, h1', ?_⟩
    by_cases h4 : j + 1 = i
    · exact Or.inr (fun h5 => h3 ⟨h4, h5⟩)
    · exact Or.inl h4
/-- the locals at a method's entry -/
def men1 : List Value → mL
  | [] => []
  | v :: t => match v with
    | .long _ => some v :: none :: men1 t
    | .double _ => some v :: none :: men1 t
    | _ => some v :: men1 t
def mnon : Nat → mL
  | 0 => []
  | n + 1 => none :: mnon n
def mcat2 : mL → mL → mL
  | [], b => b
  | a :: t, b => a :: mcat2 t b
def men (as : List Value) (n : Nat) : mL := mcat2 (men1 as) (mnon n)
theorem mcat2_eq : ∀ a b : mL, mcat2 a b = a ++ b
  | [], _ => rfl
  | a :: t, b => by simp [mcat2, mcat2_eq t]
theorem mnon_eq : ∀ n, mnon n = List.replicate n none
  | 0 => rfl
  | n + 1 => by simp [mnon, mnon_eq n, List.replicate_succ]
theorem men1_cons (v : Value) (t : List Value) : men1 (v :: t) = if v.category = 2 then some v :: none :: men1 t else some v :: men1 t := by
  cases v <;> rfl
theorem men1_len {G : mG} : ∀ as : List Value, (men1 as).length = (lg_sl (as.map (mtr G))).length
  | [] => rfl
  | v :: t => by
    rw [men1_cons]
    by_cases h : v.category = 2
    · simp [h, lg_sl, mtr_cat, men1_len (G := G) t]
    · simp [h, lg_sl, mtr_cat, men1_len (G := G) t]
theorem men1_args {G : mG} : ∀ (as : List Value) (i j : Nat) (v : Value), (men1 as)[j]? = some (some v) → (i + j, mtr G v) ∈ lv_args i (as.map (mtr G))
  | [], i, j, v, h => by simp [men1] at h
  | a :: t, i, j, v, h => by
    rw [men1_cons] at h
    simp only [List.map_cons, lv_args, mtr_cat]
    by_cases hc : a.category = 2
    · rw [if_pos hc] at h
      rw [if_pos hc]
      match j, h with
      | 0, h => simp at h; subst h; exact List.mem_cons_self
      | 1, h => simp at h
      | j + 2, h =>
        have := men1_args (G := G) t (i + 2) j v (by simpa using h)
        rw [show i + (j + 2) = i + 2 + j by omega]
        exact List.mem_cons_of_mem _ this
    · rw [if_neg hc] at h
      rw [if_neg hc]
      match j, h with
      | 0, h => simp at h; subst h; exact List.mem_cons_self
      | j + 1, h =>
        have := men1_args (G := G) t (i + 1) j v (by simpa using h)
        rw [show i + (j + 1) = i + 1 + j by omega]
        exact List.mem_cons_of_mem _ this
theorem mlo_entry {G : mG} {as : List Value} {nL n : Nat} (h : (men as n).length = nL) : mlo G ((lg_sl (as.map (mtr G)) ++ List.replicate (nL - (lg_sl (as.map (mtr G))).length) Slot.unset).toArray) nL (men as n) := by
  have hl : (men1 as).length + n = nL := by
    rw [← h, men, mcat2_eq, mnon_eq]; simp
  have he := lv_entry (as.map (mtr G)) (n := nL) (by rw [← men1_len (G := G)]; omega)
  refine ⟨h, he.1, he.2.1, fun i v hv => ?_⟩
  have hv' : (men1 as)[i]? = some (some v) := by
    rw [men, mcat2_eq, mnon_eq] at hv
    by_cases hi : i < (men1 as).length
    · rwa [List.getElem?_append_left hi] at hv
    · rw [List.getElem?_append_right (by omega)] at hv
      have := List.eq_of_mem_replicate (List.mem_of_getElem? hv)
      cases this
  have := men1_args (G := G) as 0 i v hv'
  rw [Nat.zero_add] at this
  exact he.2.2 _ this
