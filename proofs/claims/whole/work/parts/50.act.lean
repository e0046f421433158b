/-! acts: what runs, what it gives -/
def nf : List Nat → Nat → (Nat → Int32) → (Nat → Int32)
  | [], _, f => f
  | b :: l, r, f => nf l (r + 1) (if r < 24 then mput f r (nI b) else f)
theorem nf_app : ∀ (l l' : List Nat) (r : Nat) (f : Nat → Int32), nf l' (r + l.length) (nf l r f) = nf (l ++ l') r f
  | [], l', r, f => rfl
  | b :: l, l', r, f => by
    have := nf_app l l' (r + 1) (if r < 24 then mput f r (nI b) else f)
    rw [show r + (b :: l).length = r + 1 + l.length by simp; omega]
    exact this
theorem nf_eq : ∀ (l : List Nat) (r : Nat) (f g : Nat → Int32), (∀ j, j < 24 → j < r → f j = g j) → ∀ j, j < 24 → j < r + l.length → nf l r f j = nf l r g j
  | [], r, f, g, h, j, h1, h2 => h j h1 h2
  | b :: l, r, f, g, h, j, h1, h2 => by
    refine nf_eq l (r + 1) _ _ (fun i i1 i2 => ?_) j h1 (by simp at h2; omega)
    by_cases h24 : r < 24
    · rw [if_pos h24, if_pos h24]
      unfold mput
      by_cases e : i = r
      · rw [if_pos e, if_pos e]
      · rw [if_neg e, if_neg e]; exact h i i1 (by omega)
    · rw [if_neg h24, if_neg h24]; exact h i i1 (by omega)
theorem mput_mput {α : Type} {f : Nat → α} {k : Nat} {x y : α} : mput (mput f k x) k y = mput f k y := by
  funext j
  unfold mput
  split <;> rfl
def cS (l : List Nat) (r : Nat) (MI : mI) : mI := mup (mup MI 45 (nf l r (MI 45))) 43 (mput (MI 43) 3 (nI (r + l.length)))
def dS (l : List Nat) (r : Nat) (MI : mI) : mI := mup (mup MI 75 (nf l r (MI 75))) 46 (mput (MI 46) 44 (nI (r + l.length)))
theorem cS_app (l l' : List Nat) (r : Nat) (MI : mI) : cS l' (r + l.length) (cS l r MI) = cS (l ++ l') r MI := by
  funext q
  unfold cS
  by_cases h : q = 43
  · subst h
    simp only [mup_s, mput_mput, List.length_append, Nat.add_assoc]
  · by_cases h2 : q = 45
    · subst h2
      simp (disch := omega) only [mup_s, mup_n, nf_app]
    · simp only [mup_n h, mup_n h2]
theorem dS_app (l l' : List Nat) (r : Nat) (MI : mI) : dS l' (r + l.length) (dS l r MI) = dS (l ++ l') r MI := by
  funext q
  unfold dS
  by_cases h : q = 46
  · subst h
    simp only [mup_s, mput_mput, List.length_append, Nat.add_assoc]
  · by_cases h2 : q = 75
    · subst h2
      simp (disch := omega) only [mup_s, mup_n, nf_app]
    · simp only [mup_n h, mup_n h2]
def NS (nn own r : Nat) (MI : mI) : Prop := ∃ nb, nb ≤ 50 ∧ nn < nb ∧ MI 43 1 = nI nb ∧ MI 44 nn = nI own ∧ MI 43 3 = nI r
theorem NS_c {nn own r : Nat} {MI : mI} (l : List Nat) (h : NS nn own r MI) : NS nn own (r + l.length) (cS l r MI) := by
  obtain ⟨nb, h1, h2, h3, h4, h5⟩ := h
  refine ⟨nb, h1, h2, ?_, ?_, ?_⟩ <;> (unfold cS; simp (disch := omega) only [mup_n, mup_s, mput_n, mput_s, mup_mup]; try first | exact h3 | exact h4 | rfl)
def NM (nn own r : Nat) (MI : mI) : Prop := MI 46 45 = nI own ∧ MI 46 46 = nI nn ∧ MI 46 44 = nI r
theorem NM_c {nn own r : Nat} {MI : mI} (l : List Nat) (h : NM nn own r MI) : NM nn own (r + l.length) (dS l r MI) := by
  obtain ⟨h1, h2, h3⟩ := h
  refine ⟨?_, ?_, ?_⟩ <;> (unfold dS; simp (disch := omega) only [mup_n, mup_s, mput_n, mput_s, mup_mup]; try first | exact h1 | exact h2 | rfl)
/-- a body of the class, a search of one; acts of the model -/
def CB (nn own D b dep : Nat) (T : List Nat) (V : Int32 → Int32) : Prop := ∀ (r : Nat) (MI : mI) (ML : mJ) (x : Int32), r + T.length < 100000 → NS nn own r MI → mrc D 81 [.ref 43, .int (nI b), .int (nI nn), .int x, .int (nI dep)] MI ML (some (.int (V x))) (cS T r MI) ML
def CR (nn own D k a dep : Nat) (T : List Nat) (V : Int32 → Int32) : Prop := ∀ (r : Nat) (MI : mI) (ML : mJ) (x : Int32), r + T.length < 100000 → NS nn own r MI → mrc D 80 [.ref 43, .int (nI k), .int (nI nn), .int (nI a), .int x, .int (nI dep)] MI ML (some (.int (V x))) (cS T r MI) ML
def CM (nn own D y k : Nat) (T : List Nat) (V : Int32 → Int32) : Prop := ∀ (r : Nat) (MI : mI) (ML : mJ) (x : Int32), r + T.length < 100000 → NM nn own r MI → mrc D y [.ref 46, .int (nI k), .int x] MI ML (some (.int (V x))) (dS T r MI) ML
theorem CM.up {nn own D D' y k : Nat} {T : List Nat} {V : Int32 → Int32} (h : CM nn own D y k T V) (hd : D ≤ D') : CM nn own D' y k T V := fun r MI ML x h1 h2 => mrc_le (h r MI ML x h1 h2) hd
theorem CR.up {nn own D D' k a dep : Nat} {T : List Nat} {V : Int32 → Int32} (h : CR nn own D k a dep T V) (hd : D ≤ D') : CR nn own D' k a dep T V := fun r MI ML x h1 h2 => mrc_le (h r MI ML x h1 h2) hd
def bod (k a : Nat) : Nat := ([1, 10, 11, 2, 20, 0, 0, 0, 0, 30, 0, 0, 0, 41, 40, 0, 0, 0, 50, 0, 0, 0, 0, 60, 70, 0, 0, 0, 0, 80, 0, 81] : List Nat).getD (k * 4 + a) 0
def abv (k : Nat) : Nat := ([0, 0, 0, 2, 1, 3, 0, 4] : List Nat).getD k 0
theorem bod_ok : ∀ k a, k < 8 → a < 4 → mtab3 (k * 4 + a) = nI (bod k a) ∧ bod k a < 100 := by
  have : ∀ k : Fin 8, ∀ a : Fin 4, mtab3 (k.val * 4 + a.val) = nI (bod k.val a.val) ∧ bod k.val a.val < 100 := by decide +kernel
  exact fun k a h1 h2 => this ⟨k, h1⟩ ⟨a, h2⟩
theorem bod_0 : ∀ a, a < 4 → ¬ bod 0 a = 0 := by decide
theorem abv_ok : ∀ k, k < 8 → ¬ k = 0 → mtab2 k = nI (abv k) ∧ abv k < 8 := by decide +kernel
def fbn : Nat → Nat → Nat → Nat
  | 0, _, _ => 0
  | f + 1, k, a => if bod k a = 0 then fbn f (abv k) a else bod k a
section CR
variable {nn own D : Nat}
theorem run_6 {a dep b : Nat} {T : List Nat} {V : Int32 → Int32} (ha : a < 4) (hd : dep < 40) (hb : ¬ b = 0) (h : CB nn own (D + 1) b (dep + 1) T V) {r : Nat} {MI : mI} {ML : mJ} {x : Int32} (hr : r + T.length < 100000) (hN : NS nn own r MI) : ∀ (f s k : Nat), f + s = 8 → k < 8 → fbn f k a = b → VX5_run_6 (D + 1) (eR (some (.int (V x))) (cS T r MI) ML) (nI nn) (nI a) x (nI dep) (nI k) (nI s) MI ML
  | 0, s, k, hs, hk, hf => absurd hf.symm hb
  | f + 1, s, k, hs, hk, hf => by
    obtain ⟨e1, e2⟩ := bod_ok k a hk ha
    refine BX5_run_6 (cF (fun q => absurd q (nI_ge (by omega) (by omega))) (usei s_isKind (bT (by rw [hasB_nI (by omega) (by omega), decide_eq_true hk]) ⟨k * 4 + a, by rw [pk_mul, nI_add], by omega, ?_⟩)))
    rw [e1, nI_eq (by omega) (by omega)]
    unfold fbn at hf
    by_cases h0 : bod k a = 0
    · rw [if_pos h0] at hf
      have hk0 : ¬ k = 0 := fun q => bod_0 a ha (by rw [q] at h0; exact h0)
      obtain ⟨a1, a2⟩ := abv_ok k hk hk0
      refine cT h0 ⟨k, rfl, hk, ?_⟩
      rw [a1, nI_add]
      exact run_6 ha hd hb h hr hN f (s + 1) (abv k) (by omega) a2 hf
    · rw [if_neg h0] at hf
      rw [hf]
      refine cF (by rw [← hf]; exact h0) (cF (nI_ge hd (by omega)) ?_)
      rw [nI_add]
      exact usei (h r MI ML x hr hN) eRr
theorem run_of {k a dep b : Nat} {T : List Nat} {V : Int32 → Int32} (hf : fbn 8 k a = b) (ha : a < 4) (hk : k < 8) (hd : dep < 40) (hb : ¬ b = 0) (h : CB nn own (D + 1) b (dep + 1) T V) : CR nn own (D + 2) k a dep T V := fun r MI ML x hr hN => mrc_of (EX5_run (BX5_run_0 (run_6 ha hd hb h hr hN 8 0 k rfl hk hf)))
theorem s_noteN {b r : Nat} {MI : mI} {ML : mJ} (hr : r < 100000) (hN : NS nn own r MI) : mrc (D + 1) 82 [.ref 43, .int (nI b)] MI ML none (cS [b] r MI) ML := by
  obtain ⟨nb, h1, h2, h3, h4, h5⟩ := hN
  exact s_note h5 hr
theorem s_kindN {r : Nat} {MI : mI} {ML : mJ} (hN : NS nn own r MI) : mrc (D + 2) 75 [.ref 43, .int (nI nn)] MI ML (some (.int (nI own))) MI ML := by
  obtain ⟨nb, h1, h2, h3, h4, h5⟩ := hN
  rw [← h4]
  exact s_kindOf h3 h1 h2
theorem t_runsN {b r : Nat} {MI : mI} {ML : mJ} (hr : r < 100000) (hN : NM nn own r MI) : mrc (D + 1) 253 [.ref 46, .int (nI b)] MI ML none (dS [b] r MI) ML := by
  obtain ⟨h1, h2, h3⟩ := hN
  refine mrc_of (EX11_runs (BX11_runs_0 ?_))
  rw [h3, nI_leI (by omega) (by omega)]
  refine br (fun q => vR ?_) (fun q => ⟨r, rfl, by omega, vR ?_⟩)
  · show _ = mup (mup MI 75 (if r < 24 then mput (MI 75) r (nI b) else MI 75)) 46 (mput (MI 46) 44 (nI (r + 1)))
    rw [if_neg (by omega), mup_id, nI_add]
  · show _ = mup (mup MI 75 (if r < 24 then mput (MI 75) r (nI b) else MI 75)) 46 (mput (MI 46) 44 (nI (r + 1)))
    rw [if_pos (by omega), mup_n (by decide), h3, nI_add]
theorem cb_1 {dep : Nat} : CB nn own (D + 3) 1 dep [1] (fun x => x + nI nn) := by
  intro r MI ML x hr hN
  simp only [List.length_cons, List.length_nil] at hr
  have h1 := NS_c [1] hN
  refine mrc_of (EX5_runBody (BX5_runBody_0 (usev (s_noteN (by omega) hN) (usei (s_kindN h1) ?_))))
  exact cT rfl (eRr)
theorem cb_11 {dep : Nat} : CB nn own (D + 3) 11 dep [11] (fun x => x ^^^ nI nn) := by
  intro r MI ML x hr hN
  simp only [List.length_cons, List.length_nil] at hr
  have h1 := NS_c [11] hN
  refine mrc_of (EX5_runBody (BX5_runBody_0 (usev (s_noteN (by omega) hN) (usei (s_kindN h1) ?_))))
  exact cF (by decide) (cF (by decide) (cF (by decide) (cT rfl (eRr))))
theorem cb_10 {dep : Nat} {T : List Nat} {V : Int32 → Int32} (h : CR nn own (D + 2) own 0 dep T V) : CB nn own (D + 3) 10 dep (10 :: T) (fun x => V (x) * nI 2) := by
  intro r MI ML x hr hN
  simp only [List.length_cons] at hr
  have h1 := NS_c [10] hN
  refine mrc_of (EX5_runBody (BX5_runBody_0 (usev (s_noteN (by omega) hN) (usei (s_kindN h1) ?_))))
  have h2 := h (r + 1) (cS [10] r MI) ML (x) (by omega) h1
  rw [show cS T (r + 1) (cS [10] r MI) = cS (10 :: T) r MI from cS_app [10] T r MI] at h2
  exact cF (by decide) (cF (by decide) (cT rfl (usei h2 eRr)))
theorem cb_20 {dep : Nat} {T : List Nat} {V : Int32 → Int32} (h : CR nn own (D + 2) 0 0 dep T V) : CB nn own (D + 3) 20 dep (20 :: T) (fun x => V (x) + nI 3) := by
  intro r MI ML x hr hN
  simp only [List.length_cons] at hr
  have h1 := NS_c [20] hN
  refine mrc_of (EX5_runBody (BX5_runBody_0 (usev (s_noteN (by omega) hN) (usei (s_kindN h1) ?_))))
  have h2 := h (r + 1) (cS [20] r MI) ML (x) (by omega) h1
  rw [show cS T (r + 1) (cS [20] r MI) = cS (20 :: T) r MI from cS_app [20] T r MI] at h2
  exact cF (by decide) (cF (by decide) (cF (by decide) (cF (by decide) (cT rfl (usei h2 eRr)))))
theorem cb_30 {dep : Nat} {T : List Nat} {V : Int32 → Int32} (h : CR nn own (D + 2) 0 1 dep T V) : CB nn own (D + 3) 30 dep (30 :: T) (fun x => -V (x)) := by
  intro r MI ML x hr hN
  simp only [List.length_cons] at hr
  have h1 := NS_c [30] hN
  refine mrc_of (EX5_runBody (BX5_runBody_0 (usev (s_noteN (by omega) hN) (usei (s_kindN h1) ?_))))
  have h2 := h (r + 1) (cS [30] r MI) ML (x) (by omega) h1
  rw [show cS T (r + 1) (cS [30] r MI) = cS (30 :: T) r MI from cS_app [30] T r MI] at h2
  exact cF (by decide) (cF (by decide) (cF (by decide) (cF (by decide) (cF (by decide) (cT rfl (usei h2 eRr))))))
theorem cb_40 {dep : Nat} {T : List Nat} {V : Int32 → Int32} (h : CR nn own (D + 2) 2 2 dep T V) : CB nn own (D + 3) 40 dep (40 :: T) (fun x => V (x) * nI 3) := by
  intro r MI ML x hr hN
  simp only [List.length_cons] at hr
  have h1 := NS_c [40] hN
  refine mrc_of (EX5_runBody (BX5_runBody_0 (usev (s_noteN (by omega) hN) (usei (s_kindN h1) ?_))))
  have h2 := h (r + 1) (cS [40] r MI) ML (x) (by omega) h1
  rw [show cS T (r + 1) (cS [40] r MI) = cS (40 :: T) r MI from cS_app [40] T r MI] at h2
  exact cF (by decide) (cF (by decide) (cF (by decide) (cF (by decide) (cF (by decide) (cF (by decide) (cT rfl (usei h2 eRr)))))))
theorem cb_41 {dep : Nat} {T : List Nat} {V : Int32 → Int32} (h : CR nn own (D + 2) 2 1 dep T V) : CB nn own (D + 3) 41 dep (41 :: T) (fun x => V (x + nI 1)) := by
  intro r MI ML x hr hN
  simp only [List.length_cons] at hr
  have h1 := NS_c [41] hN
  refine mrc_of (EX5_runBody (BX5_runBody_0 (usev (s_noteN (by omega) hN) (usei (s_kindN h1) ?_))))
  have h2 := h (r + 1) (cS [41] r MI) ML (x + nI 1) (by omega) h1
  rw [show cS T (r + 1) (cS [41] r MI) = cS (41 :: T) r MI from cS_app [41] T r MI] at h2
  exact cF (by decide) (cF (by decide) (cF (by decide) (cF (by decide) (cF (by decide) (cF (by decide) (cF (by decide) (cT rfl (usei h2 eRr))))))))
theorem cb_60 {dep : Nat} {T : List Nat} {V : Int32 → Int32} (h : CR nn own (D + 2) 3 3 dep T V) : CB nn own (D + 3) 60 dep (60 :: T) (fun x => V (x) ^^^ nI 5) := by
  intro r MI ML x hr hN
  simp only [List.length_cons] at hr
  have h1 := NS_c [60] hN
  refine mrc_of (EX5_runBody (BX5_runBody_0 (usev (s_noteN (by omega) hN) (usei (s_kindN h1) ?_))))
  have h2 := h (r + 1) (cS [60] r MI) ML (x) (by omega) h1
  rw [show cS T (r + 1) (cS [60] r MI) = cS (60 :: T) r MI from cS_app [60] T r MI] at h2
  exact cF (by decide) (cF (by decide) (cF (by decide) (cF (by decide) (cF (by decide) (cF (by decide) (cF (by decide) (cF (by decide) (cF (by decide) (cT rfl (usei h2 eRr))))))))))
theorem cb_70 {dep : Nat} {T : List Nat} {V : Int32 → Int32} (h : CR nn own (D + 2) 0 0 dep T V) : CB nn own (D + 3) 70 dep (70 :: T) (fun x => V (x) * nI 2) := by
  intro r MI ML x hr hN
  simp only [List.length_cons] at hr
  have h1 := NS_c [70] hN
  refine mrc_of (EX5_runBody (BX5_runBody_0 (usev (s_noteN (by omega) hN) (usei (s_kindN h1) ?_))))
  have h2 := h (r + 1) (cS [70] r MI) ML (x) (by omega) h1
  rw [show cS T (r + 1) (cS [70] r MI) = cS (70 :: T) r MI from cS_app [70] T r MI] at h2
  exact cF (by decide) (cF (by decide) (cF (by decide) (cF (by decide) (cF (by decide) (cF (by decide) (cF (by decide) (cF (by decide) (cF (by decide) (cF (by decide) (cT rfl (usei h2 eRr)))))))))))
theorem cb_81 {dep : Nat} {T : List Nat} {V : Int32 → Int32} (h : CR nn own (D + 2) 4 3 dep T V) : CB nn own (D + 3) 81 dep (81 :: T) (fun x => V (x) - nI 1) := by
  intro r MI ML x hr hN
  simp only [List.length_cons] at hr
  have h1 := NS_c [81] hN
  refine mrc_of (EX5_runBody (BX5_runBody_0 (usev (s_noteN (by omega) hN) (usei (s_kindN h1) ?_))))
  have h2 := h (r + 1) (cS [81] r MI) ML (x) (by omega) h1
  rw [show cS T (r + 1) (cS [81] r MI) = cS (81 :: T) r MI from cS_app [81] T r MI] at h2
  exact cF (by decide) (cF (by decide) (cF (by decide) (cF (by decide) (cF (by decide) (cF (by decide) (cF (by decide) (cF (by decide) (cF (by decide) (cF (by decide) (cF (by decide) (cF (by decide) (cT rfl (usei h2 eRr)))))))))))))
theorem cb_2 {dep : Nat} {T T' : List Nat} {V V' : Int32 → Int32} (h : CR nn own (D + 2) own 1 dep T V) (h' : CR nn own (D + 2) own 2 dep T' V') : CB nn own (D + 3) 2 dep (2 :: (T ++ T')) (fun x => V (x) - V' (nI 1)) := by
  intro r MI ML x hr hN
  simp only [List.length_cons, List.length_append] at hr
  have h1 := NS_c [2] hN
  have h1' := NS_c T h1
  refine mrc_of (EX5_runBody (BX5_runBody_0 (usev (s_noteN (by omega) hN) (usei (s_kindN h1) ?_))))
  have h2 := h (r + 1) (cS [2] r MI) ML (x) (by omega) h1
  have h3 := h' (r + 1 + T.length) (cS T (r + 1) (cS [2] r MI)) ML (nI 1) (by omega) h1'
  rw [show cS T' (r + 1 + T.length) (cS T (r + 1) (cS [2] r MI)) = cS (2 :: (T ++ T')) r MI from (cS_app T T' (r + 1) _).trans (cS_app [2] (T ++ T') r MI)] at h3
  exact cF (by decide) (cT rfl (usei h2 (usei h3 eRr)))
theorem cb_50 {dep : Nat} {T T' : List Nat} {V V' : Int32 → Int32} (h : CR nn own (D + 2) 1 2 dep T V) (h' : CR nn own (D + 2) own 0 dep T' V') : CB nn own (D + 3) 50 dep (50 :: (T ++ T')) (fun x => V (x) - V' (nI 2)) := by
  intro r MI ML x hr hN
  simp only [List.length_cons, List.length_append] at hr
  have h1 := NS_c [50] hN
  have h1' := NS_c T h1
  refine mrc_of (EX5_runBody (BX5_runBody_0 (usev (s_noteN (by omega) hN) (usei (s_kindN h1) ?_))))
  have h2 := h (r + 1) (cS [50] r MI) ML (x) (by omega) h1
  have h3 := h' (r + 1 + T.length) (cS T (r + 1) (cS [50] r MI)) ML (nI 2) (by omega) h1'
  rw [show cS T' (r + 1 + T.length) (cS T (r + 1) (cS [50] r MI)) = cS (50 :: (T ++ T')) r MI from (cS_app T T' (r + 1) _).trans (cS_app [50] (T ++ T') r MI)] at h3
  exact cF (by decide) (cF (by decide) (cF (by decide) (cF (by decide) (cF (by decide) (cF (by decide) (cF (by decide) (cF (by decide) (cT rfl (usei h2 (usei h3 eRr))))))))))
theorem cb_80 {dep : Nat} {T T' : List Nat} {V V' : Int32 → Int32} (h : CR nn own (D + 2) 4 1 dep T V) (h' : CR nn own (D + 2) own 2 dep T' V') : CB nn own (D + 3) 80 dep (80 :: (T ++ T')) (fun x => V (x) + V' (nI 2)) := by
  intro r MI ML x hr hN
  simp only [List.length_cons, List.length_append] at hr
  have h1 := NS_c [80] hN
  have h1' := NS_c T h1
  refine mrc_of (EX5_runBody (BX5_runBody_0 (usev (s_noteN (by omega) hN) (usei (s_kindN h1) ?_))))
  have h2 := h (r + 1) (cS [80] r MI) ML (x) (by omega) h1
  have h3 := h' (r + 1 + T.length) (cS T (r + 1) (cS [80] r MI)) ML (nI 2) (by omega) h1'
  rw [show cS T' (r + 1 + T.length) (cS T (r + 1) (cS [80] r MI)) = cS (80 :: (T ++ T')) r MI from (cS_app T T' (r + 1) _).trans (cS_app [80] (T ++ T') r MI)] at h3
  exact cF (by decide) (cF (by decide) (cF (by decide) (cF (by decide) (cF (by decide) (cF (by decide) (cF (by decide) (cF (by decide) (cF (by decide) (cF (by decide) (cF (by decide) (cT rfl (usei h2 (usei h3 eRr)))))))))))))
def Bth (h nn own k a : Nat) : Prop := ∃ (T : List Nat) (V : Int32 → Int32), T.length < 2 ^ h ∧ (∀ dep, dep + h ≤ 40 → CR nn own (2 * h + 2) k a dep T V) ∧ CM nn own (h + 1) (254 + a) k T V
theorem Bth.up {h nn own k a : Nat} (b : Bth h nn own k a) : Bth (h + 1) nn own k a := by
  obtain ⟨T, V, h1, h2, h3⟩ := b
  exact ⟨T, V, by rw [Nat.pow_succ]; omega, fun dep hd => (h2 dep (by omega)).up (by omega), h3.up (by omega)⟩
theorem bt_0_0 : Bth 1 nn own 0 0 := by
  refine ⟨[1], fun x => x + nI nn, by decide, fun dep hd => (run_of (D := 2) (b := 1) (by decide) (by decide) (by decide) (by omega) (by decide) (cb_1 (D := 0))).up (by omega), ?_⟩
  intro r MI ML x hr hN
  simp only [List.length_cons, List.length_nil] at hr
  have h1 := NM_c [1] hN
  refine mrc_of (EX11_weighsAs (BX11_weighsAs_0 ?_))
  exact cF (by decide) (cF (by decide) (cF (by decide) (cF (by decide) (usev (t_runsN (by omega) hN) (iR (by rw [h1.2.1]) rfl)))))
theorem bt_1_0 {h : Nat} (hh : h < 8) (b : Bth h nn own 0 0) : Bth (h + 1) nn own 1 0 := by
  obtain ⟨T, V, b1, b2, b3⟩ := b
  refine ⟨20 :: T, fun x => V (x) + nI 3, by rw [Nat.pow_succ, List.length_cons]; omega, fun dep hd => (run_of (D := 2 * h + 2) (b := 20) (by decide) (by decide) (by decide) (by omega) (by decide) (cb_20 (D := 2 * h) (b2 (dep + 1) (by omega)))).up (by omega), ?_⟩
  intro r MI ML x hr hN
  simp only [List.length_cons] at hr
  have h1 := NM_c [20] hN
  have h2 := b3 (r + 1) (dS [20] r MI) ML (x) (by omega) h1
  rw [show dS T (r + 1) (dS [20] r MI) = dS (20 :: T) r MI from dS_app [20] T r MI] at h2
  refine mrc_of (EX11_weighsAs (BX11_weighsAs_0 ?_))
  exact cT rfl (BX11_weighsAs_16 (usev (t_runsN (by omega) hN) (by exact usei h2 eRr)))
theorem bt_2_0 : Bth 1 nn own 2 0 := by
  refine ⟨[1], fun x => x + nI nn, by decide, fun dep hd => (run_of (D := 2) (b := 1) (by decide) (by decide) (by decide) (by omega) (by decide) (cb_1 (D := 0))).up (by omega), ?_⟩
  intro r MI ML x hr hN
  simp only [List.length_cons, List.length_nil] at hr
  have h1 := NM_c [1] hN
  refine mrc_of (EX11_weighsAs (BX11_weighsAs_0 ?_))
  exact cF (by decide) (cF (by decide) (cF (by decide) (cF (by decide) (usev (t_runsN (by omega) hN) (iR (by rw [h1.2.1]) rfl)))))
theorem bt_3_0 : Bth 1 nn own 3 0 := by
  refine ⟨[1], fun x => x + nI nn, by decide, fun dep hd => (run_of (D := 2) (b := 1) (by decide) (by decide) (by decide) (by omega) (by decide) (cb_1 (D := 0))).up (by omega), ?_⟩
  intro r MI ML x hr hN
  simp only [List.length_cons, List.length_nil] at hr
  have h1 := NM_c [1] hN
  refine mrc_of (EX11_weighsAs (BX11_weighsAs_0 ?_))
  exact cF (by decide) (cF (by decide) (cF (by decide) (cF (by decide) (usev (t_runsN (by omega) hN) (iR (by rw [h1.2.1]) rfl)))))
theorem bt_4_0 {h : Nat} (hh : h < 8) (b : Bth h nn own 0 0) : Bth (h + 1) nn own 4 0 := by
  obtain ⟨T, V, b1, b2, b3⟩ := b
  refine ⟨20 :: T, fun x => V (x) + nI 3, by rw [Nat.pow_succ, List.length_cons]; omega, fun dep hd => (run_of (D := 2 * h + 2) (b := 20) (by decide) (by decide) (by decide) (by omega) (by decide) (cb_20 (D := 2 * h) (b2 (dep + 1) (by omega)))).up (by omega), ?_⟩
  intro r MI ML x hr hN
  simp only [List.length_cons] at hr
  have h1 := NM_c [20] hN
  have h2 := b3 (r + 1) (dS [20] r MI) ML (x) (by omega) h1
  rw [show dS T (r + 1) (dS [20] r MI) = dS (20 :: T) r MI from dS_app [20] T r MI] at h2
  refine mrc_of (EX11_weighsAs (BX11_weighsAs_0 ?_))
  exact cF (by decide) (cT rfl (BX11_weighsAs_16 (usev (t_runsN (by omega) hN) (by exact usei h2 eRr))))
theorem bt_5_0 : Bth 1 nn own 5 0 := by
  refine ⟨[1], fun x => x + nI nn, by decide, fun dep hd => (run_of (D := 2) (b := 1) (by decide) (by decide) (by decide) (by omega) (by decide) (cb_1 (D := 0))).up (by omega), ?_⟩
  intro r MI ML x hr hN
  simp only [List.length_cons, List.length_nil] at hr
  have h1 := NM_c [1] hN
  refine mrc_of (EX11_weighsAs (BX11_weighsAs_0 ?_))
  exact cF (by decide) (cF (by decide) (cF (by decide) (cF (by decide) (usev (t_runsN (by omega) hN) (iR (by rw [h1.2.1]) rfl)))))
theorem bt_6_0 {h : Nat} (hh : h < 8) (b : Bth h nn own 0 0) : Bth (h + 1) nn own 6 0 := by
  obtain ⟨T, V, b1, b2, b3⟩ := b
  refine ⟨70 :: T, fun x => V (x) * nI 2, by rw [Nat.pow_succ, List.length_cons]; omega, fun dep hd => (run_of (D := 2 * h + 2) (b := 70) (by decide) (by decide) (by decide) (by omega) (by decide) (cb_70 (D := 2 * h) (b2 (dep + 1) (by omega)))).up (by omega), ?_⟩
  intro r MI ML x hr hN
  simp only [List.length_cons] at hr
  have h1 := NM_c [70] hN
  have h2 := b3 (r + 1) (dS [70] r MI) ML (x) (by omega) h1
  rw [show dS T (r + 1) (dS [70] r MI) = dS (70 :: T) r MI from dS_app [70] T r MI] at h2
  refine mrc_of (EX11_weighsAs (BX11_weighsAs_0 ?_))
  exact cF (by decide) (cF (by decide) (cF (by decide) (cT rfl (usev (t_runsN (by omega) hN) (by exact usei h2 eRr)))))
theorem bt_7_0 {h : Nat} (hh : h < 8) (b : Bth h nn own 0 0) : Bth (h + 1) nn own 7 0 := by
  obtain ⟨T, V, b1, b2, b3⟩ := b
  refine ⟨20 :: T, fun x => V (x) + nI 3, by rw [Nat.pow_succ, List.length_cons]; omega, fun dep hd => (run_of (D := 2 * h + 2) (b := 20) (by decide) (by decide) (by decide) (by omega) (by decide) (cb_20 (D := 2 * h) (b2 (dep + 1) (by omega)))).up (by omega), ?_⟩
  intro r MI ML x hr hN
  simp only [List.length_cons] at hr
  have h1 := NM_c [20] hN
  have h2 := b3 (r + 1) (dS [20] r MI) ML (x) (by omega) h1
  rw [show dS T (r + 1) (dS [20] r MI) = dS (20 :: T) r MI from dS_app [20] T r MI] at h2
  refine mrc_of (EX11_weighsAs (BX11_weighsAs_0 ?_))
  exact cF (by decide) (cF (by decide) (cT rfl (BX11_weighsAs_16 (usev (t_runsN (by omega) hN) (by exact usei h2 eRr)))))
theorem bt_0_1 {h : Nat} (hh : h < 8) (b : Bth h nn own own 0) : Bth (h + 1) nn own 0 1 := by
  obtain ⟨T, V, b1, b2, b3⟩ := b
  refine ⟨10 :: T, fun x => V (x) * nI 2, by rw [Nat.pow_succ, List.length_cons]; omega, fun dep hd => (run_of (D := 2 * h + 2) (b := 10) (by decide) (by decide) (by decide) (by omega) (by decide) (cb_10 (D := 2 * h) (b2 (dep + 1) (by omega)))).up (by omega), ?_⟩
  intro r MI ML x hr hN
  simp only [List.length_cons] at hr
  have h1 := NM_c [10] hN
  have h2 := b3 (r + 1) (dS [10] r MI) ML (x) (by omega) h1
  rw [show dS T (r + 1) (dS [10] r MI) = dS (10 :: T) r MI from dS_app [10] T r MI] at h2
  refine mrc_of (EX11_hatesAs (BX11_hatesAs_0 ?_))
  exact cF (by decide) (cF (by decide) (cF (by decide) (cF (by decide) (usev (t_runsN (by omega) hN) (by rw [h1.1]; exact usei h2 eRr)))))
theorem bt_1_1 {h : Nat} (hh : h < 8) (b : Bth h nn own own 0) : Bth (h + 1) nn own 1 1 := by
  obtain ⟨T, V, b1, b2, b3⟩ := b
  refine ⟨10 :: T, fun x => V (x) * nI 2, by rw [Nat.pow_succ, List.length_cons]; omega, fun dep hd => (run_of (D := 2 * h + 2) (b := 10) (by decide) (by decide) (by decide) (by omega) (by decide) (cb_10 (D := 2 * h) (b2 (dep + 1) (by omega)))).up (by omega), ?_⟩
  intro r MI ML x hr hN
  simp only [List.length_cons] at hr
  have h1 := NM_c [10] hN
  have h2 := b3 (r + 1) (dS [10] r MI) ML (x) (by omega) h1
  rw [show dS T (r + 1) (dS [10] r MI) = dS (10 :: T) r MI from dS_app [10] T r MI] at h2
  refine mrc_of (EX11_hatesAs (BX11_hatesAs_0 ?_))
  exact cF (by decide) (cF (by decide) (cF (by decide) (cF (by decide) (usev (t_runsN (by omega) hN) (by rw [h1.1]; exact usei h2 eRr)))))
theorem bt_2_1 {h : Nat} (hh : h < 8) (b : Bth h nn own 0 1) : Bth (h + 1) nn own 2 1 := by
  obtain ⟨T, V, b1, b2, b3⟩ := b
  refine ⟨30 :: T, fun x => -V (x), by rw [Nat.pow_succ, List.length_cons]; omega, fun dep hd => (run_of (D := 2 * h + 2) (b := 30) (by decide) (by decide) (by decide) (by omega) (by decide) (cb_30 (D := 2 * h) (b2 (dep + 1) (by omega)))).up (by omega), ?_⟩
  intro r MI ML x hr hN
  simp only [List.length_cons] at hr
  have h1 := NM_c [30] hN
  have h2 := b3 (r + 1) (dS [30] r MI) ML (x) (by omega) h1
  rw [show dS T (r + 1) (dS [30] r MI) = dS (30 :: T) r MI from dS_app [30] T r MI] at h2
  refine mrc_of (EX11_hatesAs (BX11_hatesAs_0 ?_))
  exact cF (by decide) (cF (by decide) (cT rfl (usev (t_runsN (by omega) hN) (by exact usei h2 eRr))))
theorem bt_3_1 {h : Nat} (hh : h < 8) (b : Bth h nn own 2 1) : Bth (h + 1) nn own 3 1 := by
  obtain ⟨T, V, b1, b2, b3⟩ := b
  refine ⟨41 :: T, fun x => V (x + nI 1), by rw [Nat.pow_succ, List.length_cons]; omega, fun dep hd => (run_of (D := 2 * h + 2) (b := 41) (by decide) (by decide) (by decide) (by omega) (by decide) (cb_41 (D := 2 * h) (b2 (dep + 1) (by omega)))).up (by omega), ?_⟩
  intro r MI ML x hr hN
  simp only [List.length_cons] at hr
  have h1 := NM_c [41] hN
  have h2 := b3 (r + 1) (dS [41] r MI) ML (x + nI 1) (by omega) h1
  rw [show dS T (r + 1) (dS [41] r MI) = dS (41 :: T) r MI from dS_app [41] T r MI] at h2
  refine mrc_of (EX11_hatesAs (BX11_hatesAs_0 ?_))
  exact cT rfl (BX11_hatesAs_10 (usev (t_runsN (by omega) hN) (by exact usei h2 eRr)))
theorem bt_4_1 {h : Nat} (hh : h < 8) (b : Bth h nn own own 0) : Bth (h + 1) nn own 4 1 := by
  obtain ⟨T, V, b1, b2, b3⟩ := b
  refine ⟨10 :: T, fun x => V (x) * nI 2, by rw [Nat.pow_succ, List.length_cons]; omega, fun dep hd => (run_of (D := 2 * h + 2) (b := 10) (by decide) (by decide) (by decide) (by omega) (by decide) (cb_10 (D := 2 * h) (b2 (dep + 1) (by omega)))).up (by omega), ?_⟩
  intro r MI ML x hr hN
  simp only [List.length_cons] at hr
  have h1 := NM_c [10] hN
  have h2 := b3 (r + 1) (dS [10] r MI) ML (x) (by omega) h1
  rw [show dS T (r + 1) (dS [10] r MI) = dS (10 :: T) r MI from dS_app [10] T r MI] at h2
  refine mrc_of (EX11_hatesAs (BX11_hatesAs_0 ?_))
  exact cF (by decide) (cF (by decide) (cF (by decide) (cF (by decide) (usev (t_runsN (by omega) hN) (by rw [h1.1]; exact usei h2 eRr)))))
theorem bt_5_1 {h : Nat} (hh : h < 8) (b : Bth h nn own 2 1) : Bth (h + 1) nn own 5 1 := by
  obtain ⟨T, V, b1, b2, b3⟩ := b
  refine ⟨41 :: T, fun x => V (x + nI 1), by rw [Nat.pow_succ, List.length_cons]; omega, fun dep hd => (run_of (D := 2 * h + 2) (b := 41) (by decide) (by decide) (by decide) (by omega) (by decide) (cb_41 (D := 2 * h) (b2 (dep + 1) (by omega)))).up (by omega), ?_⟩
  intro r MI ML x hr hN
  simp only [List.length_cons] at hr
  have h1 := NM_c [41] hN
  have h2 := b3 (r + 1) (dS [41] r MI) ML (x + nI 1) (by omega) h1
  rw [show dS T (r + 1) (dS [41] r MI) = dS (41 :: T) r MI from dS_app [41] T r MI] at h2
  refine mrc_of (EX11_hatesAs (BX11_hatesAs_0 ?_))
  exact cF (by decide) (cT rfl (BX11_hatesAs_10 (usev (t_runsN (by omega) hN) (by exact usei h2 eRr))))
theorem bt_6_1 {h : Nat} (hh : h < 8) (b : Bth h nn own own 0) : Bth (h + 1) nn own 6 1 := by
  obtain ⟨T, V, b1, b2, b3⟩ := b
  refine ⟨10 :: T, fun x => V (x) * nI 2, by rw [Nat.pow_succ, List.length_cons]; omega, fun dep hd => (run_of (D := 2 * h + 2) (b := 10) (by decide) (by decide) (by decide) (by omega) (by decide) (cb_10 (D := 2 * h) (b2 (dep + 1) (by omega)))).up (by omega), ?_⟩
  intro r MI ML x hr hN
  simp only [List.length_cons] at hr
  have h1 := NM_c [10] hN
  have h2 := b3 (r + 1) (dS [10] r MI) ML (x) (by omega) h1
  rw [show dS T (r + 1) (dS [10] r MI) = dS (10 :: T) r MI from dS_app [10] T r MI] at h2
  refine mrc_of (EX11_hatesAs (BX11_hatesAs_0 ?_))
  exact cF (by decide) (cF (by decide) (cF (by decide) (cF (by decide) (usev (t_runsN (by omega) hN) (by rw [h1.1]; exact usei h2 eRr)))))
theorem bt_7_1 {h : Nat} (hh : h < 8) (b : Bth h nn own 4 1) (b' : Bth h nn own own 2) : Bth (h + 1) nn own 7 1 := by
  obtain ⟨T, V, b1, b2, b3⟩ := b
  obtain ⟨T', V', b1', b2', b3'⟩ := b'
  refine ⟨80 :: (T ++ T'), fun x => V (x) + V' (nI 2), by rw [Nat.pow_succ, List.length_cons, List.length_append]; omega, fun dep hd => (run_of (D := 2 * h + 2) (b := 80) (by decide) (by decide) (by decide) (by omega) (by decide) (cb_80 (D := 2 * h) (b2 (dep + 1) (by omega)) (b2' (dep + 1) (by omega)))).up (by omega), ?_⟩
  intro r MI ML x hr hN
  simp only [List.length_cons, List.length_append] at hr
  have h1 := NM_c [80] hN
  have h1' : NM nn own (r + 1 + T.length) (dS T (r + 1) (dS [80] r MI)) := NM_c T h1
  have h2 := b3 (r + 1) (dS [80] r MI) ML (x) (by omega) h1
  have h3 := b3' (r + 1 + T.length) (dS T (r + 1) (dS [80] r MI)) ML (nI 2) (by omega) h1'
  rw [show dS T' (r + 1 + T.length) (dS T (r + 1) (dS [80] r MI)) = dS (80 :: (T ++ T')) r MI from (dS_app T T' (r + 1) _).trans (dS_app [80] (T ++ T') r MI)] at h3
  refine mrc_of (EX11_hatesAs (BX11_hatesAs_0 ?_))
  exact cF (by decide) (cF (by decide) (cF (by decide) (cT rfl (usev (t_runsN (by omega) hN) (by exact usei h2 (by rw [h1'.1]; exact usei h3 eRr))))))
theorem bt_0_2 : Bth 1 nn own 0 2 := by
  refine ⟨[11], fun x => x ^^^ nI nn, by decide, fun dep hd => (run_of (D := 2) (b := 11) (by decide) (by decide) (by decide) (by omega) (by decide) (cb_11 (D := 0))).up (by omega), ?_⟩
  intro r MI ML x hr hN
  simp only [List.length_cons, List.length_nil] at hr
  have h1 := NM_c [11] hN
  refine mrc_of (EX11_standsAs (BX11_standsAs_0 ?_))
  exact cF (by decide) (cF (by decide) (cF (by decide) (cF (by decide) (usev (t_runsN (by omega) hN) (iR (by rw [h1.2.1]) rfl)))))
theorem bt_1_2 : Bth 1 nn own 1 2 := by
  refine ⟨[11], fun x => x ^^^ nI nn, by decide, fun dep hd => (run_of (D := 2) (b := 11) (by decide) (by decide) (by decide) (by omega) (by decide) (cb_11 (D := 0))).up (by omega), ?_⟩
  intro r MI ML x hr hN
  simp only [List.length_cons, List.length_nil] at hr
  have h1 := NM_c [11] hN
  refine mrc_of (EX11_standsAs (BX11_standsAs_0 ?_))
  exact cF (by decide) (cF (by decide) (cF (by decide) (cF (by decide) (usev (t_runsN (by omega) hN) (iR (by rw [h1.2.1]) rfl)))))
theorem bt_2_2 : Bth 1 nn own 2 2 := by
  refine ⟨[11], fun x => x ^^^ nI nn, by decide, fun dep hd => (run_of (D := 2) (b := 11) (by decide) (by decide) (by decide) (by omega) (by decide) (cb_11 (D := 0))).up (by omega), ?_⟩
  intro r MI ML x hr hN
  simp only [List.length_cons, List.length_nil] at hr
  have h1 := NM_c [11] hN
  refine mrc_of (EX11_standsAs (BX11_standsAs_0 ?_))
  exact cF (by decide) (cF (by decide) (cF (by decide) (cF (by decide) (usev (t_runsN (by omega) hN) (iR (by rw [h1.2.1]) rfl)))))
theorem bt_3_2 {h : Nat} (hh : h < 8) (b : Bth h nn own 2 2) : Bth (h + 1) nn own 3 2 := by
  obtain ⟨T, V, b1, b2, b3⟩ := b
  refine ⟨40 :: T, fun x => V (x) * nI 3, by rw [Nat.pow_succ, List.length_cons]; omega, fun dep hd => (run_of (D := 2 * h + 2) (b := 40) (by decide) (by decide) (by decide) (by omega) (by decide) (cb_40 (D := 2 * h) (b2 (dep + 1) (by omega)))).up (by omega), ?_⟩
  intro r MI ML x hr hN
  simp only [List.length_cons] at hr
  have h1 := NM_c [40] hN
  have h2 := b3 (r + 1) (dS [40] r MI) ML (x) (by omega) h1
  rw [show dS T (r + 1) (dS [40] r MI) = dS (40 :: T) r MI from dS_app [40] T r MI] at h2
  refine mrc_of (EX11_standsAs (BX11_standsAs_0 ?_))
  exact cT rfl (BX11_standsAs_10 (usev (t_runsN (by omega) hN) (by exact usei h2 eRr)))
theorem bt_4_2 {h : Nat} (hh : h < 8) (b : Bth h nn own 1 2) (b' : Bth h nn own own 0) : Bth (h + 1) nn own 4 2 := by
  obtain ⟨T, V, b1, b2, b3⟩ := b
  obtain ⟨T', V', b1', b2', b3'⟩ := b'
  refine ⟨50 :: (T ++ T'), fun x => V (x) - V' (nI 2), by rw [Nat.pow_succ, List.length_cons, List.length_append]; omega, fun dep hd => (run_of (D := 2 * h + 2) (b := 50) (by decide) (by decide) (by decide) (by omega) (by decide) (cb_50 (D := 2 * h) (b2 (dep + 1) (by omega)) (b2' (dep + 1) (by omega)))).up (by omega), ?_⟩
  intro r MI ML x hr hN
  simp only [List.length_cons, List.length_append] at hr
  have h1 := NM_c [50] hN
  have h1' : NM nn own (r + 1 + T.length) (dS T (r + 1) (dS [50] r MI)) := NM_c T h1
  have h2 := b3 (r + 1) (dS [50] r MI) ML (x) (by omega) h1
  have h3 := b3' (r + 1 + T.length) (dS T (r + 1) (dS [50] r MI)) ML (nI 2) (by omega) h1'
  rw [show dS T' (r + 1 + T.length) (dS T (r + 1) (dS [50] r MI)) = dS (50 :: (T ++ T')) r MI from (dS_app T T' (r + 1) _).trans (dS_app [50] (T ++ T') r MI)] at h3
  refine mrc_of (EX11_standsAs (BX11_standsAs_0 ?_))
  exact cF (by decide) (cF (by decide) (cT rfl (BX11_standsAs_36 (usev (t_runsN (by omega) hN) (by exact usei h2 (by rw [h1'.1]; exact usei h3 eRr))))))
theorem bt_5_2 {h : Nat} (hh : h < 8) (b : Bth h nn own 2 2) : Bth (h + 1) nn own 5 2 := by
  obtain ⟨T, V, b1, b2, b3⟩ := b
  refine ⟨40 :: T, fun x => V (x) * nI 3, by rw [Nat.pow_succ, List.length_cons]; omega, fun dep hd => (run_of (D := 2 * h + 2) (b := 40) (by decide) (by decide) (by decide) (by omega) (by decide) (cb_40 (D := 2 * h) (b2 (dep + 1) (by omega)))).up (by omega), ?_⟩
  intro r MI ML x hr hN
  simp only [List.length_cons] at hr
  have h1 := NM_c [40] hN
  have h2 := b3 (r + 1) (dS [40] r MI) ML (x) (by omega) h1
  rw [show dS T (r + 1) (dS [40] r MI) = dS (40 :: T) r MI from dS_app [40] T r MI] at h2
  refine mrc_of (EX11_standsAs (BX11_standsAs_0 ?_))
  exact cF (by decide) (cT rfl (BX11_standsAs_10 (usev (t_runsN (by omega) hN) (by exact usei h2 eRr))))
theorem bt_6_2 : Bth 1 nn own 6 2 := by
  refine ⟨[11], fun x => x ^^^ nI nn, by decide, fun dep hd => (run_of (D := 2) (b := 11) (by decide) (by decide) (by decide) (by omega) (by decide) (cb_11 (D := 0))).up (by omega), ?_⟩
  intro r MI ML x hr hN
  simp only [List.length_cons, List.length_nil] at hr
  have h1 := NM_c [11] hN
  refine mrc_of (EX11_standsAs (BX11_standsAs_0 ?_))
  exact cF (by decide) (cF (by decide) (cF (by decide) (cF (by decide) (usev (t_runsN (by omega) hN) (iR (by rw [h1.2.1]) rfl)))))
theorem bt_7_2 {h : Nat} (hh : h < 8) (b : Bth h nn own 1 2) (b' : Bth h nn own own 0) : Bth (h + 1) nn own 7 2 := by
  obtain ⟨T, V, b1, b2, b3⟩ := b
  obtain ⟨T', V', b1', b2', b3'⟩ := b'
  refine ⟨50 :: (T ++ T'), fun x => V (x) - V' (nI 2), by rw [Nat.pow_succ, List.length_cons, List.length_append]; omega, fun dep hd => (run_of (D := 2 * h + 2) (b := 50) (by decide) (by decide) (by decide) (by omega) (by decide) (cb_50 (D := 2 * h) (b2 (dep + 1) (by omega)) (b2' (dep + 1) (by omega)))).up (by omega), ?_⟩
  intro r MI ML x hr hN
  simp only [List.length_cons, List.length_append] at hr
  have h1 := NM_c [50] hN
  have h1' : NM nn own (r + 1 + T.length) (dS T (r + 1) (dS [50] r MI)) := NM_c T h1
  have h2 := b3 (r + 1) (dS [50] r MI) ML (x) (by omega) h1
  have h3 := b3' (r + 1 + T.length) (dS T (r + 1) (dS [50] r MI)) ML (nI 2) (by omega) h1'
  rw [show dS T' (r + 1 + T.length) (dS T (r + 1) (dS [50] r MI)) = dS (50 :: (T ++ T')) r MI from (dS_app T T' (r + 1) _).trans (dS_app [50] (T ++ T') r MI)] at h3
  refine mrc_of (EX11_standsAs (BX11_standsAs_0 ?_))
  exact cF (by decide) (cF (by decide) (cF (by decide) (cT rfl (BX11_standsAs_36 (usev (t_runsN (by omega) hN) (by exact usei h2 (by rw [h1'.1]; exact usei h3 eRr)))))))
theorem bt_0_3 {h : Nat} (hh : h < 8) (b : Bth h nn own own 1) (b' : Bth h nn own own 2) : Bth (h + 1) nn own 0 3 := by
  obtain ⟨T, V, b1, b2, b3⟩ := b
  obtain ⟨T', V', b1', b2', b3'⟩ := b'
  refine ⟨2 :: (T ++ T'), fun x => V (x) - V' (nI 1), by rw [Nat.pow_succ, List.length_cons, List.length_append]; omega, fun dep hd => (run_of (D := 2 * h + 2) (b := 2) (by decide) (by decide) (by decide) (by omega) (by decide) (cb_2 (D := 2 * h) (b2 (dep + 1) (by omega)) (b2' (dep + 1) (by omega)))).up (by omega), ?_⟩
  intro r MI ML x hr hN
  simp only [List.length_cons, List.length_append] at hr
  have h1 := NM_c [2] hN
  have h1' : NM nn own (r + 1 + T.length) (dS T (r + 1) (dS [2] r MI)) := NM_c T h1
  have h2 := b3 (r + 1) (dS [2] r MI) ML (x) (by omega) h1
  have h3 := b3' (r + 1 + T.length) (dS T (r + 1) (dS [2] r MI)) ML (nI 1) (by omega) h1'
  rw [show dS T' (r + 1 + T.length) (dS T (r + 1) (dS [2] r MI)) = dS (2 :: (T ++ T')) r MI from (dS_app T T' (r + 1) _).trans (dS_app [2] (T ++ T') r MI)] at h3
  refine mrc_of (EX11_tellsAs (BX11_tellsAs_0 ?_))
  exact cF (by decide) (cF (by decide) (usev (t_runsN (by omega) hN) (by rw [h1.1]; exact usei h2 (by rw [h1'.1]; exact usei h3 eRr))))
theorem bt_1_3 {h : Nat} (hh : h < 8) (b : Bth h nn own own 1) (b' : Bth h nn own own 2) : Bth (h + 1) nn own 1 3 := by
  obtain ⟨T, V, b1, b2, b3⟩ := b
  obtain ⟨T', V', b1', b2', b3'⟩ := b'
  refine ⟨2 :: (T ++ T'), fun x => V (x) - V' (nI 1), by rw [Nat.pow_succ, List.length_cons, List.length_append]; omega, fun dep hd => (run_of (D := 2 * h + 2) (b := 2) (by decide) (by decide) (by decide) (by omega) (by decide) (cb_2 (D := 2 * h) (b2 (dep + 1) (by omega)) (b2' (dep + 1) (by omega)))).up (by omega), ?_⟩
  intro r MI ML x hr hN
  simp only [List.length_cons, List.length_append] at hr
  have h1 := NM_c [2] hN
  have h1' : NM nn own (r + 1 + T.length) (dS T (r + 1) (dS [2] r MI)) := NM_c T h1
  have h2 := b3 (r + 1) (dS [2] r MI) ML (x) (by omega) h1
  have h3 := b3' (r + 1 + T.length) (dS T (r + 1) (dS [2] r MI)) ML (nI 1) (by omega) h1'
  rw [show dS T' (r + 1 + T.length) (dS T (r + 1) (dS [2] r MI)) = dS (2 :: (T ++ T')) r MI from (dS_app T T' (r + 1) _).trans (dS_app [2] (T ++ T') r MI)] at h3
  refine mrc_of (EX11_tellsAs (BX11_tellsAs_0 ?_))
  exact cF (by decide) (cF (by decide) (usev (t_runsN (by omega) hN) (by rw [h1.1]; exact usei h2 (by rw [h1'.1]; exact usei h3 eRr))))
theorem bt_2_3 {h : Nat} (hh : h < 8) (b : Bth h nn own own 1) (b' : Bth h nn own own 2) : Bth (h + 1) nn own 2 3 := by
  obtain ⟨T, V, b1, b2, b3⟩ := b
  obtain ⟨T', V', b1', b2', b3'⟩ := b'
  refine ⟨2 :: (T ++ T'), fun x => V (x) - V' (nI 1), by rw [Nat.pow_succ, List.length_cons, List.length_append]; omega, fun dep hd => (run_of (D := 2 * h + 2) (b := 2) (by decide) (by decide) (by decide) (by omega) (by decide) (cb_2 (D := 2 * h) (b2 (dep + 1) (by omega)) (b2' (dep + 1) (by omega)))).up (by omega), ?_⟩
  intro r MI ML x hr hN
  simp only [List.length_cons, List.length_append] at hr
  have h1 := NM_c [2] hN
  have h1' : NM nn own (r + 1 + T.length) (dS T (r + 1) (dS [2] r MI)) := NM_c T h1
  have h2 := b3 (r + 1) (dS [2] r MI) ML (x) (by omega) h1
  have h3 := b3' (r + 1 + T.length) (dS T (r + 1) (dS [2] r MI)) ML (nI 1) (by omega) h1'
  rw [show dS T' (r + 1 + T.length) (dS T (r + 1) (dS [2] r MI)) = dS (2 :: (T ++ T')) r MI from (dS_app T T' (r + 1) _).trans (dS_app [2] (T ++ T') r MI)] at h3
  refine mrc_of (EX11_tellsAs (BX11_tellsAs_0 ?_))
  exact cF (by decide) (cF (by decide) (usev (t_runsN (by omega) hN) (by rw [h1.1]; exact usei h2 (by rw [h1'.1]; exact usei h3 eRr))))
theorem bt_3_3 {h : Nat} (hh : h < 8) (b : Bth h nn own own 1) (b' : Bth h nn own own 2) : Bth (h + 1) nn own 3 3 := by
  obtain ⟨T, V, b1, b2, b3⟩ := b
  obtain ⟨T', V', b1', b2', b3'⟩ := b'
  refine ⟨2 :: (T ++ T'), fun x => V (x) - V' (nI 1), by rw [Nat.pow_succ, List.length_cons, List.length_append]; omega, fun dep hd => (run_of (D := 2 * h + 2) (b := 2) (by decide) (by decide) (by decide) (by omega) (by decide) (cb_2 (D := 2 * h) (b2 (dep + 1) (by omega)) (b2' (dep + 1) (by omega)))).up (by omega), ?_⟩
  intro r MI ML x hr hN
  simp only [List.length_cons, List.length_append] at hr
  have h1 := NM_c [2] hN
  have h1' : NM nn own (r + 1 + T.length) (dS T (r + 1) (dS [2] r MI)) := NM_c T h1
  have h2 := b3 (r + 1) (dS [2] r MI) ML (x) (by omega) h1
  have h3 := b3' (r + 1 + T.length) (dS T (r + 1) (dS [2] r MI)) ML (nI 1) (by omega) h1'
  rw [show dS T' (r + 1 + T.length) (dS T (r + 1) (dS [2] r MI)) = dS (2 :: (T ++ T')) r MI from (dS_app T T' (r + 1) _).trans (dS_app [2] (T ++ T') r MI)] at h3
  refine mrc_of (EX11_tellsAs (BX11_tellsAs_0 ?_))
  exact cF (by decide) (cF (by decide) (usev (t_runsN (by omega) hN) (by rw [h1.1]; exact usei h2 (by rw [h1'.1]; exact usei h3 eRr))))
theorem bt_4_3 {h : Nat} (hh : h < 8) (b : Bth h nn own own 1) (b' : Bth h nn own own 2) : Bth (h + 1) nn own 4 3 := by
  obtain ⟨T, V, b1, b2, b3⟩ := b
  obtain ⟨T', V', b1', b2', b3'⟩ := b'
  refine ⟨2 :: (T ++ T'), fun x => V (x) - V' (nI 1), by rw [Nat.pow_succ, List.length_cons, List.length_append]; omega, fun dep hd => (run_of (D := 2 * h + 2) (b := 2) (by decide) (by decide) (by decide) (by omega) (by decide) (cb_2 (D := 2 * h) (b2 (dep + 1) (by omega)) (b2' (dep + 1) (by omega)))).up (by omega), ?_⟩
  intro r MI ML x hr hN
  simp only [List.length_cons, List.length_append] at hr
  have h1 := NM_c [2] hN
  have h1' : NM nn own (r + 1 + T.length) (dS T (r + 1) (dS [2] r MI)) := NM_c T h1
  have h2 := b3 (r + 1) (dS [2] r MI) ML (x) (by omega) h1
  have h3 := b3' (r + 1 + T.length) (dS T (r + 1) (dS [2] r MI)) ML (nI 1) (by omega) h1'
  rw [show dS T' (r + 1 + T.length) (dS T (r + 1) (dS [2] r MI)) = dS (2 :: (T ++ T')) r MI from (dS_app T T' (r + 1) _).trans (dS_app [2] (T ++ T') r MI)] at h3
  refine mrc_of (EX11_tellsAs (BX11_tellsAs_0 ?_))
  exact cF (by decide) (cF (by decide) (usev (t_runsN (by omega) hN) (by rw [h1.1]; exact usei h2 (by rw [h1'.1]; exact usei h3 eRr))))
theorem bt_5_3 {h : Nat} (hh : h < 8) (b : Bth h nn own 3 3) : Bth (h + 1) nn own 5 3 := by
  obtain ⟨T, V, b1, b2, b3⟩ := b
  refine ⟨60 :: T, fun x => V (x) ^^^ nI 5, by rw [Nat.pow_succ, List.length_cons]; omega, fun dep hd => (run_of (D := 2 * h + 2) (b := 60) (by decide) (by decide) (by decide) (by omega) (by decide) (cb_60 (D := 2 * h) (b2 (dep + 1) (by omega)))).up (by omega), ?_⟩
  intro r MI ML x hr hN
  simp only [List.length_cons] at hr
  have h1 := NM_c [60] hN
  have h2 := b3 (r + 1) (dS [60] r MI) ML (x) (by omega) h1
  rw [show dS T (r + 1) (dS [60] r MI) = dS (60 :: T) r MI from dS_app [60] T r MI] at h2
  refine mrc_of (EX11_tellsAs (BX11_tellsAs_0 ?_))
  exact cT rfl (usev (t_runsN (by omega) hN) (by exact usei h2 eRr))
theorem bt_6_3 {h : Nat} (hh : h < 8) (b : Bth h nn own own 1) (b' : Bth h nn own own 2) : Bth (h + 1) nn own 6 3 := by
  obtain ⟨T, V, b1, b2, b3⟩ := b
  obtain ⟨T', V', b1', b2', b3'⟩ := b'
  refine ⟨2 :: (T ++ T'), fun x => V (x) - V' (nI 1), by rw [Nat.pow_succ, List.length_cons, List.length_append]; omega, fun dep hd => (run_of (D := 2 * h + 2) (b := 2) (by decide) (by decide) (by decide) (by omega) (by decide) (cb_2 (D := 2 * h) (b2 (dep + 1) (by omega)) (b2' (dep + 1) (by omega)))).up (by omega), ?_⟩
  intro r MI ML x hr hN
  simp only [List.length_cons, List.length_append] at hr
  have h1 := NM_c [2] hN
  have h1' : NM nn own (r + 1 + T.length) (dS T (r + 1) (dS [2] r MI)) := NM_c T h1
  have h2 := b3 (r + 1) (dS [2] r MI) ML (x) (by omega) h1
  have h3 := b3' (r + 1 + T.length) (dS T (r + 1) (dS [2] r MI)) ML (nI 1) (by omega) h1'
  rw [show dS T' (r + 1 + T.length) (dS T (r + 1) (dS [2] r MI)) = dS (2 :: (T ++ T')) r MI from (dS_app T T' (r + 1) _).trans (dS_app [2] (T ++ T') r MI)] at h3
  refine mrc_of (EX11_tellsAs (BX11_tellsAs_0 ?_))
  exact cF (by decide) (cF (by decide) (usev (t_runsN (by omega) hN) (by rw [h1.1]; exact usei h2 (by rw [h1'.1]; exact usei h3 eRr))))
theorem bt_7_3 {h : Nat} (hh : h < 8) (b : Bth h nn own 4 3) : Bth (h + 1) nn own 7 3 := by
  obtain ⟨T, V, b1, b2, b3⟩ := b
  refine ⟨81 :: T, fun x => V (x) - nI 1, by rw [Nat.pow_succ, List.length_cons]; omega, fun dep hd => (run_of (D := 2 * h + 2) (b := 81) (by decide) (by decide) (by decide) (by omega) (by decide) (cb_81 (D := 2 * h) (b2 (dep + 1) (by omega)))).up (by omega), ?_⟩
  intro r MI ML x hr hN
  simp only [List.length_cons] at hr
  have h1 := NM_c [81] hN
  have h2 := b3 (r + 1) (dS [81] r MI) ML (x) (by omega) h1
  rw [show dS T (r + 1) (dS [81] r MI) = dS (81 :: T) r MI from dS_app [81] T r MI] at h2
  refine mrc_of (EX11_tellsAs (BX11_tellsAs_0 ?_))
  exact cF (by decide) (cT rfl (usev (t_runsN (by omega) hN) (by exact usei h2 eRr)))
theorem bt_w (k : Nat) (hk : k < 8) : Bth 2 nn own k 0 := by
  have h0 : Bth 1 nn own 0 0 := bt_0_0
  rcases (show k = 0 ∨ k = 1 ∨ k = 2 ∨ k = 3 ∨ k = 4 ∨ k = 5 ∨ k = 6 ∨ k = 7 by omega) with rfl | rfl | rfl | rfl | rfl | rfl | rfl | rfl
  · exact bt_0_0.up
  · exact bt_1_0 (by decide) h0
  · exact bt_2_0.up
  · exact bt_3_0.up
  · exact bt_4_0 (by decide) h0
  · exact bt_5_0.up
  · exact bt_6_0 (by decide) h0
  · exact bt_7_0 (by decide) h0
theorem bt_s (ho : own < 8) (k : Nat) (hk : k < 8) : Bth 3 nn own k 2 := by
  have h1 : Bth 2 nn own 1 2 := bt_1_2.up
  have h2 : Bth 2 nn own 2 2 := bt_2_2.up
  have hw : Bth 2 nn own own 0 := bt_w own ho
  rcases (show k = 0 ∨ k = 1 ∨ k = 2 ∨ k = 3 ∨ k = 4 ∨ k = 5 ∨ k = 6 ∨ k = 7 by omega) with rfl | rfl | rfl | rfl | rfl | rfl | rfl | rfl
  · exact bt_0_2.up.up
  · exact bt_1_2.up.up
  · exact bt_2_2.up.up
  · exact bt_3_2 (by decide) h2
  · exact bt_4_2 (by decide) h1 hw
  · exact bt_5_2 (by decide) h2
  · exact bt_6_2.up.up
  · exact bt_7_2 (by decide) h1 hw
theorem bt_h (ho : own < 8) (k : Nat) (hk : k < 8) : Bth 5 nn own k 1 := by
  have hw : Bth 2 nn own own 0 := bt_w own ho
  have hs : Bth 3 nn own own 2 := bt_s ho own ho
  have h0 : Bth 3 nn own 0 1 := bt_0_1 (by decide) hw
  have h4 : Bth 3 nn own 4 1 := bt_4_1 (by decide) hw
  have h2 : Bth 4 nn own 2 1 := bt_2_1 (by decide) h0
  rcases (show k = 0 ∨ k = 1 ∨ k = 2 ∨ k = 3 ∨ k = 4 ∨ k = 5 ∨ k = 6 ∨ k = 7 by omega) with rfl | rfl | rfl | rfl | rfl | rfl | rfl | rfl
  · exact (bt_0_1 (by decide) hw).up.up
  · exact (bt_1_1 (by decide) hw).up.up
  · exact h2.up
  · exact bt_3_1 (by decide) h2
  · exact (bt_4_1 (by decide) hw).up.up
  · exact bt_5_1 (by decide) h2
  · exact (bt_6_1 (by decide) hw).up.up
  · exact (bt_7_1 (by decide) h4 hs).up
theorem bt_t (ho : own < 8) (k : Nat) (hk : k < 8) : Bth 7 nn own k 3 := by
  have hs : Bth 5 nn own own 2 := (bt_s ho own ho).up.up
  have hh : Bth 5 nn own own 1 := bt_h ho own ho
  have h3 : Bth 6 nn own 3 3 := bt_3_3 (by decide) hh hs
  have h4 : Bth 6 nn own 4 3 := bt_4_3 (by decide) hh hs
  rcases (show k = 0 ∨ k = 1 ∨ k = 2 ∨ k = 3 ∨ k = 4 ∨ k = 5 ∨ k = 6 ∨ k = 7 by omega) with rfl | rfl | rfl | rfl | rfl | rfl | rfl | rfl
  · exact (bt_0_3 (by decide) hh hs).up
  · exact (bt_1_3 (by decide) hh hs).up
  · exact (bt_2_3 (by decide) hh hs).up
  · exact (bt_3_3 (by decide) hh hs).up
  · exact (bt_4_3 (by decide) hh hs).up
  · exact bt_5_3 (by decide) h3
  · exact (bt_6_3 (by decide) hh hs).up
  · exact bt_7_3 (by decide) h4
theorem bt_all (ho : own < 8) {a : Nat} (ha : a < 4) : Bth 7 nn own own a := by
  rcases (show a = 0 ∨ a = 1 ∨ a = 2 ∨ a = 3 by omega) with rfl | rfl | rfl | rfl
  · exact (bt_w own ho).up.up.up.up.up
  · exact (bt_h ho own ho).up.up
  · exact (bt_s ho own ho).up.up.up.up
  · exact bt_t ho own ho
end CR
theorem Ir_any {MI MI' : mI} {T : List Nat} (h30 : MI' 46 30 = nI 0) (hT : T.length < 100000) (h3 : MI' 43 3 = nI T.length) (h4 : MI' 46 44 = nI T.length) (h45 : MI' 45 = nf T 0 (MI 45)) (h75 : MI' 75 = nf T 0 (MI 75)) : Ir MI' := by
  refine ⟨h30, T.length, hT, h3, h4, fun j hj hr => ?_⟩
  rw [h45, h75]
  exact nf_eq T 0 _ _ (fun i _ hi => absurd hi (Nat.not_lt_zero _)) j hj (by omega)
theorem p_act (x y z : Int32) : Sim 169 258 [.int x, .int y, .int z] := by
  intro MI ML hI
  obtain ⟨nb, ⟨s1, s2, s3, s4⟩, s5⟩ := hI.2.2.2.2.1
  by_cases h : hasB nb x = true
  · obtain ⟨nn, hnn, rfl⟩ : ∃ i, i < nb ∧ x = nI i := by
      rcases nIx x (n := nb) (by omega) with q | q | q
      · grind [hasB]
      · grind [hasB]
      · exact q
    obtain ⟨own, ho, e44, e74⟩ := s4 nn hnn
    by_cases h2 : hasB 4 y = true
    · obtain ⟨a, ha, rfl⟩ := hasB_ix (n := 4) (by omega) h2
      obtain ⟨T, V, b1, b2, b3⟩ := bt_all (nn := nn) (own := own) ho ha
      have hT : T.length < 1000 := Nat.lt_of_lt_of_le b1 (by decide)
      have hN : NS nn own 0 (mup MI 43 (mput (MI 43) 3 (nI 0))) := ⟨nb, s1, hnn, by simp (disch := omega) only [mup_n, mup_s, mput_n, mput_s, mup_mup]; exact s2, by simp (disch := omega) only [mup_n, mup_s, mput_n, mput_s, mup_mup]; exact e44, by simp (disch := omega) only [mup_n, mup_s, mput_n, mput_s, mup_mup]⟩
      have hc := (b2 0 (by omega)) 0 (mup MI 43 (mput (MI 43) 3 (nI 0))) ML z (by omega) hN
      have hc' := mrc_le hc (show 2 * 7 + 2 ≤ 298 by omega)
      refine ⟨(V z), cS T 0 (mup MI 43 (mput (MI 43) 3 (nI 0))), ML, dS T 0 (mup (mup (mup (cS T 0 (mup MI 43 (mput (MI 43) 3 (nI 0)))) 46 (mput (MI 46) 44 (nI 0))) 46 (mput (mput (MI 46) 44 (nI 0)) 45 (nI own))) 46 (mput (mput (mput (MI 46) 44 (nI 0)) 45 (nI own)) 46 (nI nn))), ML, ?_, ?_, ?_⟩
      · refine mrc_of (EX10_act (BX10_act_0 (usev s_forgetTrace (usei ?_ eRr))))
        refine mrc_of (EX5_perform (BX5_perform_0 (usei (s_ndHas (by simp (disch := omega) only [mup_n, mup_s, mput_n, mput_s, mup_mup]; exact s2)) (bT h (usei s_isAct (bT h2 (usei (s_kindN hN) (usei hc' eRr))))))))
      · have e46 : cS T 0 (mup MI 43 (mput (MI 43) 3 (nI 0))) 46 = MI 46 := by unfold cS; simp (disch := omega) only [mup_n, mup_s, mput_n, mput_s, mup_mup]
        have e74' : cS T 0 (mup MI 43 (mput (MI 43) 3 (nI 0))) 74 = MI 74 := by unfold cS; simp (disch := omega) only [mup_n, mup_s, mput_n, mput_s, mup_mup]
        refine mrc_of (EX11_act (BX11_act_0 (usei (t_isBody (n := nb) ?_ s1) (bT h ⟨nn, rfl, by omega, ?_⟩))))
        · simp (disch := omega) only [mup_n, mup_s, mput_n, mput_s, mup_mup]
          rw [e46]
          exact s3
        · simp (disch := omega) only [mup_n, mup_s, mput_n, mput_s, mup_mup]
          rw [e46, e74', e74]
          have hM : NM nn own 0 (mup (mup (mup (cS T 0 (mup MI 43 (mput (MI 43) 3 (nI 0)))) 46 (mput (MI 46) 44 (nI 0))) 46 (mput (mput (MI 46) 44 (nI 0)) 45 (nI own))) 46 (mput (mput (mput (MI 46) 44 (nI 0)) 45 (nI own)) 46 (nI nn))) := ⟨by simp (disch := omega) only [mup_n, mup_s, mput_n, mput_s, mup_mup], by simp (disch := omega) only [mup_n, mup_s, mput_n, mput_s, mup_mup], by simp (disch := omega) only [mup_n, mup_s, mput_n, mput_s, mup_mup]⟩
          have hm := mrc_le (b3 0 _ ML z (by omega) hM) (show 7 + 1 ≤ 299 by omega)
          simp only [mup_mup] at hm ⊢
          rcases (show a = 0 ∨ a = 1 ∨ a = 2 ∨ a = 3 by omega) with rfl | rfl | rfl | rfl
          · exact cT rfl (usei hm eRr)
          · exact cF (by decide) (cT rfl (usei hm eRr))
          · exact cF (by decide) (cF (by decide) (cT rfl (usei hm eRr)))
          · exact cF (by decide) (cF (by decide) (cF (by decide) (cT rfl (usei hm eRr))))
      · have e45 : cS T 0 (mup MI 43 (mput (MI 43) 3 (nI 0))) 45 = nf T 0 (MI 45) := by unfold cS; simp (disch := omega) only [mup_n, mup_s, mput_n, mput_s, mup_mup]
        unfold dS cS
        refine ⟨(Ip_c (by first | rfl | simp (disch := omega) only [mup_n, mup_s, mput_n]) (by first | rfl | simp (disch := omega) only [mup_n, mup_s, mput_n]) (by first | rfl | simp (disch := omega) only [mup_n, mup_s, mput_n]) (by first | rfl | simp (disch := omega) only [mup_n, mup_s, mput_n]) (by first | rfl | simp (disch := omega) only [mup_n, mup_s, mput_n]) (by first | rfl | simp (disch := omega) only [mup_n, mup_s, mput_n]) (by first | rfl | simp (disch := omega) only [mup_n, mup_s, mput_n]) (by first | rfl | simp (disch := omega) only [mup_n, mup_s, mput_n]) hI.1), (Ic_c (by first | rfl | simp (disch := omega) only [mup_n, mup_s, mput_n]) (by first | rfl | simp (disch := omega) only [mup_n, mup_s, mput_n]) (by first | rfl | simp (disch := omega) only [mup_n, mup_s, mput_n]) (by first | rfl | simp (disch := omega) only [mup_n, mup_s, mput_n]) (by first | rfl | simp (disch := omega) only [mup_n, mup_s, mput_n]) (by first | rfl | simp (disch := omega) only [mup_n, mup_s, mput_n]) (by first | rfl | simp (disch := omega) only [mup_n, mup_s, mput_n]) (by first | rfl | simp (disch := omega) only [mup_n, mup_s, mput_n]) (by first | rfl | simp (disch := omega) only [mup_n, mup_s, mput_n]) (by first | rfl | simp (disch := omega) only [mup_n, mup_s, mput_n]) hI.2.1), (It_c (by first | rfl | simp (disch := omega) only [mup_n, mup_s, mput_n]) (by first | rfl | simp (disch := omega) only [mup_n, mup_s, mput_n]) (by first | rfl | simp (disch := omega) only [mup_n, mup_s, mput_n]) (by first | rfl | simp (disch := omega) only [mup_n, mup_s, mput_n]) hI.2.2.1), (Il_c (by first | rfl | simp (disch := omega) only [mup_n, mup_s, mput_n]) (by first | rfl | simp (disch := omega) only [mup_n, mup_s, mput_n]) (by first | rfl | simp (disch := omega) only [mup_n, mup_s, mput_n]) (by first | rfl | simp (disch := omega) only [mup_n, mup_s, mput_n]) (by first | rfl | simp (disch := omega) only [mup_n, mup_s, mput_n]) (by first | rfl | simp (disch := omega) only [mup_n, mup_s, mput_n]) hI.2.2.2.1), (Is_c (by first | rfl | simp (disch := omega) only [mup_n, mup_s, mput_n]) (by first | rfl | simp (disch := omega) only [mup_n, mup_s, mput_n]) (by first | rfl | simp (disch := omega) only [mup_n, mup_s, mput_n]) (by first | rfl | simp (disch := omega) only [mup_n, mup_s, mput_n]) (by first | rfl | simp (disch := omega) only [mup_n, mup_s, mput_n]) (by first | rfl | simp (disch := omega) only [mup_n, mup_s, mput_n]) (by first | rfl | simp (disch := omega) only [mup_n, mup_s, mput_n]) (by first | rfl | simp (disch := omega) only [mup_n, mup_s, mput_n]) (by first | rfl | simp (disch := omega) only [mup_n, mup_s, mput_n]) (by first | rfl | simp (disch := omega) only [mup_n, mup_s, mput_n]) (by first | rfl | simp (disch := omega) only [mup_n, mup_s, mput_n]) hI.2.2.2.2.1), Ir_any (MI := MI) (T := T) (by simp (disch := omega) only [mup_n, mup_s, mput_n, mput_s, mup_mup]; exact hI.2.2.2.2.2.1.1) (by omega) (by simp (disch := omega) only [mup_n, mup_s, mput_n, mput_s, mup_mup]; rw [Nat.zero_add]) (by simp (disch := omega) only [mup_n, mup_s, mput_n, mput_s, mup_mup]; rw [Nat.zero_add]) (by simp (disch := omega) only [mup_n, mup_s, mput_n, mput_s, mup_mup]) (by simp (disch := omega) only [mup_n, mup_s, mput_n, mput_s, mup_mup]), (Ib_c (by first | rfl | simp (disch := omega) only [mup_n, mup_s, mput_n]) (by first | rfl | simp (disch := omega) only [mup_n, mup_s, mput_n]) (by first | rfl | simp (disch := omega) only [mup_n, mup_s, mput_n]) (by first | rfl | simp (disch := omega) only [mup_n, mup_s, mput_n]) (by first | rfl | simp (disch := omega) only [mup_n, mup_s, mput_n]) (by first | rfl | simp (disch := omega) only [mup_n, mup_s, mput_n]) hI.2.2.2.2.2.2.1), (Ii_c (by first | rfl | simp (disch := omega) only [mup_n, mup_s, mput_n]) (by first | rfl | simp (disch := omega) only [mup_n, mup_s, mput_n]) (by first | rfl | simp (disch := omega) only [mup_n, mup_s, mput_n]) (by first | rfl | simp (disch := omega) only [mup_n, mup_s, mput_n]) (by first | rfl | simp (disch := omega) only [mup_n, mup_s, mput_n]) (by first | rfl | simp (disch := omega) only [mup_n, mup_s, mput_n]) (by first | rfl | simp (disch := omega) only [mup_n, mup_s, mput_n]) hI.2.2.2.2.2.2.2.1), (Iw_c (by first | rfl | simp (disch := omega) only [mup_n, mup_s, mput_n]) hI.2.2.2.2.2.2.2.2)⟩
    · refine ⟨(nI 0), mup MI 43 (mput (MI 43) 3 (nI 0)), ML, mup (mup MI 43 (mput (MI 43) 3 (nI 0))) 46 (mput (mput (mput (MI 46) 44 (nI 0)) 45 (nI own)) 46 (nI nn)), ML, ?_, ?_, ?_⟩
      · refine mrc_of (EX10_act (BX10_act_0 (usev s_forgetTrace (usei ?_ eRr))))
        exact mrc_of (EX5_perform (BX5_perform_0 (usei (s_ndHas (by simp (disch := omega) only [mup_n, mup_s, mput_n, mput_s, mup_mup]; exact s2)) (bT h (usei s_isAct (bF (bnf h2) eRr))))))
      · refine mrc_of (EX11_act (BX11_act_0 (usei (t_isBody (n := nb) ?_ s1) (bT h ⟨nn, rfl, by omega, ?_⟩))))
        · simp (disch := omega) only [mup_n, mup_s, mput_n, mput_s, mup_mup]
          exact s3
        · simp (disch := omega) only [mup_n, mup_s, mput_n, mput_s, mup_mup]
          rw [e74]
          have hy : ∀ i, i < 4 → ¬ y = nI i := fun i hi q => h2 (by rw [q, hasB_nI (by omega) (by omega), decide_eq_true hi])
          exact cF (hy 0 (by omega)) (cF (hy 1 (by omega)) (cF (hy 2 (by omega)) (cF (hy 3 (by omega)) (iR rfl (by simp (disch := omega) only [mup_n, mup_s, mput_n, mput_s, mup_mup])))))
      · refine ⟨(Ip_c (by first | rfl | simp (disch := omega) only [mup_n, mup_s, mput_n]) (by first | rfl | simp (disch := omega) only [mup_n, mup_s, mput_n]) (by first | rfl | simp (disch := omega) only [mup_n, mup_s, mput_n]) (by first | rfl | simp (disch := omega) only [mup_n, mup_s, mput_n]) (by first | rfl | simp (disch := omega) only [mup_n, mup_s, mput_n]) (by first | rfl | simp (disch := omega) only [mup_n, mup_s, mput_n]) (by first | rfl | simp (disch := omega) only [mup_n, mup_s, mput_n]) (by first | rfl | simp (disch := omega) only [mup_n, mup_s, mput_n]) hI.1), (Ic_c (by first | rfl | simp (disch := omega) only [mup_n, mup_s, mput_n]) (by first | rfl | simp (disch := omega) only [mup_n, mup_s, mput_n]) (by first | rfl | simp (disch := omega) only [mup_n, mup_s, mput_n]) (by first | rfl | simp (disch := omega) only [mup_n, mup_s, mput_n]) (by first | rfl | simp (disch := omega) only [mup_n, mup_s, mput_n]) (by first | rfl | simp (disch := omega) only [mup_n, mup_s, mput_n]) (by first | rfl | simp (disch := omega) only [mup_n, mup_s, mput_n]) (by first | rfl | simp (disch := omega) only [mup_n, mup_s, mput_n]) (by first | rfl | simp (disch := omega) only [mup_n, mup_s, mput_n]) (by first | rfl | simp (disch := omega) only [mup_n, mup_s, mput_n]) hI.2.1), (It_c (by first | rfl | simp (disch := omega) only [mup_n, mup_s, mput_n]) (by first | rfl | simp (disch := omega) only [mup_n, mup_s, mput_n]) (by first | rfl | simp (disch := omega) only [mup_n, mup_s, mput_n]) (by first | rfl | simp (disch := omega) only [mup_n, mup_s, mput_n]) hI.2.2.1), (Il_c (by first | rfl | simp (disch := omega) only [mup_n, mup_s, mput_n]) (by first | rfl | simp (disch := omega) only [mup_n, mup_s, mput_n]) (by first | rfl | simp (disch := omega) only [mup_n, mup_s, mput_n]) (by first | rfl | simp (disch := omega) only [mup_n, mup_s, mput_n]) (by first | rfl | simp (disch := omega) only [mup_n, mup_s, mput_n]) (by first | rfl | simp (disch := omega) only [mup_n, mup_s, mput_n]) hI.2.2.2.1), (Is_c (by first | rfl | simp (disch := omega) only [mup_n, mup_s, mput_n]) (by first | rfl | simp (disch := omega) only [mup_n, mup_s, mput_n]) (by first | rfl | simp (disch := omega) only [mup_n, mup_s, mput_n]) (by first | rfl | simp (disch := omega) only [mup_n, mup_s, mput_n]) (by first | rfl | simp (disch := omega) only [mup_n, mup_s, mput_n]) (by first | rfl | simp (disch := omega) only [mup_n, mup_s, mput_n]) (by first | rfl | simp (disch := omega) only [mup_n, mup_s, mput_n]) (by first | rfl | simp (disch := omega) only [mup_n, mup_s, mput_n]) (by first | rfl | simp (disch := omega) only [mup_n, mup_s, mput_n]) (by first | rfl | simp (disch := omega) only [mup_n, mup_s, mput_n]) (by first | rfl | simp (disch := omega) only [mup_n, mup_s, mput_n]) hI.2.2.2.2.1), Ir_any (MI := MI) (T := []) (by simp (disch := omega) only [mup_n, mup_s, mput_n, mput_s, mup_mup]; exact hI.2.2.2.2.2.1.1) (by decide) (by simp (disch := omega) only [mup_n, mup_s, mput_n, mput_s, mup_mup]; rfl) (by simp (disch := omega) only [mup_n, mup_s, mput_n, mput_s, mup_mup]; rfl) (by simp (disch := omega) only [mup_n, mup_s, mput_n, mput_s, mup_mup]; rfl) (by simp (disch := omega) only [mup_n, mup_s, mput_n, mput_s, mup_mup]; rfl), (Ib_c (by first | rfl | simp (disch := omega) only [mup_n, mup_s, mput_n]) (by first | rfl | simp (disch := omega) only [mup_n, mup_s, mput_n]) (by first | rfl | simp (disch := omega) only [mup_n, mup_s, mput_n]) (by first | rfl | simp (disch := omega) only [mup_n, mup_s, mput_n]) (by first | rfl | simp (disch := omega) only [mup_n, mup_s, mput_n]) (by first | rfl | simp (disch := omega) only [mup_n, mup_s, mput_n]) hI.2.2.2.2.2.2.1), (Ii_c (by first | rfl | simp (disch := omega) only [mup_n, mup_s, mput_n]) (by first | rfl | simp (disch := omega) only [mup_n, mup_s, mput_n]) (by first | rfl | simp (disch := omega) only [mup_n, mup_s, mput_n]) (by first | rfl | simp (disch := omega) only [mup_n, mup_s, mput_n]) (by first | rfl | simp (disch := omega) only [mup_n, mup_s, mput_n]) (by first | rfl | simp (disch := omega) only [mup_n, mup_s, mput_n]) (by first | rfl | simp (disch := omega) only [mup_n, mup_s, mput_n]) hI.2.2.2.2.2.2.2.1), (Iw_c (by first | rfl | simp (disch := omega) only [mup_n, mup_s, mput_n]) hI.2.2.2.2.2.2.2.2)⟩
  · refine ⟨(nI 0), mup MI 43 (mput (MI 43) 3 (nI 0)), ML, mup (mup MI 43 (mput (MI 43) 3 (nI 0))) 46 (mput (MI 46) 44 (nI 0)), ML, ?_, ?_, ?_⟩
    · refine mrc_of (EX10_act (BX10_act_0 (usev s_forgetTrace (usei ?_ eRr))))
      exact mrc_of (EX5_perform (BX5_perform_0 (usei (s_ndHas (by simp (disch := omega) only [mup_n, mup_s, mput_n, mput_s, mup_mup]; exact s2)) (bF (bnf h) eRr))))
    · refine mrc_of (EX11_act (BX11_act_0 (usei (t_isBody (n := nb) (by simp (disch := omega) only [mup_n, mup_s, mput_n, mput_s, mup_mup]; exact s3) s1) (bF (bnf h) (iR rfl (by simp (disch := omega) only [mup_n, mup_s, mput_n, mput_s, mup_mup]))))))
    · refine ⟨(Ip_c (by first | rfl | simp (disch := omega) only [mup_n, mup_s, mput_n]) (by first | rfl | simp (disch := omega) only [mup_n, mup_s, mput_n]) (by first | rfl | simp (disch := omega) only [mup_n, mup_s, mput_n]) (by first | rfl | simp (disch := omega) only [mup_n, mup_s, mput_n]) (by first | rfl | simp (disch := omega) only [mup_n, mup_s, mput_n]) (by first | rfl | simp (disch := omega) only [mup_n, mup_s, mput_n]) (by first | rfl | simp (disch := omega) only [mup_n, mup_s, mput_n]) (by first | rfl | simp (disch := omega) only [mup_n, mup_s, mput_n]) hI.1), (Ic_c (by first | rfl | simp (disch := omega) only [mup_n, mup_s, mput_n]) (by first | rfl | simp (disch := omega) only [mup_n, mup_s, mput_n]) (by first | rfl | simp (disch := omega) only [mup_n, mup_s, mput_n]) (by first | rfl | simp (disch := omega) only [mup_n, mup_s, mput_n]) (by first | rfl | simp (disch := omega) only [mup_n, mup_s, mput_n]) (by first | rfl | simp (disch := omega) only [mup_n, mup_s, mput_n]) (by first | rfl | simp (disch := omega) only [mup_n, mup_s, mput_n]) (by first | rfl | simp (disch := omega) only [mup_n, mup_s, mput_n]) (by first | rfl | simp (disch := omega) only [mup_n, mup_s, mput_n]) (by first | rfl | simp (disch := omega) only [mup_n, mup_s, mput_n]) hI.2.1), (It_c (by first | rfl | simp (disch := omega) only [mup_n, mup_s, mput_n]) (by first | rfl | simp (disch := omega) only [mup_n, mup_s, mput_n]) (by first | rfl | simp (disch := omega) only [mup_n, mup_s, mput_n]) (by first | rfl | simp (disch := omega) only [mup_n, mup_s, mput_n]) hI.2.2.1), (Il_c (by first | rfl | simp (disch := omega) only [mup_n, mup_s, mput_n]) (by first | rfl | simp (disch := omega) only [mup_n, mup_s, mput_n]) (by first | rfl | simp (disch := omega) only [mup_n, mup_s, mput_n]) (by first | rfl | simp (disch := omega) only [mup_n, mup_s, mput_n]) (by first | rfl | simp (disch := omega) only [mup_n, mup_s, mput_n]) (by first | rfl | simp (disch := omega) only [mup_n, mup_s, mput_n]) hI.2.2.2.1), (Is_c (by first | rfl | simp (disch := omega) only [mup_n, mup_s, mput_n]) (by first | rfl | simp (disch := omega) only [mup_n, mup_s, mput_n]) (by first | rfl | simp (disch := omega) only [mup_n, mup_s, mput_n]) (by first | rfl | simp (disch := omega) only [mup_n, mup_s, mput_n]) (by first | rfl | simp (disch := omega) only [mup_n, mup_s, mput_n]) (by first | rfl | simp (disch := omega) only [mup_n, mup_s, mput_n]) (by first | rfl | simp (disch := omega) only [mup_n, mup_s, mput_n]) (by first | rfl | simp (disch := omega) only [mup_n, mup_s, mput_n]) (by first | rfl | simp (disch := omega) only [mup_n, mup_s, mput_n]) (by first | rfl | simp (disch := omega) only [mup_n, mup_s, mput_n]) (by first | rfl | simp (disch := omega) only [mup_n, mup_s, mput_n]) hI.2.2.2.2.1), Ir_any (MI := MI) (T := []) (by simp (disch := omega) only [mup_n, mup_s, mput_n, mput_s, mup_mup]; exact hI.2.2.2.2.2.1.1) (by decide) (by simp (disch := omega) only [mup_n, mup_s, mput_n, mput_s, mup_mup]; rfl) (by simp (disch := omega) only [mup_n, mup_s, mput_n, mput_s, mup_mup]; rfl) (by simp (disch := omega) only [mup_n, mup_s, mput_n, mput_s, mup_mup]; rfl) (by simp (disch := omega) only [mup_n, mup_s, mput_n, mput_s, mup_mup]; rfl), (Ib_c (by first | rfl | simp (disch := omega) only [mup_n, mup_s, mput_n]) (by first | rfl | simp (disch := omega) only [mup_n, mup_s, mput_n]) (by first | rfl | simp (disch := omega) only [mup_n, mup_s, mput_n]) (by first | rfl | simp (disch := omega) only [mup_n, mup_s, mput_n]) (by first | rfl | simp (disch := omega) only [mup_n, mup_s, mput_n]) (by first | rfl | simp (disch := omega) only [mup_n, mup_s, mput_n]) hI.2.2.2.2.2.2.1), (Ii_c (by first | rfl | simp (disch := omega) only [mup_n, mup_s, mput_n]) (by first | rfl | simp (disch := omega) only [mup_n, mup_s, mput_n]) (by first | rfl | simp (disch := omega) only [mup_n, mup_s, mput_n]) (by first | rfl | simp (disch := omega) only [mup_n, mup_s, mput_n]) (by first | rfl | simp (disch := omega) only [mup_n, mup_s, mput_n]) (by first | rfl | simp (disch := omega) only [mup_n, mup_s, mput_n]) (by first | rfl | simp (disch := omega) only [mup_n, mup_s, mput_n]) hI.2.2.2.2.2.2.2.1), (Iw_c (by first | rfl | simp (disch := omega) only [mup_n, mup_s, mput_n]) hI.2.2.2.2.2.2.2.2)⟩
