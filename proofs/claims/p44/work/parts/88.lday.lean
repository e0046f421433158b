/-! the law's own day: friend, out, day -/
def eQ (v : Option Value) (S : mS) : Option Value → mS → Prop := fun v2 S2 => v2 = v ∧ S2 = S
theorem eQr {v : Option Value} {S : mS} : eQ v S v S := ⟨rfl, rfl⟩
theorem eQ_le {v : Option Value} {S' : mS} {a b : Nat} (h1 : a ≤ S'.2.1.length) (h2 : b ≤ S'.1) : ∀ v2 S2, eQ v S' v2 S2 → a ≤ S2.2.1.length ∧ b ≤ S2.1 := by
  rintro _ _ ⟨rfl, rfl⟩
  exact ⟨h1, h2⟩
theorem mr_of {Tb : Nat → Nat → mO} {D y : Nat} {as : List Value} {S S' : mS} {v : Option Value} (h : ∃ v2 S2, eQ v S' v2 S2 ∧ mrnT Tb D y as S v2 S2) : mrnT Tb D y as S v S' := by
  obtain ⟨_, _, ⟨rfl, rfl⟩, h⟩ := h
  exact h
def asz (Sh : List mT) (a m : Nat) : Prop := ∃ k, Sh[a]? = some (1, k, []) ∧ k < 10001 ∧ m ≤ k
theorem asz.ok {Sh : List mT} {a m i : Nat} {x : Int32} (h : asz Sh a m) (hx : x = nI i) (hi : i < m) : aok Sh a i x := by
  obtain ⟨k, h1, h2, h3⟩ := h
  exact ⟨k, h1, h2, hx, by omega⟩
theorem asz.cell {Sh : List mT} {a m : Nat} (i : Nat) (h : asz Sh a m) (hi : i < m) : aok Sh a i (nI i) := h.ok rfl hi
theorem asz.app {Sh E : List mT} {a m : Nat} (h : asz Sh a m) : asz (Sh ++ E) a m := by
  obtain ⟨k, h1, h2, h3⟩ := h
  exact ⟨k, by rw [List.getElem?_append_left (List.getElem?_eq_some_iff.mp h1).1, h1], h2, h3⟩
/-- the law's cells and the class's numbers -/
def AR (n : Nat) (g X H F : Nat → Int32) : Prop := X 0 = nI n ∧ X 1 = g 16 ∧ X 2 = g 17 ∧ X 3 = g 18 ∧ X 4 = g 19 ∧ (∀ p, p < 8 → H (2 * p) = g p ∧ H (2 * p + 1) = g (8 + p)) ∧ ∀ q, q < 64 → F q = g (20 + q)
def LB (La : mLaw) (BY : Nat → Int32) : Prop := (BY 0 = -1 ∧ La = []) ∨ ∃ A B C : Nat, 1 ≤ A ∧ A ≤ 9 ∧ 1 ≤ B ∧ B ≤ 9 ∧ 1 ≤ C ∧ C ≤ 9 ∧ BY 0 = nI A ∧ BY 1 = nI B ∧ BY 2 = nI C ∧ La = laT A B C
theorem evs_c {w : Nat → Int32} {t : Int32} {ts st : List Int32} : evs w (t :: ts) st = evs w ts (ev1 w t st) := rfl
theorem sB_42 : sBi (-42) := by unfold sBi; decide
theorem sB_43 : sBi (-43) := by unfold sBi; decide
theorem sB_45 : sBi (-45) := by unfold sBi; decide
theorem sB_47 : sBi (-47) := by unfold sBi; decide
theorem sB_37 : sBi (-37) := by unfold sBi; decide
theorem nI_n0 {B : Nat} (h1 : 1 ≤ B) (h9 : B ≤ 9) : ¬ nI B = nI 0 := by rw [nI_eq (by omega) (by omega)]; omega
theorem laT_V {A B C : Nat} (hA : 1 ≤ A ∧ A ≤ 9) (hB : 1 ≤ B ∧ B ≤ 9) (hC : 1 ≤ C ∧ C ≤ 9) (w : Nat → Int32) : lwV w (laT A B C) = (((((w 0 * nI A) + w 3) - (w 1 / nI B)) + (w 2 / nI C)) + (w 4 - w 4 / nI 3 * nI 3)) - w 5 := by
  unfold laT
  rw [lwV_1 (Or.inl rfl)]
  dsimp only
  rw [evs_c, ev1_w (v := 0) (by omega), evs_c, ev1_n (by omega), evs_c, ev1_bin sB_42, evs_c, ev1_w (v := 3) (by omega), evs_c, ev1_bin sB_43, evs_c, ev1_w (v := 1) (by omega), evs_c, ev1_n (by omega), evs_c, ev1_bin sB_47, evs_c, ev1_bin sB_45, evs_c, ev1_w (v := 2) (by omega), evs_c, ev1_n (by omega), evs_c, ev1_bin sB_47, evs_c, ev1_bin sB_43, evs_c, ev1_w (v := 4) (by omega), evs_c, ev1_n (v := 3) (by omega), evs_c, ev1_bin sB_37, evs_c, ev1_bin sB_43, evs_c, ev1_w (v := 5) (by omega), evs_c, ev1_bin sB_45]
  rw [show -(-42 : Int32) = nI 42 by decide, show -(-43 : Int32) = nI 43 by decide, show -(-45 : Int32) = nI 45 by decide, show -(-47 : Int32) = nI 47 by decide, show -(-37 : Int32) = nI 37 by decide]
  simp only [j_42, j_43, j_45, j_47, j_37]
  rw [if_neg (nI_n0 hB.1 hB.2), if_neg (nI_n0 hC.1 hC.2), if_neg (nI_n0 (B := 3) (by omega) (by omega))]
  rfl
theorem laT_wf {A B C : Nat} (hA : 1 ≤ A ∧ A ≤ 9) (hB : 1 ≤ B ∧ B ≤ 9) (hC : 1 ≤ C ∧ C ≤ 9) : wfL (laT A B C) := by
  intro l hl
  unfold laT at hl
  rw [List.mem_singleton] at hl
  subst hl
  refine ⟨Or.inl rfl, ?_, ?_⟩
  · have o : ∀ {v d : Nat}, v < 10000 → d < 36 → dp1 36 (nI v) d = some (d + 1) := fun h hd => by unfold dp1; rw [if_pos (opd_n h), if_pos hd]
    have u : ∀ {v d : Nat}, v < 6 → d < 36 → dp1 36 (-1 - nI v) d = some (d + 1) := fun h hd => by unfold dp1; rw [if_pos (wcs h).1, if_pos hd]
    have j : ∀ {t : Int32} {d : Nat}, sBi t → 2 ≤ d → dp1 36 t d = some (d - 1) := fun h hd => by unfold dp1; rw [if_neg (by rw [h.1]; decide), if_neg (fun q => q.elim (fun z => h.2.2.2.2.1 z) (fun z => h.2.2.2.2.2.1 z)), if_pos hd]
    simp only [dps]
    rw [u (by omega) (by omega), Option.bind_some, o (by omega) (by omega), Option.bind_some, j sB_42 (by omega), Option.bind_some, u (by omega) (by omega), Option.bind_some, j sB_43 (by omega), Option.bind_some, u (by omega) (by omega), Option.bind_some, o (by omega) (by omega), Option.bind_some, j sB_47 (by omega), Option.bind_some, j sB_45 (by omega), Option.bind_some, u (by omega) (by omega), Option.bind_some, o (by omega) (by omega), Option.bind_some, j sB_47 (by omega), Option.bind_some, j sB_43 (by omega), Option.bind_some, u (by omega) (by omega), Option.bind_some, o (by omega) (by omega), Option.bind_some, j sB_37 (by omega), Option.bind_some, j sB_43 (by omega), Option.bind_some, u (by omega) (by omega), Option.bind_some, j sB_45 (by omega), Option.bind_some]
  · intro t ht
    simp only [List.mem_cons, List.not_mem_nil, or_false] at ht
    unfold sgn
    rcases ht with rfl | rfl | rfl | rfl | rfl | rfl | rfl | rfl | rfl | rfl | rfl | rfl | rfl | rfl | rfl | rfl | rfl | rfl | rfl
    · exact Or.inr (Or.inl ⟨0, by omega, rfl⟩)
    · exact Or.inl ⟨A, by omega, rfl⟩
    · simp
    · exact Or.inr (Or.inl ⟨3, by omega, rfl⟩)
    · simp
    · exact Or.inr (Or.inl ⟨1, by omega, rfl⟩)
    · exact Or.inl ⟨B, by omega, rfl⟩
    · simp
    · simp
    · exact Or.inr (Or.inl ⟨2, by omega, rfl⟩)
    · exact Or.inl ⟨C, by omega, rfl⟩
    · simp
    · simp
    · exact Or.inr (Or.inl ⟨4, by omega, rfl⟩)
    · exact Or.inl ⟨3, by omega, rfl⟩
    · simp
    · simp
    · exact Or.inr (Or.inl ⟨5, by omega, rfl⟩)
    · simp
section L88
variable {D n w ax ah af ab : Nat} {g H : Nat → Int32} {La : mLaw} {Sh : List mT} {MI : mI} {ML : mJ}
theorem l_friend {b : Nat} (hX : asz Sh ax 5) (hF : asz Sh af 64) (hA : AR n g (MI ax) H (MI af)) (h8 : n ≤ 8) (hb : b < 8) : mrnT mTb (D + 1) 280 [.ref ax, .ref af, .int (nI b)] (w, Sh, MI, ML) (some (.int (fI (frd g b 8 n).1))) (w, Sh, MI, ML) := by
  obtain ⟨x0, -, -, -, -, -, hf⟩ := hA
  refine mr_of (EL_friend (eQ_le (Nat.le_refl _) (Nat.le_refl _)) (BL_friend_0 ?_))
  refine up (i0 := 0) (P := fun i => VL_friend_5 (mrnT mTb D) _ ax af (nI b) (fI (frd g b 8 i).1) (nI i) w Sh MI ML) n (Nat.zero_le _) ?_ ?_
  · exact BL_friend_5 ⟨hX.cell 0 (by omega), cT (by rw [x0]; exact nI_le (Nat.le_refl _) (by omega)) eQr⟩
  · intro i _ hi ih
    have e : ∀ k, k < 8 → MI af (8 * k + b) = g (20 + k * 8 + b) := fun k hk => by
      rw [hf _ (by omega)]
      congr 1
      omega
    refine BL_friend_5 ⟨hX.cell 0 (by omega), cF (by rw [x0]; exact nI_ge hi (by omega)) ⟨8 * i + b, hF.ok (by rw [pk_mul, nI_add]) (by omega), ?_⟩⟩
    have hs : frd g b 8 (i + 1) = if i = 8 ∨ g (20 + i * 8 + b) ≤ (frd g b 8 i).2 then frd g b 8 i else (i, g (20 + i * 8 + b)) := rfl
    have hk := frd_ok g b 8 i
    rw [hs] at ih
    rw [nI_add, e i (by omega)]
    generalize frd g b 8 i = R at ih hk ⊢
    obtain ⟨k, v⟩ := R
    dsimp only at ih hk ⊢
    by_cases c : g (20 + i * 8 + b) ≤ nI 0
    · rw [if_pos (Or.inr (by
        rw [fa_le] at c ⊢
        rcases hk with ⟨-, q⟩ | ⟨-, -, -, q⟩
        · rw [q]; exact c
        · rw [fa_lt] at q; omega))] at ih
      exact cT c ih
    · refine cF c ?_
      rcases hk with ⟨q1, q2⟩ | ⟨q1, q2, q3, q4⟩
      · subst q1
        subst q2
        rw [if_neg (fun q => q.elim (fun q => by omega) c), show fI (i, g (20 + i * 8 + b)).1 = nI i from fI_yes (by omega)] at ih
        exact cT (by decide) ih
      · rw [fI_yes q2]
        refine cF (nI_nlt (Nat.zero_le _) (by omega)) ⟨8 * i + b, hF.ok (by rw [pk_mul, nI_add]) (by omega), 8 * k + b, hF.ok (by rw [pk_mul, nI_add]) (by omega), ?_⟩
        rw [e i (by omega), e k (by omega), ← q3]
        by_cases c2 : g (20 + i * 8 + b) ≤ v
        · rw [if_pos (Or.inr c2), show fI (k, v).1 = nI k from fI_yes q2] at ih
          exact cT c2 ih
        · rw [if_neg (fun q => q.elim (fun q => by omega) c2), show fI (i, g (20 + i * 8 + b)).1 = nI i from fI_yes (by omega)] at ih
          exact cF c2 ih
theorem l_clp {Q : Option Value → mS → Prop} {S : mS} {v : Int32} (K : Q (some (.int (clp v))) S) : (nI 0 ≤ v → (v ≤ nI 50 → Q (some (.int v)) S) ∧ (¬ v ≤ nI 50 → Q (some (.int (nI 50))) S)) ∧ (¬ nI 0 ≤ v → Q (some (.int (nI 0))) S) := by
  unfold clp at K
  by_cases h1 : v < nI 0
  · rw [if_pos h1] at K
    exact cF (fa_of_lt h1).2.1 K
  · rw [if_neg h1] at K
    refine cT (fa_of_nlt h1) ?_
    by_cases h2 : nI 50 < v
    · rw [if_pos h2] at K
      exact cF (fa_of_lt h2).2.1 K
    · rw [if_neg h2] at K
      exact cT (fa_of_nlt h2) K
theorem l_out {i b d : Nat} (hX : asz Sh ax 5) (hH : asz Sh ah 16) (hF : asz Sh af 64) (hB : asz Sh ab 3) (hA : AR n g (MI ax) (MI ah) (MI af)) (hL : LB La (MI ab)) (h8 : n ≤ 8) (hi : i < 8) (hb : b < 8) (hfr : ¬ (frd g b 8 n).1 = 8) : mrnT mTb (D + 2) 281 [.ref ax, .ref ah, .ref af, .ref ab, .int (nI i), .int (nI b), .int (nI d)] (w, Sh, MI, ML) (some (.int (lwO (wds g b (frd g b 8 n).1 i d) La))) (w, Sh, MI, ML) := by
  have hfk := (frd_ok g b 8 n).resolve_left (fun q => hfr q.1)
  have hc := l_friend (D := D) (w := w) (ML := ML) hX hF hA h8 hb
  obtain ⟨x0, x1, x2, x3, x4, hh, hf⟩ := hA
  generalize (frd g b 8 n).1 = k at *
  have e : ∀ k, k < 8 → MI af (8 * k + b) = g (20 + k * 8 + b) := fun k hk => by
    rw [hf _ (by omega)]
    congr 1
    omega
  obtain ⟨e1, e2⟩ := hh b hb
  refine mr_of (EL_out (eQ_le (Nat.le_refl _) (Nat.le_refl _)) (BL_out_0 ⟨8 * i + b, hF.ok (by rw [pk_mul, nI_add]) (by omega), _, _, _, hc, 8 * k + b, hF.ok (by rw [fI_yes hfr, pk_mul, nI_add]) (by omega), hB.cell 0 (by omega), ?_⟩))
  rw [e i hi, e k (by omega)]
  rcases hL with ⟨b0, rfl⟩ | ⟨A, B, C, a1, a2, a3, a4, a5, a6, b0, b1, b2, rfl⟩
  · rw [b0]
    refine cF (by decide) ⟨2 * b + 1, hH.ok (by rw [pk_mul, nI_add]) (by omega), BL_out_95 (l_clp ?_)⟩
    rw [e2]
    exact eQr
  · rw [b0, b1, b2]
    refine cT (nI_le (Nat.zero_le _) (by omega)) ⟨hB.cell 0 (by omega), 2 * b + 1, hH.ok (by rw [pk_mul, nI_add]) (by omega), hB.cell 1 (by omega), nI_n0 a3 a4, 2 * b, hH.ok (by rw [pk_mul]) (by omega), hB.cell 2 (by omega), nI_n0 a5 a6, hX.cell 4 (by omega), BL_out_95 (l_clp ?_)⟩
    rw [e1, e2, x4]
    refine ⟨?_, rfl⟩
    unfold lwO
    rw [if_neg (by unfold laT; exact List.cons_ne_nil _ _), laT_V ⟨a1, a2⟩ ⟨a3, a4⟩ ⟨a5, a6⟩]
    rfl
end L88
