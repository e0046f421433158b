/-! the end of a turn; the end of the law -/
section L97
variable {L d n t : Nat} {xs : Nat → Int32} {g c : Nat → Int32} {La : mLaw} {E : List mT} {MI M : mI} {ML : mJ} {Q : Option Value → mS → Prop}
abbrev hP (g : Nat → Int32) (a b : Nat) : Bool := !decide (nI 0 ≤ g (20 + a * 8 + b))
theorem e_turn (hS : SHB E) (hL : L ≤ 260) (ht : t < 3) (hI : TI n g La c MI) (K : VL_law_62 (mrnT (mTbS L xs) 310) Q L xs 0 46 47 48 49 50 51 (nI (t + 1)) (W0 + d) (Sh0 ++ E) MI ML) : VL_law_975 (mrnT (mTbS L xs) 310) Q L xs 0 46 47 48 49 50 51 (nI t) (W0 + d) (Sh0 ++ E) MI ML := by
  obtain ⟨hX, hH, hF, hB, hl, hW⟩ := hS
  obtain ⟨hK, hA, hLB, hc⟩ := hI
  have h8 := hK.1
  refine BL_law_975 (by omega) ?_
  refine up (i0 := 0) (P := fun k => VL_law_978 (mrnT (mTbS L xs) 310) Q L xs 0 46 47 48 49 50 51 (nI t) (nI k) (W0 + d) (Sh0 ++ E) MI ML) 6 (by decide) ?_ ?_
  rotate_left
  · intro k _ hk ih
    refine BL_law_978 (by omega) (cF (nI_ge hk (by omega)) ⟨isO0, c k, MI, ML, k_up (k_led hK hk) (by decide), k, hl.cell k hk, cT (hc k hk).symm ?_⟩)
    rw [nI_add]
    exact ih
  refine BL_law_978 (by omega) (cT (by decide) ?_)
  refine up (i0 := 0) (P := fun a => VL_law_1013 (mrnT (mTbS L xs) 310) Q L xs 0 46 47 48 49 50 51 (nI t) (nI (sm (fun a => cn (fun b => hP g a b) n) a)) (nI a) (W0 + d) (Sh0 ++ E) MI ML) n (Nat.zero_le _) ?_ ?_
  · refine BL_law_1013 (by omega) ⟨hX.cell 0 (by omega), cT (by rw [hA.1]; exact nI_le (Nat.le_refl _) (by omega)) (BL_law_1142 (by omega) ⟨isO0, _, MI, ML, k_up (k_count hK) (by decide), cT ?_ ?_⟩)⟩
    · exact congrArg nI (sm_sw (fun i b => hP g i b) n n)
    · rw [nI_add]
      exact K
  · intro a _ ha ih
    refine BL_law_1013 (by omega) ⟨hX.cell 0 (by omega), cF (by rw [hA.1]; exact nI_ge ha (by omega)) ⟨isO0, _, MI, ML, k_up (k_of hK ha (w := 0) (by decide)) (by decide), 2 * a, hH.ok (by rw [pk_mul]) (by omega), cT ?_ ⟨isO0, _, MI, ML, k_up (k_of hK ha (w := 1) (by decide)) (by decide), 2 * a + 1, hH.ok (by rw [pk_mul, nI_add]) (by omega), cT ?_ ?_⟩⟩⟩
    · rw [(hA.2.2.2.2.2.1 a (by omega)).1, show 8 * 0 + a = a by omega]
    · rw [(hA.2.2.2.2.2.1 a (by omega)).2]
    · refine up (i0 := 0) (P := fun b => VL_law_1060 (mrnT (mTbS L xs) 310) Q L xs 0 46 47 48 49 50 51 (nI t) (nI (sm (fun a => cn (fun b => hP g a b) n) a + cn (fun b => hP g a b) b)) (nI a) (nI b) (W0 + d) (Sh0 ++ E) MI ML) n (Nat.zero_le _) ?_ ?_
      · refine BL_law_1060 (by omega) ⟨hX.cell 0 (by omega), cT (by rw [hA.1]; exact nI_le (Nat.le_refl _) (by omega)) ?_⟩
        rw [nI_add]
        exact ih
      · intro b _ hb ihb
        have e48 := AR_e hA (i := a) (b := b) (by omega) (by omega)
        have cnt : VL_law_1106 (mrnT (mTbS L xs) 310) Q L xs 0 46 47 48 49 50 51 (nI t) (nI (sm (fun a => cn (fun b => hP g a b) n) a + cn (fun b => hP g a b) b)) (nI a) (nI b) (W0 + d) (Sh0 ++ E) MI ML := by
          refine BL_law_1106 (by omega) ⟨8 * a + b, hF.ok (by rw [pk_mul, nI_add]) (by omega), ?_⟩
          have hs : cn (fun b => hP g a b) (b + 1) = cn (fun b => hP g a b) b + (if hP g a b then 1 else 0) := rfl
          rw [hs] at ihb
          rw [e48, nI_add, nI_add, nI_add]
          by_cases q : nI 0 ≤ g (20 + a * 8 + b)
          · rw [if_neg (by simp [hP, q])] at ihb
            exact cT q ihb
          · rw [if_pos (by simp [hP, q])] at ihb
            exact cF q ihb
        refine BL_law_1060 (by omega) ⟨hX.cell 0 (by omega), cF (by rw [hA.1]; exact nI_ge hb (by omega)) ?_⟩
        by_cases q : a = b
        · exact cT (by rw [q]) cnt
        · refine cF (by rw [nI_eq (by omega) (by omega)]; exact q) ⟨isO0, g (20 + a * 8 + b) + nI 100, MI, ML, ?_, 8 * a + b, hF.ok (by rw [pk_mul, nI_add]) (by omega), cT (by rw [e48]) cnt⟩
          rw [pk_mul, nI_add]
          exact k_up (k_feeling hK ha hb q) (by decide)
/-- the last refusals -/
theorem e_end (hS : SHB E) (hL : L ≤ 260) (hI : TI n g La c MI) (K : Q (some (.int (nI 1))) (W0 + d, Sh0 ++ E, MI, ML)) : VL_law_1160 (mrnT (mTbS L xs) 310) Q L xs 0 46 (W0 + d) (Sh0 ++ E) MI ML := by
  obtain ⟨hX, -⟩ := hS
  obtain ⟨hK, hA, -⟩ := hI
  have h8 := hK.1
  have p0 : pairB n (nI 0) = false := pr_no (i := 0) (j := 0) h8 (by omega) (by omega) (Or.inr (Or.inr rfl))
  have pn : pairB n (nI n) = false := by
    have := pr_no (n := n) (i := 0) (j := n) h8 (by omega) (by omega) (Or.inr (Or.inl (Nat.le_refl _)))
    rwa [show 10 * 0 + n = n by omega] at this
  have p11 : pairB n (nI 11) = false := pr_no (i := 1) (j := 1) h8 (by omega) (by omega) (Or.inr (Or.inr rfl))
  refine BL_law_1160 (by omega) ⟨isO0, -1, MI, ML, k_up (k_feelingR hK p0) (by decide), cT rfl ⟨hX.cell 0 (by omega), isO0, -1, MI, ML, ?_, cT rfl ⟨hX.cell 0 (by omega), isO0, -1, MI, ML, ?_, cT rfl ⟨isO0, -1, MI, ML, k_up (k_wrongR hK (Or.inl p11)) (by decide), cT rfl ⟨isO0, -1, MI, ML, k_up (k_wrongR hK (Or.inr (by decide))) (by decide), cT rfl ⟨isO0, -1, MI, ML, k_up (k_giftR hK (Or.inr ⟨by decide, by decide⟩)) (by decide), cT rfl ⟨isO0, -1, MI, ML, k_up (k_leaseR hK p0) (by decide), cT rfl ⟨isO0, -1, MI, ML, k_up k_ledR (by decide), cT rfl K⟩⟩⟩⟩⟩⟩⟩⟩
  · rw [hA.1]
    exact k_up (k_feelingR hK pn) (by decide)
  · rw [hA.1]
    exact k_up (k_lastsR hK (Nat.le_refl _) (by omega)) (by decide)
end L97
/-! a turn, three turns -/
def EB : List mT := [(1, 5, []), (1, 16, []), (1, 64, []), (1, 3, []), (1, 6, []), (1, 8, [])]
def EP (t : Nat) (E : List mT) (d : Nat) : Prop := ∃ F, E = EB ++ F ∧ F.length = 4 * t ∧ d = 102 + 200 * t
theorem EB_at {F : List mT} {a k : Nat} (h : (Sh0 ++ EB)[a]? = some (1, k, [])) : alo (Sh0 ++ (EB ++ F)) a k := by
  unfold alo
  rw [← List.append_assoc, List.getElem?_append_left (List.getElem?_eq_some_iff.mp h).1]
  exact h
theorem asz_alo {Sh : List mT} {a k : Nat} (h : alo Sh a k) (hk : k < 10001) : asz Sh a k := ⟨k, h, hk, Nat.le_refl _⟩
theorem EP_S {t d : Nat} {E : List mT} (h : EP t E d) : SHB E := by
  obtain ⟨F, rfl, -, -⟩ := h
  exact ⟨asz_alo (EB_at rfl) (by decide), asz_alo (EB_at rfl) (by decide), asz_alo (EB_at rfl) (by decide), asz_alo (EB_at rfl) (by decide), asz_alo (EB_at rfl) (by decide), asz_alo (EB_at rfl) (by decide)⟩
theorem alo_app {Sh E : List mT} {a k : Nat} (h : alo Sh a k) : alo (Sh ++ E) a k := by
  unfold alo at h ⊢
  rw [List.getElem?_append_left (List.getElem?_eq_some_iff.mp h).1]
  exact h
section L98
variable {L d n t : Nat} {xs : Nat → Int32} {g c : Nat → Int32} {La : mLaw} {E : List mT} {MI M : mI} {ML : mJ} {Q : Option Value → mS → Prop}
theorem l_turn1 (hE : EP t E d) (ht : t < 3) (hL : L ≤ 260) (hI : TI n g La c MI) (K : ∀ M g c E d, EP (t + 1) E d → TI n g La c M → VL_law_62 (mrnT (mTbS L xs) 310) Q L xs 0 46 47 48 49 50 51 (nI (t + 1)) (W0 + d) (Sh0 ++ E) M ML) : VL_law_62 (mrnT (mTbS L xs) 310) Q L xs 0 46 47 48 49 50 51 (nI t) (W0 + d) (Sh0 ++ E) MI ML := by
  have hE0 := hE
  obtain ⟨F, hEF, hFl, hd⟩ := hE
  have len0 : (Sh0 ++ E).length = 52 + 4 * t := by
    rw [hEF, List.length_append, List.length_append, hFl]
    show 46 + (6 + 4 * t) = _
    omega
  obtain ⟨v, hv⟩ := l_cell (L := L) (xs := xs) (D := 309) (k := 58 + t) (S := (W0 + d, Sh0 ++ E, MI, ML)) hL (by omega)
  obtain ⟨m, hm, em⟩ := u_r (s := 1) (d := 12) (by omega) (by omega) (by omega) (by omega) v
  -- the copies
  have a46 : alo (Sh0 ++ E) 46 5 := by rw [hEF]; exact EB_at rfl
  have a47 : alo (Sh0 ++ E) 47 16 := by rw [hEF]; exact EB_at rfl
  have a48 : alo (Sh0 ++ E) 48 64 := by rw [hEF]; exact EB_at rfl
  have len1 : ((Sh0 ++ E) ++ [((1, 64, []) : mT)]).length = 52 + 4 * t + 1 := by rw [List.length_append, len0]; rfl
  have len2 : (((Sh0 ++ E) ++ [((1, 64, []) : mT)]) ++ [((1, 64, []) : mT)]).length = 52 + 4 * t + 2 := by rw [List.length_append, len1]; rfl
  have len3 : ((((Sh0 ++ E) ++ [((1, 64, []) : mT)]) ++ [((1, 64, []) : mT)]) ++ [((1, 64, []) : mT)]).length = 52 + 4 * t + 3 := by rw [List.length_append, len2]; rfl
  obtain ⟨M1, c1, u1, f1⟩ := l_copy (D := 309) (w := W0 + d) (MI := MI) (ML := ML) a46 (by omega) (by omega)
  obtain ⟨M2, c2, u2, f2⟩ := l_copy (D := 309) (w := W0 + d + 64) (MI := M1) (ML := ML) (alo_app (E := [(1, 64, [])]) a47) (by omega) (by omega)
  obtain ⟨M3, c3, u3, f3⟩ := l_copy (D := 309) (w := W0 + d + 64 + 64) (MI := M2) (ML := ML) (alo_app (E := [(1, 64, [])]) (alo_app (E := [(1, 64, [])]) a48)) (by omega) (by omega)
  rw [len0] at c1 u1 f1
  rw [len1] at c2 u2 f2
  rw [len2] at c3 u3 f3
  refine BL_law_62 (by omega) (cF (nI_ge ht (by omega)) ⟨v, MI, ML, by rw [nI_add]; exact hv, _, _, _, M1, ML, mrn_S c1, _, _, _, M2, ML, mrn_S c2, _, _, _, M3, ML, mrn_S c3, ?_⟩)
  rw [em]
  refine BL_law_103 (by omega) ⟨by rw [len3]; omega, ?_⟩
  rw [len3]
  generalize he : 52 + 4 * t = e at *
  have hsh : ((((Sh0 ++ E) ++ [((1, 64, []) : mT)]) ++ [((1, 64, []) : mT)]) ++ [((1, 64, []) : mT)]) ++ [((1, 8, []) : mT)] = Sh0 ++ (E ++ [(1, 64, []), (1, 64, []), (1, 64, []), (1, 8, [])]) := by
    simp only [List.append_assoc, List.cons_append, List.nil_append]
  have hw : W0 + d + 64 + 64 + 64 + 8 = W0 + (d + 200) := by omega
  have hE1 : EP (t + 1) (E ++ [(1, 64, []), (1, 64, []), (1, 64, []), (1, 8, [])]) (d + 200) := ⟨F ++ [(1, 64, []), (1, 64, []), (1, 64, []), (1, 8, [])], by rw [hEF, List.append_assoc], by rw [List.length_append, hFl]; show 4 * t + 4 = _; omega, by omega⟩
  have s0 : asz ((((Sh0 ++ E) ++ [((1, 64, []) : mT)]) ++ [((1, 64, []) : mT)]) ++ [((1, 64, []) : mT)] ++ [((1, 8, []) : mT)]) e 64 := by
    have := asz_new (Sh := Sh0 ++ E) (k := 64) (by decide)
    rw [len0] at this
    exact this.app.app.app
  have s1 : asz ((((Sh0 ++ E) ++ [((1, 64, []) : mT)]) ++ [((1, 64, []) : mT)]) ++ [((1, 64, []) : mT)] ++ [((1, 8, []) : mT)]) (e + 1) 64 := by
    have := asz_new (Sh := (Sh0 ++ E) ++ [((1, 64, []) : mT)]) (k := 64) (by decide)
    rw [len1] at this
    exact this.app.app
  have s2 : asz ((((Sh0 ++ E) ++ [((1, 64, []) : mT)]) ++ [((1, 64, []) : mT)]) ++ [((1, 64, []) : mT)] ++ [((1, 8, []) : mT)]) (e + 2) 64 := by
    have := asz_new (Sh := ((Sh0 ++ E) ++ [((1, 64, []) : mT)]) ++ [((1, 64, []) : mT)]) (k := 64) (by decide)
    rw [len2] at this
    exact this.app
  have s3 : asz ((((Sh0 ++ E) ++ [((1, 64, []) : mT)]) ++ [((1, 64, []) : mT)]) ++ [((1, 64, []) : mT)] ++ [((1, 8, []) : mT)]) (e + 3) 8 := by
    have := asz_new (Sh := (((Sh0 ++ E) ++ [((1, 64, []) : mT)]) ++ [((1, 64, []) : mT)]) ++ [((1, 64, []) : mT)]) (k := 8) (by decide)
    rw [len3] at this
    exact this
  rw [hsh] at s0 s1 s2 s3
  rw [hsh, hw]
  have wk : ∀ {Sh : List mT} {a m k : Nat}, asz Sh a m → k ≤ m → asz Sh a k := fun h hk => by
    obtain ⟨q, q1, q2, q3⟩ := h
    exact ⟨q, q1, q2, by omega⟩
  have hA := hI.2.1
  refine t_all (m := m) (EP_S hE1) hL (by omega) (wk s0 (by omega)) (wk s1 (by omega)) s2 s3 (TI_c hI (fun q hq => by rw [mup_n (by omega), f3 q (by omega), f2 q (by omega), f1 q (by omega)])) ?_ (fun p hp => by rw [mup_s]; rfl) (by omega) (fun M4 hI4 => ?_)
  · have e1 : ∀ i, i < 5 → (mup M3 (e + 3) (fun _ => 0)) e i = MI 46 i := fun i hi => by rw [mup_n (by omega), f3 e (by omega), f2 e (by omega), u1 i hi]
    have e2 : ∀ i, i < 16 → (mup M3 (e + 3) (fun _ => 0)) (e + 1) i = MI 47 i := fun i hi => by rw [mup_n (by omega), f3 (e + 1) (by omega), u2 i hi, f1 47 (by omega)]
    have e3 : ∀ i, i < 64 → (mup M3 (e + 3) (fun _ => 0)) (e + 2) i = MI 48 i := fun i hi => by rw [mup_n (by omega), u3 i hi, f2 48 (by omega), f1 48 (by omega)]
    obtain ⟨x0, x1, x2, x3, x4, hh, hf⟩ := hA
    refine ⟨?_, ?_, ?_, ?_, ?_, fun p hp => ⟨?_, ?_⟩, fun q hq => ?_⟩
    · rw [e1 0 (by omega)]; exact x0
    · rw [e1 1 (by omega)]; exact x1
    · rw [e1 2 (by omega)]; exact x2
    · rw [e1 3 (by omega)]; exact x3
    · rw [e1 4 (by omega)]; exact x4
    · rw [e2 _ (by omega)]; exact (hh p hp).1
    · rw [e2 _ (by omega)]; exact (hh p hp).2
    · rw [e3 q hq]; exact hf q hq
  · refine BL_law_399 (by omega) ?_
    refine up (i0 := 0) (P := fun i => ∀ M g c, TI n g La c M → VL_law_402 (mrnT (mTbS L xs) 310) Q L xs 0 46 47 48 49 50 51 (nI t) (nI i) (W0 + (d + 200)) (Sh0 ++ (E ++ [(1, 64, []), (1, 64, []), (1, 64, []), (1, 8, [])])) M ML) 7 (by decide) ?_ ?_ M4 g c hI4
    · intro M g c hI
      exact BL_law_402 (by omega) (cT (by decide) (e_turn (EP_S hE1) hL ht hI (K M g c _ _ hE1 hI)))
    · intro i _ hi ih M g c hI
      exact d_step (EP_S hE1) hL hi ht hI ih
theorem l_turns (hE : EP 0 E d) (hL : L ≤ 260) (hI : TI n g La c MI) (K : ∀ M E d, EP 3 E d → Q (some (.int (nI 1))) (W0 + d, Sh0 ++ E, M, ML)) : VL_law_62 (mrnT (mTbS L xs) 310) Q L xs 0 46 47 48 49 50 51 (nI 0) (W0 + d) (Sh0 ++ E) MI ML := by
  refine up (i0 := 0) (P := fun t => ∀ M g c E d, EP t E d → TI n g La c M → VL_law_62 (mrnT (mTbS L xs) 310) Q L xs 0 46 47 48 49 50 51 (nI t) (W0 + d) (Sh0 ++ E) M ML) 3 (by decide) ?_ ?_ MI g c E d hE hI
  · intro M g c E d hE hI
    exact BL_law_62 (by omega) (cT (by decide) (e_end (EP_S hE) hL hI (K M E d hE)))
  · intro t _ ht ih M g c E d hE hI
    exact l_turn1 hE ht hL hI ih
/-- the law behind the class's making -/
theorem l_law (hL : L ≤ 260) (hK : KI 0 g [] c MI) (hT : TP [] MI) (g16 : g 16 = nI 1) (g17 : g 17 = nI 0) (g18 : g 18 = nI 6) (g19 : g 19 = nI 0) (gz : ∀ q, q < 16 ∨ 19 < q → g q = nI 0) (hc : ∀ j, j < 6 → c j = nI 0) (K : ∀ M E d, EP 3 E d → Q (some (.int (nI 1))) (W0 + d, Sh0 ++ E, M, ML)) : VL_law_8 (mrnT (mTbS L xs) 310) Q L xs 0 W0 Sh0 MI ML := by
  have hs : (((Sh0 ++ [((1, 5, []) : mT)]) ++ [((1, 16, []) : mT)]) ++ [((1, 64, []) : mT)]) ++ [((1, 3, []) : mT)] = Sh0 ++ [(1, 5, []), (1, 16, []), (1, 64, []), (1, 3, [])] := by
    simp only [List.append_assoc, List.cons_append, List.nil_append]
  have l0 : Sh0.length = 46 := rfl
  have l1 : (Sh0 ++ [((1, 5, []) : mT)]).length = 47 := rfl
  have l2 : ((Sh0 ++ [((1, 5, []) : mT)]) ++ [((1, 16, []) : mT)]).length = 48 := rfl
  have l3 : (((Sh0 ++ [((1, 5, []) : mT)]) ++ [((1, 16, []) : mT)]) ++ [((1, 64, []) : mT)]).length = 49 := rfl
  refine BL_law_8 (by omega) ⟨by decide, by decide, by decide, by decide, ?_⟩
  rw [hs, l0, l1, l2, l3, show W0 + 5 + 16 + 64 + 3 = W0 + 88 from rfl]
  generalize hM0 : mup (mup (mup (mup MI 46 (fun _ => 0)) 47 (fun _ => 0)) 48 (fun _ => 0)) 49 (fun _ => 0) = M0
  have f0 : ∀ q, q < 46 → M0 q = MI q := fun q hq => by rw [← hM0, mup_n (by omega), mup_n (by omega), mup_n (by omega), mup_n (by omega)]
  have z : ∀ q, 45 < q → q < 50 → ∀ j, M0 q j = nI 0 := fun q h1 h2 j => by
    rw [← hM0]
    have : q = 46 ∨ q = 47 ∨ q = 48 ∨ q = 49 := by omega
    rcases this with rfl | rfl | rfl | rfl
    · simp (disch := omega) only [mup_n, mup_s, mput_n, mput_s, mup_mup]
      rfl
    · simp (disch := omega) only [mup_n, mup_s, mput_n, mput_s, mup_mup]
      rfl
    · simp (disch := omega) only [mup_n, mup_s, mput_n, mput_s, mup_mup]
      rfl
    · simp (disch := omega) only [mup_n, mup_s, mput_n, mput_s, mup_mup]
      rfl
  have al : ∀ {a k : Nat}, (Sh0 ++ [((1, 5, []) : mT), (1, 16, []), (1, 64, []), (1, 3, [])])[a]? = some (1, k, []) → k < 10001 → asz (Sh0 ++ [((1, 5, []) : mT), (1, 16, []), (1, 64, []), (1, 3, [])]) a k := fun h hk => ⟨_, h, hk, Nat.le_refl _⟩
  obtain ⟨M1, n, g1, La, c1, k1, k2, k3, k4⟩ := l_baz (L := L) (xs := xs) (d := 88) (ML := ML) (al rfl (by decide)) (al rfl (by decide)) (al rfl (by decide)) (al rfl (by decide)) hL (z 47 (by decide) (by decide)) (z 48 (by decide) (by decide)) (KI_u hK f0) (TP_c hT (f0 3 (by decide)) (f0 5 (by decide))) g16 g17 g18 g19 gz
  refine ⟨_, M1, ML, mrnT_le c1 (by decide), cF (by decide) ?_⟩
  refine BL_law_47 (by omega) ⟨by decide, by decide, ?_⟩
  rw [show (Sh0 ++ [((1, 5, []) : mT), (1, 16, []), (1, 64, []), (1, 3, [])]).length = 50 from rfl, show ((Sh0 ++ [((1, 5, []) : mT), (1, 16, []), (1, 64, []), (1, 3, [])]) ++ [((1, 6, []) : mT)]).length = 51 from rfl, show W0 + 88 + 6 + 8 = W0 + 102 from rfl, show (Sh0 ++ [((1, 5, []) : mT), (1, 16, []), (1, 64, []), (1, 3, [])]) ++ [((1, 6, []) : mT)] ++ [((1, 8, []) : mT)] = Sh0 ++ EB from rfl]
  refine l_turns (n := n) (g := g1) (La := La) (c := c) ⟨[], rfl, rfl, rfl⟩ hL ⟨KI_u k1 (fun q hq => by rw [mup_n (by omega), mup_n (by omega)]), ?_, ?_, fun j hj => ?_⟩ K
  · simp (disch := omega) only [mup_n, mup_s, mput_n, mput_s, mup_mup]
    exact k2
  · simp (disch := omega) only [mup_n, mup_s, mput_n, mput_s, mup_mup]
    exact k3
  · simp (disch := omega) only [mup_n, mup_s, mput_n, mput_s, mup_mup]
    rw [hc j hj]
    rfl
end L98
