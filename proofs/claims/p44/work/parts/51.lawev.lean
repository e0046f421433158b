/-! the law worked out: class and model -/
def tp : Nat → Int32
  | 0 => -1
  | d + 1 => nI d
theorem tp_up (d : Nat) : tp d + nI 1 = nI d := by
  cases d with
  | zero => decide
  | succ d => exact nI_add _ _
theorem tp_dn (d : Nat) : tp (d + 1) + (-1) = tp d := by
  cases d with
  | zero => decide
  | succ d =>
    show nI (d + 1) + (-1) = nI d
    rw [← nI_add, Int32.add_assoc, show nI 1 + (-1) = (0 : Int32) by decide, Int32.add_zero]
theorem tp_39 {d : Nat} (h : d ≤ 40) : tp d < nI 39 ↔ d < 40 := by
  cases d with
  | zero => exact ⟨fun _ => by omega, fun _ => by decide⟩
  | succ d =>
    show nI d < nI 39 ↔ _
    rw [nI_ltI (by omega) (by omega)]
    omega
theorem tp_0 {d : Nat} (h : d ≤ 40) : nI 0 ≤ tp d ↔ 0 < d := by
  cases d with
  | zero => exact ⟨fun q => absurd q (by decide), fun q => absurd q (by omega)⟩
  | succ d =>
    show nI 0 ≤ nI d ↔ _
    rw [nI_leI (by omega) (by omega)]
    omega
theorem tp_1 {d : Nat} (h : d ≤ 40) : tp d < nI 1 ↔ d < 2 := by
  cases d with
  | zero => exact ⟨fun _ => by omega, fun _ => by decide⟩
  | succ d =>
    show nI d < nI 1 ↔ _
    rw [nI_ltI (by omega) (by omega)]
    omega
def kp (k : Nat → Int32) : List Int32 → Prop
  | [] => True
  | x :: r => k r.length = x ∧ kp k r
theorem kp_o {k k' : Nat → Int32} : ∀ {r : List Int32}, (∀ j, j < r.length → k' j = k j) → kp k r → kp k' r
  | [], _, _ => True.intro
  | x :: r, h, hk => ⟨(h r.length (by simp)).trans hk.1, kp_o (fun j hj => h j (by simp; omega)) hk.2⟩
theorem kp_put {k : Nat → Int32} {r : List Int32} {x : Int32} (h : kp k r) : kp (mput k r.length x) (x :: r) := ⟨mput_s, kp_o (fun j hj => mput_n (by omega)) h⟩
/-- a join's sign -/
def sBi (t : Int32) : Prop := opd t = false ∧ t < -6 ∧ ¬ t = -59 ∧ ¬ t = -63 ∧ ¬ t = -126 ∧ ¬ t = -33 ∧ ¬ nI 0 ≤ mtk t ∧ mtk t ≤ -100 ∧ ¬ mtk t = -226 ∧ ¬ mtk t = -133 ∧ -100 - mtk t = -t
theorem sgn_c {t : Int32} (h : sgn t) : (∃ v, v < 10000 ∧ t = nI v) ∨ (∃ w, w < 6 ∧ t = -1 - nI w) ∨ t = -126 ∨ t = -33 ∨ sBi t := by
  rcases h with h | h | h | h | rfl | rfl | rfl | rfl | rfl | rfl | rfl | rfl | rfl | rfl
  · exact Or.inl h
  · exact Or.inr (Or.inl h)
  · exact Or.inr (Or.inr (Or.inl h))
  · exact Or.inr (Or.inr (Or.inr (Or.inl h)))
  all_goals exact Or.inr (Or.inr (Or.inr (Or.inr (by unfold sBi; decide))))
theorem opd_n {v : Nat} (h : v < 10000) : opd (nI v) = true := by
  unfold opd
  rw [decide_eq_false]
  · rfl
  · rw [fa_lt, nI_toInt (by omega), show (-6 : Int32).toInt = -6 by decide]
    omega
theorem wcs {w : Nat} (h : w < 6) : opd (-1 - nI w) = true ∧ -1 - nI w < nI 0 ∧ ¬ nI 0 ≤ -1 - nI w ∧ -1 - (-1 - nI w) = nI w ∧ (-1 - (-1 - nI w)).toNatClampNeg = w ∧ ¬ -1 - nI w < -6 ∧ ¬ -1 - nI w ≤ -100 := by
  have : ∀ w : Fin 6, opd (-1 - nI w.val) = true ∧ -1 - nI w.val < nI 0 ∧ ¬ nI 0 ≤ -1 - nI w.val ∧ -1 - (-1 - nI w.val) = nI w.val ∧ (-1 - (-1 - nI w.val)).toNatClampNeg = w.val ∧ ¬ -1 - nI w.val < -6 ∧ ¬ -1 - nI w.val ≤ -100 := by decide
  exact this ⟨w, h⟩
theorem nlt6 {v : Nat} (h : v < 10000) : ¬ nI v < -6 := by
  rw [fa_lt, nI_toInt (by omega), show (-6 : Int32).toInt = -6 by decide]
  omega
theorem ev1_n {w : Nat → Int32} {st : List Int32} {v : Nat} (h : v < 10000) : ev1 w (nI v) st = nI v :: st := by
  unfold ev1
  rw [if_pos (opd_n h), if_pos (nI_le (Nat.zero_le _) (by omega))]
theorem ev1_w {w : Nat → Int32} {st : List Int32} {v : Nat} (h : v < 6) : ev1 w (-1 - nI v) st = w v :: st := by
  obtain ⟨h1, h2, h3, h4, h5, _⟩ := wcs h
  unfold ev1
  rw [if_pos h1, if_neg h3, h5]
theorem ev1_neg {w : Nat → Int32} {r : List Int32} {x : Int32} : ev1 w (-126) (x :: r) = -x :: r := rfl
theorem ev1_not {w : Nat → Int32} {r : List Int32} {x : Int32} : ev1 w (-33) (x :: r) = (if x = nI 0 then nI 1 else nI 0) :: r := rfl
theorem ev1_bin {w : Nat → Int32} {r : List Int32} {x y t : Int32} (h : sBi t) : ev1 w t (x :: y :: r) = jn (-t) y x :: r := by
  unfold ev1
  rw [if_neg (by rw [h.1]; decide)]
  dsimp only
  rw [if_neg h.2.2.2.2.1, if_neg h.2.2.2.2.2.1]
theorem dp1_o {h d d' : Nat} {t : Int32} (ho : opd t = true) (hd : dp1 h t d = some d') : d < h ∧ d' = d + 1 := by
  unfold dp1 at hd
  rw [if_pos ho] at hd
  by_cases q : d < h
  · rw [if_pos q] at hd
    exact ⟨q, by injection hd with hd; exact hd.symm⟩
  · rw [if_neg q] at hd; cases hd
theorem dp1_u {h d d' : Nat} {t : Int32} (ho : t = -126 ∨ t = -33) (hd : dp1 h t d = some d') : 1 ≤ d ∧ d' = d := by
  unfold dp1 at hd
  rw [if_neg (by rcases ho with rfl | rfl <;> decide), if_pos ho] at hd
  by_cases q : 1 ≤ d
  · rw [if_pos q] at hd
    exact ⟨q, by injection hd with hd; exact hd.symm⟩
  · rw [if_neg q] at hd; cases hd
theorem dp1_b {h d d' : Nat} {t : Int32} (ho : sBi t) (hd : dp1 h t d = some d') : 2 ≤ d ∧ d' = d - 1 := by
  unfold dp1 at hd
  rw [if_neg (by rw [ho.1]; decide), if_neg (by intro q; exact q.elim ho.2.2.2.2.1 ho.2.2.2.2.2.1)] at hd
  by_cases q : 2 ≤ d
  · rw [if_pos q] at hd
    exact ⟨q, by injection hd with hd; exact hd.symm⟩
  · rw [if_neg q] at hd; cases hd
theorem ev1_len {w : Nat → Int32} {t : Int32} {st : List Int32} {d' : Nat} (hs : sgn t) (hd : dp1 36 t st.length = some d') : (ev1 w t st).length = d' := by
  rcases sgn_c hs with ⟨v, hv, rfl⟩ | ⟨v, hv, rfl⟩ | rfl | rfl | hb
  · obtain ⟨h1, h2⟩ := dp1_o (opd_n hv) hd
    rw [ev1_n hv, h2]; rfl
  · obtain ⟨h1, h2⟩ := dp1_o (wcs hv).1 hd
    rw [ev1_w hv, h2]; rfl
  · obtain ⟨h1, h2⟩ := dp1_u (Or.inl rfl) hd
    match st, h1 with
    | x :: r, _ => rw [ev1_neg, h2]; rfl
  · obtain ⟨h1, h2⟩ := dp1_u (Or.inr rfl) hd
    match st, h1 with
    | x :: r, _ => rw [ev1_not, h2]; rfl
  · obtain ⟨h1, h2⟩ := dp1_b hb hd
    match st, h1 with
    | x :: y :: r, _ => rw [ev1_bin hb, h2]; rfl
theorem j_124 {x y : Int32} : jn (nI 124) x y = (if x = nI 0 ∧ y = nI 0 then nI 0 else nI 1) := by
  unfold jn
  rw [if_pos rfl]
theorem j_38 {x y : Int32} : jn (nI 38) x y = (if x = nI 0 ∨ y = nI 0 then nI 0 else nI 1) := by
  unfold jn
  rw [if_neg (by decide), if_pos rfl]
theorem j_60 {x y : Int32} : jn (nI 60) x y = (if x < y then nI 1 else nI 0) := by
  unfold jn
  rw [if_neg (by decide), if_neg (by decide), if_pos rfl]
theorem j_61 {x y : Int32} : jn (nI 61) x y = (if x = y then nI 1 else nI 0) := by
  unfold jn
  rw [if_neg (by decide), if_neg (by decide), if_neg (by decide), if_pos rfl]
theorem j_62 {x y : Int32} : jn (nI 62) x y = (if y < x then nI 1 else nI 0) := by
  unfold jn
  rw [if_neg (by decide), if_neg (by decide), if_neg (by decide), if_neg (by decide), if_pos rfl]
theorem j_43 {x y : Int32} : jn (nI 43) x y = (x + y) := by
  unfold jn
  rw [if_neg (by decide), if_neg (by decide), if_neg (by decide), if_neg (by decide), if_neg (by decide), if_pos rfl]
theorem j_45 {x y : Int32} : jn (nI 45) x y = (x - y) := by
  unfold jn
  rw [if_neg (by decide), if_neg (by decide), if_neg (by decide), if_neg (by decide), if_neg (by decide), if_neg (by decide), if_pos rfl]
theorem j_42 {x y : Int32} : jn (nI 42) x y = (x * y) := by
  unfold jn
  rw [if_neg (by decide), if_neg (by decide), if_neg (by decide), if_neg (by decide), if_neg (by decide), if_neg (by decide), if_neg (by decide), if_pos rfl]
theorem j_47 {x y : Int32} : jn (nI 47) x y = (if y = nI 0 then nI 0 else x / y) := by
  unfold jn
  rw [if_neg (by decide), if_neg (by decide), if_neg (by decide), if_neg (by decide), if_neg (by decide), if_neg (by decide), if_neg (by decide), if_neg (by decide), if_pos rfl]
theorem j_37 {x y : Int32} : jn (nI 37) x y = (if y = nI 0 then nI 0 else x - x / y * y) := by
  unfold jn
  rw [if_neg (by decide), if_neg (by decide), if_neg (by decide), if_neg (by decide), if_neg (by decide), if_neg (by decide), if_neg (by decide), if_neg (by decide), if_neg (by decide), if_pos rfl]
theorem s_joined {D : Nat} {MI : mI} {ML : mJ} {c x y : Int32} : mrc (D + 1) 50 [.int c, .int x, .int y] MI ML (some (.int (jn c x y))) MI ML := by
  refine mrc_of (EX3_joined (BX3_joined_0 ?_))
  refine br (fun h => ?_) (fun n37 => br (fun h => ?_) (fun n38 => br (fun h => ?_) (fun n42 => br (fun h => ?_) (fun n43 => br (fun h => ?_) (fun n45 => br (fun h => ?_) (fun n47 => br (fun h => ?_) (fun n60 => br (fun h => ?_) (fun n61 => br (fun h => ?_) (fun n62 => br (fun h => ?_) (fun n124 => ?_))))))))))
  · subst h
    rw [j_37]
    exact br (fun h => iR (by rw [if_pos h]) rfl) (fun h => ⟨h, iR (by rw [if_neg h]) rfl⟩)
  · subst h
    rw [j_38]
    exact br (fun h => iR (by rw [if_pos (Or.inl h)]) rfl) (fun h => br (fun h2 => iR (by rw [if_pos (Or.inr h2)]) rfl) (fun h2 => iR (by rw [if_neg (fun q => q.elim h h2)]) rfl))
  · subst h
    rw [j_42]
    exact iR rfl rfl
  · subst h
    rw [j_43]
    exact iR rfl rfl
  · subst h
    rw [j_45]
    exact iR rfl rfl
  · subst h
    rw [j_47]
    exact br (fun h => iR (by rw [if_pos h]) rfl) (fun h => ⟨h, iR (by rw [if_neg h]) rfl⟩)
  · subst h
    rw [j_60]
    exact br (fun h => iR (by rw [if_neg (fun q => (fa_of_lt q).2.1 h)]) rfl) (fun h => iR (by rw [if_pos (fa_of_nle h)]) rfl)
  · subst h
    rw [j_61]
    exact br (fun h => iR (by rw [if_pos h]) rfl) (fun h => iR (by rw [if_neg h]) rfl)
  · subst h
    rw [j_62]
    exact br (fun h => iR (by rw [if_neg (fun q => (fa_of_lt q).2.1 h)]) rfl) (fun h => iR (by rw [if_pos (fa_of_nle h)]) rfl)
  · subst h
    rw [j_124]
    exact br (fun h => br (fun h2 => iR (by rw [if_pos ⟨h, h2⟩]) rfl) (fun h2 => iR (by rw [if_neg (fun q => h2 q.2)]) rfl)) (fun h => iR (by rw [if_neg (fun q => h q.1)]) rfl)
  · refine iR ?_ rfl
    unfold jn
    rw [if_neg n124, if_neg n38, if_neg n60, if_neg n61, if_neg n62, if_neg n43, if_neg n45, if_neg n42, if_neg n47, if_neg n37]
theorem s_heldL {D : Nat} {MI : mI} {ML : mJ} {x : Int32} : mrc (D + 1) 49 [.int x] MI ML (some (.int (clp x))) MI ML := by
  refine mrc_of (EX3_held (BX3_held_0 ?_))
  refine br (fun h1 => br (fun h2 => iR ?_ rfl) (fun h2 => iR ?_ rfl)) (fun h1 => iR ?_ rfl)
  · unfold clp
    rw [if_neg (fun q => (fa_of_lt q).2.1 h1), if_neg (fun q => (fa_of_lt q).2.1 h2)]
  · unfold clp
    rw [if_neg (fun q => (fa_of_lt q).2.1 h1), if_pos (fa_of_nle h2)]
  · unfold clp
    rw [if_pos (fa_of_nle h1)]
section W1
variable {D : Nat} {Q : Option Value → mI → mJ → Prop} {MI : mI} {ML : mJ}
theorem cw_1 {i N d' : Nat} {t c : Int32} {st : List Int32} (hN : MI 6 1 = nI N) (hN1 : N ≤ 161) (hi : i < N) (ht : MI 7 i = t) (hs : sgn t) (hd : dp1 36 t st.length = some d') (h36 : st.length ≤ 36) (hk : kp (MI 9) st) (K : ∀ M : mI, (∀ q, q ≠ 9 → M q = MI q) → kp (M 9) (ev1 (MI 8) t st) → VX3_weighedOut_36 (D + 1) Q (tp (ev1 (MI 8) t st).length) c (nI (i + 1)) M ML) : VX3_weighedOut_36 (D + 1) Q (tp st.length) c (nI i) MI ML := by
  refine BX3_weighedOut_36 (cF (by rw [hN]; exact nI_ge hi (by omega)) ⟨i, rfl, by omega, ?_⟩)
  rw [ht, nI_add]
  rcases sgn_c hs with ⟨v, hv, rfl⟩ | ⟨v, hv, rfl⟩ | rfl | rfl | hb
  · obtain ⟨h1, h2⟩ := dp1_o (opd_n hv) hd
    refine cF (nlt6 hv) (cT ((tp_39 (by omega)).mpr (by omega)) (cF (by rw [nI_0lt (by omega)]; exact fun q => q) ⟨st.length, tp_up _, by omega, ?_⟩))
    rw [tp_up]
    rw [ev1_n hv] at K
    exact K _ (fun q hq => mup_n hq) (by rw [mup_s]; exact kp_put hk)
  · obtain ⟨h1, h2⟩ := dp1_o (wcs hv).1 hd
    refine cF (wcs hv).2.2.2.2.2.1 (cT ((tp_39 (by omega)).mpr (by omega)) (cT (wcs hv).2.1 ⟨v, (wcs hv).2.2.2.1, hv, st.length, tp_up _, by omega, ?_⟩))
    rw [tp_up]
    rw [ev1_w hv] at K
    exact K _ (fun q hq => mup_n hq) (by rw [mup_s]; exact kp_put hk)
  · obtain ⟨h1, h2⟩ := dp1_u (Or.inl rfl) hd
    match st, h1, h36, hk, K with
    | x :: r, h1, h36, hk, K =>
      have h36 : r.length + 1 ≤ 36 := h36
      refine cT (by decide) (cT ((tp_0 (by simp; omega)).mpr h1) (cF (by decide) (cF (by decide) (cT rfl ⟨r.length, rfl, by omega, r.length, rfl, by omega, ?_⟩))))
      rw [ev1_neg] at K
      exact K _ (fun q hq => mup_n hq) (by rw [mup_s, hk.1]; exact kp_put hk.2)
  · obtain ⟨h1, h2⟩ := dp1_u (Or.inr rfl) hd
    match st, h1, h36, hk, K with
    | x :: r, h1, h36, hk, K =>
      have h36 : r.length + 1 ≤ 36 := h36
      refine cT (by decide) (cT ((tp_0 (by simp; omega)).mpr h1) (cF (by decide) (cF (by decide) (cF (by decide) (cT rfl ⟨r.length, rfl, by omega, ?_⟩)))))
      rw [ev1_not] at K
      rw [hk.1]
      by_cases hx : x = nI 0
      · rw [if_pos hx] at K
        exact cT hx ⟨r.length, rfl, by omega, K _ (fun q hq => mup_n hq) (by rw [mup_s]; exact kp_put hk.2)⟩
      · rw [if_neg hx] at K
        exact cF hx ⟨r.length, rfl, by omega, K _ (fun q hq => mup_n hq) (by rw [mup_s]; exact kp_put hk.2)⟩
  · obtain ⟨h1, h2⟩ := dp1_b hb hd
    match st, h1, h36, hk, K with
    | x :: y :: r, h1, h36, hk, K =>
      have h36 : r.length + 1 + 1 ≤ 36 := h36
      have e1 : tp (x :: y :: r).length + (-1) = nI r.length := tp_dn (r.length + 1)
      refine cT hb.2.1 (cT ((tp_0 (by simp; omega)).mpr (by simp)) (cF hb.2.2.1 (cF hb.2.2.2.1 (cF hb.2.2.2.2.1 (cF hb.2.2.2.2.2.1 (cF (by rw [tp_1 (by simp; omega)]; simp) ⟨r.length, e1, by omega, r.length + 1, by rw [e1]; exact nI_add _ _, by omega, usei s_joined ⟨r.length, e1, by omega, ?_⟩⟩))))))
      rw [e1]
      rw [ev1_bin hb] at K
      refine K _ (fun q hq => mup_n hq) ?_
      rw [mup_s, show MI 9 r.length = y from hk.2.1, show MI 9 (r.length + 1) = x from hk.1]
      exact kp_put hk.2.2
theorem dps_le {ts : List Int32} : ∀ {d e : Nat}, dps 36 ts d = some e → d ≤ 36 → ∀ t ts', ts = t :: ts' → ∃ d', dp1 36 t d = some d' ∧ dps 36 ts' d' = some e ∧ d' ≤ 36 := by
  intro d e h hd t ts' hts
  subst hts
  unfold dps at h
  cases hq : dp1 36 t d with
  | none => rw [hq] at h; cases h
  | some d' =>
    rw [hq] at h
    refine ⟨d', rfl, h, ?_⟩
    unfold dp1 at hq
    split at hq
    · split at hq
      · injection hq with hq; omega
      · cases hq
    · split at hq
      · split at hq
        · injection hq with hq; omega
        · cases hq
      · split at hq
        · injection hq with hq; omega
        · cases hq
end W1
theorem evs_len {w : Nat → Int32} : ∀ {ts : List Int32} {st : List Int32} {e : Nat}, (∀ t ∈ ts, sgn t) → st.length ≤ 36 → dps 36 ts st.length = some e → (evs w ts st).length = e
  | [], st, e, _, _, h => by injection h
  | t :: ts, st, e, hs, h36, h => by
    obtain ⟨d', h1, h2, h3⟩ := dps_le h h36 t ts rfl
    have hl := ev1_len (w := w) (hs t List.mem_cons_self) h1
    unfold evs
    exact evs_len (fun t ht => hs t (List.mem_cons_of_mem _ ht)) (by omega) (by rw [hl]; exact h2)
section W2
variable {D : Nat} {Q : Option Value → mI → mJ → Prop} {ML : mJ}
theorem cw_s : ∀ {ts : List Int32} {st : List Int32} {i N e : Nat} {c : Int32} {MI : mI}, MI 6 1 = nI N → N ≤ 161 → i + ts.length ≤ N → (∀ j, j < ts.length → MI 7 (i + j) = ts.getD j 0) → (∀ t ∈ ts, sgn t) → st.length ≤ 36 → dps 36 ts st.length = some e → kp (MI 9) st → (∀ M : mI, (∀ q, q ≠ 9 → M q = MI q) → kp (M 9) (evs (MI 8) ts st) → VX3_weighedOut_36 (D + 1) Q (tp (evs (MI 8) ts st).length) c (nI (i + ts.length)) M ML) → VX3_weighedOut_36 (D + 1) Q (tp st.length) c (nI i) MI ML
  | [], st, i, N, e, c, MI, _, _, _, _, _, _, _, hk, K => K MI (fun _ _ => rfl) hk
  | t :: ts, st, i, N, e, c, MI, hN, hN1, hi, ht, hs, h36, hd, hk, K => by
    obtain ⟨d', h1, h2, h3⟩ := dps_le hd h36 t ts rfl
    have hl := ev1_len (w := MI 8) (hs t List.mem_cons_self) h1
    simp only [List.length_cons] at hi K
    refine cw_1 hN hN1 (by omega) (by simpa using ht 0 (by simp)) (hs t List.mem_cons_self) h1 h36 hk (fun M hM hk' => ?_)
    refine cw_s (ts := ts) (st := ev1 (MI 8) t st) (e := e) (by rw [hM 6 (by decide)]; exact hN) hN1 (by omega) (fun j hj => ?_) (fun t ht => hs t (List.mem_cons_of_mem _ ht)) (by omega) (by rw [hl]; exact h2) hk' (fun M' hM' hk2 => ?_)
    · rw [hM 7 (by decide), show i + 1 + j = i + (j + 1) by omega]
      simpa using ht (j + 1) (by simp; omega)
    · rw [hM 8 (by decide)] at hk2 ⊢
      rw [show i + 1 + ts.length = i + (ts.length + 1) by omega]
      exact K M' (fun q hq => (hM' q hq).trans (hM q hq)) hk2
theorem lwV_1 {w : Nat → Int32} {l : List Int32 × List Int32} {r : mLaw} (h : l.1 = [] ∨ (evs w l.1 []).headD 0 ≠ nI 0) : lwV w (l :: r) = (evs w l.2 []).headD 0 := if_pos h
theorem lwV_0 {w : Nat → Int32} {l : List Int32 × List Int32} {r : mLaw} (h : ¬ (l.1 = [] ∨ (evs w l.1 []).headD 0 ≠ nI 0)) : lwV w (l :: r) = lwV w r := if_neg h
theorem one_st {l : List Int32} (h : l.length = 1) : ∃ x, l = [x] := by
  match l, h with
  | [x], _ => exact ⟨x, rfl⟩
theorem cw_end {i N : Nat} {MI : mI} {x : Int32} (hN : MI 6 1 = nI N) (hN1 : N ≤ 161) (hi : i < N) (ht : MI 7 i = -59) (hk : kp (MI 9) [x]) (K : Q (some (.int (clp x))) MI ML) : VX3_weighedOut_36 (D + 1) Q (tp 1) (nI 1) (nI i) MI ML := by
  refine BX3_weighedOut_36 (cF (by rw [hN]; exact nI_ge hi (by omega)) ⟨i, rfl, by omega, ?_⟩)
  rw [ht]
  refine cT (by decide) (cT (by decide) (cT rfl (cF (by decide) ⟨0, rfl, by omega, ?_⟩)))
  rw [show MI 9 0 = x from hk.1]
  exact usei s_heldL K
theorem cw_end0 {i N : Nat} {MI : mI} (hN : MI 6 1 = nI N) (hN1 : N ≤ 161) (hi : i < N) (ht : MI 7 i = -59) (K : VX3_weighedOut_36 (D + 1) Q (tp 0) (nI 1) (nI (i + 1)) MI ML) : VX3_weighedOut_36 (D + 1) Q (tp 1) (nI 0) (nI i) MI ML := by
  refine BX3_weighedOut_36 (cF (by rw [hN]; exact nI_ge hi (by omega)) ⟨i, rfl, by omega, ?_⟩)
  rw [ht]
  refine cT (by decide) (cT (by decide) (cT rfl (cT rfl ?_)))
  rw [tp_dn, nI_add]
  exact K
theorem cw_ask {i N : Nat} {MI : mI} {x c : Int32} (hN : MI 6 1 = nI N) (hN1 : N ≤ 161) (hi : i < N) (ht : MI 7 i = -63) (hk : kp (MI 9) [x]) (K : VX3_weighedOut_36 (D + 1) Q (tp 0) (if x = nI 0 then nI 0 else nI 1) (nI (i + 1)) MI ML) : VX3_weighedOut_36 (D + 1) Q (tp 1) c (nI i) MI ML := by
  refine BX3_weighedOut_36 (cF (by rw [hN]; exact nI_ge hi (by omega)) ⟨i, rfl, by omega, ?_⟩)
  rw [ht]
  refine cT (by decide) (cT (by decide) (cF (by decide) (cT rfl ⟨0, rfl, by omega, ?_⟩)))
  rw [show MI 9 0 = x from hk.1, tp_dn, nI_add]
  refine br (fun h => ?_) (fun h => ?_)
  · rw [if_pos h] at K; exact K
  · rw [if_neg h] at K; exact K
theorem EX_len {ts : List Int32} {w : Nat → Int32} (h : EX ts) : ∃ x, evs w ts [] = [x] := one_st (evs_len h.2 (by simp) h.1)
theorem getD_app {a b : List Int32} {j : Nat} (h : j < b.length) : (a ++ b).getD (a.length + j) 0 = b.getD j 0 := by
  simp [List.getD_eq_getElem?_getD, List.getElem?_append_right]
theorem getD_app1 {a b : List Int32} {j : Nat} (h : j < a.length) : (a ++ b).getD j 0 = a.getD j 0 := by
  simp [List.getD_eq_getElem?_getD, List.getElem?_append_left h]
theorem cw_L : ∀ {La : mLaw} {i N : Nat} {MI : mI}, wfL La → MI 6 1 = nI N → N ≤ 161 → i + (flC La).length = N → (∀ j, j < (flC La).length → MI 7 (i + j) = (flC La).getD j 0) → (∀ M : mI, (∀ q, q ≠ 9 → M q = MI q) → Q (some (.int (clp (lwV (MI 8) La)))) M ML) → VX3_weighedOut_36 (D + 1) Q (tp 0) (nI 1) (nI i) MI ML
  | [], i, N, MI, _, hN, hN1, hi, _, K => by
    have hi : i = N := hi
    exact BX3_weighedOut_36 (cT (by rw [hN, hi]; exact nI_le (Nat.le_refl _) (by omega)) (K MI (fun _ _ => rfl)))
  | l :: r, i, N, MI, hw, hN, hN1, hi, ht, K => by
    have hl := hw l List.mem_cons_self
    have hwr : wfL r := fun l hl => hw l (List.mem_cons_of_mem _ hl)
    obtain ⟨x2, e2⟩ := EX_len (w := MI 8) hl.2
    by_cases h1 : l.1 = []
    · have hfl : flC (l :: r) = l.2 ++ (-59 :: flC r) := by simp [flC, h1]
      rw [hfl] at hi ht
      simp only [List.length_append, List.length_cons] at hi
      refine cw_s (st := []) (ts := l.2) (e := 1) hN hN1 (by omega) (fun j hj => ?_) hl.2.2 (by simp) hl.2.1 True.intro (fun M hM hk => ?_)
      · rw [ht j (by simp; omega), getD_app1 hj]
      · rw [e2] at hk ⊢
        refine cw_end (x := x2) (N := N) (by rw [hM 6 (by decide)]; exact hN) hN1 (by omega) ?_ hk ?_
        · rw [hM 7 (by decide), ht _ (by simp)]
          exact (getD_app (j := 0) (by simp)).trans rfl
        · have := K M hM
          rwa [lwV_1 (Or.inl h1), e2] at this
    · have hE := hl.1.resolve_left h1
      obtain ⟨x1, e1⟩ := EX_len (w := MI 8) hE
      have hfl : flC (l :: r) = l.1 ++ (-63 :: (l.2 ++ (-59 :: flC r))) := by simp [flC, h1]
      rw [hfl] at hi ht
      simp only [List.length_append, List.length_cons] at hi
      refine cw_s (st := []) (ts := l.1) (e := 1) hN hN1 (by omega) (fun j hj => ?_) hE.2 (by simp) hE.1 True.intro (fun M hM hk => ?_)
      · rw [ht j (by simp; omega), getD_app1 hj]
      · rw [e1] at hk ⊢
        have hN' : M 6 1 = nI N := by rw [hM 6 (by decide)]; exact hN
        refine cw_ask (x := x1) (N := N) hN' hN1 (by omega) ?_ hk ?_
        · rw [hM 7 (by decide), ht _ (by simp)]
          exact (getD_app (j := 0) (by simp)).trans rfl
        · refine cw_s (st := []) (ts := l.2) (e := 1) hN' hN1 (by omega) (fun j hj => ?_) hl.2.2 (by simp) hl.2.1 True.intro (fun M' hM' hk' => ?_)
          · rw [hM 7 (by decide), show i + l.1.length + 1 + j = i + (l.1.length + (j + 1)) by omega, ht _ (by simp; omega), getD_app (by simp; omega)]
            show (l.2 ++ (-59 :: flC r)).getD j 0 = _
            exact getD_app1 hj
          · rw [hM 8 (by decide), e2] at hk' ⊢
            have hMM : ∀ q, q ≠ 9 → M' q = MI q := fun q hq => (hM' q hq).trans (hM q hq)
            have hN2 : M' 6 1 = nI N := by rw [hMM 6 (by decide)]; exact hN
            have hend : M' 7 (i + l.1.length + 1 + l.2.length) = -59 := by
              rw [hMM 7 (by decide), show i + l.1.length + 1 + l.2.length = i + (l.1.length + (l.2.length + 1)) by omega, ht _ (by simp), getD_app (by simp)]
              show (l.2 ++ (-59 :: flC r)).getD l.2.length 0 = _
              exact (getD_app (a := l.2) (j := 0) (by simp)).trans rfl
            by_cases hx : x1 = nI 0
            · rw [if_pos hx]
              refine cw_end0 hN2 hN1 (by omega) hend ?_
              refine cw_L (La := r) hwr hN2 hN1 (by omega) (fun j hj => ?_) (fun M2 hM2 => ?_)
              · rw [hMM 7 (by decide), show i + l.1.length + 1 + l.2.length + 1 + j = i + (l.1.length + (l.2.length + (j + 1) + 1)) by omega, ht _ (by simp; omega), getD_app (by simp; omega)]
                show (l.2 ++ (-59 :: flC r)).getD (l.2.length + (j + 1)) 0 = _
                exact (getD_app (a := l.2) (by simp; omega)).trans rfl
              · have := K M2 (fun q hq => (hM2 q hq).trans (hMM q hq))
                rw [hMM 8 (by decide)]
                rwa [lwV_0 (fun q => q.elim (fun q => h1 q) (fun q => q (by rw [e1]; exact hx)))] at this
            · rw [if_neg hx]
              refine cw_end (x := x2) (N := N) hN2 hN1 (by omega) hend hk' ?_
              have := K M' hMM
              rwa [lwV_1 (Or.inr (by rw [e1]; exact hx)), e2] at this
theorem flC_0 {La : mLaw} : (flC La).length = 0 ↔ La = [] := by
  constructor
  · intro h
    match La, h with
    | [], _ => rfl
    | l :: r, h => simp [flC] at h
  · rintro rfl; rfl
theorem s_weighedOut {La : mLaw} {MI : mI} {x : Int32} (hw : wfL La) (hL : LC La (MI 6 1) (MI 7)) : ∃ M, mrc (D + 2) 48 [.ref 6, .int x] MI ML (some (.int (lwO (mput (MI 8) 0 x) La))) M ML ∧ (∀ q, q ≠ 8 → q ≠ 9 → M q = MI q) ∧ ∀ i, i ≠ 0 → M 8 i = MI 8 i := by
  obtain ⟨h1, h2, h3⟩ := hL
  suffices h : VX3_weighedOut_0 (D + 1) (fun v M L => v = some (.int (lwO (mput (MI 8) 0 x) La)) ∧ L = ML ∧ (∀ q, q ≠ 8 → q ≠ 9 → M q = MI q) ∧ ∀ i, i ≠ 0 → M 8 i = MI 8 i) x MI ML by
    obtain ⟨v, M, L, ⟨rfl, rfl, hr⟩, h⟩ := EX3_weighedOut h
    exact ⟨M, h, hr⟩
  refine BX3_weighedOut_0 ?_
  rw [h2, nI_eq (by omega) (by omega), flC_0]
  refine br (fun h => usei s_heldL ?_) (fun h => ?_)
  · refine ⟨?_, rfl, fun _ _ _ => rfl, fun _ _ => rfl⟩
    unfold lwO
    rw [if_pos h, mput_s, mput_n (by decide)]
  · refine cw_L (La := La) (N := (flC La).length) (MI := mup MI 8 (mput (MI 8) 0 x)) hw (by rw [mup_n (by decide)]; exact h2) h1 (by omega) (fun j hj => ?_) (fun M hM => ?_)
    · rw [mup_n (by decide), Nat.zero_add]
      exact h3 j hj
    · refine ⟨?_, rfl, fun q h8 h9 => (hM q h9).trans (mup_n h8), fun i hi => ?_⟩
      · unfold lwO
        rw [if_neg h, mup_s]
      · rw [hM 8 (by decide), mup_s, mput_n hi]
end W2
