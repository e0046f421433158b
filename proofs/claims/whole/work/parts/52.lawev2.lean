/-! the law worked out by the model -/
theorem evs_cong {w w' : Nat → Int32} (hw : ∀ i, i < 6 → w i = w' i) : ∀ {ts st : List Int32}, (∀ t ∈ ts, sgn t) → evs w ts st = evs w' ts st
  | [], st, _ => rfl
  | t :: ts, st, hs => by
    have h1 : ev1 w t st = ev1 w' t st := by
      rcases sgn_c (hs t List.mem_cons_self) with ⟨v, hv, rfl⟩ | ⟨v, hv, rfl⟩ | rfl | rfl | hb
      · rw [ev1_n hv, ev1_n hv]
      · rw [ev1_w hv, ev1_w hv, hw v hv]
      · rfl
      · rfl
      · unfold ev1
        rw [if_neg (by rw [hb.1]; decide), if_neg (by rw [hb.1]; decide)]
    unfold evs
    rw [h1]
    exact evs_cong hw (fun t ht => hs t (List.mem_cons_of_mem _ ht))
theorem EXsgn {ts : List Int32} (h : ts = [] ∨ EX ts) : ∀ t ∈ ts, sgn t := by
  rcases h with rfl | h
  · intro t ht; cases ht
  · exact h.2
theorem lwV_cong {w w' : Nat → Int32} (hw : ∀ i, i < 6 → w i = w' i) : ∀ {La : mLaw}, wfL La → lwV w La = lwV w' La
  | [], _ => rfl
  | l :: r, h => by
    have hl := h l List.mem_cons_self
    unfold lwV
    rw [evs_cong hw (EXsgn hl.1), evs_cong hw hl.2.2, lwV_cong hw (fun l hl => h l (List.mem_cons_of_mem _ hl))]
theorem lwO_cong {w w' : Nat → Int32} {La : mLaw} (hw : ∀ i, i < 6 → w i = w' i) (h : wfL La) : lwO w La = lwO w' La := by
  unfold lwO
  rw [lwV_cong hw h, hw 3 (by decide), hw 0 (by decide)]
theorem clp_b (x : Int32) : 0 ≤ (clp x).toInt ∧ (clp x).toInt ≤ 50 := by
  have h0 : (nI 0).toInt = 0 := by decide
  have h50 : (nI 50).toInt = 50 := by decide
  unfold clp
  split
  · omega
  · next h1 =>
    rw [fa_lt] at h1
    split
    · omega
    · next h2 =>
      rw [fa_lt] at h2
      omega
theorem mtk_n {v : Nat} (h : v < 10000) : mtk (nI v) = nI v := if_pos (opd_n h)
theorem mtk_w {w : Nat} (h : w < 6) : mtk (-1 - nI w) = -1 - nI w := if_pos (wcs h).1
section W3
variable {D : Nat} {Q : Option Value → mI → mJ → Prop} {MI : mI} {ML : mJ}
theorem t_joined {c x y : Int32} (hc : c = nI 124 ∨ c = nI 38 ∨ c = nI 60 ∨ c = nI 61 ∨ c = nI 62 ∨ c = nI 43 ∨ c = nI 45 ∨ c = nI 42 ∨ c = nI 47 ∨ c = nI 37) : mrc (D + 1) 208 [.int c, .int x, .int y] MI ML (some (.int (jn c x y))) MI ML := by
  rcases hc with rfl | rfl | rfl | rfl | rfl | rfl | rfl | rfl | rfl | rfl
  · rw [j_124]
    refine mrc_of (EX11_joined (BX11_joined_0 ?_))
    refine cF (by decide) (cF (by decide) (cF (by decide) (cF (by decide) (cF (by decide) (cF (by decide) (cF (by decide) (cF (by decide) (cF (by decide) (cF (by decide) (cF (by decide) (cF (by decide) (cF (by decide) (cF (by decide) (cF (by decide) (cF (by decide) (cF (by decide) (cF (by decide) (cF (by decide) (cF (by decide) (cF (by decide) (cF (by decide) (cF (by decide) (cF (by decide) (cF (by decide) (cF (by decide) (?_))))))))))))))))))))))))))
    exact BX11_joined_203 (br (fun h => br (fun h2 => iR (by rw [if_pos ⟨h, h2⟩]) rfl) (fun h2 => iR (by rw [if_neg (fun q => h2 q.2)]) rfl)) (fun h => iR (by rw [if_neg (fun q => h q.1)]) rfl))
  · rw [j_38]
    refine mrc_of (EX11_joined (BX11_joined_0 ?_))
    refine cF (by decide) (cT rfl ?_)
    exact br (fun h => iR (by rw [if_pos (Or.inl h)]) rfl) (fun h => br (fun h2 => iR (by rw [if_pos (Or.inr h2)]) rfl) (fun h2 => iR (by rw [if_neg (fun q => q.elim h h2)]) rfl))
  · rw [j_60]
    refine mrc_of (EX11_joined (BX11_joined_0 ?_))
    refine cF (by decide) (cF (by decide) (cF (by decide) (cF (by decide) (cF (by decide) (cF (by decide) (cF (by decide) (cF (by decide) (cF (by decide) (cF (by decide) (cF (by decide) (cF (by decide) (cF (by decide) (cF (by decide) (cF (by decide) (cF (by decide) (cF (by decide) (cF (by decide) (cF (by decide) (cF (by decide) (cF (by decide) (cF (by decide) (cF (by decide) (cT rfl ?_)))))))))))))))))))))))
    exact br (fun h => iR (by rw [if_neg (fun q => (fa_of_lt q).2.1 h)]) rfl) (fun h => iR (by rw [if_pos (fa_of_nle h)]) rfl)
  · rw [j_61]
    refine mrc_of (EX11_joined (BX11_joined_0 ?_))
    refine cF (by decide) (cF (by decide) (cF (by decide) (cF (by decide) (cF (by decide) (cF (by decide) (cF (by decide) (cF (by decide) (cF (by decide) (cF (by decide) (cF (by decide) (cF (by decide) (cF (by decide) (cF (by decide) (cF (by decide) (cF (by decide) (cF (by decide) (cF (by decide) (cF (by decide) (cF (by decide) (cF (by decide) (cF (by decide) (cF (by decide) (cF (by decide) (cT rfl ?_))))))))))))))))))))))))
    exact br (fun h => iR (by rw [if_pos h]) rfl) (fun h => iR (by rw [if_neg h]) rfl)
  · rw [j_62]
    refine mrc_of (EX11_joined (BX11_joined_0 ?_))
    refine cF (by decide) (cF (by decide) (cF (by decide) (cF (by decide) (cF (by decide) (cF (by decide) (cF (by decide) (cF (by decide) (cF (by decide) (cF (by decide) (cF (by decide) (cF (by decide) (cF (by decide) (cF (by decide) (cF (by decide) (cF (by decide) (cF (by decide) (cF (by decide) (cF (by decide) (cF (by decide) (cF (by decide) (cF (by decide) (cF (by decide) (cF (by decide) (cF (by decide) (cT rfl ?_)))))))))))))))))))))))))
    exact br (fun h => iR (by rw [if_neg (fun q => (fa_of_lt q).2.1 h)]) rfl) (fun h => iR (by rw [if_pos (fa_of_nle h)]) rfl)
  · rw [j_43]
    refine mrc_of (EX11_joined (BX11_joined_0 ?_))
    refine cF (by decide) (cF (by decide) (cF (by decide) (cF (by decide) (cF (by decide) (cF (by decide) (cT rfl ?_))))))
    exact iR rfl rfl
  · rw [j_45]
    refine mrc_of (EX11_joined (BX11_joined_0 ?_))
    refine cF (by decide) (cF (by decide) (cF (by decide) (cF (by decide) (cF (by decide) (cF (by decide) (cF (by decide) (cF (by decide) (cT rfl ?_))))))))
    exact iR rfl rfl
  · rw [j_42]
    refine mrc_of (EX11_joined (BX11_joined_0 ?_))
    refine cF (by decide) (cF (by decide) (cF (by decide) (cF (by decide) (cF (by decide) (cT rfl ?_)))))
    exact iR rfl rfl
  · rw [j_47]
    refine mrc_of (EX11_joined (BX11_joined_0 ?_))
    refine cF (by decide) (cF (by decide) (cF (by decide) (cF (by decide) (cF (by decide) (cF (by decide) (cF (by decide) (cF (by decide) (cF (by decide) (cF (by decide) (cT rfl ?_))))))))))
    exact br (fun h => iR (by rw [if_pos h]) rfl) (fun h => ⟨h, iR (by rw [if_neg h]) rfl⟩)
  · rw [j_37]
    refine mrc_of (EX11_joined (BX11_joined_0 ?_))
    refine cT rfl ?_
    exact br (fun h => iR (by rw [if_pos h]) rfl) (fun h => ⟨h, iR (by rw [if_neg h]) rfl⟩)
theorem sB_let {t : Int32} (hs : sgn t) (h : sBi t) : -t = nI 124 ∨ -t = nI 38 ∨ -t = nI 60 ∨ -t = nI 61 ∨ -t = nI 62 ∨ -t = nI 43 ∨ -t = nI 45 ∨ -t = nI 42 ∨ -t = nI 47 ∨ -t = nI 37 := by
  rcases hs with ⟨v, hv, rfl⟩ | ⟨v, hv, rfl⟩ | rfl | rfl | rfl | rfl | rfl | rfl | rfl | rfl | rfl | rfl | rfl | rfl
  · have := h.1
    rw [opd_n hv] at this
    cases this
  · have := h.1
    rw [(wcs hv).1] at this
    cases this
  · exact absurd rfl h.2.2.2.2.1
  · exact absurd rfl h.2.2.2.2.2.1
  all_goals decide
theorem nI_up1 {d : Nat} : nI (d + 1) + (-1) = nI d := by
  rw [← nI_add, Int32.add_assoc, show nI 1 + (-1) = (0 : Int32) by decide, Int32.add_zero]
theorem nI_dn1 {d : Nat} : nI (d + 1) - nI 1 = nI d := by
  rw [pk_sub (by omega)]; rfl
theorem dw_1 {i N d' : Nat} {t : Int32} {st : List Int32} (hi : i < N) (hN : N ≤ 160) (ht : MI 53 i = mtk t) (hs : sgn t) (hd : dp1 36 t st.length = some d') (h36 : st.length ≤ 36) (hk : kp (MI 58) st) (K : ∀ M : mI, (∀ q, q ≠ 58 → M q = MI q) → kp (M 58) (ev1 (MI 59) t st) → VX11_workedOut_5 (D + 1) Q (nI N) (nI (ev1 (MI 59) t st).length) (nI (i + 1)) M ML) : VX11_workedOut_5 (D + 1) Q (nI N) (nI st.length) (nI i) MI ML := by
  refine BX11_workedOut_5 (cF (nI_ge hi (by omega)) ⟨i, rfl, by omega, ?_⟩)
  rw [ht]
  rcases sgn_c hs with ⟨v, hv, rfl⟩ | ⟨v, hv, rfl⟩ | rfl | rfl | hb
  · obtain ⟨h1, h2⟩ := dp1_o (opd_n hv) hd
    rw [mtk_n hv]
    refine cT (nI_le (Nat.zero_le _) (by omega)) (BX11_workedOut_32 (cF (by rw [nI_0lt (by omega)]; exact fun q => q) ⟨st.length, rfl, by omega, ?_⟩))
    rw [nI_add, nI_add]
    rw [ev1_n hv] at K
    exact K _ (fun q hq => mup_n hq) (by rw [mup_s]; exact kp_put hk)
  · obtain ⟨h1, h2⟩ := dp1_o (wcs hv).1 hd
    rw [mtk_w hv]
    refine cF (wcs hv).2.2.1 (cF (wcs hv).2.2.2.2.2.2 (BX11_workedOut_32 (cT (wcs hv).2.1 ⟨v, (wcs hv).2.2.2.1, hv, st.length, rfl, by omega, ?_⟩)))
    rw [nI_add, nI_add]
    rw [ev1_w hv] at K
    exact K _ (fun q hq => mup_n hq) (by rw [mup_s]; exact kp_put hk)
  · obtain ⟨h1, h2⟩ := dp1_u (Or.inl rfl) hd
    match st, h1, h36, hk, K with
    | x :: r, h1, h36, hk, K =>
      have h36 : r.length + 1 ≤ 36 := h36
      rw [show mtk (-126) = -226 by decide]
      refine cF (by decide) (cT (by decide) (cT rfl (BX11_workedOut_79 (cT rfl ⟨r.length, nI_dn1, by omega, r.length, nI_dn1, by omega, ?_⟩))))
      rw [ev1_neg] at K
      rw [nI_add]
      exact K _ (fun q hq => mup_n hq) (by rw [mup_s, hk.1]; exact kp_put hk.2)
  · obtain ⟨h1, h2⟩ := dp1_u (Or.inr rfl) hd
    match st, h1, h36, hk, K with
    | x :: r, h1, h36, hk, K =>
      have h36 : r.length + 1 ≤ 36 := h36
      rw [show mtk (-33) = -133 by decide]
      refine cF (by decide) (cT (by decide) (cF (by decide) (cT rfl (BX11_workedOut_79 (cF (by decide) ⟨r.length, nI_dn1, by omega, ?_⟩)))))
      rw [ev1_not] at K
      rw [hk.1, nI_add]
      by_cases hx : x = nI 0
      · rw [if_pos hx] at K
        exact cT hx ⟨r.length, nI_dn1, by omega, K _ (fun q hq => mup_n hq) (by rw [mup_s]; exact kp_put hk.2)⟩
      · rw [if_neg hx] at K
        exact cF hx ⟨r.length, nI_dn1, by omega, K _ (fun q hq => mup_n hq) (by rw [mup_s]; exact kp_put hk.2)⟩
  · obtain ⟨h1, h2⟩ := dp1_b hb hd
    match st, h1, h36, hk, K with
    | x :: y :: r, h1, h36, hk, K =>
      have h36 : r.length + 1 + 1 ≤ 36 := h36
      obtain ⟨_, _, _, _, _, _, b1, b2, b3, b4, b5⟩ := (show sBi t from hb)
      have hbb : sBi t := hb
      have e1 : nI (x :: y :: r).length + (-1) = nI (r.length + 1) := nI_up1
      rw [b5]
      refine cF b1 (cT b2 (cF b3 (cF b4 ⟨r.length, by rw [e1]; exact nI_dn1, by omega, r.length + 1, e1, by omega, usei (t_joined (sB_let hs hb)) ⟨r.length, by rw [e1]; exact nI_dn1, by omega, ?_⟩⟩)))
      rw [e1, nI_add]
      rw [ev1_bin hb] at K
      refine K _ (fun q hq => mup_n hq) ?_
      rw [mup_s, show MI 58 r.length = y from hk.2.1, show MI 58 (r.length + 1) = x from hk.1]
      exact kp_put hk.2.2
end W3
section W4
variable {D : Nat} {Q : Option Value → mI → mJ → Prop} {ML : mJ}
theorem dw_s : ∀ {ts : List Int32} {st : List Int32} {i N e : Nat} {MI : mI}, i + ts.length ≤ N → N ≤ 160 → (∀ j, j < ts.length → MI 53 (i + j) = mtk (ts.getD j 0)) → (∀ t ∈ ts, sgn t) → st.length ≤ 36 → dps 36 ts st.length = some e → kp (MI 58) st → (∀ M : mI, (∀ q, q ≠ 58 → M q = MI q) → kp (M 58) (evs (MI 59) ts st) → VX11_workedOut_5 (D + 1) Q (nI N) (nI (evs (MI 59) ts st).length) (nI (i + ts.length)) M ML) → VX11_workedOut_5 (D + 1) Q (nI N) (nI st.length) (nI i) MI ML
  | [], st, i, N, e, MI, _, _, _, _, _, _, hk, K => K MI (fun _ _ => rfl) hk
  | t :: ts, st, i, N, e, MI, hi, hN, ht, hs, h36, hd, hk, K => by
    obtain ⟨d', h1, h2, h3⟩ := dps_le hd h36 t ts rfl
    have hl := ev1_len (w := MI 59) (hs t List.mem_cons_self) h1
    simp only [List.length_cons] at hi K
    refine dw_1 (N := N) (by omega) hN (by simpa using ht 0 (by simp)) (hs t List.mem_cons_self) h1 h36 hk (fun M hM hk' => ?_)
    refine dw_s (ts := ts) (st := ev1 (MI 59) t st) (e := e) (by omega) hN (fun j hj => ?_) (fun t ht => hs t (List.mem_cons_of_mem _ ht)) (by omega) (by rw [hl]; exact h2) hk' (fun M' hM' hk2 => ?_)
    · rw [hM 53 (by decide), show i + 1 + j = i + (j + 1) by omega]
      simpa using ht (j + 1) (by simp; omega)
    · rw [hM 59 (by decide)] at hk2 ⊢
      rw [show i + 1 + ts.length = i + (ts.length + 1) by omega]
      exact K M' (fun q hq => (hM' q hq).trans (hM q hq)) hk2
theorem t_workedOut {ts : List Int32} {s : Nat} {MI : mI} (hE : EX ts) (hs : s + ts.length ≤ 160) (ht : ∀ j, j < ts.length → MI 53 (s + j) = mtk (ts.getD j 0)) : ∃ M, mrc (D + 2) 209 [.ref 46, .int (nI s), .int (nI (s + ts.length))] MI ML (some (.int ((evs (MI 59) ts []).headD 0))) M ML ∧ ∀ q, q ≠ 58 → M q = MI q := by
  suffices h : VX11_workedOut_0 (D + 1) (fun v M L => v = some (.int ((evs (MI 59) ts []).headD 0)) ∧ L = ML ∧ ∀ q, q ≠ 58 → M q = MI q) (nI s) (nI (s + ts.length)) MI ML by
    obtain ⟨v, M, L, ⟨rfl, rfl, hr⟩, h⟩ := EX11_workedOut h
    exact ⟨M, h, hr⟩
  refine BX11_workedOut_0 (dw_s (st := []) (ts := ts) (e := 1) (Nat.le_refl _) hs ht hE.2 (by simp) hE.1 True.intro (fun M hM hk => ?_))
  obtain ⟨x, hx⟩ := EX_len (w := MI 59) hE
  rw [hx] at hk ⊢
  refine BX11_workedOut_5 (cT (nI_le (Nat.le_refl _) (by omega)) ⟨?_, rfl, hM⟩)
  rw [show M 58 0 = x from hk.1]
  rfl
theorem t_ruled4 : ∀ {La : mLaw} {s j : Nat} {MI : mI}, wfL La → MI 46 17 = nI (j + La.length) → j + La.length ≤ 160 → s + (flM La).length ≤ 160 → (∀ i, i < (flM La).length → MI 53 (s + i) = mtk ((flM La).getD i 0)) → (∀ i, i < La.length → MI 56 (j + i) = nI ((asM La s).getD i 0) ∧ MI 57 (j + i) = nI ((enM La s).getD i 0)) → (∀ M : mI, (∀ q, q ≠ 58 → M q = MI q) → Q (some (.int (lwV (MI 59) La))) M ML) → VX11_ruled_4 (D + 2) Q (nI s) (nI j) MI ML
  | [], s, j, MI, _, hl, hj, _, _, _, K => BX11_ruled_4 (cT (by rw [hl]; exact nI_le (Nat.le_refl _) (by omega)) (K MI (fun _ _ => rfl)))
  | l :: r, s, j, MI, hw, hl, hj, hs, hc, ha, K => by
    have hll := hw l List.mem_cons_self
    have hwr : wfL r := fun l hl => hw l (List.mem_cons_of_mem _ hl)
    have hfl : flM (l :: r) = l.1 ++ (l.2 ++ flM r) := rfl
    rw [hfl] at hs hc
    simp only [List.length_append, List.length_cons] at hs hj hl hc
    have a0 := ha 0 (by simp)
    have e56 : MI 56 j = nI (s + l.1.length) := a0.1
    have e57 : MI 57 j = nI (s + l.1.length + l.2.length) := a0.2
    refine BX11_ruled_4 (cF (by rw [hl]; exact nI_ge (by omega) (by omega)) ⟨j, rfl, by omega, ?_⟩)
    rw [e56, nI_eq (by omega) (by omega)]
    have h36 : ∀ M : mI, (∀ q, q ≠ 58 → M q = MI q) → (l.1 = [] ∨ (evs (MI 59) l.1 []).headD 0 ≠ nI 0) → VX11_ruled_36 (D + 2) Q (nI j) M ML := by
      intro M hM hcnd
      refine BX11_ruled_36 ⟨j, rfl, by omega, j, rfl, by omega, ?_⟩
      rw [hM 56 (by decide), hM 57 (by decide), e56, e57]
      obtain ⟨M2, hm, hM2⟩ := t_workedOut (D := D) (ML := ML) (MI := M) (ts := l.2) (s := s + l.1.length) hll.2 (by omega) (fun i hi => by
        rw [hM 53 (by decide), show s + l.1.length + i = s + (l.1.length + i) by omega, hc _ (by omega), getD_app (by simp; omega), getD_app1 hi])
      refine usei hm ?_
      have := K M2 (fun q hq => (hM2 q hq).trans (hM q hq))
      rwa [lwV_1 hcnd, ← hM 59 (by decide)] at this
    by_cases h1 : l.1 = []
    · exact cT (by rw [h1]; rfl) (h36 MI (fun _ _ => rfl) (Or.inl h1))
    · have hE := hll.1.resolve_left h1
      have hp : l.1.length ≠ 0 := fun q => h1 (List.length_eq_zero_iff.mp q)
      refine cF (by omega) ⟨j, rfl, by omega, ?_⟩
      rw [e56]
      obtain ⟨M, hm, hM⟩ := t_workedOut (D := D) (ML := ML) (MI := MI) (ts := l.1) (s := s) hE (by omega) (fun i hi => by
        rw [hc _ (by omega), getD_app1 hi])
      refine usei hm (br (fun hx => ⟨j, rfl, by omega, ?_⟩) (fun hx => h36 M hM (Or.inr hx)))
      rw [hM 57 (by decide), e57, nI_add]
      refine t_ruled4 (La := r) hwr (by rw [hM 46 (by decide), hl]; congr 1; omega) (by omega) (by omega) (fun i hi => ?_) (fun i hi => ?_) (fun M2 hM2 => ?_)
      · rw [hM 53 (by decide), show s + l.1.length + l.2.length + i = s + (l.1.length + (l.2.length + i)) by omega, hc _ (by omega), getD_app (by simp; omega), getD_app hi]
      · rw [hM 56 (by decide), hM 57 (by decide), show j + 1 + i = j + (i + 1) by omega]
        have := ha (i + 1) (by simp; omega)
        simpa [asM, enM] using this
      · have := K M2 (fun q hq => (hM2 q hq).trans (hM q hq))
        rw [hM 59 (by decide)]
        rwa [lwV_0 (fun q => q.elim (fun q => h1 q) (fun q => q hx))] at this
theorem t_ruled {La : mLaw} {MI : mI} (hw : wfL La) (hL : LM La (MI 46 17) (MI 53) (MI 56) (MI 57)) : ∃ M, mrc (D + 3) 210 [.ref 46] MI ML (some (.int (lwV (MI 59) La))) M ML ∧ ∀ q, q ≠ 58 → M q = MI q := by
  obtain ⟨h1, h2, h3, h4, h5⟩ := hL
  suffices h : VX11_ruled_0 (D + 2) (fun v M L => v = some (.int (lwV (MI 59) La)) ∧ L = ML ∧ ∀ q, q ≠ 58 → M q = MI q) MI ML by
    obtain ⟨v, M, L, ⟨rfl, rfl, hr⟩, h⟩ := EX11_ruled h
    exact ⟨M, h, hr⟩
  refine BX11_ruled_0 (t_ruled4 (La := La) (s := 0) (j := 0) hw (by rw [Nat.zero_add]; exact h3) (by omega) (by omega) (fun i hi => by rw [Nat.zero_add]; exact h4 i hi) (fun i hi => by rw [Nat.zero_add]; exact h5 i hi) (fun M hM => ⟨rfl, rfl, hM⟩))
end W4
/-- the words' numbers for a buyer, a weigher, a friend by -/
def wds (f : Nat → Int32) (b fr w fed : Nat) : Nat → Int32 := fun i => if i = 0 then -(f (20 + w * 8 + b)) else if i = 1 then f (20 + fr * 8 + b) else if i = 2 then f b else if i = 3 then f (8 + b) else if i = 4 then f 19 else nI fed
section W5
variable {D : Nat} {ML : mJ}
theorem t_clamp {Q : Option Value → mI → mJ → Prop} {MI : mI} {v : Int32} (K : Q (some (.int (clp v))) MI ML) : VX11_weighedOut_115 D Q v MI ML := by
  refine BX11_weighedOut_115 (br (fun h1 => br (fun h2 => ?_) (fun h2 => ?_)) (fun h1 => ?_))
  · unfold clp at K
    rwa [if_neg (fun q => (fa_of_lt q).2.1 h1), if_neg (fun q => (fa_of_lt q).2.1 h2)] at K
  · unfold clp at K
    rwa [if_neg (fun q => (fa_of_lt q).2.1 h1), if_pos (fa_of_nle h2)] at K
  · unfold clp at K
    rwa [if_pos (fa_of_nle h1)] at K
theorem t_weighedOut {La : mLaw} {MI : mI} {b fr w fed : Nat} (hw : wfL La) (hL : LM La (MI 46 17) (MI 53) (MI 56) (MI 57)) (hb : b < 8) (hf : fr < 8) (hww : w < 8) : ∃ M, mrc (D + 4) 213 [.ref 46, .int (nI w), .int (nI b), .int (nI fr), .int (nI fed)] MI ML (some (.int (lwO (wds (MI 61) b fr w fed) La))) M ML ∧ ∀ q, q ≠ 58 → q ≠ 59 → M q = MI q := by
  suffices h : VX11_weighedOut_0 (D + 3) (fun v M L => v = some (.int (lwO (wds (MI 61) b fr w fed) La)) ∧ L = ML ∧ ∀ q, q ≠ 58 → q ≠ 59 → M q = MI q) (nI w) (nI b) (nI fr) (nI fed) MI ML by
    obtain ⟨v, M, L, ⟨rfl, rfl, hr⟩, h⟩ := EX11_weighedOut h
    exact ⟨M, h, hr⟩
  refine BX11_weighedOut_0 (usei t_felt ⟨20 + w * 8 + b, rfl, by omega, 8 + b, nI_add _ _, by omega, ?_⟩)
  have hl := hL.2.2.1
  rw [hl, nI_leI (by have := hL.1; omega) (by omega)]
  refine br (fun h => t_clamp ⟨?_, rfl, fun _ _ _ => rfl⟩) (fun h => ?_)
  · have : La = [] := List.length_eq_zero_iff.mp (by omega)
    unfold lwO
    rw [if_pos this]
    rfl
  · refine usei t_felt ⟨20 + fr * 8 + b, rfl, by omega, b, rfl, by omega, 8 + b, nI_add _ _, by omega, ?_⟩
    simp (disch := omega) only [mup_n, mup_s, mput_n, mput_s, mup_mup]
    have hne : ¬ La = [] := fun q => h (by rw [q]; exact Nat.le_refl _)
    generalize hN : mup MI 59 _ = N
    have hN9 : ∀ q, q ≠ 59 → N q = MI q := fun q hq => by rw [← hN]; exact mup_n hq
    obtain ⟨M, hm, hM⟩ := t_ruled (D := D) (ML := ML) (MI := N) (La := La) hw (by rw [hN9 46 (by decide), hN9 53 (by decide), hN9 56 (by decide), hN9 57 (by decide)]; exact hL)
    refine usei hm (t_clamp ⟨?_, rfl, fun q h8 h9 => (hM q h8).trans (hN9 q h9)⟩)
    have e : lwV (N 59) La = lwV (wds (MI 61) b fr w fed) La := by
      refine lwV_cong (fun i hi => ?_) hw
      rw [← hN, mup_s]
      rcases (show i = 0 ∨ i = 1 ∨ i = 2 ∨ i = 3 ∨ i = 4 ∨ i = 5 by omega) with rfl | rfl | rfl | rfl | rfl | rfl
      all_goals simp (disch := omega) only [mput_s, mput_n]; rfl
    unfold lwO
    rw [if_neg hne, e]
end W5
