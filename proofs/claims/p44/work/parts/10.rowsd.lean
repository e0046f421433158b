/-! copies, Math, Object(), static tables, the script, calls, ends, switches -/
theorem m_lo {G : mG} {own : String} {cc : ByteArray} {nL : Nat} {ret : Option FieldType} {nm : String} {D : Nat} {p : Program} {R : Room} {s : State} {m : MethodId} {args : Array Value} {meth : Method} {c : Code} {n0 : Nat} (hC : mCx G own cc nL ret nm D p R s m args meth c n0) : 40 ≤ R.locals ∧ 1 ≤ R.frames := ⟨by have := hC.lo; omega, by have := hC.fr; omega⟩
theorem m_mcat {G : mG} {r : mK} (h : Nat.ble (mcat r) 8 = true) : ((r.map (mtr G)).map fun v => v.category).sum ≤ 8 := by
  rw [mcat_eq, mtr_mcat]
  exact Nat.le_of_ble_eq_true h
section KD
variable {l : Launch} {G : mG} {own : String} {cc : ByteArray} {nL : Nat} {ret : Option FieldType} {nm : String} {pc nx : Nat}
theorem k_cpi {ix : Nat} (w1 : Cond.methodLink own ix arraycopyName ∈ mtbl) (w2 : Cond.native arraycopyName ∈ mtbl) (w3 : Cond.static arraycopyName ∈ mtbl) (w4 : Cond.initialized "java/lang/System" ∈ mtbl) (hdg : decode cc pc = .ok (.invokestatic ix, 3)) (hn : pc + 3 = nx) : mOk l G own cc nL ret nm pc (o_cpi nx) := by
  intro D p e R s m args below meth c n0 w0 Q hC L st S r hr
  obtain ⟨w, Sh, MI, ML⟩ := S
  simp only [o_cpi] at hr
  split at hr
  rotate_left
  · cases hr
  obtain ⟨t, g1, g2⟩ := mnth_spec hr
  split at g2
  rotate_left
  · cases g2
  obtain ⟨u, f1, f2⟩ := mnth_spec g2
  split at f2
  rotate_left
  · cases f2
  split at f2
  · cases f2
  next hz =>
  obtain ⟨e1, e2⟩ := m_cond f2
  cases e2
  subst hn
  simp only [not_or, Nat.not_lt] at hz
  obtain ⟨z1, z2, z3, z4, z5⟩ := hz
  refine And.intro (Nat.le_refl _) (And.intro (Nat.le_refl _) (fun _ _ kk => ?_)); intro H locs ls cells slots h1 h2 hP hS hL
  have q8 := m_mcat (G := G) e1
  have qR := m_lo hC
  refine va_copyi hC.1 hC.2.1 (hC.2.2.1.trans hL.2.1.symm) hC.ow (hC.hts _ w1) (hC.hts _ w2) (hC.hts _ w3) (hC.hts _ w4) hC.hK hP mws_D hS _ _ 0 0 (mws_i g1) (mws_i f1) rfl rfl rfl z1 z2 z3 z4 z5 (fun _ _ => rfl) qR.2 (by rw [show nativeFrameWords "java/lang/System" "arraycopy" 5 = 7 from by decide +kernel]; omega) hdg (fun H1 locs1 hP1 _ hS1 => ?_)
  exact kk H1 locs1 ls cells slots h1 h2 ((congrArg (fun ws => va_P G.2.2.1 vwCl ws H1) (mws_arI f1)).mp hP1) hS1 hL
theorem k_cpj {ix : Nat} (w1 : Cond.methodLink own ix arraycopyName ∈ mtbl) (w2 : Cond.native arraycopyName ∈ mtbl) (w3 : Cond.static arraycopyName ∈ mtbl) (w4 : Cond.initialized "java/lang/System" ∈ mtbl) (hdg : decode cc pc = .ok (.invokestatic ix, 3)) (hn : pc + 3 = nx) : mOk l G own cc nL ret nm pc (o_cpj nx) := by
  intro D p e R s m args below meth c n0 w0 Q hC L st S r hr
  obtain ⟨w, Sh, MI, ML⟩ := S
  simp only [o_cpj] at hr
  split at hr
  rotate_left
  · cases hr
  obtain ⟨t, g1, g2⟩ := mnth_spec hr
  split at g2
  rotate_left
  · cases g2
  obtain ⟨u, f1, f2⟩ := mnth_spec g2
  split at f2
  rotate_left
  · cases f2
  split at f2
  · cases f2
  next hz =>
  obtain ⟨e1, e2⟩ := m_cond f2
  cases e2
  subst hn
  simp only [not_or, Nat.not_lt] at hz
  obtain ⟨z1, z2, z3, z4, z5⟩ := hz
  refine And.intro (Nat.le_refl _) (And.intro (Nat.le_refl _) (fun _ _ kk => ?_)); intro H locs ls cells slots h1 h2 hP hS hL
  have q8 := m_mcat (G := G) e1
  have qR := m_lo hC
  refine va_copyl hC.1 hC.2.1 (hC.2.2.1.trans hL.2.1.symm) hC.ow (hC.hts _ w1) (hC.hts _ w2) (hC.hts _ w3) (hC.hts _ w4) hC.hK hP mws_D hS _ _ 1 1 (mws_j g1) (mws_j f1) rfl rfl rfl z1 z2 z3 z4 z5 (fun _ _ => rfl) qR.2 (by rw [show nativeFrameWords "java/lang/System" "arraycopy" 5 = 7 from by decide +kernel]; omega) hdg (fun H1 locs1 hP1 _ hS1 => ?_)
  exact kk H1 locs1 ls cells slots h1 h2 ((congrArg (fun ws => va_P G.2.2.1 vwCl ws H1) (mws_arJ f1)).mp hP1) hS1 hL
theorem k_max {ix : Nat} (w1 : Cond.methodLink own ix Lib.Math.max.name ∈ mtbl) (w2 : Cond.static Lib.Math.max.name ∈ mtbl) (w3 : Cond.initialized "java/lang/Math" ∈ mtbl) (w4 : Cond.code Lib.Math.max.name Lib.Math.max.code 2 (some .int) ∈ mtbl) (hdg : decode cc pc = .ok (.invokestatic ix, 3)) (hn : pc + 3 = nx) : mOk l G own cc nL ret nm pc (o_max nx) := by
  intro D p e R s m args below meth c n0 w0 Q hC L st S r hr
  simp only [o_max] at hr
  split at hr
  rotate_left
  · cases hr
  obtain ⟨e1, e2⟩ := m_cond hr
  cases e2
  subst hn
  refine And.intro (Nat.le_refl _) (And.intro (Nat.le_refl _) (fun a1 a2 kk => ?_)); intro H locs ls cells slots h1 h2 hP hS hL
  have q8 := m_mcat (G := G) e1
  have qR := m_lo hC
  exact va_mmax hC.1 hC.2.1 (hC.2.2.1.trans hL.2.1.symm) hC.ow (hC.hts _ w1) (hC.hts _ w2) (hC.hts _ w3) (hC.hts _ w4) qR.2 (by omega) (by omega) (by omega) hdg (kk H locs ls cells slots h1 h2 hP hS hL)
theorem k_min {ix : Nat} (w1 : Cond.methodLink own ix Lib.Math.min.name ∈ mtbl) (w2 : Cond.static Lib.Math.min.name ∈ mtbl) (w3 : Cond.initialized "java/lang/Math" ∈ mtbl) (w4 : Cond.code Lib.Math.min.name Lib.Math.min.code 2 (some .int) ∈ mtbl) (hdg : decode cc pc = .ok (.invokestatic ix, 3)) (hn : pc + 3 = nx) : mOk l G own cc nL ret nm pc (o_min nx) := by
  intro D p e R s m args below meth c n0 w0 Q hC L st S r hr
  simp only [o_min] at hr
  split at hr
  rotate_left
  · cases hr
  obtain ⟨e1, e2⟩ := m_cond hr
  cases e2
  subst hn
  refine And.intro (Nat.le_refl _) (And.intro (Nat.le_refl _) (fun a1 a2 kk => ?_)); intro H locs ls cells slots h1 h2 hP hS hL
  have q8 := m_mcat (G := G) e1
  have qR := m_lo hC
  exact va_mmin hC.1 hC.2.1 (hC.2.2.1.trans hL.2.1.symm) hC.ow (hC.hts _ w1) (hC.hts _ w2) (hC.hts _ w3) (hC.hts _ w4) qR.2 (by omega) (by omega) (by omega) hdg (kk H locs ls cells slots h1 h2 hP hS hL)
theorem k_oi {ix : Nat} (w1 : Cond.methodLink own ix Lib.objectInit ∈ mtbl) (w2 : Cond.instanceMethod Lib.objectInit ∈ mtbl) (w3 : Cond.code Lib.objectInit ⟨#[0xb1]⟩ 1 none ∈ mtbl) (hdg : decode cc pc = .ok (.invokespecial ix, 3)) (hn : pc + 3 = nx) : mOk l G own cc nL ret nm pc (o_oi nx) := by
  intro D p e R s m args below meth c n0 w0 Q hC L st S r hr
  simp only [o_oi] at hr
  split at hr
  rotate_left
  · cases hr
  obtain ⟨e1, e2⟩ := m_cond hr
  cases e2
  subst hn
  refine And.intro (Nat.le_refl _) (And.intro (Nat.le_refl _) (fun a1 a2 kk => ?_)); intro H locs ls cells slots h1 h2 hP hS hL
  have q8 := m_mcat (G := G) e1
  have qR := m_lo hC
  exact W.objInit (g := F0 m pc ls (.ref _ :: List.map (mtr G) _)) hC.1 hC.2.1 hC.ow (hC.hts _ w1) (hC.hts _ w2) (hC.hts _ w3) rfl (hL.2.1.trans hC.2.2.1.symm) rfl hdg qR.2 (by show 2 * 0 + _ + 12 ≤ _; omega) (kk H locs ls cells slots h1 h2 hP hS hL)
theorem k_spS {ix jn : Nat} {j : UInt32} {C n d : String} (hj : j.toNat = jn) (hz : ∀ s, mSF G s → va_Z C n d (.ref (G.1.2 jn)) (mA G) s s.heap) (hw : Cond.fieldLink own ix C n d ∈ mtbl) (hdg : decode cc pc = .ok (.getstatic ix, 3)) (hn : pc + 3 = nx) : mOk l G own cc nL ret nm pc (o_sp j nx) := by
  intro D p e R s m args below meth c n0 w0 Q hC L st S r hr
  cases hr
  subst hn
  subst hj
  refine And.intro (Nat.le_refl _) (And.intro (Nat.le_refl _) (fun a1 a2 kk => ?_)); intro H locs ls cells slots h1 h2 hP hS hL
  exact va_gets hC.1 hC.2.1 (hz s hC.sf) hS hC.ow (hC.hts _ hw) (fun _ h => h) hdg (kk H locs ls cells slots h1 h2 hP hS hL)
theorem k_tl {jn N : Nat} {j : UInt32} {f : Nat → Int32} (hj : j.toNat = jn) (hz : ∀ s, mSF G s → va_T .int (G.1.2 jn) N (fun q => .int (f q)) (mA G) s s.heap) (hdg : decode cc pc = .ok (.iaload, 1)) (hn : pc + 1 = nx) : mOk l G own cc nL ret nm pc (o_tl j N f nx) := by
  intro D p e R s m args below meth c n0 w0 Q hC L st S r hr
  simp only [o_tl] at hr
  split at hr
  rotate_left
  · cases hr
  split at hr
  rotate_left
  · cases hr
  next hq =>
  subst hq
  split at hr
  · cases hr
  next hi =>
  cases hr
  subst hn
  subst hj
  refine And.intro (Nat.le_refl _) (And.intro (Nat.le_refl _) (fun a1 a2 kk => ?_)); intro H locs ls cells slots h1 h2 hP hS hL
  exact va_ti hC.1 hC.2.1 (hz s hC.sf) hS hi rfl hdg (kk H locs ls cells slots h1 h2 hP hS hL)
theorem k_tlen {jn N : Nat} {j : UInt32} {f : Nat → Int32} (hj : j.toNat = jn) (hz : ∀ s, mSF G s → va_T .int (G.1.2 jn) N (fun q => .int (f q)) (mA G) s s.heap) (hdg : decode cc pc = .ok (.arraylength, 1)) (hn : pc + 1 = nx) : mOk l G own cc nL ret nm pc (o_tlen j N nx) := by
  intro D p e R s m args below meth c n0 w0 Q hC L st S r hr
  simp only [o_tlen] at hr
  split at hr
  rotate_left
  · cases hr
  split at hr
  rotate_left
  · cases hr
  next hq =>
  subst hq
  cases hr
  subst hn
  subst hj
  refine And.intro (Nat.le_refl _) (And.intro (Nat.le_refl _) (fun a1 a2 kk => ?_)); intro H locs ls cells slots h1 h2 hP hS hL
  exact va_tlen hC.1 hC.2.1 (hz s hC.sf) hS rfl hdg (kk H locs ls cells slots h1 h2 hP hS hL)
theorem k_sld (hdg : decode cc pc = .ok (.iaload, 1)) (hn : pc + 1 = nx) : mOk l G own cc nL ret nm pc (o_tl 0 G.2.2.2.1 G.2.2.2.2 nx) := by
  intro D p e R s m args below meth c n0 w0 Q hC L st S r hr
  simp only [o_tl] at hr
  split at hr
  rotate_left
  · cases hr
  split at hr
  rotate_left
  · cases hr
  next hq =>
  subst hq
  split at hr
  · cases hr
  next hi =>
  cases hr
  subst hn
  refine And.intro (Nat.le_refl _) (And.intro (Nat.le_refl _) (fun a1 a2 kk => ?_)); intro H locs ls cells slots h1 h2 hP hS hL
  have hz := hC.sf.1
  have hs := hC.sz
  exact va_sld (b := G.1.2 0) (A := mA G) hC.1 hC.2.1 hz.1 (by omega) (fun z => by have z : G.1.1 ≤ _ := z; omega) hS hi hdg (kk H locs ls cells slots h1 h2 hP hS hL)
theorem k_slen (hdg : decode cc pc = .ok (.arraylength, 1)) (hn : pc + 1 = nx) : mOk l G own cc nL ret nm pc (o_tlen 0 G.2.2.2.1 nx) := by
  intro D p e R s m args below meth c n0 w0 Q hC L st S r hr
  simp only [o_tlen] at hr
  split at hr
  rotate_left
  · cases hr
  split at hr
  rotate_left
  · cases hr
  next hq =>
  subst hq
  cases hr
  subst hn
  refine And.intro (Nat.le_refl _) (And.intro (Nat.le_refl _) (fun a1 a2 kk => ?_)); intro H locs ls cells slots h1 h2 hP hS hL
  have hz := hC.sf.1
  have hs := hC.sz
  exact va_slen (b := G.1.2 0) (A := mA G) hC.1 hC.2.1 hz.1 (by omega) (fun z => by have z : G.1.1 ≤ _ := z; omega) hS hdg (kk H locs ls cells slots h1 h2 hP hS hL)
theorem k_ri (hret : ret = some .int) (hdg : decode cc pc = .ok (.ireturn, 1)) : mOk l G own cc nL ret nm pc o_ri := by
  intro D p e R s m args below meth c n0 w0 Q hC L st S r hr
  simp only [o_ri] at hr
  split at hr
  · cases hr
    exact And.intro rfl (Or.inl ⟨_, .int, rfl, rfl, hret, rfl, hdg⟩)
  · cases hr
theorem k_rz (hret : ret = some .boolean) (hdg : decode cc pc = .ok (.ireturn, 1)) : mOk l G own cc nL ret nm pc o_rz := by
  intro D p e R s m args below meth c n0 w0 Q hC L st S r hr
  simp only [o_rz] at hr
  split at hr
  · split at hr
    · next hz =>
      cases hr
      exact And.intro rfl (Or.inl ⟨_, .boolean, rfl, rfl, hret, by rcases hz with rfl | rfl <;> rfl, hdg⟩)
    · cases hr
  · cases hr
theorem k_rl (hret : ret = some .long) (hdg : decode cc pc = .ok (.lreturn, 1)) : mOk l G own cc nL ret nm pc o_rl := by
  intro D p e R s m args below meth c n0 w0 Q hC L st S r hr
  simp only [o_rl] at hr
  split at hr
  · cases hr
    exact And.intro rfl (Or.inr (Or.inr (Or.inl ⟨_, rfl, rfl, hret, hdg⟩)))
  · cases hr
theorem k_rv (hret : ret = none) (hdg : decode cc pc = .ok (.return_, 1)) : mOk l G own cc nL ret nm pc o_rv := by
  intro D p e R s m args below meth c n0 w0 Q hC L st S r hr
  simp only [o_rv] at hr
  split at hr
  · cases hr
    exact And.intro rfl (Or.inr (Or.inl ⟨rfl, rfl, hret, hdg⟩))
  · cases hr
theorem k_ra {n : String} (hret : ret = some (.object n)) (hdg : decode cc pc = .ok (.areturn, 1)) : mOk l G own cc nL ret nm pc o_raF := by
  intro D p e R s m args below meth c n0 w0 Q hC L st S r hr
  simp only [o_raF] at hr
  split at hr
  · cases hr
    exact And.intro rfl (Or.inr (Or.inr (Or.inr (Or.inl ⟨_, n, rfl, rfl, hret, hdg⟩))))
  · cases hr
theorem k_raA (hret : ret = some (.array .int)) (hdg : decode cc pc = .ok (.areturn, 1)) : mOk l G own cc nL ret nm pc o_raR := by
  intro D p e R s m args below meth c n0 w0 Q hC L st S r hr
  simp only [o_raR] at hr
  split at hr
  · cases hr
    exact And.intro rfl (Or.inr (Or.inr (Or.inr (Or.inr ⟨_, rfl, rfl, hret, hdg⟩))))
  · cases hr
theorem k_no : mOk l G own cc nL ret nm pc o_no := by
  intro D p e R s m args below meth c n0 w0 Q hC L st S r hr
  cases hr
theorem m_sw {x : Int32} {d : Nat} {k : Nat → Option mR} {r : mR} : ∀ {ps : List (Int32 × Nat)}, msw x d k ps = some r → (∃ q ∈ ps, x = q.1 ∧ k q.2 = some r) ∨ ((∀ q ∈ ps, ¬ x = q.1) ∧ k d = some r)
  | [], h => Or.inr ⟨fun q hq => (by cases hq), h⟩
  | q :: t, h => by
    unfold msw at h
    split at h
    · next hx => exact Or.inl ⟨q, List.mem_cons_self, hx, h⟩
    · next hx =>
      rcases m_sw h with ⟨q2, h1, h2, h3⟩ | ⟨h1, h2⟩
      · exact Or.inl ⟨q2, List.mem_cons_of_mem _ h1, h2, h3⟩
      · refine Or.inr ⟨fun q2 h3 => ?_, h2⟩
        rcases List.mem_cons.mp h3 with rfl | h3
        · exact hx
        · exact h1 q2 h3
theorem k_swt {ps : List (Int32 × Nat)} {d : Nat} {dflt lo hi : Int} {offs : Array Int} {len : Nat} (hdg : decode cc pc = .ok (.tableswitch dflt lo hi offs, len))
    (hp : ∀ q ∈ ps, ¬ q.1.toInt < lo ∧ ¬ hi < q.1.toInt ∧ offs[(q.1.toInt - lo).toNat]? = some ((q.2 : Int) - pc)) (hd : (pc : Int) + dflt = d) (hall : ∀ j : Nat, j < (hi - lo + 1).toNat → ∃ q ∈ ps, q.1.toInt = lo + j) : mOk l G own cc nL ret nm pc (o_sw ps d) := by
  intro D p e R s m args below meth c n0 w0 Q hC L st S r hr
  simp only [o_sw] at hr
  split at hr
  rotate_left
  · cases hr
  rcases m_sw hr with ⟨q, h1, h2, h3⟩ | ⟨h1, h3⟩
  · cases h3
    obtain ⟨g1, g2, g3⟩ := hp q h1
    refine And.intro (Nat.le_refl _) (And.intro (Nat.le_refl _) (fun a1 a2 kk => ?_)); intro H locs ls cells slots z1 z2 hP hS hL
    exact lv_tableIn hC.1 hC.2.1 hdg (by rw [h2]; exact g1) (by rw [h2]; exact g2) (by rw [h2]; exact g3) (by omega) (kk H locs ls cells slots z1 z2 hP hS hL)
  · cases h3
    next x rest =>
    refine And.intro (Nat.le_refl _) (And.intro (Nat.le_refl _) (fun a1 a2 kk => ?_)); intro H locs ls cells slots z1 z2 hP hS hL
    refine lv_tableOut hC.1 hC.2.1 hdg ?_ hd (kk H locs ls cells slots z1 z2 hP hS hL)
    by_cases hlo : x.toInt < lo
    · exact Or.inl hlo
    by_cases hhi : hi < x.toInt
    · exact Or.inr hhi
    exfalso
    obtain ⟨q, hq, he⟩ := hall (x.toInt - lo).toNat (by omega)
    exact h1 q hq (Int32.toInt_inj.mp (by rw [he]; omega))
theorem m_look {d : Int} {x : Int32} : ∀ {prs : List (Int × Int)} {ps : List (Int32 × Nat)} {dd pcc : Nat}, (prs.map (fun q => (q.1, (pcc : Int) + q.2)) = ps.map (fun q => (q.1.toInt, (q.2 : Int)))) → (pcc : Int) + d = dd → (∃ q ∈ ps, x = q.1 ∧ (pcc : Int) + Op.lookupswitch.offset prs d x.toInt = q.2 ∧ msw x dd (fun t => some (.inl (t, [], [], (0, [], fun _ _ => 0, fun _ _ => 0)))) ps = some (.inl (q.2, [], [], (0, [], fun _ _ => 0, fun _ _ => 0)))) ∨ ((∀ q ∈ ps, ¬ x = q.1) ∧ (pcc : Int) + Op.lookupswitch.offset prs d x.toInt = dd)
  | [], [], dd, pcc, _, h => Or.inr ⟨fun q hq => (by cases hq), by rw [Op.lookupswitch.offset_nil]; exact h⟩
  | [], q :: t, dd, pcc, h, _ => by simp at h
  | a :: r, [], dd, pcc, h, _ => by simp at h
  | (a, o) :: r, (k, t) :: ps, dd, pcc, h, h2 => by
    simp only [List.map_cons, List.cons.injEq, Prod.mk.injEq] at h
    obtain ⟨⟨h3, h4⟩, h5⟩ := h
    by_cases hx : x = k
    · refine Or.inl ⟨(k, t), List.mem_cons_self, hx, ?_, ?_⟩
      · rw [Op.lookupswitch.offset_cons, if_pos (by rw [hx, h3]), h4]
      · unfold msw; rw [if_pos hx]
    · rw [lv_osw hx h3.symm]
      rcases m_look (prs := r) (ps := ps) (x := x) h5 h2 with ⟨q, g1, g2, g3, g4⟩ | ⟨g1, g2⟩
      · refine Or.inl ⟨q, List.mem_cons_of_mem _ g1, g2, g3, ?_⟩
        unfold msw; rw [if_neg hx]; exact g4
      · refine Or.inr ⟨fun q hq => ?_, g2⟩
        rcases List.mem_cons.mp hq with rfl | hq
        · exact hx
        · exact g1 q hq
theorem k_swl {ps : List (Int32 × Nat)} {d : Nat} {dflt : Int} {prs : Array (Int × Int)} {len : Nat} (hdg : decode cc pc = .ok (.lookupswitch dflt prs, len)) (ho : (prs.toList.zip (prs.toList.drop 1)).all (fun (a, next) => a.1 < next.1) = true)
    (hp : prs.toList.map (fun q => (q.1, (pc : Int) + q.2)) = ps.map (fun q => (q.1.toInt, (q.2 : Int)))) (hd : (pc : Int) + dflt = d) (hinj : ∀ q ∈ ps, ∀ q2 ∈ ps, q.1 = q2.1 → q = q2) : mOk l G own cc nL ret nm pc (o_sw ps d) := by
  intro D p e R s m args below meth c n0 w0 Q hC L st S r hr
  simp only [o_sw] at hr
  split at hr
  rotate_left
  · cases hr
  next x rest =>
  rcases m_sw hr with ⟨q, h1, h2, h3⟩ | ⟨h1, h3⟩
  · cases h3
    refine And.intro (Nat.le_refl _) (And.intro (Nat.le_refl _) (fun a1 a2 kk => ?_)); intro H locs ls cells slots z1 z2 hP hS hL
    refine lv_lookup hC.1 hC.2.1 hdg ho rfl ?_ (kk H locs ls cells slots z1 z2 hP hS hL)
    rcases m_look (x := x) hp hd with ⟨q2, g1, g2, g3, -⟩ | ⟨g1, -⟩
    · rw [g3, hinj q h1 q2 g1 (h2.symm.trans g2)]
    · exact absurd h2 (g1 q h1)
  · cases h3
    refine And.intro (Nat.le_refl _) (And.intro (Nat.le_refl _) (fun a1 a2 kk => ?_)); intro H locs ls cells slots z1 z2 hP hS hL
    refine lv_lookup hC.1 hC.2.1 hdg ho rfl ?_ (kk H locs ls cells slots z1 z2 hP hS hL)
    rcases m_look (x := x) hp hd with ⟨q2, g1, g2, g3, -⟩ | ⟨-, g2⟩
    · exact absurd g2 (h1 q2 g1)
    · exact g2
end KD
