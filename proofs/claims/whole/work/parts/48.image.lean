/-! image, back, people of a shelf: pairs -/
def cpF (f g : Nat → Int32) (i : Nat) : Nat → Int32 := fun p => if p < i then f p else g p
theorem cpF_0 (f g : Nat → Int32) : cpF f g 0 = g := funext fun p => if_neg (Nat.not_lt_zero p)
theorem cpF_s (f g : Nat → Int32) (i : Nat) : mput (cpF f g i) i (f i) = cpF f g (i + 1) := by
  funext p
  unfold mput cpF
  by_cases h : p = i
  · subst h; rw [if_pos rfl, if_pos (by omega)]
  · rw [if_neg h]
    by_cases q : p < i
    · rw [if_pos q, if_pos (by omega)]
    · rw [if_neg q, if_neg (by omega)]
theorem cpy_cp (f g : Nat → Int32) (n : Nat) : va_cpy f g 0 0 n = cpF f g n := by
  funext p
  unfold va_cpy cpF
  by_cases q : p < n
  · rw [if_pos (by omega), if_pos q]; congr 1; omega
  · rw [if_neg (by omega), if_neg q]
theorem cpF_Z {f g : Nat → Int32} (hf : Z84 f) (hg : Z84 g) : cpF f g 84 = f := by
  funext p
  unfold cpF
  split
  · rfl
  · rw [hg p (by omega), hf p (by omega)]
section P8
variable {D d n m : Nat} {MI : mI} {ML : mJ} {x y z : Int32}
theorem t_image10 {Q : Option Value → mI → mJ → Prop} (hQ : VX11_image_36 D Q (nI 0) (mup MI 72 (cpF (MI 47) (MI 72) 84)) ML) : VX11_image_10 D Q (nI 0) MI ML := by
  suffices g : VX11_image_10 D Q (nI 0) (mup MI 72 (cpF (MI 47) (MI 72) 0)) ML by rwa [cpF_0, mup_id] at g
  refine up (P := fun i => VX11_image_10 D Q (nI i) (mup MI 72 (cpF (MI 47) (MI 72) i)) ML) 84 (by decide) ?_ ?_
  · exact BX11_image_10 (cT (by decide) hQ)
  · intro i _ hi ih
    refine BX11_image_10 (cF (nI_ge hi (by omega)) ⟨i, rfl, hi, i, rfl, hi, ?_⟩)
    rw [mup_s, mup_mup, mup_n (by decide), cpF_s, nI_add]
    exact ih
theorem t_image36 {Q : Option Value → mI → mJ → Prop} (hQ : Q (some (.int (MI 70 0))) (mup MI 73 (cpF (MI 70) (MI 73) 6)) ML) : VX11_image_36 D Q (nI 0) MI ML := by
  suffices g : VX11_image_36 D Q (nI 0) (mup MI 73 (cpF (MI 70) (MI 73) 0)) ML by rwa [cpF_0, mup_id] at g
  refine up (P := fun i => VX11_image_36 D Q (nI i) (mup MI 73 (cpF (MI 70) (MI 73) i)) ML) 6 (by decide) ?_ ?_
  · refine BX11_image_36 (cT (by decide) ?_)
    rw [mup_n (by decide)]
    exact hQ
  · intro i _ hi ih
    refine BX11_image_36 (cF (nI_ge hi (by omega)) ⟨i, rfl, hi, i, rfl, hi, ?_⟩)
    rw [mup_s, mup_mup, mup_n (by decide), cpF_s, nI_add]
    exact ih
theorem p_image : Sim 164 247 [] := by
  intro MI ML hI
  obtain ⟨n, hIn⟩ := hI.1
  obtain ⟨h8, hn, hm, hM, hP, z1, z2, z3, z4⟩ := hIn
  obtain ⟨b1, b2⟩ := hI.2.2.2.2.2.2.1
  have kx : mrc 299 35 [.ref 33, .ref 1] MI ML none (mup (mup (mup (mup MI 36 (mput (MI 36) 0 (MI 1 0))) 37 (MI 2)) 38 (cpF (MI 34) (MI 38) 6)) 33 (mput (MI 33) 5 (nI 1))) ML := by
    have k := s_keepImage (D := 297) (MI := MI) (ML := ML)
    rwa [cpy_cp, cpy_cp, cpF_Z hP.2 z2] at k
  refine ⟨(MI 34 0), mup (mup (mup (mup MI 36 (mput (MI 36) 0 (MI 1 0))) 37 (MI 2)) 38 (cpF (MI 34) (MI 38) 6)) 33 (mput (MI 33) 5 (nI 1)), ML, mup (mup (mup (mup (mup (mup (mup MI 36 (mput (MI 36) 0 (MI 1 0))) 37 (MI 2)) 38 (cpF (MI 34) (MI 38) 6)) 33 (mput (MI 33) 5 (nI 1))) 46 (mput (MI 46) 40 (nI n))) 72 (MI 2)) 73 (cpF (MI 70) (MI 73) 6), ML, mrc_of (EX10_image (BX10_image_0 (usev kx (usei (s_told (by decide)) (iR (by simp (disch := omega) only [mup_n, mup_s, mput_n, mput_s, mup_mup]) rfl))))), mrc_of (EX11_image (BX11_image_0 (t_image10 (t_image36 ?_)))), ?_⟩
  · simp (disch := omega) only [mup_n, mup_s, mput_n, mput_s, mup_mup]
    rw [hM, hm, cpF_Z hP.2 z4]
    exact iR (b1 0 (by decide)) rfl
  · refine ⟨⟨n, h8, by simp (disch := omega) only [mup_n, mup_s, mput_n, mput_s, mup_mup]; exact hn, by simp (disch := omega) only [mup_n, mup_s, mput_n, mput_s, mup_mup]; exact hm, by simp (disch := omega) only [mup_n, mup_s, mput_n, mput_s, mup_mup]; exact hM, by simp (disch := omega) only [mup_n, mup_s, mput_n, mput_s, mup_mup]; exact hP, by simp (disch := omega) only [mup_n, mup_s, mput_n, mput_s, mup_mup]; exact z1, by simp (disch := omega) only [mup_n, mup_s, mput_n, mput_s, mup_mup]; exact hP.2, by simp (disch := omega) only [mup_n, mup_s, mput_n, mput_s, mup_mup]; exact z3, by simp (disch := omega) only [mup_n, mup_s, mput_n, mput_s, mup_mup]; exact hP.2⟩, (Ic_c (by first | rfl | simp (disch := omega) only [mup_n, mup_s, mput_n]) (by first | rfl | simp (disch := omega) only [mup_n, mup_s, mput_n]) (by first | rfl | simp (disch := omega) only [mup_n, mup_s, mput_n]) (by first | rfl | simp (disch := omega) only [mup_n, mup_s, mput_n]) (by first | rfl | simp (disch := omega) only [mup_n, mup_s, mput_n]) (by first | rfl | simp (disch := omega) only [mup_n, mup_s, mput_n]) (by first | rfl | simp (disch := omega) only [mup_n, mup_s, mput_n]) (by first | rfl | simp (disch := omega) only [mup_n, mup_s, mput_n]) (by first | rfl | simp (disch := omega) only [mup_n, mup_s, mput_n]) (by first | rfl | simp (disch := omega) only [mup_n, mup_s, mput_n]) hI.2.1), (It_c (by first | rfl | simp (disch := omega) only [mup_n, mup_s, mput_n]) (by first | rfl | simp (disch := omega) only [mup_n, mup_s, mput_n]) (by first | rfl | simp (disch := omega) only [mup_n, mup_s, mput_n]) (by first | rfl | simp (disch := omega) only [mup_n, mup_s, mput_n]) hI.2.2.1), (Il_c (by first | rfl | simp (disch := omega) only [mup_n, mup_s, mput_n]) (by first | rfl | simp (disch := omega) only [mup_n, mup_s, mput_n]) (by first | rfl | simp (disch := omega) only [mup_n, mup_s, mput_n]) (by first | rfl | simp (disch := omega) only [mup_n, mup_s, mput_n]) (by first | rfl | simp (disch := omega) only [mup_n, mup_s, mput_n]) (by first | rfl | simp (disch := omega) only [mup_n, mup_s, mput_n]) hI.2.2.2.1), (Is_c (by first | rfl | simp (disch := omega) only [mup_n, mup_s, mput_n]) (by first | rfl | simp (disch := omega) only [mup_n, mup_s, mput_n]) (by first | rfl | simp (disch := omega) only [mup_n, mup_s, mput_n]) (by first | rfl | simp (disch := omega) only [mup_n, mup_s, mput_n]) (by first | rfl | simp (disch := omega) only [mup_n, mup_s, mput_n]) (by first | rfl | simp (disch := omega) only [mup_n, mup_s, mput_n]) (by first | rfl | simp (disch := omega) only [mup_n, mup_s, mput_n]) (by first | rfl | simp (disch := omega) only [mup_n, mup_s, mput_n]) (by first | rfl | simp (disch := omega) only [mup_n, mup_s, mput_n]) (by first | rfl | simp (disch := omega) only [mup_n, mup_s, mput_n]) (by first | rfl | simp (disch := omega) only [mup_n, mup_s, mput_n]) hI.2.2.2.2.1), (Ir_c (by first | rfl | simp (disch := omega) only [mup_n, mup_s, mput_n]) (by first | rfl | simp (disch := omega) only [mup_n, mup_s, mput_n]) (by first | rfl | simp (disch := omega) only [mup_n, mup_s, mput_n]) (by first | rfl | simp (disch := omega) only [mup_n, mup_s, mput_n]) (by first | rfl | simp (disch := omega) only [mup_n, mup_s, mput_n]) hI.2.2.2.2.2.1), (Ib_c (by first | rfl | simp (disch := omega) only [mup_n, mup_s, mput_n]) (by first | rfl | simp (disch := omega) only [mup_n, mup_s, mput_n]) (by first | rfl | simp (disch := omega) only [mup_n, mup_s, mput_n]) (by first | rfl | simp (disch := omega) only [mup_n, mup_s, mput_n]) (by first | rfl | simp (disch := omega) only [mup_n, mup_s, mput_n]) (by first | rfl | simp (disch := omega) only [mup_n, mup_s, mput_n]) hI.2.2.2.2.2.2.1), Or.inr ⟨by simp (disch := omega) only [mup_n, mup_s, mput_n, mput_s, mup_mup], n, h8, by simp (disch := omega) only [mup_n, mup_s, mput_n, mput_s, mup_mup]; exact hn, by simp (disch := omega) only [mup_n, mup_s, mput_n, mput_s, mup_mup], by simp (disch := omega) only [mup_n, mup_s, mput_n, mput_s, mup_mup], by simp (disch := omega) only [mup_n, mup_s, mput_n, mput_s, mup_mup]; exact hP, ?_⟩, (Iw_c (by first | rfl | simp (disch := omega) only [mup_n, mup_s, mput_n]) hI.2.2.2.2.2.2.2.2)⟩
    intro j hj
    simp (disch := omega) only [mup_n, mup_s, mput_n, mput_s, mup_mup]
    unfold cpF
    rw [if_pos hj, if_pos hj]
    exact b1 j hj
theorem t_back91 {Q : Option Value → mI → mJ → Prop} (hQ : Q (some (.int (MI 73 0))) (mup MI 70 (cpF (MI 73) (MI 70) 6)) ML) : VX11_back_91 D Q (nI 0) MI ML := by
  suffices g : VX11_back_91 D Q (nI 0) (mup MI 70 (cpF (MI 73) (MI 70) 0)) ML by rwa [cpF_0, mup_id] at g
  refine up (P := fun i => VX11_back_91 D Q (nI i) (mup MI 70 (cpF (MI 73) (MI 70) i)) ML) 6 (by decide) ?_ ?_
  · exact BX11_back_91 (cT (by decide) (by rw [mup_s]; exact hQ))
  · intro i _ hi ih
    refine BX11_back_91 (cF (nI_ge hi (by omega)) ⟨i, rfl, hi, i, rfl, hi, ?_⟩)
    rw [mup_s, mup_mup, mup_n (by decide), cpF_s, nI_add]
    exact ih
theorem t_back13 {Q : Option Value → mI → mJ → Prop} (hn : MI 46 40 = nI m) (h8 : m ≤ 8) (hQ : VX11_back_91 (D + 1) Q (nI 0) (mup MI 47 (backF (MI 47) (MI 72) m)) ML) : VX11_back_13 (D + 1) Q (nI 0) MI ML := by
  suffices h : VX11_back_13 (D + 1) Q (nI 0) (mup MI 47 (fun p => if p < 0 then MI 72 p else if 20 ≤ p ∧ p < 84 ∧ (p - 20) % 8 < m ∧ (p - 20) / 8 < 0 then MI 72 p else MI 47 p)) ML by
    rwa [show (fun p => if p < 0 then MI 72 p else if 20 ≤ p ∧ p < 84 ∧ (p - 20) % 8 < m ∧ (p - 20) / 8 < 0 then MI 72 p else MI 47 p) = MI 47 from by
      funext p
      rw [if_neg (by omega), if_neg (by omega)], mup_id] at h
  refine up (P := fun i => VX11_back_13 (D + 1) _ (nI i) (mup MI 47 (fun p => if p < i then MI 72 p else if 20 ≤ p ∧ p < 84 ∧ (p - 20) % 8 < m ∧ (p - 20) / 8 < i then MI 72 p else MI 47 p)) ML) m (Nat.zero_le _) ?_ ?_
  · refine BX11_back_13 (cT (by simp (disch := omega) only [mup_n, mup_s, mput_n, mput_s, mup_mup]; rw [hn]; exact nI_le (Nat.le_refl _) (by omega)) ?_)
    simp (disch := omega) only [mup_n, mup_s, mput_n, mput_s, mup_mup]
    rw [show mput (fun p => if p < m then MI 72 p else if 20 ≤ p ∧ p < 84 ∧ (p - 20) % 8 < m ∧ (p - 20) / 8 < m then MI 72 p else MI 47 p) 19 (MI 72 19) = backF (MI 47) (MI 72) m from by
      funext p
      unfold mput backF
      grind]
    exact hQ
  · intro i _ hi ih
    refine BX11_back_13 (cF (by simp (disch := omega) only [mup_n, mup_s, mput_n, mput_s, mup_mup]; rw [hn]; exact nI_ge hi (by omega)) ⟨i, rfl, by omega, i, rfl, by omega, ?_⟩)
    simp (disch := omega) only [mup_n, mup_s, mput_n, mput_s, mup_mup]
    have e1 : (mput (fun p => if p < i then MI 72 p else if 20 ≤ p ∧ p < 84 ∧ (p - 20) % 8 < m ∧ (p - 20) / 8 < i then MI 72 p else MI 47 p) i (MI 72 i)) = (fun p => if p < i + 1 then MI 72 p else if 20 ≤ p ∧ p < 84 ∧ (p - 20) % 8 < m ∧ ((p - 20) / 8 < i ∨ ((p - 20) / 8 = i ∧ (p - 20) % 8 < 0)) then MI 72 p else MI 47 p) := by
      funext p
      unfold mput
      grind
    rw [e1]
    refine up (P := fun j => VX11_back_35 (D + 1) _ (nI i) (nI j) (mup MI 47 (fun p => if p < i + 1 then MI 72 p else if 20 ≤ p ∧ p < 84 ∧ (p - 20) % 8 < m ∧ ((p - 20) / 8 < i ∨ ((p - 20) / 8 = i ∧ (p - 20) % 8 < j)) then MI 72 p else MI 47 p)) ML) m (Nat.zero_le _) ?_ ?_
    · refine BX11_back_35 (cT (by simp (disch := omega) only [mup_n, mup_s, mput_n, mput_s, mup_mup]; rw [hn]; exact nI_le (Nat.le_refl _) (by omega)) ?_)
      rw [nI_add, show (fun p => if p < i + 1 then MI 72 p else if 20 ≤ p ∧ p < 84 ∧ (p - 20) % 8 < m ∧ ((p - 20) / 8 < i ∨ ((p - 20) / 8 = i ∧ (p - 20) % 8 < m)) then MI 72 p else MI 47 p) = (fun p => if p < i + 1 then MI 72 p else if 20 ≤ p ∧ p < 84 ∧ (p - 20) % 8 < m ∧ (p - 20) / 8 < i + 1 then MI 72 p else MI 47 p) from by funext p; grind]
      exact ih
    · intro j _ hj ihj
      refine BX11_back_35 (cF (by simp (disch := omega) only [mup_n, mup_s, mput_n, mput_s, mup_mup]; rw [hn]; exact nI_ge hj (by omega)) (usei t_felt (usei t_felt ⟨_, rfl, by omega, _, rfl, by omega, ?_⟩)))
      simp (disch := omega) only [mup_n, mup_s, mput_n, mput_s, mup_mup]
      rw [nI_add, show mput (fun p => if p < i + 1 then MI 72 p else if 20 ≤ p ∧ p < 84 ∧ (p - 20) % 8 < m ∧ ((p - 20) / 8 < i ∨ ((p - 20) / 8 = i ∧ (p - 20) % 8 < j)) then MI 72 p else MI 47 p) (20 + i * 8 + j) (MI 72 (20 + i * 8 + j)) = (fun p => if p < i + 1 then MI 72 p else if 20 ≤ p ∧ p < 84 ∧ (p - 20) % 8 < m ∧ ((p - 20) / 8 < i ∨ ((p - 20) / 8 = i ∧ (p - 20) % 8 < j + 1)) then MI 72 p else MI 47 p) from by
        funext p
        unfold mput
        have e1 : (20 + i * 8 + j - 20) / 8 = i := by omega
        have e2 : (20 + i * 8 + j - 20) % 8 = j := by omega
        by_cases hp : p = 20 + i * 8 + j
        · subst hp; rw [if_pos rfl, if_neg (by omega), if_pos (by omega)]
        · rw [if_neg hp]
          dsimp only
          by_cases q : p < i + 1
          · rw [if_pos q, if_pos q]
          · rw [if_neg q, if_neg q]
            by_cases w : 20 ≤ p ∧ p < 84 ∧ (p - 20) % 8 < m ∧ ((p - 20) / 8 < i ∨ ((p - 20) / 8 = i ∧ (p - 20) % 8 < j))
            · rw [if_pos w, if_pos (by omega)]
            · rw [if_neg w, if_neg (by omega)]]
      exact ihj
theorem backF_PB {f g : Nat → Int32} (hf : PB f) (hg : PB g) (h8 : m ≤ 8) : PB (backF f g m) := by
  refine ⟨fun p hp => ?_, fun p hp => ?_⟩
  · unfold backF
    split
    · exact hg.1 p hp
    · exact hf.1 p hp
  · unfold backF
    rw [if_neg (by omega)]
    exact hf.2 p hp
theorem p_back : Sim 165 248 [] := by
  intro MI ML hI
  obtain ⟨n, hIn⟩ := hI.1
  obtain ⟨h8, hn, hm, hM, hP, z1, z2, z3, z4⟩ := hIn
  obtain ⟨b1, b2⟩ := hI.2.2.2.2.2.2.1
  rcases hI.2.2.2.2.2.2.2.1 with ⟨h1, h2⟩ | ⟨h1, m, hm8, h2, h3, h4, h5, h6⟩
  · exact ⟨_, _, _, _, _, mrc_of (EX10_back (BX10_back_0 (usei (s_hasImage (Or.inl h1)) (cT h1 eRr)))), mrc_of (EX11_back (BX11_back_0 (cT h2 eRr))), hI⟩
  · have kx : mrc 299 37 [.ref 33, .ref 1] MI ML none (mup (mup MI 2 (backF (MI 2) (MI 37) m)) 34 (cpF (MI 38) (MI 34) 6)) ML := by
      have k := s_bkLayBack (D := 296) (ML := ML) h2 hm8
      rwa [cpy_cp] at k
    refine ⟨(MI 38 0), mup (mup MI 2 (backF (MI 2) (MI 37) m)) 34 (cpF (MI 38) (MI 34) 6), ML, mup (mup (mup (mup MI 2 (backF (MI 2) (MI 37) m)) 34 (cpF (MI 38) (MI 34) 6)) 47 (backF (MI 2) (MI 37) m)) 70 (cpF (MI 73) (MI 70) 6), ML, mrc_of (EX10_back (BX10_back_0 (usei (s_hasImage (Or.inr h1)) (cF (by rw [h1]; decide) (usev kx (usei (s_told (by decide)) (iR (by simp (disch := omega) only [mup_n, mup_s, mput_n, mput_s, mup_mup]; rfl) rfl))))))), mrc_of (EX11_back (BX11_back_0 (cF ?_ (t_back13 (m := m) ?_ hm8 (t_back91 ?_))))), ?_⟩
    · simp (disch := omega) only [mup_n, mup_s, mput_n, mput_s, mup_mup]
      rw [h3]
      intro q
      have e1 : (-1 : Int32).toInt = -1 := by decide
      rw [fa_eq, nI_toInt (by omega), e1] at q
      omega
    · simp (disch := omega) only [mup_n, mup_s, mput_n, mput_s, mup_mup]
      exact h3
    · simp (disch := omega) only [mup_n, mup_s, mput_n, mput_s, mup_mup]
      rw [h4, hM]
      exact iR (h6 0 (by decide)) rfl
    · have hpb := backF_PB (m := m) hP h5 hm8
      refine ⟨⟨n, h8, by simp (disch := omega) only [mup_n, mup_s, mput_n, mput_s, mup_mup]; exact hn, by simp (disch := omega) only [mup_n, mup_s, mput_n, mput_s, mup_mup]; exact hm, by simp (disch := omega) only [mup_n, mup_s, mput_n, mput_s, mup_mup], by simp (disch := omega) only [mup_n, mup_s, mput_n, mput_s, mup_mup]; exact hpb, by simp (disch := omega) only [mup_n, mup_s, mput_n, mput_s, mup_mup]; exact z1, by simp (disch := omega) only [mup_n, mup_s, mput_n, mput_s, mup_mup]; exact z2, by simp (disch := omega) only [mup_n, mup_s, mput_n, mput_s, mup_mup]; exact z3, by simp (disch := omega) only [mup_n, mup_s, mput_n, mput_s, mup_mup]; exact z4⟩, (Ic_c (by first | rfl | simp (disch := omega) only [mup_n, mup_s, mput_n]) (by first | rfl | simp (disch := omega) only [mup_n, mup_s, mput_n]) (by first | rfl | simp (disch := omega) only [mup_n, mup_s, mput_n]) (by first | rfl | simp (disch := omega) only [mup_n, mup_s, mput_n]) (by first | rfl | simp (disch := omega) only [mup_n, mup_s, mput_n]) (by first | rfl | simp (disch := omega) only [mup_n, mup_s, mput_n]) (by first | rfl | simp (disch := omega) only [mup_n, mup_s, mput_n]) (by first | rfl | simp (disch := omega) only [mup_n, mup_s, mput_n]) (by first | rfl | simp (disch := omega) only [mup_n, mup_s, mput_n]) (by first | rfl | simp (disch := omega) only [mup_n, mup_s, mput_n]) hI.2.1), (It_c (by first | rfl | simp (disch := omega) only [mup_n, mup_s, mput_n]) (by first | rfl | simp (disch := omega) only [mup_n, mup_s, mput_n]) (by first | rfl | simp (disch := omega) only [mup_n, mup_s, mput_n]) (by first | rfl | simp (disch := omega) only [mup_n, mup_s, mput_n]) hI.2.2.1), (Il_c (by first | rfl | simp (disch := omega) only [mup_n, mup_s, mput_n]) (by first | rfl | simp (disch := omega) only [mup_n, mup_s, mput_n]) (by first | rfl | simp (disch := omega) only [mup_n, mup_s, mput_n]) (by first | rfl | simp (disch := omega) only [mup_n, mup_s, mput_n]) (by first | rfl | simp (disch := omega) only [mup_n, mup_s, mput_n]) (by first | rfl | simp (disch := omega) only [mup_n, mup_s, mput_n]) hI.2.2.2.1), (Is_c (by first | rfl | simp (disch := omega) only [mup_n, mup_s, mput_n]) (by first | rfl | simp (disch := omega) only [mup_n, mup_s, mput_n]) (by first | rfl | simp (disch := omega) only [mup_n, mup_s, mput_n]) (by first | rfl | simp (disch := omega) only [mup_n, mup_s, mput_n]) (by first | rfl | simp (disch := omega) only [mup_n, mup_s, mput_n]) (by first | rfl | simp (disch := omega) only [mup_n, mup_s, mput_n]) (by first | rfl | simp (disch := omega) only [mup_n, mup_s, mput_n]) (by first | rfl | simp (disch := omega) only [mup_n, mup_s, mput_n]) (by first | rfl | simp (disch := omega) only [mup_n, mup_s, mput_n]) (by first | rfl | simp (disch := omega) only [mup_n, mup_s, mput_n]) (by first | rfl | simp (disch := omega) only [mup_n, mup_s, mput_n]) hI.2.2.2.2.1), (Ir_c (by first | rfl | simp (disch := omega) only [mup_n, mup_s, mput_n]) (by first | rfl | simp (disch := omega) only [mup_n, mup_s, mput_n]) (by first | rfl | simp (disch := omega) only [mup_n, mup_s, mput_n]) (by first | rfl | simp (disch := omega) only [mup_n, mup_s, mput_n]) (by first | rfl | simp (disch := omega) only [mup_n, mup_s, mput_n]) hI.2.2.2.2.2.1), ⟨?_, ?_⟩, (Ii_c (by first | rfl | simp (disch := omega) only [mup_n, mup_s, mput_n]) (by first | rfl | simp (disch := omega) only [mup_n, mup_s, mput_n]) (by first | rfl | simp (disch := omega) only [mup_n, mup_s, mput_n]) (by first | rfl | simp (disch := omega) only [mup_n, mup_s, mput_n]) (by first | rfl | simp (disch := omega) only [mup_n, mup_s, mput_n]) (by first | rfl | simp (disch := omega) only [mup_n, mup_s, mput_n]) (by first | rfl | simp (disch := omega) only [mup_n, mup_s, mput_n]) hI.2.2.2.2.2.2.2.1), (Iw_c (by first | rfl | simp (disch := omega) only [mup_n, mup_s, mput_n]) hI.2.2.2.2.2.2.2.2)⟩
      · intro j hj
        simp (disch := omega) only [mup_n, mup_s, mput_n, mput_s, mup_mup]
        unfold cpF
        rw [if_pos hj, if_pos hj]
        exact h6 j hj
      · simp (disch := omega) only [mup_n, mup_s, mput_n, mput_s, mup_mup]
        exact b2
end P8
