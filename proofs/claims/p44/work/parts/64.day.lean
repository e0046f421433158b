/-! day in deed: pair -/
theorem wcS_o {l : List Int32} {c q : Nat} {MI : mI} (h1 : q ≠ 33) (h2 : q ≠ 35) : wcS l c MI q = MI q := by
  unfold wcS
  rw [mup_n h1, mup_n h2]
theorem lt10 {o : Int32} : o < nI 10 ↔ o ≤ nI 9 := by
  rw [fa_lt, fa_le, nI_toInt (by omega), nI_toInt (by omega)]
  omega
section T64
variable {D n : Nat} {La : mLaw} {MI : mI} {ML : mJ} {Q : Option Value → mI → mJ → Prop}
theorem s_tell33 {L : List dR} {B : mI} (hl : L.length ≤ 8) (h0 : B 28 0 = nI L.length) (hr : ∀ j, j < L.length → B 29 j = nI (L.getD j d0R).1 ∧ B 30 j = nI (L.getD j d0R).2.1 ∧ B 31 j = nI (L.getD j d0R).2.2.1 ∧ B 32 j = (L.getD j d0R).2.2.2) (K : Q none (wcS (tlB L) 0 B) ML) : ∀ (R P : List dR), L = P ++ R → VX1_tell_33 (D + 1) Q 28 29 30 31 32 (nI P.length) (wcS (tlB P) 0 B) ML
  | [], P, hL => by
    rw [List.append_nil] at hL
    subst hL
    exact BX1_tell_33 rd28 (cT (by rw [wcS_o (by decide) (by decide), h0]; exact nI_le (Nat.le_refl _) (by omega)) K)
  | q :: R, P, hL => by
    have hlen : L.length = P.length + (R.length + 1) := by rw [hL, List.length_append, List.length_cons]
    have eq : L.getD P.length d0R = q := by
      rw [hL]
      simp [List.getD_eq_getElem?_getD]
    obtain ⟨r1, r2, r3, r4⟩ := hr P.length (by omega)
    rw [eq] at r1 r2 r3 r4
    have hb := tlB_len P
    have h1 := tl1_len q
    have ih := s_tell33 hl h0 hr K R (P ++ [q]) (by rw [hL, List.append_assoc]; rfl)
    rw [List.length_append, tlB_app] at ih
    refine BX1_tell_33 rd28 (cF (by rw [wcS_o (by decide) (by decide), h0]; exact nI_ge (by omega) (by omega)) (cF (nI_ge (by omega) (by omega)) ⟨P.length, rfl, by omega, ?_⟩))
    rw [wcS_o (by decide) (by decide), r1]
    by_cases ho : q.2.2.2 ≤ nI 9
    · have e : tlB P ++ tl1 q = tlB P ++ [nI 48 + nI q.1] ++ [nI 60] ++ [nI 48 + nI q.2.1] ++ [nI 124] ++ [nI 48 + nI q.2.2.1] ++ [nI 58] ++ [nI 48 + (q.2.2.2 - q.2.2.2 / nI 10 * nI 10)] ++ [nI 59] := by
        unfold tl1
        rw [if_pos ho]
        simp only [List.append_assoc, List.nil_append, List.cons_append]
      rw [e] at ih
      refine usev (s_wr _ rfl (by omega)) (usev (s_wr _ rfl (by simp; omega)) ⟨P.length, rfl, by omega, ?_⟩)
      rw [wcS_o (by decide) (by decide), r2]
      refine usev (s_wr _ rfl (by simp; omega)) (usev (s_wr _ rfl (by simp; omega)) ⟨P.length, rfl, by omega, ?_⟩)
      rw [wcS_o (by decide) (by decide), r3]
      refine usev (s_wr _ rfl (by simp; omega)) (usev (s_wr _ rfl (by simp; omega)) ⟨P.length, rfl, by omega, ?_⟩)
      rw [wcS_o (by decide) (by decide), r4, lt10]
      refine cT ho (BX1_tell_131 rd28 ⟨P.length, rfl, by omega, ?_⟩)
      rw [wcS_o (by decide) (by decide), r4]
      refine usev (s_wr _ rfl (by simp; omega)) (usev (s_wr _ rfl (by simp; omega)) ?_)
      rw [nI_add]
      exact ih
    · have e : tlB P ++ tl1 q = tlB P ++ [nI 48 + nI q.1] ++ [nI 60] ++ [nI 48 + nI q.2.1] ++ [nI 124] ++ [nI 48 + nI q.2.2.1] ++ [nI 58] ++ [nI 48 + q.2.2.2 / nI 10] ++ [nI 48 + (q.2.2.2 - q.2.2.2 / nI 10 * nI 10)] ++ [nI 59] := by
        unfold tl1
        rw [if_neg ho]
        simp only [List.append_assoc, List.nil_append, List.cons_append]
      rw [e] at ih
      refine usev (s_wr _ rfl (by omega)) (usev (s_wr _ rfl (by simp; omega)) ⟨P.length, rfl, by omega, ?_⟩)
      rw [wcS_o (by decide) (by decide), r2]
      refine usev (s_wr _ rfl (by simp; omega)) (usev (s_wr _ rfl (by simp; omega)) ⟨P.length, rfl, by omega, ?_⟩)
      rw [wcS_o (by decide) (by decide), r3]
      refine usev (s_wr _ rfl (by simp; omega)) (usev (s_wr _ rfl (by simp; omega)) ⟨P.length, rfl, by omega, ?_⟩)
      rw [wcS_o (by decide) (by decide), r4, lt10]
      refine cF ho ⟨P.length, rfl, by omega, ?_⟩
      rw [r4]
      refine usev (s_wr _ rfl (by simp; omega)) (BX1_tell_131 rd28 ⟨P.length, rfl, by omega, ?_⟩)
      rw [wcS_o (by decide) (by decide), r4]
      refine usev (s_wr _ rfl (by simp; omega)) (usev (s_wr _ rfl (by simp; omega)) ?_)
      rw [nI_add]
      exact ih
def ctF (f : Nat → Int32) (fed n : Nat) : Nat → Int32 := mput (mput (mput f 0 (f 0 + nI 1)) 1 (f 1 + nI fed)) 2 (f 2 + (nI n - nI fed))
theorem s_tell {L : List dR} (hl : L.length ≤ 8) (hW : RW n 28 29 30 31 32 L MI) : mrc (D + 3) 31 [.ref 33, .ref 28, .int (nI n)] MI ML none (wcS (tlB L) 0 (mup (mup MI 34 (ctF (MI 34) L.length n)) 33 (mput (MI 33) 2 (nI 0)))) ML := by
  obtain ⟨w1, w2, w3, w4⟩ := hW
  refine mrc_of (EX1_tell (BX1_tell_0 rd28 (usev (s_bkAdd (d := 0) (by omega)) ?_)))
  rw [mup_n (by decide), w1]
  refine usev (s_bkAdd (d := 1) (by omega)) ?_
  rw [mup_n (by decide), mup_n (by decide), w1]
  refine usev (s_bkAdd (d := 2) (by omega)) ?_
  simp (disch := omega) only [mup_n, mup_s, mput_n, mput_s, mup_mup]
  generalize hB : mup (mup MI 34 (mput (mput (mput (MI 34) 0 (MI 34 0 + nI 1)) 1 (MI 34 1 + nI L.length)) 2 (MI 34 2 + (nI n - nI L.length)))) 33 (mput (MI 33) 2 (nI 0)) = B
  have hB33 : B 33 2 = nI 0 := by rw [← hB]; simp (disch := omega) only [mup_n, mup_s, mput_n, mput_s, mup_mup]
  have hBq : ∀ q, q ≠ 33 → q ≠ 34 → B q = MI q := fun q h1 h2 => by rw [← hB, mup_n h1, mup_n h2]
  have := s_tell33 (D := D + 1) (L := L) (B := B) (ML := ML) (Q := eR none (wcS (tlB L) 0 (mup (mup MI 34 (ctF (MI 34) L.length n)) 33 (mput (MI 33) 2 (nI 0)))) ML) hl (by rw [hBq 28 (by decide) (by decide)]; exact w1) (fun j hj => by
    rw [hBq 29 (by decide) (by decide), hBq 30 (by decide) (by decide), hBq 31 (by decide) (by decide), hBq 32 (by decide) (by decide)]
    exact w4 j hj) (vR (by rw [← hB]; rfl)) L [] rfl
  rw [show wcS (tlB []) 0 B = B from wcS_0 hB33] at this
  exact this
end T64
