/-! the call that takes a law over -/
section P84
variable {B : Nat → Nat} {t D : Nat} {MI : mI} {ML : mJ} {r : xR}
theorem s_read (h : t ≤ 160 ∧ MI 3 3 = nI t ∧ ∀ j, j < t → MI 5 j = nI (B j) ∧ B j < 256) (hr : tx B t 161 0 = some r) : ∃ M, mrc (D + 61) 55 [.ref 3] MI ML (some (.int (if r.1 = true then -1 else nI r.2.1))) M ML ∧ FCr M MI ∧ (r.1 = true → M 3 1 = nI (flC r.2.2).length ∧ ∀ i, i < (flC r.2.2).length → M 4 i = (flC r.2.2).getD i 0) := by
  suffices hh : VX4_read_0 (D + 60) (fun v M L' => v = some (.int (if r.1 = true then -1 else nI r.2.1)) ∧ L' = ML ∧ FCr M MI ∧ (r.1 = true → M 3 1 = nI (flC r.2.2).length ∧ ∀ i, i < (flC r.2.2).length → M 4 i = (flC r.2.2).getD i 0)) MI ML by
    obtain ⟨v, M, L', ⟨rfl, rfl, hr⟩, hh⟩ := EX4_read hh
    exact ⟨M, hh, hr⟩
  obtain ⟨h1, h2, h4⟩ := h
  refine BX4_read_0 (s_rd 161 0 0 0 _ r hr ⟨h1, ?_, ?_, ?_, ?_, Nat.zero_le _⟩ (Nat.le_refl _) (Nat.le_refl _) (fun M m1 m2 => ⟨rfl, rfl, m1.tr ⟨fun q a b => by rw [mup_n a, mup_n a], by simp (disch := omega) only [mup_n, mup_s, mput_n, mput_s, mup_mup]⟩, fun z => ?_⟩))
  · simp (disch := omega) only [mup_n, mup_s, mput_n, mput_s, mup_mup]
    exact h2
  · simp (disch := omega) only [mup_n, mup_s, mput_n, mput_s, mup_mup]
    exact h4
  · simp (disch := omega) only [mup_n, mup_s, mput_n, mput_s, mup_mup]
  · simp (disch := omega) only [mup_n, mup_s, mput_n, mput_s, mup_mup]
  · obtain ⟨k1, k2⟩ := m2 z
    rw [Nat.zero_add] at k1
    refine ⟨k1, fun i hi => ?_⟩
    have := k2.2 i hi
    rw [Nat.zero_add] at this
    exact this
theorem s_become {n : Nat} (h : MI 3 1 = nI n) (hn : n ≤ 161) : mrc (D + 1) 46 [.ref 6, .ref 3] MI ML none (mup (mup MI 6 (mput (MI 6) 1 (nI n))) 7 (va_cpy (MI 4) (MI 7) 0 0 n)) ML := by
  have e : (if (nI 161) < (MI 3 1) then (nI 161) else (MI 3 1)) = nI n := by
    rw [h, if_neg (nI_nlt hn (by omega))]
  refine mrc_of (EX3_become (BX3_become_0 ?_))
  rw [e]
  refine ⟨0, 0, n, rfl, rfl, by simp (disch := omega) only [mup_n, mup_s, mput_n, mput_s, mup_mup], by omega, by omega, vR ?_⟩
  simp (disch := omega) only [mup_n, mup_s, mput_n, mput_s, mup_mup]
def FLc (M MI : mI) : Prop := ∀ q, q ≠ 3 → q ≠ 4 → q ≠ 6 → q ≠ 7 → M q = MI q
theorem s_law (c : r.1 = true) (h : t ≤ 160 ∧ MI 3 3 = nI t ∧ ∀ j, j < t → MI 5 j = nI (B j) ∧ B j < 256) (hr : tx B t 161 0 = some r) (hl : (flC r.2.2).length ≤ 161) : ∃ M, mrc (D + 63) 142 [.ref 0] MI ML (some (.int (if r.1 = true then nI 1 else (-100 : Int32) - nI r.2.1))) M ML ∧ FLc M MI ∧ M 3 3 = nI 0 ∧ (r.1 = true → LC r.2.2 (M 6 1) (M 7)) ∧ (r.1 = false → M 6 1 = MI 6 1 ∧ M 7 = MI 7) := by
  suffices hh : VX10_law_0 (D + 62) (fun v M L' => v = some (.int (if r.1 = true then nI 1 else (-100 : Int32) - nI r.2.1)) ∧ L' = ML ∧ FLc M MI ∧ M 3 3 = nI 0 ∧ (r.1 = true → LC r.2.2 (M 6 1) (M 7)) ∧ (r.1 = false → M 6 1 = MI 6 1 ∧ M 7 = MI 7)) MI ML by
    obtain ⟨v, M, L', ⟨rfl, rfl, hr⟩, hh⟩ := EX10_law hh
    exact ⟨M, hh, hr⟩
  have h160 := h.1
  obtain ⟨M, m1, m2, m3⟩ := s_read (D := D + 1) (ML := ML) h hr
  have s_clear : ∀ (M : mI) (D : Nat), mrc (D + 1) 54 [.ref 3] M ML none (mup M 3 (mput (M 3) 3 (nI 0))) ML := fun M D => mrc_of (EX4_clear (BX4_clear_0 eRr))
  refine BX10_law_0 (usei m1 ?_)
  rw [if_pos c, if_pos c]
  obtain ⟨j1, j2⟩ := m3 c
  refine cT rfl (usev (s_become (D := D + 61) j1 (by omega)) (BX10_law_24 (usev (s_clear _ (D + 61)) (cT rfl ⟨rfl, rfl, fun q a b e f => ?_, by simp (disch := omega) only [mup_n, mup_s, mput_n, mput_s, mup_mup], fun _ => ⟨by omega, by simp (disch := omega) only [mup_n, mup_s, mput_n, mput_s, mup_mup], fun i hi => ?_⟩, fun z => absurd (c.symm.trans z) (by decide)⟩))))
  · rw [mup_n a, mup_n f, mup_n e]
    exact m2.1 q a b
  · rw [mup_n (by decide), mup_s]
    unfold va_cpy
    rw [if_pos (by omega), show 0 + (i - 0) = i by omega]
    exact j2 i hi
end P84
