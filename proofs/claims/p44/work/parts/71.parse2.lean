/-! reading a law's text: numbers, words -/
/-- a reader of the class at a place, with so many signs; of the model, without a fault -/
def CT (t : Nat) (B : Nat → Nat) (p s : Nat) (MI : mI) : Prop := t ≤ 160 ∧ MI 3 3 = nI t ∧ (∀ j, j < t → MI 5 j = nI (B j) ∧ B j < 256) ∧ MI 3 4 = nI p ∧ MI 3 1 = nI s ∧ p ≤ t
def rnP (B : Nat → Nat) (t : Nat) : Nat → Nat → Nat → Nat × Nat
  | 0, v, p => (v, p)
  | k + 1, v, p => if dgB (nxt B t p) = true then rnP B t k (v * 10 + (nxt B t p - 48)) (p + 1) else (v, p)
theorem dgB_c {x : Nat} : dgB x = true ↔ 48 ≤ x ∧ x ≤ 57 := by simp [dgB]
theorem nxt_lt {B : Nat → Nat} {t p : Nat} (h : nxt B t p ≠ 256) : p < t := by
  unfold nxt at h
  by_cases q : p < t
  · exact q
  · rw [if_neg q] at h
    exact absurd rfl h
theorem rnP_ok {B : Nat → Nat} {t : Nat} : ∀ (k v p : Nat), p ≤ t → p ≤ (rnP B t k v p).2 ∧ (rnP B t k v p).2 ≤ t ∧ (rnP B t k v p).1 < (v + 1) * 10 ^ k ∧ (dgB (nxt B t p) = true → 0 < k → p < (rnP B t k v p).2)
  | 0, v, p, hp => ⟨Nat.le_refl _, hp, by simp [rnP], fun _ h => absurd h (Nat.lt_irrefl _)⟩
  | k + 1, v, p, hp => by
    unfold rnP
    by_cases h : dgB (nxt B t p) = true
    · rw [if_pos h]
      have hd := dgB_c.mp h
      have hlt := nxt_lt (B := B) (t := t) (p := p) (by omega)
      obtain ⟨i1, i2, i3, _⟩ := rnP_ok (B := B) (t := t) k (v * 10 + (nxt B t p - 48)) (p + 1) hlt
      refine ⟨by omega, i2, Nat.lt_of_lt_of_le i3 ?_, fun _ _ => by omega⟩
      rw [Nat.pow_succ, Nat.mul_comm (10 ^ k) 10, ← Nat.mul_assoc]
      exact Nat.mul_le_mul_right _ (by omega)
    · rw [if_neg h]
      refine ⟨Nat.le_refl _, hp, ?_, fun q => absurd q h⟩
      have h10 : 0 < 10 ^ (k + 1) := Nat.pos_of_ne_zero (by simp)
      exact Nat.lt_of_lt_of_le (Nat.lt_succ_self v) (Nat.le_mul_of_pos_right _ h10)
theorem CT.adv {t p s : Nat} {B : Nat → Nat} {MI : mI} (h : CT t B p s MI) (hp : p < t) : CT t B (p + 1) s (mup MI 3 (mput (MI 3) 4 (nI (p + 1)))) := by
  obtain ⟨h1, h2, h3, h4, h5, h6⟩ := h
  exact ⟨h1, by simp (disch := omega) only [mup_n, mup_s, mput_n, mput_s, mup_mup]; exact h2, by simp (disch := omega) only [mup_n, mup_s, mput_n, mput_s, mup_mup]; exact h3, by simp (disch := omega) only [mup_n, mup_s, mput_n, mput_s, mup_mup], by simp (disch := omega) only [mup_n, mup_s, mput_n, mput_s, mup_mup]; exact h5, hp⟩
/-- frames of reading: the class's reader and its signs; the model's places and its drafts -/
def FCr (M MI : mI) : Prop := (∀ q, q ≠ 3 → q ≠ 4 → M q = MI q) ∧ M 3 3 = MI 3 3
theorem FCr.rf {M : mI} : FCr M M := ⟨fun _ _ _ => rfl, rfl⟩
theorem FCr.tr {M N MI : mI} (h : FCr M N) (h2 : FCr N MI) : FCr M MI := ⟨fun q a b => (h.1 q a b).trans (h2.1 q a b), h.2.trans h2.2⟩
section P71
variable {D t : Nat} {B : Nat → Nat} {ML : mJ} {Q : Option Value → mI → mJ → Prop}
theorem CT.nx {p s : Nat} {MI : mI} (h : CT t B p s MI) : mrc (D + 1) 66 [.ref 3] MI ML (some (.int (cI (nxt B t p)))) MI ML := by
  obtain ⟨h1, h2, h3, h4, h5, h6⟩ := h
  exact s_next h1 h2 h3 h4 (by omega)
theorem CT.n6 {p s : Nat} {MI : mI} (h : CT t B p s MI) : nxt B t p ≤ 256 := nxt_le (fun j hj => (h.2.2.1 j hj).2)
/-- a sign is written -/
theorem CT.wr {p s : Nat} {MI : mI} {x : Int32} (h : CT t B p s MI) (hs : s < 161) : ∃ M, mrc (D + 1) 67 [.ref 3, .int x] MI ML none M ML ∧ CT t B p (s + 1) M ∧ M 4 = mput (MI 4) s x ∧ FCr M MI := by
  obtain ⟨h1, h2, h3, h4, h5, h6⟩ := h
  exact ⟨_, s_write h5 hs, ⟨h1, by simp (disch := omega) only [mup_n, mup_s, mput_n, mput_s, mup_mup]; exact h2, by simp (disch := omega) only [mup_n, mup_s, mput_n, mput_s, mup_mup]; exact h3, by simp (disch := omega) only [mup_n, mup_s, mput_n, mput_s, mup_mup]; exact h4, by simp (disch := omega) only [mup_n, mup_s, mput_n, mput_s, mup_mup], h6⟩, by simp (disch := omega) only [mup_n, mup_s, mput_n, mput_s, mup_mup], ⟨fun q a b => by rw [mup_n a, mup_n b], by simp (disch := omega) only [mup_n, mup_s, mput_n, mput_s, mup_mup]⟩⟩
theorem s_rn4 {s : Nat} : ∀ (k v p : Nat) (MI : mI), k ≤ 4 → CT t B p s MI → (∀ M, CT t B (rnP B t k v p).2 s M → M 4 = MI 4 → FCr M MI → VX4_readNumber_48 (D + 1) Q (nI (rnP B t k v p).1) M ML) → VX4_readNumber_4 (D + 1) Q (nI v) (nI (4 - k)) MI ML
  | 0, v, p, MI, _, h, K => BX4_readNumber_4 (cT (by decide) (K MI h rfl FCr.rf))
  | k + 1, v, p, MI, hk, h, K => by
    have hn := h.n6
    refine BX4_readNumber_4 (cF (nI_ge (by omega) (by omega)) (usei h.nx (usei (s_isDigit hn) ?_)))
    unfold rnP at K
    by_cases hd : dgB (nxt B t p) = true
    · have hd2 := dgB_c.mp hd
      have hpt := nxt_lt (B := B) (t := t) (p := p) (by omega)
      rw [if_pos hd] at K
      refine bT hd (usei h.nx ?_)
      have e : cI (nxt B t p) = nI (nxt B t p) := if_neg (by omega)
      rw [e, h.2.2.2.1, pk_mul, nI_add, nI_add, nI_add, pk_sub (by omega), show v * 10 + nxt B t p - 48 = v * 10 + (nxt B t p - 48) by omega, show 4 - (k + 1) + 1 = 4 - k by omega]
      exact s_rn4 k _ (p + 1) _ (by omega) (h.adv hpt) (fun M m1 m2 m3 => K M m1 (by rw [m2, mup_n (by decide)]) (m3.tr ⟨fun q a _ => mup_n a, by simp (disch := omega) only [mup_n, mup_s, mput_n, mput_s, mup_mup]⟩))
    · rw [if_neg hd] at K
      exact bF (bnf hd) (K MI h rfl FCr.rf)
theorem s_readNumber {p s : Nat} {MI : mI} (h : CT t B p s MI) (hs : s < 161) : ∃ M, mrc (D + 2) 61 [.ref 3] MI ML none M ML ∧ CT t B (rnP B t 4 0 p).2 (s + 1) M ∧ M 4 = mput (MI 4) s (nI (rnP B t 4 0 p).1) ∧ FCr M MI := by
  suffices hh : VX4_readNumber_0 (D + 1) (fun v M L' => v = none ∧ L' = ML ∧ CT t B (rnP B t 4 0 p).2 (s + 1) M ∧ M 4 = mput (MI 4) s (nI (rnP B t 4 0 p).1) ∧ FCr M MI) MI ML by
    obtain ⟨v, M, L', ⟨rfl, rfl, hr⟩, hh⟩ := EX4_readNumber hh
    exact ⟨M, hh, hr⟩
  refine BX4_readNumber_0 (s_rn4 (s := s) 4 0 p MI (Nat.le_refl _) h (fun M m1 m2 m3 => BX4_readNumber_48 ?_))
  obtain ⟨M2, w1, w2, w3, w4⟩ := m1.wr (D := D) (ML := ML) (x := nI (rnP B t 4 0 p).1) hs
  exact usev w1 ⟨rfl, rfl, w2, by rw [w3, m2], w4.tr m3⟩
end P71
