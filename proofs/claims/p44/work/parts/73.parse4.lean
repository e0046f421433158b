/-! reading a law's text: a word read, by class and model -/
def wnP (B : Nat → Nat) (t p : Nat) : Nat := leP B t 161 p
def wxP (B : Nat → Nat) (t p : Nat) : Nat := fa_first (fun k => decide (lsP B p (wnP B t p) = wdL.getD k [])) 6
def wfl (k : Nat) : UInt32 := UInt32.ofNat (10 + k)
theorem wfl_n : ∀ k, k < 6 → (wfl k).toNat = 10 + k := by decide
section P73
variable {D t : Nat} {B : Nat → Nat} {ML : mJ} {Q : Option Value → mI → mJ → Prop}
theorem s_wordOf {k : Nat} {MI : mI} (hk : k < 6) : mrc (D + 1) 64 [.int (nI k)] MI ML (some (.float (wfl k))) MI ML := by
  refine mrc_of (EX4_wordOf (BX4_wordOf_0 ?_))
  rcases (show k = 0 ∨ k = 1 ∨ k = 2 ∨ k = 3 ∨ k = 4 ∨ k = 5 by omega) with rfl | rfl | rfl | rfl | rfl | rfl
  · exact cT rfl eRr
  · exact cF (by decide) (cT rfl eRr)
  · exact cF (by decide) (cF (by decide) (cT rfl eRr))
  · exact cF (by decide) (cF (by decide) (cF (by decide) (cT rfl eRr)))
  · exact cF (by decide) (cF (by decide) (cF (by decide) (cF (by decide) (cT rfl eRr))))
  · exact cF (by decide) (cF (by decide) (cF (by decide) (cF (by decide) (cF (by decide) eRr))))
theorem s_rw5 {p s : Nat} {MI : mI} (h : CT t B p s MI) : ∀ (k q : Nat), t - q < k → q ≤ t → VX4_readWord_50 D Q (nI (leP B t k q)) (nI 0) MI ML → VX4_readWord_5 D Q (nI q) MI ML
  | 0, q, hk, _, _ => absurd hk (Nat.not_lt_zero _)
  | k + 1, q, hk, hq, K => by
    obtain ⟨h1, h2, h3, h4, h5, h6⟩ := h
    unfold leP at K
    by_cases hqt : q < t
    · have hb := h3 q hqt
      have hx : nxt B t q = B q := if_pos hqt
      refine BX4_readWord_5 (cF (by rw [h2]; exact nI_ge hqt (by omega)) (cF (nI_ge (by omega) (by omega)) ⟨q, rfl, by omega, ?_⟩))
      rw [hb.1, nI_ltI (by omega) (by omega)]
      by_cases hd : ltB (nxt B t q) = true
      · have hd2 := ltB_c.mp hd
        rw [if_pos hd] at K
        refine cF (by omega) ⟨q, rfl, by omega, ?_⟩
        rw [hb.1, nI_ltI (by omega) (by omega), nI_add]
        exact cF (by omega) (s_rw5 ⟨h1, h2, h3, h4, h5, h6⟩ k (q + 1) (by omega) hqt K)
      · rw [if_neg hd] at K
        have hh : ¬ (97 ≤ nxt B t q ∧ nxt B t q ≤ 122) := fun z => hd (ltB_c.mpr z)
        by_cases q9 : B q < 97
        · exact cT q9 K
        · refine cF q9 ⟨q, rfl, by omega, ?_⟩
          rw [hb.1, nI_ltI (by omega) (by omega)]
          exact cT (by omega) K
    · have hx : nxt B t q = 256 := if_neg hqt
      rw [if_neg (by rw [hx]; decide)] at K
      exact BX4_readWord_5 (cT (by rw [h2]; exact nI_le (by omega) (by omega)) K)
theorem s_readWord {p s : Nat} {MI : mI} (h : CT t B p s MI) (hs : s < 161) : (wxP B t p < 6 → ∃ M, mrc (D + 2) 62 [.ref 3] MI ML (some (.int (nI 1))) M ML ∧ CT t B (wnP B t p) (s + 1) M ∧ M 4 = mput (MI 4) s (-1 - nI (wxP B t p)) ∧ FCr M MI) ∧ (¬ wxP B t p < 6 → mrc (D + 2) 62 [.ref 3] MI ML (some (.int (nI 0))) MI ML) := by
  have h0 := h
  obtain ⟨h1, h2, h3, h4, h5, h6⟩ := h0
  obtain ⟨e1, e2, e3⟩ := leP_ok (B := B) (t := t) 161 p h6
  have step : ∀ (Q : Option Value → mI → mJ → Prop), (wxP B t p < 6 → ∀ M, CT t B (wnP B t p) (s + 1) M → M 4 = mput (MI 4) s (-1 - nI (wxP B t p)) → FCr M MI → Q (some (.int (nI 1))) M ML) → (¬ wxP B t p < 6 → Q (some (.int (nI 0))) MI ML) → VX4_readWord_0 (D + 1) Q MI ML := by
    intro Q K1 K2
    refine BX4_readWord_0 ?_
    rw [h4]
    refine s_rw5 h 161 p (by omega) h6 ?_
    refine up (P := fun k => (∀ i, i < k → decide (lsP B p (wnP B t p) = wdL.getD i []) = false) → VX4_readWord_50 (D + 1) Q (nI (leP B t 161 p)) (nI k) MI ML) 6 (Nat.zero_le _) ?_ ?_ (fun i hi => absurd hi (Nat.not_lt_zero _))
    · intro hno
      refine BX4_readWord_50 (cT (by decide) (K2 ?_))
      unfold wxP
      rw [first_none hno]
      decide
    · intro k _ hk ih hno
      refine BX4_readWord_50 (cF (nI_ge hk (by omega)) (usef (s_wordOf hk) (usei (s_isWord h hk (wfl_n k hk) e1 e2) ?_)))
      cases hd : decide (lsP B p (leP B t 161 p) = wdL.getD k [])
      · refine bF rfl ?_
        rw [nI_add]
        refine ih (fun i hi => ?_)
        by_cases q : i = k
        · subst q; exact hd
        · exact hno i (by omega)
      · have ewx : wxP B t p = k := first_at hk hd hno
        refine bT rfl ?_
        have hc : CT t B (wnP B t p) s (mup MI 3 (mput (MI 3) 4 (nI (leP B t 161 p)))) := ⟨h1, by simp (disch := omega) only [mup_n, mup_s, mput_n, mput_s, mup_mup]; exact h2, by simp (disch := omega) only [mup_n, mup_s, mput_n, mput_s, mup_mup]; exact h3, by simp (disch := omega) only [mup_n, mup_s, mput_n, mput_s, mup_mup]; rfl, by simp (disch := omega) only [mup_n, mup_s, mput_n, mput_s, mup_mup]; exact h5, e2⟩
        obtain ⟨M2, w1, w2, w3, w4⟩ := hc.wr (D := D) (ML := ML) (x := -1 - nI k) hs
        refine usev w1 (K1 (by omega) M2 w2 ?_ (w4.tr ⟨fun q a _ => mup_n a, by simp (disch := omega) only [mup_n, mup_s, mput_n, mput_s, mup_mup]⟩))
        rw [w3, ewx, mup_n (by decide)]
  refine ⟨fun hx => ?_, fun hx => ?_⟩
  · have hh := step (fun v M L' => v = some (.int (nI 1)) ∧ L' = ML ∧ CT t B (wnP B t p) (s + 1) M ∧ M 4 = mput (MI 4) s (-1 - nI (wxP B t p)) ∧ FCr M MI) (fun _ M a b c => ⟨rfl, rfl, a, b, c⟩) (fun z => absurd hx z)
    obtain ⟨v, M, L', ⟨rfl, rfl, hr⟩, hh⟩ := EX4_readWord hh
    exact ⟨M, hh, hr⟩
  · exact mrc_of (EX4_readWord (step (eR (some (.int (nI 0))) MI ML) (fun z => absurd z hx) (fun _ => eRr)))
end P73
