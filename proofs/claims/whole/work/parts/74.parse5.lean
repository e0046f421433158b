/-! reading a law's text: a word read by the model -/
def pkP (B : Nat → Nat) (p : Nat) : Nat → Nat
  | 0 => 0
  | i + 1 => 32 * pkP B p i + (B (p + i) - 96)
def ltr (B : Nat → Nat) (p i : Nat) : Prop := ∀ k, k < i → 97 ≤ B (p + k) ∧ B (p + k) ≤ 122
theorem pkP_lt {B : Nat → Nat} {p : Nat} : ∀ i, ltr B p i → pkP B p i < 32 ^ i
  | 0, _ => by simp [pkP]
  | i + 1, h => by
    have ih := pkP_lt i (fun k hk => h k (by omega))
    have hb := h i (by omega)
    show 32 * pkP B p i + (B (p + i) - 96) < 32 ^ (i + 1)
    rw [Nat.pow_succ]
    omega
theorem pk_inj {B B' : Nat → Nat} {p p' : Nat} : ∀ i i', ltr B p i → ltr B' p' i' → pkP B p i = pkP B' p' i' → i = i' ∧ ∀ k, k < i → B (p + k) = B' (p' + k)
  | 0, 0, _, _, _ => ⟨rfl, fun k hk => absurd hk (Nat.not_lt_zero _)⟩
  | 0, i' + 1, _, h', e => by
    have hb := h' i' (by omega)
    have e : 0 = 32 * pkP B' p' i' + (B' (p' + i') - 96) := e
    omega
  | i + 1, 0, h, _, e => by
    have hb := h i (by omega)
    have e : 32 * pkP B p i + (B (p + i) - 96) = 0 := e
    omega
  | i + 1, i' + 1, h, h', e => by
    have hb := h i (by omega)
    have hb' := h' i' (by omega)
    have e : 32 * pkP B p i + (B (p + i) - 96) = 32 * pkP B' p' i' + (B' (p' + i') - 96) := e
    obtain ⟨j1, j2⟩ := pk_inj i i' (fun k hk => h k (by omega)) (fun k hk => h' k (by omega)) (by omega)
    subst j1
    refine ⟨rfl, fun k hk => ?_⟩
    by_cases q : k = i
    · subst q
      omega
    · exact j2 k (by omega)
def wvP (B : Nat → Nat) (p i : Nat) : Int64 := if i ≤ 8 then lN (pkP B p i) else -1
def cst (k : Nat) : Nat := ([263813, 409285, 290921650, 755156, 4153, 146885] : List Nat).getD k 0
def wdB (k i : Nat) : Nat := (wdL.getD k []).getD i 0
theorem wd_c : ∀ k, k < 6 → pkP (wdB k) 0 (wdL.getD k []).length = cst k ∧ cst k < 1000000000 := by decide
theorem wd_l {k : Nat} (hk : k < 6) : ltr (wdB k) 0 (wdL.getD k []).length := by
  have h : ∀ k : Fin 6, ∀ i : Fin 6, i.val < (wdL.getD k.val []).length → 97 ≤ wdB k.val (0 + i.val) ∧ wdB k.val (0 + i.val) ≤ 122 := by decide
  intro i hi
  have := (wd_ok k hk).2.2
  exact h ⟨k, hk⟩ ⟨i, by omega⟩ hi
theorem wd_d : ∀ k k', k < 6 → k' < 6 → wdL.getD k [] = wdL.getD k' [] → k = k' := by
  have h : ∀ k k' : Fin 6, wdL.getD k.val [] = wdL.getD k'.val [] → k.val = k'.val := by decide
  exact fun k k' a b => h ⟨k, a⟩ ⟨k', b⟩
theorem Iw_k {ML : mJ} (h : Iw ML) {k : Nat} (hk : k < 6) : ML 60 k = lN (cst k) := by
  obtain ⟨h0, h1, h2, h3, h4, h5⟩ := h
  rcases (show k = 0 ∨ k = 1 ∨ k = 2 ∨ k = 3 ∨ k = 4 ∨ k = 5 by omega) with rfl | rfl | rfl | rfl | rfl | rfl
  · exact h0
  · exact h1
  · exact h2
  · exact h3
  · exact h4
  · exact h5
theorem wv_eq {B : Nat → Nat} {p e k : Nat} (hpe : p ≤ e) (hl : ltr B p (e - p)) (hk : k < 6) : lN (cst k) = wvP B p (e - p) ↔ lsP B p e = wdL.getD k [] := by
  obtain ⟨c1, c2⟩ := wd_c k hk
  have hw := wd_l hk
  have hlen := (wd_ok k hk).2.2
  unfold wvP
  constructor
  · intro h
    by_cases q : e - p ≤ 8
    · rw [if_pos q] at h
      have hlt := pkP_lt (e - p) hl
      have h32 : 32 ^ (e - p) ≤ 32 ^ 8 := Nat.pow_le_pow_right (by decide) q
      have h38 : (32 : Nat) ^ 8 = 1099511627776 := by decide
      rw [pk_lEQ (by omega) (by omega), ← c1] at h
      obtain ⟨i1, i2⟩ := pk_inj _ _ hw hl h
      refine list_eq (by rw [lsP_len]; exact i1.symm) (fun i hi => ?_)
      rw [lsP_len] at hi
      rw [lsP_get hi]
      have := i2 i (by omega)
      rw [Nat.zero_add] at this
      exact this.symm
    · rw [if_neg q] at h
      exfalso
      have h3 : (lN (cst k)).toInt = (-1 : Int64).toInt := by rw [h]
      rw [pk_lT (by omega), show (-1 : Int64).toInt = -1 by decide] at h3
      omega
  · intro h
    have hle : e - p = (wdL.getD k []).length := by rw [← h, lsP_len]
    rw [if_pos (by omega), ← c1]
    congr 1
    have hBi : ∀ i, i < e - p → B (p + i) = wdB k (0 + i) := by
      intro i hi
      rw [← lsP_get (B := B) hi, h, Nat.zero_add]
      rfl
    rw [← hle]
    generalize e - p = m at hBi
    clear hle hl
    induction m with
    | zero => rfl
    | succ m ih =>
      show 32 * pkP (wdB k) 0 m + (wdB k (0 + m) - 96) = 32 * pkP B p m + (B (p + m) - 96)
      rw [ih (fun i hi => hBi i (by omega)), hBi m (by omega)]
section P74
variable {D t : Nat} {B : Nat → Nat} {ML : mJ} {Q : Option Value → mI → mJ → Prop}
theorem t_rw7 {p s : Nat} : ∀ (k q : Nat) (M : mI), t - q < k → p ≤ q → MT t B q s M → (∀ M', MT t B (leP B t k q) s M' → M' 52 = M 52 → FMr M' M → VX11_readsWord_79 (D + 1) Q (nI p) (wvP B p (leP B t k q - p)) (-1) (nI 0) M' ML) → VX11_readsWord_7 (D + 1) Q (nI p) (wvP B p (q - p)) M ML
  | 0, q, M, hk, _, _, _ => absurd hk (Nat.not_lt_zero _)
  | k + 1, q, M, hk, hpq, h, K => by
    have hn := h.n6
    have ht := h.2.2.2.2.2.1
    have h160 := h.1
    unfold leP at K
    refine BX11_readsWord_7 (usei h.nx ?_)
    by_cases hd : ltB (nxt B t q) = true
    · have hd2 := ltB_c.mp hd
      have hqt := nxt_lt (B := B) (t := t) (p := q) (by omega)
      have hx : nxt B t q = B q := if_pos hqt
      rw [if_pos hd] at K
      have e : zI (nxt B t q) = nI (nxt B t q) := if_neg (by omega)
      rw [e]
      refine cF (nI_nlt (by omega) (by omega)) (usei h.nx ?_)
      rw [e]
      refine cF (nI_nlt (by omega) (by omega)) ?_
      rw [h.2.2.2.1, pk_sub (by omega), nI_leI (by omega) (by omega), nI_add]
      have go := t_rw7 (p := p) k (q + 1) _ (by omega) (by omega) (h.adv hqt) (fun M' a b c => K M' a (by rw [b, mup_n (by decide)]) (c.tr ⟨fun q a _ => mup_n a, fun j a b c => by rw [mup_s, mput_n b]⟩))
      refine br (fun z => ?_) (fun z => usei h.nx ?_)
      · rw [show wvP B p (q + 1 - p) = -1 from if_neg (by omega)] at go
        exact go
      · rw [e, show wvP B p (q - p) = lN (pkP B p (q - p)) from if_pos (by omega), show (32 : Int64) = lN 32 from rfl, show (97 : Int64) = lN 97 from rfl, nI_l (by omega), lN_mul, lN_add, lN_sub (by omega), lN_1, h.2.2.2.1, nI_add]
        rw [show wvP B p (q + 1 - p) = lN (32 * pkP B p (q - p) + nxt B t q - 97 + 1) from by
          unfold wvP
          rw [if_pos (by omega), show q + 1 - p = q - p + 1 by omega]
          show lN (32 * pkP B p (q - p) + (B (p + (q - p)) - 96)) = _
          rw [show p + (q - p) = q by omega, ← hx]
          congr 1
          omega] at go
        exact go
    · rw [if_neg hd] at K
      have K1 := K M h rfl FMr.rf
      by_cases q1 : zI (nxt B t q) < nI 97
      · exact cT q1 K1
      · refine cF q1 (usei h.nx (cT ?_ K1))
        have hne : nxt B t q ≠ 256 := fun z => q1 (by rw [z]; decide)
        have e : zI (nxt B t q) = nI (nxt B t q) := if_neg hne
        rw [e, nI_ltI (by omega) (by omega)] at q1
        rw [e, nI_ltI (by omega) (by omega)]
        have hh : ¬ (97 ≤ nxt B t q ∧ nxt B t q ≤ 122) := fun z => hd (ltB_c.mpr z)
        omega
theorem t_readsWord {p s : Nat} {MI : mI} (hI : Iw ML) (h : MT t B p s MI) (hs : s < 160) : ∃ M, mrc (D + 2) 205 [.ref 46] MI ML none M ML ∧ FMr M MI ∧ (wxP B t p < 6 → MT t B (wnP B t p) (s + 1) M ∧ M 52 = mput (MI 52) s (-1 - nI (wxP B t p))) ∧ (¬ wxP B t p < 6 → M 46 19 = nI p ∧ M 52 = MI 52 ∧ M 46 18 = nI p) := by
  suffices hh : VX11_readsWord_0 (D + 1) (fun v M L' => v = none ∧ L' = ML ∧ FMr M MI ∧ (wxP B t p < 6 → MT t B (wnP B t p) (s + 1) M ∧ M 52 = mput (MI 52) s (-1 - nI (wxP B t p))) ∧ (¬ wxP B t p < 6 → M 46 19 = nI p ∧ M 52 = MI 52 ∧ M 46 18 = nI p)) MI ML by
    obtain ⟨v, M, L', ⟨rfl, rfl, hr⟩, hh⟩ := EX11_readsWord hh
    exact ⟨M, hh, hr⟩
  have ht := h.2.2.2.2.2.1
  have h160 := h.1
  obtain ⟨e1, e2, e3⟩ := leP_ok (B := B) (t := t) 161 p ht
  have hltr : ltr B p (wnP B t p - p) := by
    intro k hk
    have hk : k < leP B t 161 p - p := hk
    have := e3 (p + k) (by omega) (by omega)
    have hx : nxt B t (p + k) = B (p + k) := if_pos (by omega)
    rw [hx] at this
    exact ltB_c.mp this
  refine BX11_readsWord_0 ?_
  rw [h.2.2.2.1]
  have go := t_rw7 (D := D) (ML := ML) (p := p) 161 p MI (by omega) (Nat.le_refl _) h (Q := fun v M L' => v = none ∧ L' = ML ∧ FMr M MI ∧ (wxP B t p < 6 → MT t B (wnP B t p) (s + 1) M ∧ M 52 = mput (MI 52) s (-1 - nI (wxP B t p))) ∧ (¬ wxP B t p < 6 → M 46 19 = nI p ∧ M 52 = MI 52 ∧ M 46 18 = nI p)) (fun M m1 m2 m3 => ?_)
  · rw [Nat.sub_self] at go
    exact go
  · refine up (P := fun k => VX11_readsWord_79 (D + 1) _ (nI p) (wvP B p (wnP B t p - p)) (if wxP B t p < k then nI (wxP B t p) else -1) (nI k) M ML) 6 (Nat.zero_le _) ?_ ?_
    · refine BX11_readsWord_79 (cT (by decide) ?_)
      by_cases hx : wxP B t p < 6
      · rw [if_pos hx]
        obtain ⟨M2, w1, w2, w3, w4⟩ := m1.wr (D := D) (ML := ML) (x := -1 - nI (wxP B t p)) hs
        exact cF (nI_m1 (by omega)) (usev w1 ⟨rfl, rfl, w4.tr m3, fun _ => ⟨w2, by rw [w3, m2]⟩, fun z => absurd hx z⟩)
      · rw [if_neg hx]
        refine cT rfl (usev (t_wrongN (by rw [mup_s, mput_n (by decide)]; exact m1.2.2.2.2.2.2)) ⟨rfl, rfl, FMr.tr ⟨fun q a _ => by rw [mup_n a, mup_n a], fun j a b c => by simp only [mup_s, mput_n c, mput_n b]⟩ m3, fun z => absurd z hx, fun _ => ⟨by simp only [mup_s, mput_s], by rw [mup_n (by decide), mup_n (by decide)]; exact m2, by simp only [mup_s]; rw [mput_n (by decide), mput_s]⟩⟩)
    · intro k _ hk ih
      refine BX11_readsWord_79 (cF (nI_ge hk (by omega)) ⟨k, rfl, hk, ?_⟩)
      rw [lgE, Iw_k hI hk, wv_eq (e := wnP B t p) e1 hltr hk, nI_add]
      refine br (fun q => ?_) (fun q => ?_)
      · have hwx : wxP B t p = k := by
          have hle := fa_first_le (fun k => decide (lsP B p (wnP B t p) = wdL.getD k [])) 6
          rcases Nat.lt_trichotomy (wxP B t p) k with z | z | z
          · have hy := fa_first_yes (fun k => decide (lsP B p (wnP B t p) = wdL.getD k [])) 6 (show wxP B t p < 6 by omega)
            have hy2 : lsP B p (wnP B t p) = wdL.getD (wxP B t p) [] := of_decide_eq_true hy
            exact wd_d _ _ (by omega) hk (hy2.symm.trans q)
          · exact z
          · have := fa_first_no (fun k => decide (lsP B p (wnP B t p) = wdL.getD k [])) 6 k z
            have := of_decide_eq_false this
            exact absurd q this
        rw [show (if wxP B t p < k + 1 then nI (wxP B t p) else -1) = nI k from by rw [hwx, if_pos (Nat.lt_succ_self k)]] at ih
        exact ih
      · have hne : wxP B t p ≠ k := by
          intro z
          have hy := fa_first_yes (fun k => decide (lsP B p (wnP B t p) = wdL.getD k [])) 6 (show wxP B t p < 6 by omega)
          have hy2 : lsP B p (wnP B t p) = wdL.getD (wxP B t p) [] := of_decide_eq_true hy
          rw [z] at hy2
          exact q hy2
        by_cases z : wxP B t p < k
        · rw [if_pos z]
          rw [if_pos (show wxP B t p < k + 1 by omega)] at ih
          exact ih
        · rw [if_neg z]
          rw [if_neg (show ¬ wxP B t p < k + 1 by omega)] at ih
          exact ih
end P74
