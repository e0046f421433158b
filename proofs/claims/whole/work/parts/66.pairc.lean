/-! pairing: the class -/
theorem bt_nI {m i : Nat} (hi : i < 32) : bt (nI m) i = m.testBit i := by
  have e : bt (nI m) i = (BitVec.ofNat 32 m).getLsbD i := rfl
  rw [e, BitVec.getLsbD_ofNat, decide_eq_true hi, Bool.true_and]
theorem shl1 {w : Nat} (h : w ≤ 8) : nI 1 <<< (nI w &&& 31) = nI (2 ^ w) := by
  have : ∀ w : Fin 9, nI 1 <<< (nI w.val &&& 31) = nI (2 ^ w.val) := by decide +kernel
  exact this ⟨w, by omega⟩
theorem tb_or {m w i : Nat} : (m ||| 2 ^ w).testBit i = (m.testBit i || decide (i = w)) := by
  rw [Nat.testBit_or, Nat.testBit_two_pow]
  congr 1
  rw [decide_eq_decide]
  exact ⟨fun q => q.symm, fun q => q.symm⟩
theorem p2_8 {n : Nat} (h : n ≤ 8) : 2 ^ n ≤ 256 := by
  have : ∀ w : Fin 9, 2 ^ w.val ≤ 256 := by decide
  exact this ⟨n, by omega⟩
theorem or_lt {m w n : Nat} (hm : m < 2 ^ n) (hw : w < n) : m ||| 2 ^ w < 2 ^ n := Nat.or_lt_two_pow hm (Nat.pow_lt_pow_right (by decide) hw)
def mkS (m : Nat) : Nat → Bool := fun i => m.testBit i
theorem mS_or {m w : Nat} : mkS (m ||| 2 ^ w) = adS (mkS m) w := funext fun i => tb_or
def FP (M MI : mI) : Prop := ∀ q, q ≠ 25 → q ≠ 26 → q ≠ 27 → M q = MI q
theorem FP.rf {M : mI} : FP M M := fun _ _ _ _ => rfl
theorem FP.tr {M N MI : mI} (h : FP M N) (h2 : FP N MI) : FP M MI := fun q a b c => (h q a b c).trans (h2 q a b c)
/-- prices stand -/
def PrF (n : Nat) (pr : Nat → Nat → Nat) (al : Nat) (M : mI) : Prop := ∀ b, b < n → (∀ w, w < n → M 25 (b * 9 + w) = nI (pr w b)) ∧ M 25 (b * 9 + 8) = nI al
def LeF (n : Nat) (pr : Nat → Nat → Nat) (al b0 : Nat) (M : mI) : Prop := ∀ b, b0 ≤ b → b ≤ n → ∀ m, m < 2 ^ n → M 26 (b * 256 + m) = nI (Lc pr al n (n - b) (mkS m))
section C66
variable {D n al : Nat} {pr : Nat → Nat → Nat} {MI : mI} {ML : mJ} {x y : Int32}
theorem s_setPrice {b w : Nat} (hb : b < 8) (hw : w < 9) : mrc (D + 1) 90 [.ref 24, .int (nI b), .int (nI w), .int x] MI ML none (mup MI 25 (mput (MI 25) (b * 9 + w) x)) ML := by
  refine mrc_of (EX6_setPrice (BX6_setPrice_0 ?_))
  rw [pk_mul, nI_add]
  exact cF (nI_nlt (Nat.zero_le _) (by omega)) (cF (nI_ge (by omega) (by omega)) ⟨b * 9 + w, rfl, by omega, eRr⟩)
theorem s_setLeast {b m : Nat} (hb : b < 9) (hm : m < 256) : mrc (D + 1) 94 [.ref 24, .int (nI b), .int (nI m), .int x] MI ML none (mup MI 26 (mput (MI 26) (b * 256 + m) x)) ML := by
  refine mrc_of (EX6_setLeast (BX6_setLeast_0 ?_))
  rw [pk_mul, nI_add]
  exact cF (nI_nlt (Nat.zero_le _) (by omega)) (cF (nI_ge (by omega) (by omega)) ⟨b * 256 + m, rfl, by omega, eRr⟩)
theorem s_mayWeigh {b w : Nat} (hn : MI 1 0 = nI n) (h8 : n ≤ 8) (hb : b < n) (hw : w < n) : mrc (D + 3) 89 [.ref 24, .int (nI w), .int (nI b)] MI ML (some (.int (bI (!(decide (w = b) || decide ((frd (MI 2) b w n).1 = 8)))))) MI ML := by
  refine mrc_of (EX6_mayWeigh (BX6_mayWeigh_0 ?_))
  have hfo := frd_ok (MI 2) b w n
  rw [nI_eq (by omega) (by omega)]
  refine br (fun h => iR ?_ rfl) (fun h => usei (s_friendOf bz1 hn h8 (by omega) (by omega)) ?_)
  · rw [decide_eq_true h]; rfl
  · rw [nI_eq (by rcases hfo with q | q <;> omega) (by omega)]
    refine br (fun h2 => iR ?_ rfl) (fun h2 => iR ?_ rfl)
    · rw [decide_eq_true h2, Bool.or_true]; rfl
    · rw [decide_eq_false h, decide_eq_false h2]; rfl
theorem mnN {a b : Nat} (ha : a < 1000000000) (hb : b < 1000000000) : (if nI 1000000 < nI a + nI b then nI 1000000 else nI a + nI b) = nI (min (a + b) 1000000) := by
  rw [nI_add]
  by_cases h : 1000000 < a + b
  · rw [if_pos (nI_lt h (by omega)), Nat.min_eq_right (by omega)]
  · rw [if_neg (nI_nlt (by omega) (by omega)), Nat.min_eq_left (by omega)]
theorem s_priceBy {b m w : Nat} (h8 : n ≤ 8) (hb : b < n) (hm : m < 2 ^ n) (hw : w < n) (hP : PrF n pr al MI) (hL : LeF n pr al (b + 1) MI) (hpr : ∀ w b, pr w b ≤ 1000000) : mrc (D + 1) 93 [.ref 24, .int (nI b), .int (nI m), .int (nI w)] MI ML (some (.int (nI (cwP pr al n (n - (b + 1)) (mkS m) w)))) MI ML := by
  have h256 := p2_8 h8
  have hb2 : n - (n - (b + 1) + 1) = b := by omega
  refine mrc_of (EX6_priceBy (BX6_priceBy_0 (cF (by rw [nI_eq (by omega) (by omega)]; omega) ?_)))
  rw [tst1 _ (by omega), bt_nI (by omega)]
  refine br (fun h => BX6_priceBy_28 (cF (by decide) (iR ?_ rfl))) (fun h => BX6_priceBy_28 (cT rfl ?_))
  · unfold cwP
    rw [if_pos (show mkS m w = true from h)]
  · rw [pk_mul, nI_add, nI_add, pk_mul, shl1 (by omega), fa_or]
    refine cF (nI_nlt (Nat.zero_le _) (by omega)) (cT (nI_lt (by omega) (by omega)) (cF (by rw [nI_eq (by omega) (by omega)]; omega) (BX6_priceBy_75 ?_)))
    have ho := or_lt hm hw
    rw [nI_add]
    refine cF (nI_nlt (Nat.zero_le _) (by omega)) (cF (nI_ge (by omega) (by omega)) ⟨_, rfl, by omega, BX6_priceBy_105 ⟨b * 9 + w, rfl, by omega, iR ?_ rfl⟩⟩)
    rw [(hP b hb).1 w hw, hL (b + 1) (Nat.le_refl _) (by omega) _ ho, mS_or, mnN (by have := hpr w b; omega) (by have := Lc_le (pr := pr) (al := al) (n := n) (r := n - (b + 1)) (S := adS (mkS m) w); omega)]
    unfold cwP
    rw [if_neg (show ¬ mkS m w = true from h), hb2]
theorem s_priceNo {b m : Nat} (h8 : n ≤ 8) (hb : b < n) (hm : m < 2 ^ n) (hal : al ≤ 1000000) (hP : PrF n pr al MI) (hL : LeF n pr al (b + 1) MI) : mrc (D + 1) 93 [.ref 24, .int (nI b), .int (nI m), .int (nI 8)] MI ML (some (.int (nI (cnP pr al n (n - (b + 1)) (mkS m))))) MI ML := by
  have h256 := p2_8 h8
  refine mrc_of (EX6_priceBy (BX6_priceBy_0 (cT rfl (BX6_priceBy_28 (cT rfl ?_)))))
  rw [pk_mul, nI_add, nI_add, pk_mul]
  refine cF (nI_nlt (Nat.zero_le _) (by omega)) (cT (nI_lt (by omega) (by omega)) (cT rfl (BX6_priceBy_75 ?_)))
  rw [nI_add]
  refine cF (nI_nlt (Nat.zero_le _) (by omega)) (cF (nI_ge (by omega) (by omega)) ⟨_, rfl, by omega, BX6_priceBy_105 ⟨b * 9 + 8, rfl, by omega, iR ?_ rfl⟩⟩)
  rw [(hP b hb).2, hL (b + 1) (Nat.le_refl _) (by omega) _ hm, mnN (by omega) (by have := Lc_le (pr := pr) (al := al) (n := n) (r := n - (b + 1)) (S := mkS m); omega)]
  rfl
theorem s_cheapest {b m : Nat} (hn : MI 1 0 = nI n) (h8 : n ≤ 8) (hb : b < n) (hm : m < 2 ^ n) (hal : al ≤ 1000000) (hP : PrF n pr al MI) (hL : LeF n pr al (b + 1) MI) (hpr : ∀ w b, pr w b ≤ 1000000) : mrc (D + 2) 92 [.ref 24, .int (nI b), .int (nI m)] MI ML (some (.int (nI (whP pr al n (n - (b + 1)) (mkS m))))) MI ML := by
  have hcl : ∀ i, (chP pr al n (n - (b + 1)) (mkS m) i).2 ≤ 1000001 := by
    intro i
    rcases (chP_ok (pr := pr) (al := al) (n := n) (r := n - (b + 1)) (S := mkS m) i).2 with q | q
    · omega
    · rw [q.2.1]
      have := cwP_le (pr := pr) (al := al) (n := n) (r := n - (b + 1)) (S := mkS m) (chP pr al n (n - (b + 1)) (mkS m) i).1
      omega
  refine mrc_of (EX6_cheapest (BX6_cheapest_0 ?_))
  refine up (P := fun i => VX6_cheapest_10 (D + 1) _ (nI b) (nI m) (nI (chP pr al n (n - (b + 1)) (mkS m) i).1) (nI (chP pr al n (n - (b + 1)) (mkS m) i).2) (nI i) MI ML) n (Nat.zero_le _) ?_ ?_
  · refine BX6_cheapest_10 (cT (by rw [hn]; exact nI_le (Nat.le_refl _) (by omega)) (usei (s_priceNo h8 hb hm hal hP hL) ?_))
    have h1 := hcl n
    have h2 : cnP pr al n (n - (b + 1)) (mkS m) ≤ 1000000 := Nat.min_le_right _ _
    rw [nI_leI (by omega) (by omega)]
    refine br (fun q => iR ?_ rfl) (fun q => iR ?_ rfl)
    · unfold whP
      rw [if_pos q]
    · unfold whP
      rw [if_neg q]
  · intro i _ hi ih
    refine BX6_cheapest_10 (cF (by rw [hn]; exact nI_ge hi (by omega)) (usei (s_priceBy h8 hb hm hi hP hL hpr) ?_))
    have h1 := hcl i
    have h2 := cwP_le (pr := pr) (al := al) (n := n) (r := n - (b + 1)) (S := mkS m) i
    rw [nI_leI (by omega) (by omega), nI_add]
    have e : chP pr al n (n - (b + 1)) (mkS m) (i + 1) = if (chP pr al n (n - (b + 1)) (mkS m) i).2 ≤ cwP pr al n (n - (b + 1)) (mkS m) i then chP pr al n (n - (b + 1)) (mkS m) i else (i, cwP pr al n (n - (b + 1)) (mkS m) i) := rfl
    rw [e] at ih
    refine br (fun q => ?_) (fun q => ?_)
    · rwa [if_pos q] at ih
    · rwa [if_neg q] at ih
/-- who weighs already, ahead of buyer b; who weighs for b -/
def tkP (pr : Nat → Nat → Nat) (al n : Nat) : Nat → Nat
  | 0 => 0
  | b + 1 => if whP pr al n (n - (b + 1)) (mkS (tkP pr al n b)) = 8 then tkP pr al n b else tkP pr al n b ||| 2 ^ whP pr al n (n - (b + 1)) (mkS (tkP pr al n b))
def wgP (pr : Nat → Nat → Nat) (al n b : Nat) : Nat := whP pr al n (n - (b + 1)) (mkS (tkP pr al n b))
theorem wgP_c (b : Nat) (hb : b < n) : wgP pr al n b = 8 ∨ wgP pr al n b < n := by
  unfold wgP whP
  split
  · rcases (chP_ok (pr := pr) (al := al) (n := n) (r := n - (b + 1)) (S := mkS (tkP pr al n b)) n).2 with q | q
    · exact Or.inl q.1
    · exact Or.inr q.1
  · exact Or.inl rfl
theorem tkP_lt : ∀ b, b ≤ n → tkP pr al n b < 2 ^ n
  | 0, _ => Nat.two_pow_pos n
  | b + 1, hb => by
    have ih := tkP_lt b (by omega)
    have hw := wgP_c (pr := pr) (al := al) (n := n) b (by omega)
    unfold wgP at hw
    unfold tkP
    split
    · exact ih
    · next h => exact or_lt ih (hw.resolve_left h)
theorem s_settle (hn : MI 1 0 = nI n) (h8 : n ≤ 8) (hal : al ≤ 1000000) (hP : PrF n pr al MI) (hpr : ∀ w b, pr w b ≤ 1000000) : ∃ M, mrc (D + 3) 91 [.ref 24] MI ML none M ML ∧ FP M MI ∧ M 26 0 = nI (Lc pr al n n (mkS 0)) ∧ ∀ b, b < n → M 27 b = nI (wgP pr al n b) := by
  have h256 := p2_8 h8
  suffices h : VX6_settle_0 (D + 2) (fun v M L' => v = none ∧ L' = ML ∧ FP M MI ∧ M 26 0 = nI (Lc pr al n n (mkS 0)) ∧ ∀ b, b < n → M 27 b = nI (wgP pr al n b)) MI ML by
    obtain ⟨v, M, L', ⟨rfl, rfl, hr⟩, h⟩ := EX6_settle h
    exact ⟨M, h, hr⟩
  refine BX6_settle_0 ?_
  rw [hn, shl1 h8]
  refine up (P := fun m0 => ∀ M : mI, FP M MI → M 25 = MI 25 → (∀ m, m < m0 → M 26 (n * 256 + m) = nI 0) → VX6_settle_14 (D + 2) _ (nI n) (nI (2 ^ n)) (nI m0) M ML) (2 ^ n) (Nat.zero_le _) ?_ ?_ MI FP.rf rfl (fun m hm => absurd hm (Nat.not_lt_zero _))
  · intro M hF h25 hm0
    have hL0 : LeF n pr al n M := fun b b1 b2 m hm => by
      have : b = n := by omega
      subst this
      rw [hm0 m hm, Nat.sub_self]
      rfl
    refine BX6_settle_14 (cT (nI_le (Nat.le_refl _) (by omega)) ?_)
    have hdn := dn (P := fun b => b ≤ n → ∀ M : mI, FP M MI → M 25 = MI 25 → LeF n pr al b M → VX6_settle_36 (D + 2) (fun v M L' => v = none ∧ L' = ML ∧ FP M MI ∧ M 26 0 = nI (Lc pr al n n (mkS 0)) ∧ ∀ b, b < n → M 27 b = nI (wgP pr al n b)) (nI n) (nI (2 ^ n)) (tp b) M ML) n ?_ ?_
    · have := hdn (Nat.le_refl _) M hF h25 hL0
      rwa [show tp n = nI n - nI 1 from by
        cases n with
        | zero => decide
        | succ k => exact (nI_dn1).symm] at this
    · intro _ M hF h25 hL
      refine BX6_settle_36 (cT (by decide) ?_)
      refine up (P := fun b => ∀ M : mI, FP M MI → M 25 = MI 25 → LeF n pr al 0 M → (∀ c, c < b → M 27 c = nI (wgP pr al n c)) → VX6_settle_87 (D + 2) _ (nI n) (nI (tkP pr al n b)) (nI b) M ML) n (Nat.zero_le _) ?_ ?_ M hF h25 hL (fun c hc => absurd hc (Nat.not_lt_zero _))
      · intro M hF h25 hL hc
        refine BX6_settle_87 (cT (nI_le (Nat.le_refl _) (by omega)) ⟨rfl, rfl, hF, ?_, hc⟩)
        have := hL 0 (Nat.le_refl _) (Nat.zero_le _) 0 (Nat.two_pow_pos n)
        simpa using this
      · intro b _ hb ih M hF h25 hL hc
        have ht := tkP_lt (pr := pr) (al := al) (n := n) b (by omega)
        have hwc := wgP_c (pr := pr) (al := al) (n := n) b hb
        refine BX6_settle_87 (cF (nI_ge hb (by omega)) (cF (nI_ge (by omega) (by omega)) (usei (s_cheapest (n := n) (pr := pr) (al := al) (by rw [hF 1 (by decide) (by decide) (by decide)]; exact hn) h8 hb ht hal (fun b hb => by rw [h25]; exact hP b hb) (fun b b1 b2 m hm => hL b (by omega) b2 m hm) hpr) ⟨b, rfl, by omega, ?_⟩)))
        have key : ∀ T, T = tkP pr al n (b + 1) → VX6_settle_87 (D + 2) (fun v M L' => v = none ∧ L' = ML ∧ FP M MI ∧ M 26 0 = nI (Lc pr al n n (mkS 0)) ∧ ∀ b, b < n → M 27 b = nI (wgP pr al n b)) (nI n) (nI T) (nI (b + 1)) (mup M 27 (mput (M 27) b (nI (wgP pr al n b)))) ML := by
          rintro T rfl
          refine ih _ (fun q a b c => (mup_n c).trans (hF q a b c)) (by rw [mup_n (by decide)]; exact h25) (fun b b1 b2 m hm => by rw [mup_n (by decide)]; exact hL b b1 b2 m hm) (fun c hcb => ?_)
          rw [mup_s]
          by_cases q : c = b
          · subst q; rw [mput_s]
          · rw [mput_n q]; exact hc c (by omega)
        have hdef : tkP pr al n (b + 1) = if wgP pr al n b = 8 then tkP pr al n b else tkP pr al n b ||| 2 ^ wgP pr al n b := rfl
        have hwd : whP pr al n (n - (b + 1)) (mkS (tkP pr al n b)) = wgP pr al n b := rfl
        rw [hwd, nI_add, nI_eq (by omega) (by omega)]
        refine br (fun q => ?_) (fun q => ?_)
        · rw [fa_or, Nat.or_zero]
          exact key _ (by rw [hdef, if_pos q])
        · rw [shl1 (by omega), fa_or]
          exact key _ (by rw [hdef, if_neg q])
    · intro b hb ih hbn M hF h25 hL
      refine BX6_settle_36 (cF (nI_nlt (Nat.zero_le _) (by omega)) ?_)
      refine up (P := fun m0 => ∀ M : mI, FP M MI → M 25 = MI 25 → LeF n pr al (b + 1) M → (∀ m, m < m0 → M 26 (b * 256 + m) = nI (Lc pr al n (n - b) (mkS m))) → VX6_settle_43 (D + 2) _ (nI n) (nI (2 ^ n)) (tp (b + 1)) (nI m0) M ML) (2 ^ n) (Nat.zero_le _) ?_ ?_ M hF h25 hL (fun m hm => absurd hm (Nat.not_lt_zero _))
      · intro M hF h25 hL hm0
        refine BX6_settle_43 (cT (nI_le (Nat.le_refl _) (by omega)) ?_)
        rw [tp_dn]
        refine ih (by omega) M hF h25 (fun c c1 c2 m hm => ?_)
        by_cases q : c = b
        · subst q; exact hm0 m hm
        · exact hL c (by omega) c2 m hm
      · intro m _ hm ih2 M hF h25 hL hm0
        have hP' : PrF n pr al M := fun b hb => by rw [h25]; exact hP b hb
        have hn' : M 1 0 = nI n := by rw [hF 1 (by decide) (by decide) (by decide)]; exact hn
        have hvb : mrc (D + 2) 93 [.ref 24, .int (nI b), .int (nI m), .int (nI (whP pr al n (n - (b + 1)) (mkS m)))] M ML (some (.int (nI (Lc pr al n (n - b) (mkS m))))) M ML := by
          have hck := chP_ok (pr := pr) (al := al) (n := n) (r := n - (b + 1)) (S := mkS m) n
          have h2 := hck.2.resolve_left (fun q => by omega)
          have hc := Lc_ch (pr := pr) (al := al) (r := n - (b + 1)) (S := mkS m) (n := n) (by omega)
          rw [show n - (b + 1) + 1 = n - b by omega] at hc
          unfold whP
          by_cases q : (chP pr al n (n - (b + 1)) (mkS m) n).2 ≤ cnP pr al n (n - (b + 1)) (mkS m)
          · rw [if_pos q, hc, Nat.min_eq_left q, h2.2.1]
            exact s_priceBy h8 hb hm h2.1 hP' hL hpr
          · rw [if_neg q, hc, Nat.min_eq_right (by omega)]
            exact s_priceNo h8 hb hm hal hP' hL
        show VX6_settle_43 (D + 2) _ (nI n) (nI (2 ^ n)) (nI b) (nI m) M ML
        refine BX6_settle_43 (cF (nI_ge hm (by omega)) (usei (s_cheapest hn' h8 hb hm hal hP' hL hpr) (usei hvb (usev (s_setLeast (by omega) (by omega)) ?_))))
        rw [nI_add]
        refine ih2 _ (fun q a b c => (mup_n b).trans (hF q a b c)) (by rw [mup_n (by decide)]; exact h25) (fun c c1 c2 k hk => ?_) (fun k hk => ?_)
        · rw [mup_s, mput_n (by omega)]
          exact hL c c1 c2 k hk
        · rw [mup_s]
          by_cases q : k = m
          · subst q; rw [mput_s]
          · rw [mput_n (by omega)]
            exact hm0 k (by omega)
  · intro m _ hm ih M hF h25 hm0
    refine BX6_settle_14 (cF (nI_ge hm (by omega)) (usev (s_setLeast (by omega) (by omega)) ?_))
    rw [nI_add]
    refine ih _ (fun q a b c => (mup_n b).trans (hF q a b c)) (by rw [mup_n (by decide)]; exact h25) (fun k hk => ?_)
    rw [mup_s]
    by_cases q : k = m
    · subst q; rw [mput_s]
    · rw [mput_n (by omega)]
      exact hm0 k (by omega)
end C66
