/-! the frame of my machine: a run that makes nothing is a run with more objects behind, and more room used -/
def lfS (d : Nat) (E : List mT) (S : mS) : mS := (S.1 + d, S.2.1 ++ E, S.2.2.1, S.2.2.2)
def lfR (d : Nat) (E : List mT) : mR → mR
  | .inl (pc, l, st, S) => .inl (pc, l, st, lfS d E S)
  | .inr (.inl (v, S)) => .inr (.inl (v, lfS d E S))
  | .inr (.inr (y, as, (pc, l, st, S))) => .inr (.inr (y, as, (pc, l, st, lfS d E S)))
def stR : mR → mS
  | .inl (_, _, _, S) => S
  | .inr (.inl (_, S)) => S
  | .inr (.inr (_, _, (_, _, _, S))) => S
def fro (o : mO) : Prop := ∀ l st S r, o l st S = some r → S.2.1.length ≤ (stR r).2.1.length ∧ ((stR r).2.1.length = S.2.1.length → ∀ d E, o l st (lfS d E S) = some (lfR d E r))
theorem mget_c : ∀ (L : mL) (i : Nat), (∃ v, ∀ k, mget L i k = k v) ∨ (∀ k, mget L i k = none)
  | [], _ => Or.inr fun _ => rfl
  | a :: t, 0 => by
    cases a with
    | none => exact Or.inr fun _ => rfl
    | some v => exact Or.inl ⟨v, fun _ => rfl⟩
  | a :: t, j + 1 => mget_c t j
theorem mclr_c (a : Option Value) : ∃ a', ∀ k, mclr a k = k a' := by
  cases a with
  | none => exact ⟨none, fun _ => rfl⟩
  | some v => cases v with
    | long x => exact ⟨none, fun _ => rfl⟩
    | double x => exact ⟨none, fun _ => rfl⟩
    | int x => exact ⟨_, fun _ => rfl⟩
    | float x => exact ⟨_, fun _ => rfl⟩
    | null => exact ⟨_, fun _ => rfl⟩
    | ref x => exact ⟨_, fun _ => rfl⟩
    | _ => exact ⟨_, fun _ => rfl⟩
theorem mset1_c : ∀ (L : mL) (i : Nat) (v : Value), (∃ L', ∀ k, mset1 L i v k = k L') ∨ (∀ k, mset1 L i v k = none)
  | [], _, _ => Or.inr fun _ => rfl
  | a :: t, 0, v => Or.inl ⟨_, fun _ => rfl⟩
  | a :: t, 1, v => by
    obtain ⟨a', ha⟩ := mclr_c a
    rcases mset1_c t 0 v with ⟨t', ht⟩ | ht
    · exact Or.inl ⟨a' :: t', fun k => by show mclr a (fun a' => mset1 t 0 v (fun t' => k (a' :: t'))) = _; rw [ha, ht]⟩
    · exact Or.inr fun k => by show mclr a (fun a' => mset1 t 0 v (fun t' => k (a' :: t'))) = _; rw [ha, ht]
  | a :: t, j + 2, v => by
    rcases mset1_c t (j + 1) v with ⟨t', ht⟩ | ht
    · exact Or.inl ⟨a :: t', fun k => ht _⟩
    · exact Or.inr fun k => ht _
theorem mset2_c : ∀ (L : mL) (i : Nat) (v : Value), (∃ L', ∀ k, mset2 L i v k = k L') ∨ (∀ k, mset2 L i v k = none)
  | [], _, _ => Or.inr fun _ => rfl
  | [a], 0, v => Or.inr fun _ => rfl
  | a :: b :: t, 0, v => Or.inl ⟨_, fun _ => rfl⟩
  | a :: t, 1, v => by
    obtain ⟨a', ha⟩ := mclr_c a
    rcases mset2_c t 0 v with ⟨t', ht⟩ | ht
    · exact Or.inl ⟨a' :: t', fun k => by show mclr a (fun a' => mset2 t 0 v (fun t' => k (a' :: t'))) = _; rw [ha, ht]⟩
    · exact Or.inr fun k => by show mclr a (fun a' => mset2 t 0 v (fun t' => k (a' :: t'))) = _; rw [ha, ht]
  | a :: t, j + 2, v => by
    rcases mset2_c t (j + 1) v with ⟨t', ht⟩ | ht
    · exact Or.inl ⟨a :: t', fun k => ht _⟩
    · exact Or.inr fun k => ht _
theorem mpop_c : ∀ (n : Nat) (st : mK) (acc : List Value), (∃ as r, ∀ k, mpop n st acc k = k as r) ∨ (∀ k, mpop n st acc k = none)
  | 0, st, acc => Or.inl ⟨acc, st, fun _ => rfl⟩
  | n + 1, [], acc => Or.inr fun _ => rfl
  | n + 1, v :: t, acc => mpop_c n t (v :: acc)
theorem mnth_a {α : Type} {l E : List α} {i : Nat} {a : α} (h : l[i]? = some a) (k : α → Option mR) : mnth (l ++ E) i k = k a := by
  have h2 : (l ++ E)[i]? = some a := by rw [List.getElem?_append_left (List.getElem?_eq_some_iff.mp h).1, h]
  exact mnth_eq h2
theorem mrep_eq {α : Type} : ∀ {l : List α} {i : Nat} {v : α} {k : List α → Option mR}, i < l.length → mrep l i v k = k (l.set i v)
  | [], _, _, _, h => absurd h (Nat.not_lt_zero _)
  | a :: t, 0, v, k, h => rfl
  | a :: t, j + 1, v, k, h => mrep_eq (l := t) (i := j) (k := fun t' => k (a :: t')) (Nat.lt_of_succ_lt_succ h)
theorem cT1 {b : Bool} {a r : Option mR} (h : b = true) (k : a = r) : cond b a none = r := by
  rw [h]
  exact k
section FR0
variable {nx t i j n y ci k N d : Nat} {c v : Int32} {v6 : Int64}
theorem fr_ic : fro (o_ic v nx) := by
  intro l st S r h
  cases h
  exact ⟨Nat.le_refl _, fun _ _ _ => rfl⟩
theorem fr_lc : fro (o_lc v6 nx) := by
  intro l st S r h
  cases h
  exact ⟨Nat.le_refl _, fun _ _ _ => rfl⟩
theorem fr_go : fro (o_go t) := by
  intro l st S r h
  cases h
  exact ⟨Nat.le_refl _, fun _ _ _ => rfl⟩
theorem fr_add : fro (o_add nx) := by
  intro l st S r h
  unfold o_add at h ⊢
  split at h
  all_goals first | (cases h; done) | (cases h; exact ⟨Nat.le_refl _, fun _ _ _ => rfl⟩)
theorem fr_sub : fro (o_sub nx) := by
  intro l st S r h
  unfold o_sub at h ⊢
  split at h
  all_goals first | (cases h; done) | (cases h; exact ⟨Nat.le_refl _, fun _ _ _ => rfl⟩)
theorem fr_mul : fro (o_mul nx) := by
  intro l st S r h
  unfold o_mul at h ⊢
  split at h
  all_goals first | (cases h; done) | (cases h; exact ⟨Nat.le_refl _, fun _ _ _ => rfl⟩)
theorem fr_and : fro (o_and nx) := by
  intro l st S r h
  unfold o_and at h ⊢
  split at h
  all_goals first | (cases h; done) | (cases h; exact ⟨Nat.le_refl _, fun _ _ _ => rfl⟩)
theorem fr_or : fro (o_or nx) := by
  intro l st S r h
  unfold o_or at h ⊢
  split at h
  all_goals first | (cases h; done) | (cases h; exact ⟨Nat.le_refl _, fun _ _ _ => rfl⟩)
theorem fr_xor : fro (o_xor nx) := by
  intro l st S r h
  unfold o_xor at h ⊢
  split at h
  all_goals first | (cases h; done) | (cases h; exact ⟨Nat.le_refl _, fun _ _ _ => rfl⟩)
theorem fr_shl : fro (o_shl nx) := by
  intro l st S r h
  unfold o_shl at h ⊢
  split at h
  all_goals first | (cases h; done) | (cases h; exact ⟨Nat.le_refl _, fun _ _ _ => rfl⟩)
theorem fr_shr : fro (o_shr nx) := by
  intro l st S r h
  unfold o_shr at h ⊢
  split at h
  all_goals first | (cases h; done) | (cases h; exact ⟨Nat.le_refl _, fun _ _ _ => rfl⟩)
theorem fr_ushr : fro (o_ushr nx) := by
  intro l st S r h
  unfold o_ushr at h ⊢
  split at h
  all_goals first | (cases h; done) | (cases h; exact ⟨Nat.le_refl _, fun _ _ _ => rfl⟩)
theorem fr_ladd : fro (o_ladd nx) := by
  intro l st S r h
  unfold o_ladd at h ⊢
  split at h
  all_goals first | (cases h; done) | (cases h; exact ⟨Nat.le_refl _, fun _ _ _ => rfl⟩)
theorem fr_lsub : fro (o_lsub nx) := by
  intro l st S r h
  unfold o_lsub at h ⊢
  split at h
  all_goals first | (cases h; done) | (cases h; exact ⟨Nat.le_refl _, fun _ _ _ => rfl⟩)
theorem fr_lmul : fro (o_lmul nx) := by
  intro l st S r h
  unfold o_lmul at h ⊢
  split at h
  all_goals first | (cases h; done) | (cases h; exact ⟨Nat.le_refl _, fun _ _ _ => rfl⟩)
theorem fr_land : fro (o_land nx) := by
  intro l st S r h
  unfold o_land at h ⊢
  split at h
  all_goals first | (cases h; done) | (cases h; exact ⟨Nat.le_refl _, fun _ _ _ => rfl⟩)
theorem fr_lor : fro (o_lor nx) := by
  intro l st S r h
  unfold o_lor at h ⊢
  split at h
  all_goals first | (cases h; done) | (cases h; exact ⟨Nat.le_refl _, fun _ _ _ => rfl⟩)
theorem fr_lcmp : fro (o_lcmp nx) := by
  intro l st S r h
  unfold o_lcmp at h ⊢
  split at h
  all_goals first | (cases h; done) | (cases h; exact ⟨Nat.le_refl _, fun _ _ _ => rfl⟩)
theorem fr_lshl : fro (o_lshl nx) := by
  intro l st S r h
  unfold o_lshl at h ⊢
  split at h
  all_goals first | (cases h; done) | (cases h; exact ⟨Nat.le_refl _, fun _ _ _ => rfl⟩)
theorem fr_neg : fro (o_neg nx) := by
  intro l st S r h
  unfold o_neg at h ⊢
  split at h
  all_goals first | (cases h; done) | (cases h; exact ⟨Nat.le_refl _, fun _ _ _ => rfl⟩)
theorem fr_i2l : fro (o_i2l nx) := by
  intro l st S r h
  unfold o_i2l at h ⊢
  split at h
  all_goals first | (cases h; done) | (cases h; exact ⟨Nat.le_refl _, fun _ _ _ => rfl⟩)
theorem fr_l2i : fro (o_l2i nx) := by
  intro l st S r h
  unfold o_l2i at h ⊢
  split at h
  all_goals first | (cases h; done) | (cases h; exact ⟨Nat.le_refl _, fun _ _ _ => rfl⟩)
theorem fr_i2b : fro (o_i2b nx) := by
  intro l st S r h
  unfold o_i2b at h ⊢
  split at h
  all_goals first | (cases h; done) | (cases h; exact ⟨Nat.le_refl _, fun _ _ _ => rfl⟩)
theorem fr_i2s : fro (o_i2s nx) := by
  intro l st S r h
  unfold o_i2s at h ⊢
  split at h
  all_goals first | (cases h; done) | (cases h; exact ⟨Nat.le_refl _, fun _ _ _ => rfl⟩)
theorem fr_dup : fro (o_dup nx) := by
  intro l st S r h
  unfold o_dup at h ⊢
  split at h
  all_goals first | (cases h; done) | (cases h; exact ⟨Nat.le_refl _, fun _ _ _ => rfl⟩)
theorem fr_pop : fro (o_pop nx) := by
  intro l st S r h
  unfold o_pop at h ⊢
  split at h
  all_goals first | (cases h; done) | (cases h; exact ⟨Nat.le_refl _, fun _ _ _ => rfl⟩)
theorem fr_dup2 : fro (o_dup2 nx) := by
  intro l st S r h
  unfold o_dup2 at h ⊢
  split at h
  all_goals first | (cases h; done) | (cases h; exact ⟨Nat.le_refl _, fun _ _ _ => rfl⟩)
theorem fr_ri : fro (o_ri) := by
  intro l st S r h
  unfold o_ri at h ⊢
  split at h
  all_goals first | (cases h; done) | (cases h; exact ⟨Nat.le_refl _, fun _ _ _ => rfl⟩)
theorem fr_rl : fro (o_rl) := by
  intro l st S r h
  unfold o_rl at h ⊢
  split at h
  all_goals first | (cases h; done) | (cases h; exact ⟨Nat.le_refl _, fun _ _ _ => rfl⟩)
theorem fr_rv : fro (o_rv) := by
  intro l st S r h
  unfold o_rv at h ⊢
  split at h
  all_goals first | (cases h; done) | (cases h; exact ⟨Nat.le_refl _, fun _ _ _ => rfl⟩)
theorem fr_raF : fro (o_raF) := by
  intro l st S r h
  unfold o_raF at h ⊢
  split at h
  all_goals first | (cases h; done) | (cases h; exact ⟨Nat.le_refl _, fun _ _ _ => rfl⟩)
theorem fr_raR : fro (o_raR) := by
  intro l st S r h
  unfold o_raR at h ⊢
  split at h
  all_goals first | (cases h; done) | (cases h; exact ⟨Nat.le_refl _, fun _ _ _ => rfl⟩)
theorem fr_ifeq : fro (o_ifeq t nx) := by
  intro l st S r h
  unfold o_ifeq at h ⊢
  split at h
  · split at h
    · next q =>
      cases h
      exact ⟨Nat.le_refl _, fun _ _ _ => if_pos q⟩
    · next q =>
      cases h
      exact ⟨Nat.le_refl _, fun _ _ _ => if_neg q⟩
  · cases h
theorem fr_iceq : fro (o_iceq t nx) := by
  intro l st S r h
  unfold o_iceq at h ⊢
  split at h
  · split at h
    · next q =>
      cases h
      exact ⟨Nat.le_refl _, fun _ _ _ => if_pos q⟩
    · next q =>
      cases h
      exact ⟨Nat.le_refl _, fun _ _ _ => if_neg q⟩
  · cases h
theorem fr_ifne : fro (o_ifne t nx) := by
  intro l st S r h
  unfold o_ifne at h ⊢
  split at h
  · split at h
    · next q =>
      cases h
      exact ⟨Nat.le_refl _, fun _ _ _ => if_pos q⟩
    · next q =>
      cases h
      exact ⟨Nat.le_refl _, fun _ _ _ => if_neg q⟩
  · cases h
theorem fr_icne : fro (o_icne t nx) := by
  intro l st S r h
  unfold o_icne at h ⊢
  split at h
  · split at h
    · next q =>
      cases h
      exact ⟨Nat.le_refl _, fun _ _ _ => if_pos q⟩
    · next q =>
      cases h
      exact ⟨Nat.le_refl _, fun _ _ _ => if_neg q⟩
  · cases h
theorem fr_iflt : fro (o_iflt t nx) := by
  intro l st S r h
  unfold o_iflt at h ⊢
  split at h
  · split at h
    · next q =>
      cases h
      exact ⟨Nat.le_refl _, fun _ _ _ => if_pos q⟩
    · next q =>
      cases h
      exact ⟨Nat.le_refl _, fun _ _ _ => if_neg q⟩
  · cases h
theorem fr_iclt : fro (o_iclt t nx) := by
  intro l st S r h
  unfold o_iclt at h ⊢
  split at h
  · split at h
    · next q =>
      cases h
      exact ⟨Nat.le_refl _, fun _ _ _ => if_pos q⟩
    · next q =>
      cases h
      exact ⟨Nat.le_refl _, fun _ _ _ => if_neg q⟩
  · cases h
theorem fr_ifge : fro (o_ifge t nx) := by
  intro l st S r h
  unfold o_ifge at h ⊢
  split at h
  · split at h
    · next q =>
      cases h
      exact ⟨Nat.le_refl _, fun _ _ _ => if_pos q⟩
    · next q =>
      cases h
      exact ⟨Nat.le_refl _, fun _ _ _ => if_neg q⟩
  · cases h
theorem fr_icge : fro (o_icge t nx) := by
  intro l st S r h
  unfold o_icge at h ⊢
  split at h
  · split at h
    · next q =>
      cases h
      exact ⟨Nat.le_refl _, fun _ _ _ => if_pos q⟩
    · next q =>
      cases h
      exact ⟨Nat.le_refl _, fun _ _ _ => if_neg q⟩
  · cases h
theorem fr_ifgt : fro (o_ifgt t nx) := by
  intro l st S r h
  unfold o_ifgt at h ⊢
  split at h
  · split at h
    · next q =>
      cases h
      exact ⟨Nat.le_refl _, fun _ _ _ => if_pos q⟩
    · next q =>
      cases h
      exact ⟨Nat.le_refl _, fun _ _ _ => if_neg q⟩
  · cases h
theorem fr_icgt : fro (o_icgt t nx) := by
  intro l st S r h
  unfold o_icgt at h ⊢
  split at h
  · split at h
    · next q =>
      cases h
      exact ⟨Nat.le_refl _, fun _ _ _ => if_pos q⟩
    · next q =>
      cases h
      exact ⟨Nat.le_refl _, fun _ _ _ => if_neg q⟩
  · cases h
theorem fr_ifle : fro (o_ifle t nx) := by
  intro l st S r h
  unfold o_ifle at h ⊢
  split at h
  · split at h
    · next q =>
      cases h
      exact ⟨Nat.le_refl _, fun _ _ _ => if_pos q⟩
    · next q =>
      cases h
      exact ⟨Nat.le_refl _, fun _ _ _ => if_neg q⟩
  · cases h
theorem fr_icle : fro (o_icle t nx) := by
  intro l st S r h
  unfold o_icle at h ⊢
  split at h
  · split at h
    · next q =>
      cases h
      exact ⟨Nat.le_refl _, fun _ _ _ => if_pos q⟩
    · next q =>
      cases h
      exact ⟨Nat.le_refl _, fun _ _ _ => if_neg q⟩
  · cases h
theorem fr_div : fro (o_div nx) := by
  intro l st S r h
  unfold o_div at h ⊢
  split at h
  · split at h
    · cases h
    · next q =>
      cases h
      exact ⟨Nat.le_refl _, fun _ _ _ => if_neg q⟩
  · cases h
theorem fr_rem : fro (o_rem nx) := by
  intro l st S r h
  unfold o_rem at h ⊢
  split at h
  · split at h
    · cases h
    · next q =>
      cases h
      exact ⟨Nat.le_refl _, fun _ _ _ => if_neg q⟩
  · cases h
theorem fr_rz : fro (o_rz) := by
  intro l st S r h
  unfold o_rz at h ⊢
  split at h
  · split at h
    · next q =>
      cases h
      exact ⟨Nat.le_refl _, fun _ _ _ => if_pos q⟩
    · cases h
  · cases h
theorem fr_no : fro (o_no) := by
  intro l st S r h
  cases h
theorem fr_sw {ps : List (Int32 × Nat)} : fro (o_sw ps d) := by
  intro l st S r h
  unfold o_sw at h ⊢
  split at h
  · next x r' =>
    rcases m_sw h with ⟨q, h1, h2, h3⟩ | ⟨h1, h3⟩
    · cases h3
      refine ⟨Nat.le_refl _, fun _ dd E => ?_⟩
      have : ∀ (ps : List (Int32 × Nat)) (k k2 : Nat → Option mR), (∃ t0, msw x d k ps = k t0 ∧ msw x d k2 ps = k2 t0) := by
        intro ps
        induction ps with
        | nil => exact fun k k2 => ⟨d, rfl, rfl⟩
        | cons q t ih =>
          intro k k2
          by_cases e : x = q.1
          · exact ⟨q.2, by unfold msw; rw [if_pos e], by unfold msw; rw [if_pos e]⟩
          · obtain ⟨t0, i1, i2⟩ := ih k k2
            exact ⟨t0, by unfold msw; rw [if_neg e]; exact i1, by unfold msw; rw [if_neg e]; exact i2⟩
      obtain ⟨t0, i1, i2⟩ := this ps (fun t => some (.inl (t, l, r', S))) (fun t => some (.inl (t, l, r', lfS dd E S)))
      show msw x d (fun t => some (.inl (t, l, r', lfS dd E S))) ps = _
      rw [i1] at h
      rw [i2]
      cases h
      rfl
    · cases h3
      refine ⟨Nat.le_refl _, fun _ dd E => ?_⟩
      have : ∀ (ps : List (Int32 × Nat)) (k k2 : Nat → Option mR), (∃ t0, msw x d k ps = k t0 ∧ msw x d k2 ps = k2 t0) := by
        intro ps
        induction ps with
        | nil => exact fun k k2 => ⟨d, rfl, rfl⟩
        | cons q t ih =>
          intro k k2
          by_cases e : x = q.1
          · exact ⟨q.2, by unfold msw; rw [if_pos e], by unfold msw; rw [if_pos e]⟩
          · obtain ⟨t0, i1, i2⟩ := ih k k2
            exact ⟨t0, by unfold msw; rw [if_neg e]; exact i1, by unfold msw; rw [if_neg e]; exact i2⟩
      obtain ⟨t0, i1, i2⟩ := this ps (fun t => some (.inl (t, l, r', S))) (fun t => some (.inl (t, l, r', lfS dd E S)))
      show msw x d (fun t => some (.inl (t, l, r', lfS dd E S))) ps = _
      rw [i1] at h
      rw [i2]
      cases h
      rfl
  · cases h
theorem fr_il : fro (o_il i nx) := by
  intro l st S r h
  unfold o_il at h ⊢
  rcases mget_c l i with ⟨v, hv⟩ | hv
  · rw [hv] at h
    split at h
    all_goals first | (cases h; done) | (cases h; exact ⟨Nat.le_refl _, fun _ _ _ => by rw [hv]; rfl⟩)
  · rw [hv] at h
    cases h
theorem fr_ll : fro (o_ll i nx) := by
  intro l st S r h
  unfold o_ll at h ⊢
  rcases mget_c l i with ⟨v, hv⟩ | hv
  · rw [hv] at h
    split at h
    all_goals first | (cases h; done) | (cases h; exact ⟨Nat.le_refl _, fun _ _ _ => by rw [hv]; rfl⟩)
  · rw [hv] at h
    cases h
theorem fr_al : fro (o_al i nx) := by
  intro l st S r h
  unfold o_al at h ⊢
  rcases mget_c l i with ⟨v, hv⟩ | hv
  · rw [hv] at h
    split at h
    all_goals first | (cases h; done) | (cases h; exact ⟨Nat.le_refl _, fun _ _ _ => by rw [hv]; rfl⟩)
  · rw [hv] at h
    cases h
theorem fr_is : fro (o_is i nx) := by
  intro l st S r h
  unfold o_is at h ⊢
  split at h
  · next x r' =>
    rcases mset1_c l i _ with ⟨L', hL⟩ | hL
    · rw [hL] at h
      cases h
      exact ⟨Nat.le_refl _, fun _ _ _ => hL _⟩
    · rw [hL] at h
      cases h
  · cases h
theorem fr_as : fro (o_as i nx) := by
  intro l st S r h
  unfold o_as at h ⊢
  split at h
  · next x r' =>
    rcases mset1_c l i _ with ⟨L', hL⟩ | hL
    · rw [hL] at h
      cases h
      exact ⟨Nat.le_refl _, fun _ _ _ => hL _⟩
    · rw [hL] at h
      cases h
  · cases h
theorem fr_ls : fro (o_ls i nx) := by
  intro l st S r h
  unfold o_ls at h ⊢
  split at h
  · next x r' =>
    rcases mset2_c l i _ with ⟨L', hL⟩ | hL
    · rw [hL] at h
      cases h
      exact ⟨Nat.le_refl _, fun _ _ _ => hL _⟩
    · rw [hL] at h
      cases h
  · cases h
theorem fr_inc : fro (o_inc i c nx) := by
  intro l st S r h
  unfold o_inc at h ⊢
  rcases mget_c l i with ⟨v, hv⟩ | hv
  · rw [hv] at h
    split at h
    · rcases mset1_c l i _ with ⟨L', hL⟩ | hL
      · rw [hL] at h
        cases h
        exact ⟨Nat.le_refl _, fun _ _ _ => by rw [hv]; exact hL _⟩
      · rw [hL] at h
        cases h
    · cases h
  · rw [hv] at h
    cases h
theorem fr_gi : fro (o_gi ci k nx) := by
  intro l st S r h
  obtain ⟨w, Sh, MI, ML⟩ := S
  unfold o_gi at h ⊢
  split at h
  · obtain ⟨t, g1, g2⟩ := mnth_spec h
    split at g2
    · obtain ⟨e1, g3⟩ := m_cond g2
      obtain ⟨q, g4, g5⟩ := mnth_spec g3
      split at g5
      all_goals first | (cases g5; done) | (cases g5; exact ⟨Nat.le_refl _, fun _ _ _ => (mnth_a g1 _).trans (cT1 e1 (mnth_eq g4))⟩)
    · cases g2
  · cases h
theorem fr_gr : fro (o_gr ci k nx) := by
  intro l st S r h
  obtain ⟨w, Sh, MI, ML⟩ := S
  unfold o_gr at h ⊢
  split at h
  · obtain ⟨t, g1, g2⟩ := mnth_spec h
    split at g2
    · obtain ⟨e1, g3⟩ := m_cond g2
      obtain ⟨q, g4, g5⟩ := mnth_spec g3
      split at g5
      all_goals first | (cases g5; done) | (cases g5; exact ⟨Nat.le_refl _, fun _ _ _ => (mnth_a g1 _).trans (cT1 e1 (mnth_eq g4))⟩)
    · cases g2
  · cases h
theorem fr_pi : fro (o_pi ci k nx) := by
  intro l st S r h
  obtain ⟨w, Sh, MI, ML⟩ := S
  unfold o_pi at h ⊢
  split at h
  · obtain ⟨t, g1, g2⟩ := mnth_spec h
    split at g2
    · obtain ⟨e1, g3⟩ := m_cond g2
      obtain ⟨q, g4, g5⟩ := mnth_spec g3
      split at g5
      all_goals first | (cases g5; done) | (cases g5; exact ⟨Nat.le_refl _, fun _ _ _ => (mnth_a g1 _).trans (cT1 e1 (mnth_eq g4))⟩)
    · cases g2
  · cases h
theorem fr_pz : fro (o_pz ci k nx) := by
  intro l st S r h
  obtain ⟨w, Sh, MI, ML⟩ := S
  unfold o_pz at h ⊢
  split at h
  · obtain ⟨t, g1, g2⟩ := mnth_spec h
    split at g2
    · obtain ⟨e1, g3⟩ := m_cond g2
      obtain ⟨q, g4, g5⟩ := mnth_spec g3
      split at g5
      · split at g5
        · next q =>
          cases g5
          exact ⟨Nat.le_refl _, fun _ _ _ => (mnth_a g1 _).trans (cT1 e1 ((mnth_eq g4).trans (if_pos q)))⟩
        · cases g5
      · cases g5
    · cases g2
  · cases h
theorem fr_pr : fro (o_pr ci k nx) := by
  intro l st S r h
  obtain ⟨w, Sh, MI, ML⟩ := S
  unfold o_pr at h ⊢
  split at h
  · obtain ⟨t, g1, g2⟩ := mnth_spec h
    split at g2
    · obtain ⟨e1, g3⟩ := m_cond g2
      obtain ⟨q, g4, g5⟩ := mnth_spec g3
      split at g5
      · obtain ⟨g6, g7⟩ := mrep_spec g5
        obtain ⟨g8, g9⟩ := mrep_spec g7
        cases g9
        refine ⟨by simp [stR], fun _ dd E => (mnth_a g1 _).trans (cT1 e1 ((mnth_eq g4).trans ((mrep_eq g6).trans ((mrep_eq (by simp [lfS]; omega)).trans ?_))))⟩
        simp only [lfR, lfS, List.set_append_left _ _ g8]
      · cases g5
    · cases g2
  · cases h
theorem fr_alen : fro (o_alen nx) := by
  intro l st S r h
  obtain ⟨w, Sh, MI, ML⟩ := S
  unfold o_alen at h ⊢
  split at h
  · obtain ⟨t, g1, g2⟩ := mnth_spec h
    split at g2
    · cases g2
    · cases g2
      exact ⟨Nat.le_refl _, fun _ _ _ => mnth_a g1 _⟩
  · cases h
theorem fr_ia : fro (o_ia nx) := by
  intro l st S r h
  obtain ⟨w, Sh, MI, ML⟩ := S
  unfold o_ia at h ⊢
  split at h
  · obtain ⟨t, g1, g2⟩ := mnth_spec h
    split at g2
    · split at g2
      · cases g2
      · next q =>
        cases g2
        exact ⟨Nat.le_refl _, fun _ _ _ => (mnth_a g1 _).trans (if_neg q)⟩
    · cases g2
  · cases h
theorem fr_za : fro (o_za nx) := by
  intro l st S r h
  obtain ⟨w, Sh, MI, ML⟩ := S
  unfold o_za at h ⊢
  split at h
  · obtain ⟨t, g1, g2⟩ := mnth_spec h
    split at g2
    · split at g2
      · cases g2
      · next q =>
        cases g2
        exact ⟨Nat.le_refl _, fun _ _ _ => (mnth_a g1 _).trans (if_neg q)⟩
    · cases g2
  · cases h
theorem fr_la : fro (o_la nx) := by
  intro l st S r h
  obtain ⟨w, Sh, MI, ML⟩ := S
  unfold o_la at h ⊢
  split at h
  · obtain ⟨t, g1, g2⟩ := mnth_spec h
    split at g2
    · split at g2
      · cases g2
      · next q =>
        cases g2
        exact ⟨Nat.le_refl _, fun _ _ _ => (mnth_a g1 _).trans (if_neg q)⟩
    · cases g2
  · cases h
theorem fr_iast : fro (o_iast nx) := by
  intro l st S r h
  obtain ⟨w, Sh, MI, ML⟩ := S
  unfold o_iast at h ⊢
  split at h
  · obtain ⟨t, g1, g2⟩ := mnth_spec h
    split at g2
    · split at g2
      · cases g2
      · next q =>
        cases g2
        exact ⟨Nat.le_refl _, fun _ _ _ => (mnth_a g1 _).trans (if_neg q)⟩
    · cases g2
  · cases h
theorem fr_zast : fro (o_zast nx) := by
  intro l st S r h
  obtain ⟨w, Sh, MI, ML⟩ := S
  unfold o_zast at h ⊢
  split at h
  · obtain ⟨t, g1, g2⟩ := mnth_spec h
    split at g2
    · split at g2
      · cases g2
      · next q =>
        cases g2
        exact ⟨Nat.le_refl _, fun _ _ _ => (mnth_a g1 _).trans (if_neg q)⟩
    · cases g2
  · cases h
theorem fr_last : fro (o_last nx) := by
  intro l st S r h
  obtain ⟨w, Sh, MI, ML⟩ := S
  unfold o_last at h ⊢
  split at h
  · obtain ⟨t, g1, g2⟩ := mnth_spec h
    split at g2
    · split at g2
      · cases g2
      · next q =>
        cases g2
        exact ⟨Nat.le_refl _, fun _ _ _ => (mnth_a g1 _).trans (if_neg q)⟩
    · cases g2
  · cases h
theorem fr_new {rf : List (Option (Option Nat))} : fro (o_new ci N rf nx) := by
  intro l st S r h
  obtain ⟨w, Sh, MI, ML⟩ := S
  unfold o_new at h
  obtain ⟨z, g1, g2⟩ := mnth_spec h
  have g3 := mapp_spec g2
  cases g3
  exact ⟨by simp [stR], fun e => by simp [stR] at e⟩
theorem fr_nwi : fro (o_nwi N nx) := by
  intro l st S r h
  obtain ⟨w, Sh, MI, ML⟩ := S
  unfold o_nwi at h
  split at h
  · dsimp only at h
    split at h
    · obtain ⟨z, g1, g2⟩ := mnth_spec h
      have g3 := mapp_spec g2
      cases g3
      exact ⟨by simp [stR], fun e => by simp [stR] at e⟩
    · cases h
  · cases h
theorem fr_nwz : fro (o_nwz N nx) := by
  intro l st S r h
  obtain ⟨w, Sh, MI, ML⟩ := S
  unfold o_nwz at h
  split at h
  · dsimp only at h
    split at h
    · obtain ⟨z, g1, g2⟩ := mnth_spec h
      have g3 := mapp_spec g2
      cases g3
      exact ⟨by simp [stR], fun e => by simp [stR] at e⟩
    · cases h
  · cases h
theorem fr_nwj : fro (o_nwj N nx) := by
  intro l st S r h
  obtain ⟨w, Sh, MI, ML⟩ := S
  unfold o_nwj at h
  split at h
  · dsimp only at h
    split at h
    · obtain ⟨z, g1, g2⟩ := mnth_spec h
      have g3 := mapp_spec g2
      cases g3
      exact ⟨by simp [stR], fun e => by simp [stR] at e⟩
    · cases h
  · cases h
theorem fr_cpi : fro (o_cpi nx) := by
  intro l st S r h
  obtain ⟨w, Sh, MI, ML⟩ := S
  unfold o_cpi at h ⊢
  split at h
  · obtain ⟨t, g1, g2⟩ := mnth_spec h
    split at g2
    · obtain ⟨u, g3, g4⟩ := mnth_spec g2
      split at g4
      · split at g4
        · cases g4
        · next q =>
          obtain ⟨e1, g5⟩ := m_cond g4
          cases g5
          exact ⟨Nat.le_refl _, fun _ _ _ => (mnth_a g1 _).trans ((mnth_a g3 _).trans ((if_neg q).trans (cT1 e1 rfl)))⟩
      · cases g4
    · cases g2
  · cases h
theorem fr_cpj : fro (o_cpj nx) := by
  intro l st S r h
  obtain ⟨w, Sh, MI, ML⟩ := S
  unfold o_cpj at h ⊢
  split at h
  · obtain ⟨t, g1, g2⟩ := mnth_spec h
    split at g2
    · obtain ⟨u, g3, g4⟩ := mnth_spec g2
      split at g4
      · split at g4
        · cases g4
        · next q =>
          obtain ⟨e1, g5⟩ := m_cond g4
          cases g5
          exact ⟨Nat.le_refl _, fun _ _ _ => (mnth_a g1 _).trans ((mnth_a g3 _).trans ((if_neg q).trans (cT1 e1 rfl)))⟩
      · cases g4
    · cases g2
  · cases h
theorem fr_max : fro (o_max nx) := by
  intro l st S r h
  unfold o_max at h ⊢
  split at h
  · obtain ⟨e1, g5⟩ := m_cond h
    cases g5
    exact ⟨Nat.le_refl _, fun _ _ _ => cT1 e1 rfl⟩
  · cases h
theorem fr_min : fro (o_min nx) := by
  intro l st S r h
  unfold o_min at h ⊢
  split at h
  · obtain ⟨e1, g5⟩ := m_cond h
    cases g5
    exact ⟨Nat.le_refl _, fun _ _ _ => cT1 e1 rfl⟩
  · cases h
theorem fr_oi : fro (o_oi nx) := by
  intro l st S r h
  unfold o_oi at h ⊢
  split at h
  · obtain ⟨e1, g5⟩ := m_cond h
    cases g5
    exact ⟨Nat.le_refl _, fun _ _ _ => cT1 e1 rfl⟩
  · cases h
theorem fr_sp {u : UInt32} : fro (o_sp u nx) := by
  intro l st S r h
  cases h
  exact ⟨Nat.le_refl _, fun _ _ _ => rfl⟩
theorem fr_tl {u : UInt32} {g : Nat → Int32} : fro (o_tl u N g nx) := by
  intro l st S r h
  unfold o_tl at h ⊢
  split at h
  · split at h
    · next q =>
      split at h
      · cases h
      · next q2 =>
        cases h
        exact ⟨Nat.le_refl _, fun _ _ _ => (if_pos q).trans (if_neg q2)⟩
    · cases h
  · cases h
theorem fr_tlen {u : UInt32} : fro (o_tlen u N nx) := by
  intro l st S r h
  unfold o_tlen at h ⊢
  split at h
  · split at h
    · next q =>
      cases h
      exact ⟨Nat.le_refl _, fun _ _ _ => if_pos q⟩
    · cases h
  · cases h
theorem fr_slen2 : fro (o_slen2 nx) := by
  intro l st S r h
  unfold o_slen2 at h ⊢
  split at h
  · obtain ⟨e1, g2⟩ := m_cond h
    obtain ⟨e2, g3⟩ := m_cond g2
    obtain ⟨m, g4, g5⟩ := mnth_spec g3
    cases g5
    exact ⟨Nat.le_refl _, fun _ _ _ => cT1 e1 (cT1 e2 (mnth_eq g4))⟩
  · cases h
theorem fr_sat : fro (o_sat nx) := by
  intro l st S r h
  unfold o_sat at h ⊢
  split at h
  · obtain ⟨e1, g2⟩ := m_cond h
    obtain ⟨e2, g3⟩ := m_cond g2
    obtain ⟨m, g4, g5⟩ := mnth_spec g3
    split at g5
    · cases g5
    · next q =>
      cases g5
      exact ⟨Nat.le_refl _, fun _ _ _ => cT1 e1 (cT1 e2 ((mnth_eq g4).trans (if_neg q)))⟩
  · cases h
theorem fr_cv : fro (o_cv y n ci nx) := by
  intro l st S r h
  obtain ⟨w, Sh, MI, ML⟩ := S
  unfold o_cv at h ⊢
  rcases mpop_c (n + 1) st [] with ⟨as, r', hp⟩ | hp
  · rw [hp] at h
    split at h
    · obtain ⟨t, g1, g2⟩ := mnth_spec h
      split at g2
      · obtain ⟨e1, g3⟩ := m_cond g2
        obtain ⟨e2, g4⟩ := m_cond g3
        cases g4
        exact ⟨Nat.le_refl _, fun _ _ _ => (hp _).trans ((mnth_a g1 _).trans (cT1 e1 (cT1 e2 rfl)))⟩
      · cases g2
    · cases h
  · rw [hp] at h
    cases h
theorem fr_cs : fro (o_cs y n nx) := by
  intro l st S r h
  unfold o_cs at h ⊢
  rcases mpop_c n st [] with ⟨as, r', hp⟩ | hp
  · rw [hp] at h
    obtain ⟨e2, g4⟩ := m_cond h
    cases g4
    exact ⟨Nat.le_refl _, fun _ _ _ => (hp _).trans (cT1 e2 rfl)⟩
  · rw [hp] at h
    cases h
theorem fr_ci : fro (o_ci y n nx) := by
  intro l st S r h
  unfold o_ci at h ⊢
  rcases mpop_c (n + 1) st [] with ⟨as, r', hp⟩ | hp
  · rw [hp] at h
    split at h
    · obtain ⟨e2, g4⟩ := m_cond h
      cases g4
      exact ⟨Nat.le_refl _, fun _ _ _ => (hp _).trans (cT1 e2 rfl)⟩
    · cases h
  · rw [hp] at h
    cases h
end FR0
theorem fr_lf {k : Nat} {op : mO} (h : fro op) (pc : Nat) : fro (t_lf k op pc) := by
  unfold t_lf
  cases Nat.beq pc k
  · exact fr_no
  · exact h
theorem fr_nd {k : Nat} {a b : Nat → mO} (ha : ∀ pc, fro (a pc)) (hb : ∀ pc, fro (b pc)) (pc : Nat) : fro (t_nd k a b pc) := by
  unfold t_nd
  cases Nat.blt pc k
  · exact hb pc
  · exact ha pc
theorem fr_c {b : Bool} {o1 o2 : mO} (h1 : fro o1) (h2 : fro o2) : fro (cond b o1 o2) := by
  cases b
  · exact h2
  · exact h1
theorem mex_fr {T : Nat → mO} (hT : ∀ pc, fro (T pc)) {C C' : mC} (hC : ∀ y as S v S', C y as S v S' → S.2.1.length ≤ S'.2.1.length ∧ (S'.2.1.length = S.2.1.length → ∀ d E, C' y as (lfS d E S) v (lfS d E S'))) {v : Option Value} {S1 : mS} : ∀ (N : Nat) (pc : Nat) (l : mL) (st : mK) (S : mS), mex T C (fun v2 S2 => v2 = v ∧ S2 = S1) N (pc, l, st, S) → S.2.1.length ≤ S1.2.1.length ∧ (S1.2.1.length = S.2.1.length → ∀ d E, mex T C' (fun v2 S2 => v2 = v ∧ S2 = lfS d E S1) N (pc, l, st, lfS d E S))
  | 0, _, _, _, _, h => h.elim
  | N + 1, pc, l, st, S, h => by
    unfold mex at h
    obtain ⟨L, hL, h⟩ := h
    dsimp only at hL h
    cases hr : T pc L st S with
    | none => rw [hr] at h; cases h
    | some r =>
      rw [hr] at h
      obtain ⟨a1, a2⟩ := hT pc L st S r hr
      match r, h, a1, a2 with
      | .inl (pc', l', st', S'), h, a1, a2 =>
        obtain ⟨b1, b2⟩ := mex_fr hT hC N pc' l' st' S' h
        have a1 : S.2.1.length ≤ S'.2.1.length := a1
        refine ⟨Nat.le_trans a1 b1, fun e d E => ?_⟩
        have a3 := a2 (show S'.2.1.length = S.2.1.length by omega) d E
        unfold mex
        refine ⟨L, hL, ?_⟩
        dsimp only
        rw [a3]
        exact b2 (by omega) d E
      | .inr (.inl (v', S')), h, a1, a2 =>
        have a1 : S.2.1.length ≤ S'.2.1.length := a1
        obtain ⟨h1, h2⟩ := h
        dsimp only at h1 h2
        subst h1
        subst h2
        refine ⟨a1, fun e d E => ?_⟩
        have a3 := a2 e d E
        unfold mex
        refine ⟨L, hL, ?_⟩
        dsimp only
        rw [a3]
        exact ⟨rfl, rfl⟩
      | .inr (.inr (y, as, (pc', l', st', S'))), h, a1, a2 =>
        have a1 : S.2.1.length ≤ S'.2.1.length := a1
        obtain ⟨v2, S2, hc, h⟩ := h
        dsimp only at hc h
        obtain ⟨c1, c2⟩ := hC _ _ _ _ _ hc
        obtain ⟨b1, b2⟩ := mex_fr hT hC N pc' l' _ S2 h
        refine ⟨by omega, fun e d E => ?_⟩
        have a3 := a2 (show S'.2.1.length = S.2.1.length by omega) d E
        unfold mex
        refine ⟨L, hL, ?_⟩
        dsimp only
        rw [a3]
        exact ⟨v2, lfS d E S2, c2 (by omega) d E, b2 (by omega) d E⟩
theorem FX0_init : ∀ pc, fro (TX0_init pc) := (fr_nd (fr_nd (fr_nd (fr_nd (fr_lf fr_al) (fr_lf fr_oi)) (fr_nd (fr_lf fr_al) (fr_nd (fr_lf fr_ic) (fr_lf fr_pi)))) (fr_nd (fr_nd (fr_lf fr_al) (fr_lf fr_ic)) (fr_nd (fr_lf fr_nwi) (fr_nd (fr_lf fr_pr) (fr_lf fr_al))))) (fr_nd (fr_nd (fr_nd (fr_lf fr_gr) (fr_lf fr_ic)) (fr_nd (fr_lf fr_ic) (fr_nd (fr_lf fr_iast) (fr_lf fr_al)))) (fr_nd (fr_nd (fr_lf fr_gr) (fr_lf fr_ic)) (fr_nd (fr_lf fr_ic) (fr_nd (fr_lf fr_iast) (fr_lf fr_rv))))))
theorem FX0_mayCome : ∀ pc, fro (TX0_mayCome pc) := (fr_nd (fr_nd (fr_nd (fr_lf fr_il) (fr_nd (fr_lf fr_iflt) (fr_lf fr_il))) (fr_nd (fr_nd (fr_lf fr_ic) (fr_lf fr_icgt)) (fr_nd (fr_lf fr_il) (fr_lf fr_iflt)))) (fr_nd (fr_nd (fr_lf fr_il) (fr_nd (fr_lf fr_ic) (fr_lf fr_icgt))) (fr_nd (fr_nd (fr_lf fr_ic) (fr_lf fr_go)) (fr_nd (fr_lf fr_ic) (fr_lf fr_rz)))))
theorem FX0_isFeeling : ∀ pc, fro (TX0_isFeeling pc) := (fr_nd (fr_nd (fr_nd (fr_lf fr_il) (fr_lf fr_ic)) (fr_nd (fr_lf fr_iclt) (fr_nd (fr_lf fr_il) (fr_lf fr_ic)))) (fr_nd (fr_nd (fr_lf fr_icgt) (fr_lf fr_ic)) (fr_nd (fr_lf fr_go) (fr_nd (fr_lf fr_ic) (fr_lf fr_rz)))))
theorem FX0_mostOf : ∀ pc, fro (TX0_mostOf pc) := (fr_nd (fr_nd (fr_nd (fr_lf fr_il) (fr_nd (fr_lf fr_iflt) (fr_lf fr_il))) (fr_nd (fr_lf fr_sp) (fr_nd (fr_lf fr_tlen) (fr_lf fr_icge)))) (fr_nd (fr_nd (fr_lf fr_sp) (fr_nd (fr_lf fr_il) (fr_lf fr_tl))) (fr_nd (fr_lf fr_go) (fr_nd (fr_lf fr_ic) (fr_lf fr_ri)))))
theorem FX0_placeOfFeeling : ∀ pc, fro (TX0_placeOfFeeling pc) := (fr_nd (fr_nd (fr_nd (fr_lf fr_ic) (fr_lf fr_il)) (fr_nd (fr_lf fr_ic) (fr_lf fr_mul))) (fr_nd (fr_nd (fr_lf fr_add) (fr_lf fr_il)) (fr_nd (fr_lf fr_add) (fr_lf fr_ri))))
theorem FX0_admit : ∀ pc, fro (TX0_admit pc) := (fr_nd (fr_nd (fr_nd (fr_nd (fr_nd (fr_lf fr_al) (fr_lf fr_gi)) (fr_nd (fr_lf fr_ic) (fr_lf fr_iclt))) (fr_nd (fr_nd (fr_lf fr_ic) (fr_lf fr_ri)) (fr_nd (fr_lf fr_al) (fr_lf fr_gr)))) (fr_nd (fr_nd (fr_nd (fr_lf fr_ic) (fr_lf fr_al)) (fr_nd (fr_lf fr_gi) (fr_lf fr_add))) (fr_nd (fr_nd (fr_lf fr_il) (fr_lf fr_iast)) (fr_nd (fr_lf fr_al) (fr_lf fr_gr))))) (fr_nd (fr_nd (fr_nd (fr_nd (fr_lf fr_ic) (fr_lf fr_al)) (fr_nd (fr_lf fr_gi) (fr_lf fr_add))) (fr_nd (fr_nd (fr_lf fr_il) (fr_lf fr_iast)) (fr_nd (fr_lf fr_al) (fr_lf fr_dup)))) (fr_nd (fr_nd (fr_nd (fr_lf fr_gi) (fr_lf fr_ic)) (fr_nd (fr_lf fr_add) (fr_lf fr_pi))) (fr_nd (fr_nd (fr_lf fr_al) (fr_lf fr_gi)) (fr_nd (fr_lf fr_ic) (fr_nd (fr_lf fr_sub) (fr_lf fr_ri)))))))
theorem FX0_has : ∀ pc, fro (TX0_has pc) := (fr_nd (fr_nd (fr_nd (fr_lf fr_il) (fr_lf fr_iflt)) (fr_nd (fr_lf fr_il) (fr_nd (fr_lf fr_al) (fr_lf fr_gi)))) (fr_nd (fr_nd (fr_lf fr_icge) (fr_lf fr_ic)) (fr_nd (fr_lf fr_go) (fr_nd (fr_lf fr_ic) (fr_lf fr_rz)))))
theorem FX0_hasPair : ∀ pc, fro (TX0_hasPair pc) := (fr_nd (fr_nd (fr_nd (fr_nd (fr_lf fr_il) (fr_nd (fr_lf fr_iflt) (fr_lf fr_al))) (fr_nd (fr_lf fr_il) (fr_nd (fr_lf fr_ic) (fr_lf fr_div)))) (fr_nd (fr_nd (fr_lf fr_cv) (fr_nd (fr_lf fr_ifeq) (fr_lf fr_al))) (fr_nd (fr_lf fr_il) (fr_nd (fr_lf fr_ic) (fr_lf fr_rem))))) (fr_nd (fr_nd (fr_nd (fr_lf fr_cv) (fr_nd (fr_lf fr_ifeq) (fr_lf fr_il))) (fr_nd (fr_lf fr_ic) (fr_nd (fr_lf fr_div) (fr_lf fr_il)))) (fr_nd (fr_nd (fr_lf fr_ic) (fr_nd (fr_lf fr_rem) (fr_lf fr_iceq))) (fr_nd (fr_nd (fr_lf fr_ic) (fr_lf fr_go)) (fr_nd (fr_lf fr_ic) (fr_lf fr_rz))))))
theorem FX0_placeOf : ∀ pc, fro (TX0_placeOf pc) := (fr_nd (fr_nd (fr_nd (fr_nd (fr_nd (fr_lf fr_il) (fr_lf fr_ifeq)) (fr_nd (fr_lf fr_il) (fr_lf fr_ic))) (fr_nd (fr_nd (fr_lf fr_icne) (fr_lf fr_al)) (fr_nd (fr_lf fr_il) (fr_lf fr_cv)))) (fr_nd (fr_nd (fr_nd (fr_lf fr_ifeq) (fr_lf fr_il)) (fr_nd (fr_lf fr_ifne) (fr_lf fr_ic))) (fr_nd (fr_nd (fr_lf fr_go) (fr_lf fr_ic)) (fr_nd (fr_lf fr_il) (fr_nd (fr_lf fr_add) (fr_lf fr_go)))))) (fr_nd (fr_nd (fr_nd (fr_nd (fr_lf fr_ic) (fr_lf fr_ri)) (fr_nd (fr_lf fr_il) (fr_lf fr_ic))) (fr_nd (fr_nd (fr_lf fr_iclt) (fr_lf fr_il)) (fr_nd (fr_lf fr_ic) (fr_nd (fr_lf fr_icgt) (fr_lf fr_il))))) (fr_nd (fr_nd (fr_nd (fr_lf fr_ifne) (fr_lf fr_ic)) (fr_nd (fr_lf fr_il) (fr_lf fr_add))) (fr_nd (fr_nd (fr_lf fr_ic) (fr_lf fr_sub)) (fr_nd (fr_lf fr_go) (fr_nd (fr_lf fr_ic) (fr_lf fr_ri)))))))
theorem FX0_numberAt : ∀ pc, fro (TX0_numberAt pc) := (fr_nd (fr_nd (fr_nd (fr_lf fr_il) (fr_nd (fr_lf fr_iflt) (fr_lf fr_il))) (fr_nd (fr_lf fr_ic) (fr_nd (fr_lf fr_icge) (fr_lf fr_al)))) (fr_nd (fr_nd (fr_lf fr_gr) (fr_nd (fr_lf fr_il) (fr_lf fr_ia))) (fr_nd (fr_lf fr_go) (fr_nd (fr_lf fr_ic) (fr_lf fr_ri)))))
theorem FX0_setNumber : ∀ pc, fro (TX0_setNumber pc) := (fr_nd (fr_nd (fr_nd (fr_lf fr_il) (fr_lf fr_iflt)) (fr_nd (fr_lf fr_il) (fr_nd (fr_lf fr_ic) (fr_lf fr_icge)))) (fr_nd (fr_nd (fr_lf fr_al) (fr_nd (fr_lf fr_gr) (fr_lf fr_il))) (fr_nd (fr_lf fr_il) (fr_nd (fr_lf fr_iast) (fr_lf fr_rv)))))
theorem FX0_hungerOf : ∀ pc, fro (TX0_hungerOf pc) := (fr_nd (fr_nd (fr_nd (fr_lf fr_il) (fr_nd (fr_lf fr_iflt) (fr_lf fr_il))) (fr_nd (fr_nd (fr_lf fr_ic) (fr_lf fr_icge)) (fr_nd (fr_lf fr_al) (fr_lf fr_gr)))) (fr_nd (fr_nd (fr_lf fr_ic) (fr_nd (fr_lf fr_il) (fr_lf fr_add))) (fr_nd (fr_nd (fr_lf fr_ia) (fr_lf fr_go)) (fr_nd (fr_lf fr_ic) (fr_lf fr_ri)))))
theorem FX0_hungerMore : ∀ pc, fro (TX0_hungerMore pc) := (fr_nd (fr_nd (fr_nd (fr_lf fr_al) (fr_nd (fr_lf fr_ic) (fr_lf fr_il))) (fr_nd (fr_lf fr_add) (fr_nd (fr_lf fr_al) (fr_lf fr_il)))) (fr_nd (fr_nd (fr_lf fr_cv) (fr_nd (fr_lf fr_il) (fr_lf fr_add))) (fr_nd (fr_nd (fr_lf fr_ic) (fr_lf fr_min)) (fr_nd (fr_lf fr_cv) (fr_lf fr_rv)))))
theorem FX0_hungerLess : ∀ pc, fro (TX0_hungerLess pc) := (fr_nd (fr_nd (fr_nd (fr_lf fr_al) (fr_nd (fr_lf fr_ic) (fr_lf fr_il))) (fr_nd (fr_lf fr_add) (fr_nd (fr_lf fr_al) (fr_lf fr_il)))) (fr_nd (fr_nd (fr_lf fr_cv) (fr_nd (fr_lf fr_il) (fr_lf fr_sub))) (fr_nd (fr_nd (fr_lf fr_ic) (fr_lf fr_max)) (fr_nd (fr_lf fr_cv) (fr_lf fr_rv)))))
theorem FX0_felt : ∀ pc, fro (TX0_felt pc) := (fr_nd (fr_nd (fr_nd (fr_nd (fr_lf fr_ic) (fr_lf fr_il)) (fr_nd (fr_lf fr_ic) (fr_nd (fr_lf fr_mul) (fr_lf fr_add)))) (fr_nd (fr_nd (fr_lf fr_il) (fr_lf fr_add)) (fr_nd (fr_lf fr_is) (fr_nd (fr_lf fr_il) (fr_lf fr_ic))))) (fr_nd (fr_nd (fr_nd (fr_lf fr_iclt) (fr_lf fr_il)) (fr_nd (fr_lf fr_ic) (fr_nd (fr_lf fr_icge) (fr_lf fr_al)))) (fr_nd (fr_nd (fr_lf fr_gr) (fr_nd (fr_lf fr_il) (fr_lf fr_ia))) (fr_nd (fr_lf fr_go) (fr_nd (fr_lf fr_ic) (fr_lf fr_ri))))))
theorem FX0_setFelt : ∀ pc, fro (TX0_setFelt pc) := (fr_nd (fr_nd (fr_lf fr_al) (fr_nd (fr_lf fr_il) (fr_lf fr_il))) (fr_nd (fr_nd (fr_lf fr_cs) (fr_lf fr_il)) (fr_nd (fr_lf fr_cv) (fr_lf fr_rv))))
theorem FX0_friendOf : ∀ pc, fro (TX0_friendOf pc) := (fr_nd (fr_nd (fr_nd (fr_nd (fr_lf fr_ic) (fr_nd (fr_lf fr_is) (fr_lf fr_ic))) (fr_nd (fr_nd (fr_lf fr_is) (fr_lf fr_ic)) (fr_nd (fr_lf fr_is) (fr_lf fr_il)))) (fr_nd (fr_nd (fr_lf fr_al) (fr_nd (fr_lf fr_gi) (fr_lf fr_icge))) (fr_nd (fr_nd (fr_lf fr_al) (fr_lf fr_il)) (fr_nd (fr_lf fr_il) (fr_lf fr_cv))))) (fr_nd (fr_nd (fr_nd (fr_lf fr_is) (fr_nd (fr_lf fr_il) (fr_lf fr_il))) (fr_nd (fr_nd (fr_lf fr_iceq) (fr_lf fr_il)) (fr_nd (fr_lf fr_il) (fr_lf fr_icle)))) (fr_nd (fr_nd (fr_nd (fr_lf fr_il) (fr_lf fr_is)) (fr_nd (fr_lf fr_il) (fr_lf fr_is))) (fr_nd (fr_nd (fr_lf fr_inc) (fr_lf fr_go)) (fr_nd (fr_lf fr_il) (fr_lf fr_ri))))))
theorem FX0_hatersOf : ∀ pc, fro (TX0_hatersOf pc) := (fr_nd (fr_nd (fr_nd (fr_nd (fr_lf fr_ic) (fr_lf fr_is)) (fr_nd (fr_lf fr_ic) (fr_nd (fr_lf fr_is) (fr_lf fr_il)))) (fr_nd (fr_nd (fr_lf fr_al) (fr_nd (fr_lf fr_gi) (fr_lf fr_icge))) (fr_nd (fr_lf fr_il) (fr_nd (fr_lf fr_al) (fr_lf fr_il))))) (fr_nd (fr_nd (fr_nd (fr_lf fr_il) (fr_nd (fr_lf fr_cv) (fr_lf fr_ifge))) (fr_nd (fr_lf fr_ic) (fr_nd (fr_lf fr_go) (fr_lf fr_ic)))) (fr_nd (fr_nd (fr_lf fr_add) (fr_nd (fr_lf fr_is) (fr_lf fr_inc))) (fr_nd (fr_lf fr_go) (fr_nd (fr_lf fr_il) (fr_lf fr_ri))))))
theorem FX0_feelingsBelowNone : ∀ pc, fro (TX0_feelingsBelowNone pc) := (fr_nd (fr_nd (fr_nd (fr_nd (fr_lf fr_ic) (fr_lf fr_is)) (fr_nd (fr_lf fr_ic) (fr_lf fr_is))) (fr_nd (fr_nd (fr_lf fr_il) (fr_lf fr_al)) (fr_nd (fr_lf fr_gi) (fr_nd (fr_lf fr_icge) (fr_lf fr_il))))) (fr_nd (fr_nd (fr_nd (fr_lf fr_al) (fr_lf fr_il)) (fr_nd (fr_lf fr_cv) (fr_lf fr_add))) (fr_nd (fr_nd (fr_lf fr_is) (fr_lf fr_inc)) (fr_nd (fr_lf fr_go) (fr_nd (fr_lf fr_il) (fr_lf fr_ri))))))
theorem FX0_endDay : ∀ pc, fro (TX0_endDay pc) := (fr_nd (fr_nd (fr_nd (fr_nd (fr_nd (fr_lf fr_ic) (fr_nd (fr_lf fr_is) (fr_lf fr_il))) (fr_nd (fr_lf fr_al) (fr_nd (fr_lf fr_gi) (fr_lf fr_icge)))) (fr_nd (fr_nd (fr_lf fr_il) (fr_nd (fr_lf fr_il) (fr_lf fr_shr))) (fr_nd (fr_lf fr_ic) (fr_nd (fr_lf fr_and) (fr_lf fr_ifne))))) (fr_nd (fr_nd (fr_nd (fr_lf fr_al) (fr_nd (fr_lf fr_il) (fr_lf fr_al))) (fr_nd (fr_lf fr_gr) (fr_nd (fr_lf fr_ic) (fr_lf fr_ia)))) (fr_nd (fr_nd (fr_lf fr_cv) (fr_nd (fr_lf fr_inc) (fr_lf fr_go))) (fr_nd (fr_nd (fr_lf fr_al) (fr_lf fr_gr)) (fr_nd (fr_lf fr_ic) (fr_lf fr_al)))))) (fr_nd (fr_nd (fr_nd (fr_nd (fr_lf fr_gr) (fr_nd (fr_lf fr_ic) (fr_lf fr_ia))) (fr_nd (fr_lf fr_ic) (fr_nd (fr_lf fr_add) (fr_lf fr_ic)))) (fr_nd (fr_nd (fr_lf fr_min) (fr_nd (fr_lf fr_iast) (fr_lf fr_al))) (fr_nd (fr_nd (fr_lf fr_gr) (fr_lf fr_ic)) (fr_nd (fr_lf fr_ia) (fr_lf fr_ifeq))))) (fr_nd (fr_nd (fr_nd (fr_lf fr_al) (fr_nd (fr_lf fr_gr) (fr_lf fr_ic))) (fr_nd (fr_lf fr_ia) (fr_nd (fr_lf fr_al) (fr_lf fr_gr)))) (fr_nd (fr_nd (fr_lf fr_ic) (fr_nd (fr_lf fr_ia) (fr_lf fr_rem))) (fr_nd (fr_nd (fr_lf fr_ifne) (fr_lf fr_al)) (fr_nd (fr_lf fr_cv) (fr_lf fr_rv)))))))
theorem FX0_fade : ∀ pc, fro (TX0_fade pc) := (fr_nd (fr_nd (fr_nd (fr_nd (fr_lf fr_ic) (fr_nd (fr_lf fr_is) (fr_lf fr_il))) (fr_nd (fr_nd (fr_lf fr_ic) (fr_lf fr_icge)) (fr_nd (fr_lf fr_al) (fr_lf fr_gr)))) (fr_nd (fr_nd (fr_nd (fr_lf fr_il) (fr_lf fr_ia)) (fr_nd (fr_lf fr_is) (fr_lf fr_al))) (fr_nd (fr_nd (fr_lf fr_gr) (fr_lf fr_il)) (fr_nd (fr_lf fr_il) (fr_lf fr_ifle))))) (fr_nd (fr_nd (fr_nd (fr_lf fr_il) (fr_nd (fr_lf fr_ic) (fr_lf fr_sub))) (fr_nd (fr_nd (fr_lf fr_go) (fr_lf fr_il)) (fr_nd (fr_lf fr_ifge) (fr_lf fr_il)))) (fr_nd (fr_nd (fr_nd (fr_lf fr_ic) (fr_lf fr_add)) (fr_nd (fr_lf fr_go) (fr_lf fr_ic))) (fr_nd (fr_nd (fr_lf fr_iast) (fr_lf fr_inc)) (fr_nd (fr_lf fr_go) (fr_lf fr_rv))))))
theorem FX0_takeOver : ∀ pc, fro (TX0_takeOver pc) := (fr_nd (fr_nd (fr_nd (fr_lf fr_al) (fr_nd (fr_lf fr_al) (fr_lf fr_gi))) (fr_nd (fr_lf fr_pi) (fr_nd (fr_lf fr_al) (fr_lf fr_gr)))) (fr_nd (fr_nd (fr_lf fr_ic) (fr_nd (fr_lf fr_al) (fr_lf fr_gr))) (fr_nd (fr_nd (fr_lf fr_ic) (fr_lf fr_ic)) (fr_nd (fr_lf fr_cpi) (fr_lf fr_rv)))))
theorem FX1_init : ∀ pc, fro (TX1_init pc) := (fr_nd (fr_nd (fr_nd (fr_nd (fr_lf fr_al) (fr_nd (fr_lf fr_oi) (fr_lf fr_al))) (fr_nd (fr_lf fr_ic) (fr_nd (fr_lf fr_nwi) (fr_lf fr_pr)))) (fr_nd (fr_nd (fr_lf fr_al) (fr_nd (fr_lf fr_ic) (fr_lf fr_nwi))) (fr_nd (fr_nd (fr_lf fr_pr) (fr_lf fr_al)) (fr_nd (fr_lf fr_ic) (fr_lf fr_pi))))) (fr_nd (fr_nd (fr_nd (fr_lf fr_al) (fr_nd (fr_lf fr_new) (fr_lf fr_dup))) (fr_nd (fr_lf fr_ci) (fr_nd (fr_lf fr_pr) (fr_lf fr_al)))) (fr_nd (fr_nd (fr_lf fr_ic) (fr_nd (fr_lf fr_nwi) (fr_lf fr_pr))) (fr_nd (fr_nd (fr_lf fr_al) (fr_lf fr_ic)) (fr_nd (fr_lf fr_pz) (fr_lf fr_rv))))))
theorem FX1_add : ∀ pc, fro (TX1_add pc) := (fr_nd (fr_nd (fr_nd (fr_lf fr_il) (fr_nd (fr_lf fr_iflt) (fr_lf fr_il))) (fr_nd (fr_nd (fr_lf fr_ic) (fr_lf fr_icge)) (fr_nd (fr_lf fr_al) (fr_lf fr_gr)))) (fr_nd (fr_nd (fr_lf fr_il) (fr_nd (fr_lf fr_dup2) (fr_lf fr_ia))) (fr_nd (fr_nd (fr_lf fr_il) (fr_lf fr_add)) (fr_nd (fr_lf fr_iast) (fr_lf fr_rv)))))
theorem FX1_told : ∀ pc, fro (TX1_told pc) := (fr_nd (fr_nd (fr_nd (fr_lf fr_il) (fr_nd (fr_lf fr_iflt) (fr_lf fr_il))) (fr_nd (fr_lf fr_ic) (fr_nd (fr_lf fr_icge) (fr_lf fr_al)))) (fr_nd (fr_nd (fr_lf fr_gr) (fr_nd (fr_lf fr_il) (fr_lf fr_ia))) (fr_nd (fr_lf fr_go) (fr_nd (fr_lf fr_ic) (fr_lf fr_ri)))))
theorem FX1_tell : ∀ pc, fro (TX1_tell pc) := (fr_nd (fr_nd (fr_nd (fr_nd (fr_nd (fr_nd (fr_lf fr_al) (fr_lf fr_ic)) (fr_nd (fr_lf fr_ic) (fr_nd (fr_lf fr_cv) (fr_lf fr_al)))) (fr_nd (fr_nd (fr_lf fr_ic) (fr_nd (fr_lf fr_al) (fr_lf fr_gi))) (fr_nd (fr_lf fr_cv) (fr_nd (fr_lf fr_al) (fr_lf fr_ic))))) (fr_nd (fr_nd (fr_nd (fr_lf fr_il) (fr_nd (fr_lf fr_al) (fr_lf fr_gi))) (fr_nd (fr_lf fr_sub) (fr_nd (fr_lf fr_cv) (fr_lf fr_al)))) (fr_nd (fr_nd (fr_lf fr_ic) (fr_nd (fr_lf fr_pi) (fr_lf fr_ic))) (fr_nd (fr_lf fr_is) (fr_nd (fr_lf fr_il) (fr_lf fr_al)))))) (fr_nd (fr_nd (fr_nd (fr_nd (fr_lf fr_gi) (fr_lf fr_icge)) (fr_nd (fr_lf fr_il) (fr_nd (fr_lf fr_ic) (fr_lf fr_icge)))) (fr_nd (fr_nd (fr_lf fr_al) (fr_nd (fr_lf fr_ic) (fr_lf fr_al))) (fr_nd (fr_lf fr_gr) (fr_nd (fr_lf fr_il) (fr_lf fr_ia))))) (fr_nd (fr_nd (fr_nd (fr_lf fr_add) (fr_nd (fr_lf fr_cv) (fr_lf fr_al))) (fr_nd (fr_lf fr_ic) (fr_nd (fr_lf fr_cv) (fr_lf fr_al)))) (fr_nd (fr_nd (fr_lf fr_ic) (fr_nd (fr_lf fr_al) (fr_lf fr_gr))) (fr_nd (fr_lf fr_il) (fr_nd (fr_lf fr_ia) (fr_lf fr_add))))))) (fr_nd (fr_nd (fr_nd (fr_nd (fr_nd (fr_lf fr_cv) (fr_lf fr_al)) (fr_nd (fr_lf fr_ic) (fr_nd (fr_lf fr_cv) (fr_lf fr_al)))) (fr_nd (fr_nd (fr_lf fr_ic) (fr_nd (fr_lf fr_al) (fr_lf fr_gr))) (fr_nd (fr_lf fr_il) (fr_nd (fr_lf fr_ia) (fr_lf fr_add))))) (fr_nd (fr_nd (fr_nd (fr_lf fr_cv) (fr_nd (fr_lf fr_al) (fr_lf fr_ic))) (fr_nd (fr_lf fr_cv) (fr_nd (fr_lf fr_al) (fr_lf fr_gr)))) (fr_nd (fr_nd (fr_lf fr_il) (fr_nd (fr_lf fr_ia) (fr_lf fr_ic))) (fr_nd (fr_lf fr_iclt) (fr_nd (fr_lf fr_al) (fr_lf fr_ic)))))) (fr_nd (fr_nd (fr_nd (fr_nd (fr_lf fr_al) (fr_nd (fr_lf fr_gr) (fr_lf fr_il))) (fr_nd (fr_lf fr_ia) (fr_nd (fr_lf fr_ic) (fr_lf fr_div)))) (fr_nd (fr_nd (fr_lf fr_add) (fr_nd (fr_lf fr_cv) (fr_lf fr_al))) (fr_nd (fr_lf fr_ic) (fr_nd (fr_lf fr_al) (fr_lf fr_gr))))) (fr_nd (fr_nd (fr_nd (fr_lf fr_il) (fr_nd (fr_lf fr_ia) (fr_lf fr_ic))) (fr_nd (fr_lf fr_rem) (fr_nd (fr_lf fr_add) (fr_lf fr_cv)))) (fr_nd (fr_nd (fr_lf fr_al) (fr_nd (fr_lf fr_ic) (fr_lf fr_cv))) (fr_nd (fr_lf fr_inc) (fr_nd (fr_lf fr_go) (fr_lf fr_rv))))))))
theorem FX1_write : ∀ pc, fro (TX1_write pc) := (fr_nd (fr_nd (fr_nd (fr_nd (fr_lf fr_al) (fr_lf fr_gi)) (fr_nd (fr_lf fr_ic) (fr_lf fr_icge))) (fr_nd (fr_nd (fr_lf fr_al) (fr_lf fr_gr)) (fr_nd (fr_lf fr_al) (fr_lf fr_gi)))) (fr_nd (fr_nd (fr_nd (fr_lf fr_il) (fr_lf fr_iast)) (fr_nd (fr_lf fr_al) (fr_lf fr_dup))) (fr_nd (fr_nd (fr_lf fr_gi) (fr_lf fr_ic)) (fr_nd (fr_lf fr_add) (fr_nd (fr_lf fr_pi) (fr_lf fr_rv))))))
theorem FX1_taleLength : ∀ pc, fro (TX1_taleLength pc) := (fr_nd (fr_lf fr_al) (fr_nd (fr_lf fr_gi) (fr_lf fr_ri)))
theorem FX1_taleByte : ∀ pc, fro (TX1_taleByte pc) := (fr_nd (fr_nd (fr_nd (fr_lf fr_il) (fr_nd (fr_lf fr_iflt) (fr_lf fr_il))) (fr_nd (fr_lf fr_al) (fr_nd (fr_lf fr_gi) (fr_lf fr_icge)))) (fr_nd (fr_nd (fr_lf fr_al) (fr_nd (fr_lf fr_gr) (fr_lf fr_il))) (fr_nd (fr_nd (fr_lf fr_ia) (fr_lf fr_go)) (fr_nd (fr_lf fr_ic) (fr_lf fr_ri)))))
theorem FX2_init : ∀ pc, fro (TX2_init pc) := (fr_nd (fr_nd (fr_nd (fr_nd (fr_lf fr_al) (fr_lf fr_oi)) (fr_nd (fr_lf fr_al) (fr_nd (fr_lf fr_ic) (fr_lf fr_nwi)))) (fr_nd (fr_nd (fr_lf fr_pr) (fr_lf fr_al)) (fr_nd (fr_lf fr_ic) (fr_nd (fr_lf fr_nwi) (fr_lf fr_pr))))) (fr_nd (fr_nd (fr_nd (fr_lf fr_al) (fr_lf fr_ic)) (fr_nd (fr_lf fr_nwi) (fr_nd (fr_lf fr_pr) (fr_lf fr_al)))) (fr_nd (fr_nd (fr_lf fr_ic) (fr_nd (fr_lf fr_pi) (fr_lf fr_al))) (fr_nd (fr_lf fr_ic) (fr_nd (fr_lf fr_pi) (fr_lf fr_rv))))))
theorem FX2_add : ∀ pc, fro (TX2_add pc) := (fr_nd (fr_nd (fr_nd (fr_nd (fr_nd (fr_lf fr_al) (fr_lf fr_gi)) (fr_nd (fr_lf fr_ic) (fr_lf fr_iclt))) (fr_nd (fr_nd (fr_lf fr_al) (fr_lf fr_cv)) (fr_nd (fr_lf fr_al) (fr_lf fr_gr)))) (fr_nd (fr_nd (fr_nd (fr_lf fr_al) (fr_lf fr_gi)) (fr_nd (fr_lf fr_il) (fr_lf fr_iast))) (fr_nd (fr_nd (fr_lf fr_al) (fr_lf fr_gr)) (fr_nd (fr_lf fr_al) (fr_nd (fr_lf fr_gi) (fr_lf fr_il)))))) (fr_nd (fr_nd (fr_nd (fr_nd (fr_lf fr_iast) (fr_lf fr_al)) (fr_nd (fr_lf fr_gr) (fr_lf fr_al))) (fr_nd (fr_nd (fr_lf fr_gi) (fr_lf fr_il)) (fr_nd (fr_lf fr_iast) (fr_nd (fr_lf fr_al) (fr_lf fr_dup))))) (fr_nd (fr_nd (fr_nd (fr_lf fr_gi) (fr_lf fr_ic)) (fr_nd (fr_lf fr_add) (fr_lf fr_pi))) (fr_nd (fr_nd (fr_lf fr_al) (fr_lf fr_al)) (fr_nd (fr_lf fr_gi) (fr_nd (fr_lf fr_pi) (fr_lf fr_rv)))))))
theorem FX2_forgetFirst : ∀ pc, fro (TX2_forgetFirst pc) := (fr_nd (fr_nd (fr_nd (fr_nd (fr_lf fr_al) (fr_nd (fr_lf fr_gr) (fr_lf fr_ic))) (fr_nd (fr_nd (fr_lf fr_al) (fr_lf fr_gr)) (fr_nd (fr_lf fr_ic) (fr_lf fr_ic)))) (fr_nd (fr_nd (fr_lf fr_cpi) (fr_nd (fr_lf fr_al) (fr_lf fr_gr))) (fr_nd (fr_nd (fr_lf fr_ic) (fr_lf fr_al)) (fr_nd (fr_lf fr_gr) (fr_lf fr_ic))))) (fr_nd (fr_nd (fr_nd (fr_lf fr_ic) (fr_nd (fr_lf fr_cpi) (fr_lf fr_al))) (fr_nd (fr_nd (fr_lf fr_gr) (fr_lf fr_ic)) (fr_nd (fr_lf fr_al) (fr_lf fr_gr)))) (fr_nd (fr_nd (fr_lf fr_ic) (fr_nd (fr_lf fr_ic) (fr_lf fr_cpi))) (fr_nd (fr_nd (fr_lf fr_al) (fr_lf fr_ic)) (fr_nd (fr_lf fr_pi) (fr_lf fr_rv))))))
theorem FX2_undoable : ∀ pc, fro (TX2_undoable pc) := (fr_nd (fr_lf fr_al) (fr_nd (fr_lf fr_gi) (fr_lf fr_ri)))
theorem FX3_init : ∀ pc, fro (TX3_init pc) := (fr_nd (fr_nd (fr_nd (fr_nd (fr_lf fr_al) (fr_lf fr_oi)) (fr_nd (fr_lf fr_al) (fr_lf fr_ic))) (fr_nd (fr_nd (fr_lf fr_nwi) (fr_lf fr_pr)) (fr_nd (fr_lf fr_al) (fr_nd (fr_lf fr_ic) (fr_lf fr_pi))))) (fr_nd (fr_nd (fr_nd (fr_lf fr_al) (fr_lf fr_ic)) (fr_nd (fr_lf fr_nwi) (fr_lf fr_pr))) (fr_nd (fr_nd (fr_lf fr_al) (fr_lf fr_ic)) (fr_nd (fr_lf fr_nwi) (fr_nd (fr_lf fr_pr) (fr_lf fr_rv))))))
theorem FX3_become : ∀ pc, fro (TX3_become pc) := (fr_nd (fr_nd (fr_nd (fr_nd (fr_lf fr_al) (fr_lf fr_al)) (fr_nd (fr_lf fr_gi) (fr_lf fr_al))) (fr_nd (fr_nd (fr_lf fr_gr) (fr_lf fr_alen)) (fr_nd (fr_lf fr_min) (fr_nd (fr_lf fr_pi) (fr_lf fr_al))))) (fr_nd (fr_nd (fr_nd (fr_lf fr_gr) (fr_lf fr_ic)) (fr_nd (fr_lf fr_al) (fr_lf fr_gr))) (fr_nd (fr_nd (fr_lf fr_ic) (fr_lf fr_al)) (fr_nd (fr_lf fr_gi) (fr_nd (fr_lf fr_cpi) (fr_lf fr_rv))))))
theorem FX3_setWords : ∀ pc, fro (TX3_setWords pc) := (fr_nd (fr_nd (fr_nd (fr_nd (fr_lf fr_al) (fr_nd (fr_lf fr_gr) (fr_lf fr_ic))) (fr_nd (fr_lf fr_il) (fr_nd (fr_lf fr_iast) (fr_lf fr_al)))) (fr_nd (fr_nd (fr_lf fr_gr) (fr_nd (fr_lf fr_ic) (fr_lf fr_il))) (fr_nd (fr_nd (fr_lf fr_iast) (fr_lf fr_al)) (fr_nd (fr_lf fr_gr) (fr_lf fr_ic))))) (fr_nd (fr_nd (fr_nd (fr_lf fr_il) (fr_nd (fr_lf fr_iast) (fr_lf fr_al))) (fr_nd (fr_lf fr_gr) (fr_nd (fr_lf fr_ic) (fr_lf fr_il)))) (fr_nd (fr_nd (fr_lf fr_iast) (fr_nd (fr_lf fr_al) (fr_lf fr_gr))) (fr_nd (fr_nd (fr_lf fr_ic) (fr_lf fr_il)) (fr_nd (fr_lf fr_iast) (fr_lf fr_rv))))))
theorem FX3_weighedOut : ∀ pc, fro (TX3_weighedOut pc) := (fr_nd (fr_nd (fr_nd (fr_nd (fr_nd (fr_nd (fr_nd (fr_lf fr_al) (fr_lf fr_gi)) (fr_nd (fr_lf fr_ifne) (fr_lf fr_ic))) (fr_nd (fr_nd (fr_lf fr_al) (fr_lf fr_gr)) (fr_nd (fr_lf fr_ic) (fr_nd (fr_lf fr_ia) (fr_lf fr_add))))) (fr_nd (fr_nd (fr_nd (fr_lf fr_il) (fr_lf fr_sub)) (fr_nd (fr_lf fr_cs) (fr_lf fr_ri))) (fr_nd (fr_nd (fr_lf fr_al) (fr_lf fr_gr)) (fr_nd (fr_lf fr_ic) (fr_nd (fr_lf fr_il) (fr_lf fr_iast)))))) (fr_nd (fr_nd (fr_nd (fr_nd (fr_lf fr_ic) (fr_lf fr_is)) (fr_nd (fr_lf fr_ic) (fr_lf fr_is))) (fr_nd (fr_nd (fr_lf fr_ic) (fr_lf fr_is)) (fr_nd (fr_lf fr_il) (fr_nd (fr_lf fr_al) (fr_lf fr_gi))))) (fr_nd (fr_nd (fr_nd (fr_lf fr_icge) (fr_lf fr_al)) (fr_nd (fr_lf fr_gr) (fr_lf fr_il))) (fr_nd (fr_nd (fr_lf fr_ia) (fr_lf fr_is)) (fr_nd (fr_lf fr_il) (fr_nd (fr_lf fr_ic) (fr_lf fr_iclt))))))) (fr_nd (fr_nd (fr_nd (fr_nd (fr_nd (fr_lf fr_il) (fr_lf fr_ic)) (fr_nd (fr_lf fr_iclt) (fr_lf fr_ic))) (fr_nd (fr_nd (fr_lf fr_ri) (fr_lf fr_inc)) (fr_nd (fr_lf fr_al) (fr_nd (fr_lf fr_gr) (fr_lf fr_il))))) (fr_nd (fr_nd (fr_nd (fr_lf fr_il) (fr_lf fr_iflt)) (fr_nd (fr_lf fr_il) (fr_lf fr_go))) (fr_nd (fr_nd (fr_lf fr_al) (fr_lf fr_gr)) (fr_nd (fr_lf fr_ic) (fr_nd (fr_lf fr_il) (fr_lf fr_sub)))))) (fr_nd (fr_nd (fr_nd (fr_nd (fr_lf fr_ia) (fr_lf fr_iast)) (fr_nd (fr_lf fr_go) (fr_lf fr_il))) (fr_nd (fr_nd (fr_lf fr_ifge) (fr_lf fr_ic)) (fr_nd (fr_lf fr_ri) (fr_nd (fr_lf fr_il) (fr_lf fr_ic))))) (fr_nd (fr_nd (fr_nd (fr_lf fr_icne) (fr_lf fr_il)) (fr_nd (fr_lf fr_ifeq) (fr_lf fr_al))) (fr_nd (fr_nd (fr_lf fr_gr) (fr_lf fr_il)) (fr_nd (fr_lf fr_ia) (fr_nd (fr_lf fr_cs) (fr_lf fr_ri)))))))) (fr_nd (fr_nd (fr_nd (fr_nd (fr_nd (fr_nd (fr_lf fr_inc) (fr_lf fr_ic)) (fr_nd (fr_lf fr_is) (fr_lf fr_go))) (fr_nd (fr_nd (fr_lf fr_il) (fr_lf fr_ic)) (fr_nd (fr_lf fr_icne) (fr_nd (fr_lf fr_al) (fr_lf fr_gr))))) (fr_nd (fr_nd (fr_nd (fr_lf fr_il) (fr_lf fr_ia)) (fr_nd (fr_lf fr_ifeq) (fr_lf fr_ic))) (fr_nd (fr_nd (fr_lf fr_go) (fr_lf fr_ic)) (fr_nd (fr_lf fr_is) (fr_nd (fr_lf fr_inc) (fr_lf fr_go)))))) (fr_nd (fr_nd (fr_nd (fr_nd (fr_lf fr_il) (fr_lf fr_ic)) (fr_nd (fr_lf fr_icne) (fr_lf fr_al))) (fr_nd (fr_nd (fr_lf fr_gr) (fr_lf fr_il)) (fr_nd (fr_lf fr_al) (fr_nd (fr_lf fr_gr) (fr_lf fr_il))))) (fr_nd (fr_nd (fr_nd (fr_lf fr_ia) (fr_lf fr_neg)) (fr_nd (fr_lf fr_iast) (fr_lf fr_go))) (fr_nd (fr_nd (fr_lf fr_il) (fr_lf fr_ic)) (fr_nd (fr_lf fr_icne) (fr_nd (fr_lf fr_al) (fr_lf fr_gr))))))) (fr_nd (fr_nd (fr_nd (fr_nd (fr_nd (fr_lf fr_il) (fr_lf fr_al)) (fr_nd (fr_lf fr_gr) (fr_lf fr_il))) (fr_nd (fr_nd (fr_lf fr_ia) (fr_lf fr_ifne)) (fr_nd (fr_lf fr_ic) (fr_nd (fr_lf fr_go) (fr_lf fr_ic))))) (fr_nd (fr_nd (fr_nd (fr_lf fr_iast) (fr_lf fr_go)) (fr_nd (fr_lf fr_il) (fr_lf fr_ic))) (fr_nd (fr_nd (fr_lf fr_iclt) (fr_lf fr_inc)) (fr_nd (fr_lf fr_al) (fr_nd (fr_lf fr_gr) (fr_lf fr_il)))))) (fr_nd (fr_nd (fr_nd (fr_nd (fr_lf fr_il) (fr_lf fr_neg)) (fr_nd (fr_lf fr_al) (fr_lf fr_gr))) (fr_nd (fr_nd (fr_lf fr_il) (fr_lf fr_ia)) (fr_nd (fr_lf fr_al) (fr_nd (fr_lf fr_gr) (fr_lf fr_il))))) (fr_nd (fr_nd (fr_nd (fr_lf fr_ic) (fr_lf fr_add)) (fr_nd (fr_lf fr_ia) (fr_lf fr_cs))) (fr_nd (fr_nd (fr_lf fr_iast) (fr_lf fr_inc)) (fr_nd (fr_lf fr_go) (fr_nd (fr_lf fr_ic) (fr_lf fr_ri)))))))))
theorem FX3_held : ∀ pc, fro (TX3_held pc) := (fr_nd (fr_nd (fr_nd (fr_lf fr_il) (fr_lf fr_ifge)) (fr_nd (fr_lf fr_ic) (fr_nd (fr_lf fr_go) (fr_lf fr_il)))) (fr_nd (fr_nd (fr_lf fr_ic) (fr_nd (fr_lf fr_icle) (fr_lf fr_ic))) (fr_nd (fr_lf fr_go) (fr_nd (fr_lf fr_il) (fr_lf fr_ri)))))
theorem FX3_joined : ∀ pc, fro (TX3_joined pc) := (fr_nd (fr_nd (fr_nd (fr_nd (fr_nd (fr_nd (fr_lf fr_il) (fr_lf fr_sw)) (fr_nd (fr_lf fr_il) (fr_lf fr_ifne))) (fr_nd (fr_nd (fr_lf fr_il) (fr_lf fr_ifeq)) (fr_nd (fr_lf fr_ic) (fr_lf fr_go)))) (fr_nd (fr_nd (fr_nd (fr_lf fr_ic) (fr_lf fr_ri)) (fr_nd (fr_lf fr_il) (fr_lf fr_ifeq))) (fr_nd (fr_nd (fr_lf fr_il) (fr_lf fr_ifeq)) (fr_nd (fr_lf fr_ic) (fr_nd (fr_lf fr_go) (fr_lf fr_ic)))))) (fr_nd (fr_nd (fr_nd (fr_nd (fr_lf fr_ri) (fr_lf fr_il)) (fr_nd (fr_lf fr_il) (fr_lf fr_icge))) (fr_nd (fr_nd (fr_lf fr_ic) (fr_lf fr_go)) (fr_nd (fr_lf fr_ic) (fr_lf fr_ri)))) (fr_nd (fr_nd (fr_nd (fr_lf fr_il) (fr_lf fr_il)) (fr_nd (fr_lf fr_icne) (fr_lf fr_ic))) (fr_nd (fr_nd (fr_lf fr_go) (fr_lf fr_ic)) (fr_nd (fr_lf fr_ri) (fr_nd (fr_lf fr_il) (fr_lf fr_il))))))) (fr_nd (fr_nd (fr_nd (fr_nd (fr_nd (fr_lf fr_icle) (fr_lf fr_ic)) (fr_nd (fr_lf fr_go) (fr_lf fr_ic))) (fr_nd (fr_nd (fr_lf fr_ri) (fr_lf fr_il)) (fr_nd (fr_lf fr_il) (fr_lf fr_add)))) (fr_nd (fr_nd (fr_nd (fr_lf fr_ri) (fr_lf fr_il)) (fr_nd (fr_lf fr_il) (fr_lf fr_sub))) (fr_nd (fr_nd (fr_lf fr_ri) (fr_lf fr_il)) (fr_nd (fr_lf fr_il) (fr_nd (fr_lf fr_mul) (fr_lf fr_ri)))))) (fr_nd (fr_nd (fr_nd (fr_nd (fr_lf fr_il) (fr_lf fr_ifne)) (fr_nd (fr_lf fr_ic) (fr_lf fr_go))) (fr_nd (fr_nd (fr_lf fr_il) (fr_lf fr_il)) (fr_nd (fr_lf fr_div) (fr_nd (fr_lf fr_ri) (fr_lf fr_il))))) (fr_nd (fr_nd (fr_nd (fr_lf fr_ifne) (fr_lf fr_ic)) (fr_nd (fr_lf fr_go) (fr_lf fr_il))) (fr_nd (fr_nd (fr_lf fr_il) (fr_lf fr_rem)) (fr_nd (fr_lf fr_ri) (fr_nd (fr_lf fr_ic) (fr_lf fr_ri))))))))
theorem FX4_init : ∀ pc, fro (TX4_init pc) := (fr_nd (fr_nd (fr_nd (fr_nd (fr_lf fr_al) (fr_lf fr_oi)) (fr_nd (fr_lf fr_al) (fr_nd (fr_lf fr_ic) (fr_lf fr_nwi)))) (fr_nd (fr_nd (fr_lf fr_pr) (fr_lf fr_al)) (fr_nd (fr_lf fr_ic) (fr_nd (fr_lf fr_pi) (fr_lf fr_al))))) (fr_nd (fr_nd (fr_nd (fr_lf fr_ic) (fr_lf fr_nwi)) (fr_nd (fr_lf fr_pr) (fr_nd (fr_lf fr_al) (fr_lf fr_ic)))) (fr_nd (fr_nd (fr_lf fr_pi) (fr_lf fr_al)) (fr_nd (fr_lf fr_ic) (fr_nd (fr_lf fr_pi) (fr_lf fr_rv))))))
theorem FX4_take : ∀ pc, fro (TX4_take pc) := (fr_nd (fr_nd (fr_nd (fr_nd (fr_lf fr_al) (fr_lf fr_gi)) (fr_nd (fr_lf fr_ic) (fr_nd (fr_lf fr_iclt) (fr_lf fr_ic)))) (fr_nd (fr_nd (fr_lf fr_ri) (fr_lf fr_al)) (fr_nd (fr_lf fr_gr) (fr_nd (fr_lf fr_al) (fr_lf fr_gi))))) (fr_nd (fr_nd (fr_nd (fr_lf fr_il) (fr_lf fr_iast)) (fr_nd (fr_lf fr_al) (fr_nd (fr_lf fr_dup) (fr_lf fr_gi)))) (fr_nd (fr_nd (fr_lf fr_ic) (fr_nd (fr_lf fr_add) (fr_lf fr_pi))) (fr_nd (fr_lf fr_al) (fr_nd (fr_lf fr_gi) (fr_lf fr_ri))))))
theorem FX4_length : ∀ pc, fro (TX4_length pc) := (fr_nd (fr_lf fr_al) (fr_nd (fr_lf fr_gi) (fr_lf fr_ri)))
theorem FX4_clear : ∀ pc, fro (TX4_clear pc) := (fr_nd (fr_nd (fr_lf fr_al) (fr_lf fr_ic)) (fr_nd (fr_lf fr_pi) (fr_lf fr_rv)))
theorem FX4_read : ∀ pc, fro (TX4_read pc) := (fr_nd (fr_nd (fr_nd (fr_nd (fr_nd (fr_lf fr_al) (fr_lf fr_ic)) (fr_nd (fr_lf fr_pi) (fr_nd (fr_lf fr_al) (fr_lf fr_ic)))) (fr_nd (fr_nd (fr_lf fr_pi) (fr_lf fr_ic)) (fr_nd (fr_lf fr_is) (fr_nd (fr_lf fr_il) (fr_lf fr_ic))))) (fr_nd (fr_nd (fr_nd (fr_lf fr_icgt) (fr_lf fr_al)) (fr_nd (fr_lf fr_cv) (fr_nd (fr_lf fr_ifne) (fr_lf fr_al)))) (fr_nd (fr_nd (fr_lf fr_gi) (fr_lf fr_ri)) (fr_nd (fr_lf fr_al) (fr_nd (fr_lf fr_cv) (fr_lf fr_ic)))))) (fr_nd (fr_nd (fr_nd (fr_nd (fr_lf fr_iceq) (fr_lf fr_al)) (fr_nd (fr_lf fr_cv) (fr_nd (fr_lf fr_ic) (fr_lf fr_icne)))) (fr_nd (fr_nd (fr_lf fr_ic) (fr_lf fr_go)) (fr_nd (fr_lf fr_al) (fr_nd (fr_lf fr_gi) (fr_lf fr_ri))))) (fr_nd (fr_nd (fr_nd (fr_lf fr_al) (fr_lf fr_dup)) (fr_nd (fr_lf fr_gi) (fr_nd (fr_lf fr_ic) (fr_lf fr_add)))) (fr_nd (fr_nd (fr_lf fr_pi) (fr_nd (fr_lf fr_inc) (fr_lf fr_go))) (fr_nd (fr_lf fr_al) (fr_nd (fr_lf fr_gi) (fr_lf fr_ri)))))))
theorem FX4_readLine : ∀ pc, fro (TX4_readLine pc) := (fr_nd (fr_nd (fr_nd (fr_nd (fr_nd (fr_lf fr_al) (fr_lf fr_ic)) (fr_nd (fr_lf fr_ic) (fr_lf fr_cv))) (fr_nd (fr_nd (fr_lf fr_ifne) (fr_lf fr_ic)) (fr_nd (fr_lf fr_rz) (fr_lf fr_al)))) (fr_nd (fr_nd (fr_nd (fr_lf fr_cv) (fr_lf fr_ic)) (fr_nd (fr_lf fr_icne) (fr_lf fr_al))) (fr_nd (fr_nd (fr_lf fr_dup) (fr_lf fr_gi)) (fr_nd (fr_lf fr_ic) (fr_lf fr_add))))) (fr_nd (fr_nd (fr_nd (fr_nd (fr_lf fr_pi) (fr_lf fr_al)) (fr_nd (fr_lf fr_ic) (fr_lf fr_cv))) (fr_nd (fr_nd (fr_lf fr_al) (fr_lf fr_ic)) (fr_nd (fr_lf fr_ic) (fr_lf fr_cv)))) (fr_nd (fr_nd (fr_nd (fr_lf fr_ifne) (fr_lf fr_ic)) (fr_nd (fr_lf fr_rz) (fr_lf fr_al))) (fr_nd (fr_nd (fr_lf fr_ic) (fr_lf fr_cv)) (fr_nd (fr_lf fr_ic) (fr_lf fr_rz))))))
theorem FX4_readLevel : ∀ pc, fro (TX4_readLevel pc) := (fr_nd (fr_nd (fr_nd (fr_nd (fr_nd (fr_lf fr_il) (fr_nd (fr_lf fr_ic) (fr_lf fr_iclt))) (fr_nd (fr_nd (fr_lf fr_al) (fr_lf fr_il)) (fr_nd (fr_lf fr_cv) (fr_lf fr_rz)))) (fr_nd (fr_nd (fr_lf fr_al) (fr_nd (fr_lf fr_il) (fr_lf fr_ic))) (fr_nd (fr_nd (fr_lf fr_add) (fr_lf fr_il)) (fr_nd (fr_lf fr_cv) (fr_lf fr_ifne))))) (fr_nd (fr_nd (fr_nd (fr_lf fr_ic) (fr_nd (fr_lf fr_rz) (fr_lf fr_il))) (fr_nd (fr_nd (fr_lf fr_ic) (fr_lf fr_icne)) (fr_nd (fr_lf fr_ic) (fr_lf fr_go)))) (fr_nd (fr_nd (fr_nd (fr_lf fr_ic) (fr_lf fr_is)) (fr_nd (fr_lf fr_ic) (fr_lf fr_is))) (fr_nd (fr_nd (fr_lf fr_il) (fr_lf fr_il)) (fr_nd (fr_lf fr_icge) (fr_lf fr_al)))))) (fr_nd (fr_nd (fr_nd (fr_nd (fr_lf fr_cv) (fr_nd (fr_lf fr_cs) (fr_lf fr_il))) (fr_nd (fr_nd (fr_lf fr_icne) (fr_lf fr_al)) (fr_nd (fr_lf fr_cv) (fr_lf fr_is)))) (fr_nd (fr_nd (fr_nd (fr_lf fr_al) (fr_lf fr_dup)) (fr_nd (fr_lf fr_gi) (fr_lf fr_ic))) (fr_nd (fr_nd (fr_lf fr_add) (fr_lf fr_pi)) (fr_nd (fr_lf fr_al) (fr_lf fr_il))))) (fr_nd (fr_nd (fr_nd (fr_lf fr_ic) (fr_nd (fr_lf fr_add) (fr_lf fr_il))) (fr_nd (fr_nd (fr_lf fr_cv) (fr_lf fr_ifne)) (fr_nd (fr_lf fr_ic) (fr_lf fr_rz)))) (fr_nd (fr_nd (fr_nd (fr_lf fr_al) (fr_lf fr_il)) (fr_nd (fr_lf fr_neg) (fr_lf fr_cv))) (fr_nd (fr_nd (fr_lf fr_inc) (fr_lf fr_go)) (fr_nd (fr_lf fr_ic) (fr_lf fr_rz)))))))
theorem FX4_levelOf : ∀ pc, fro (TX4_levelOf pc) := (fr_nd (fr_nd (fr_nd (fr_lf fr_il) (fr_nd (fr_lf fr_sw) (fr_lf fr_ic))) (fr_nd (fr_nd (fr_lf fr_ri) (fr_lf fr_ic)) (fr_nd (fr_lf fr_ri) (fr_lf fr_ic)))) (fr_nd (fr_nd (fr_lf fr_ri) (fr_nd (fr_lf fr_ic) (fr_lf fr_ri))) (fr_nd (fr_nd (fr_lf fr_ic) (fr_lf fr_ri)) (fr_nd (fr_lf fr_ic) (fr_lf fr_ri)))))
theorem FX4_readOperand : ∀ pc, fro (TX4_readOperand pc) := (fr_nd (fr_nd (fr_nd (fr_nd (fr_nd (fr_lf fr_al) (fr_lf fr_cv)) (fr_nd (fr_lf fr_is) (fr_lf fr_il))) (fr_nd (fr_nd (fr_lf fr_ic) (fr_lf fr_iceq)) (fr_nd (fr_lf fr_il) (fr_nd (fr_lf fr_ic) (fr_lf fr_iceq))))) (fr_nd (fr_nd (fr_nd (fr_lf fr_il) (fr_lf fr_ic)) (fr_nd (fr_lf fr_icne) (fr_lf fr_il))) (fr_nd (fr_nd (fr_lf fr_ic) (fr_lf fr_icge)) (fr_nd (fr_lf fr_al) (fr_nd (fr_lf fr_il) (fr_lf fr_il)))))) (fr_nd (fr_nd (fr_nd (fr_nd (fr_lf fr_ic) (fr_lf fr_add)) (fr_nd (fr_lf fr_cv) (fr_lf fr_ifeq))) (fr_nd (fr_nd (fr_lf fr_ic) (fr_lf fr_go)) (fr_nd (fr_lf fr_ic) (fr_nd (fr_lf fr_rz) (fr_lf fr_il))))) (fr_nd (fr_nd (fr_nd (fr_lf fr_cs) (fr_lf fr_ifeq)) (fr_nd (fr_lf fr_al) (fr_lf fr_cv))) (fr_nd (fr_nd (fr_lf fr_ic) (fr_lf fr_rz)) (fr_nd (fr_lf fr_al) (fr_nd (fr_lf fr_cv) (fr_lf fr_rz)))))))
theorem FX4_readOpened : ∀ pc, fro (TX4_readOpened pc) := (fr_nd (fr_nd (fr_nd (fr_nd (fr_nd (fr_lf fr_al) (fr_lf fr_dup)) (fr_nd (fr_lf fr_gi) (fr_nd (fr_lf fr_ic) (fr_lf fr_add)))) (fr_nd (fr_nd (fr_lf fr_pi) (fr_nd (fr_lf fr_il) (fr_lf fr_ic))) (fr_nd (fr_lf fr_icne) (fr_nd (fr_lf fr_al) (fr_lf fr_ic))))) (fr_nd (fr_nd (fr_nd (fr_lf fr_il) (fr_lf fr_cv)) (fr_nd (fr_lf fr_ifeq) (fr_nd (fr_lf fr_al) (fr_lf fr_cv)))) (fr_nd (fr_nd (fr_lf fr_ic) (fr_nd (fr_lf fr_iceq) (fr_lf fr_ic))) (fr_nd (fr_lf fr_rz) (fr_nd (fr_lf fr_al) (fr_lf fr_dup)))))) (fr_nd (fr_nd (fr_nd (fr_nd (fr_lf fr_gi) (fr_lf fr_ic)) (fr_nd (fr_lf fr_add) (fr_nd (fr_lf fr_pi) (fr_lf fr_ic)))) (fr_nd (fr_nd (fr_lf fr_rz) (fr_nd (fr_lf fr_al) (fr_lf fr_il))) (fr_nd (fr_lf fr_cv) (fr_nd (fr_lf fr_ifne) (fr_lf fr_ic))))) (fr_nd (fr_nd (fr_nd (fr_lf fr_rz) (fr_lf fr_al)) (fr_nd (fr_lf fr_il) (fr_nd (fr_lf fr_ic) (fr_lf fr_icne)))) (fr_nd (fr_nd (fr_lf fr_ic) (fr_nd (fr_lf fr_go) (fr_lf fr_ic))) (fr_nd (fr_lf fr_cv) (fr_nd (fr_lf fr_ic) (fr_lf fr_rz)))))))
theorem FX4_readNumber : ∀ pc, fro (TX4_readNumber pc) := (fr_nd (fr_nd (fr_nd (fr_nd (fr_nd (fr_lf fr_ic) (fr_lf fr_is)) (fr_nd (fr_lf fr_ic) (fr_lf fr_is))) (fr_nd (fr_nd (fr_lf fr_il) (fr_lf fr_ic)) (fr_nd (fr_lf fr_icge) (fr_lf fr_al)))) (fr_nd (fr_nd (fr_nd (fr_lf fr_cv) (fr_lf fr_cs)) (fr_nd (fr_lf fr_ifeq) (fr_lf fr_il))) (fr_nd (fr_nd (fr_lf fr_ic) (fr_lf fr_mul)) (fr_nd (fr_lf fr_al) (fr_lf fr_cv))))) (fr_nd (fr_nd (fr_nd (fr_nd (fr_lf fr_add) (fr_lf fr_ic)) (fr_nd (fr_lf fr_sub) (fr_lf fr_is))) (fr_nd (fr_nd (fr_lf fr_al) (fr_lf fr_dup)) (fr_nd (fr_lf fr_gi) (fr_lf fr_ic)))) (fr_nd (fr_nd (fr_nd (fr_lf fr_add) (fr_lf fr_pi)) (fr_nd (fr_lf fr_inc) (fr_lf fr_go))) (fr_nd (fr_nd (fr_lf fr_al) (fr_lf fr_il)) (fr_nd (fr_lf fr_cv) (fr_lf fr_rv))))))
theorem FX4_readWord : ∀ pc, fro (TX4_readWord pc) := (fr_nd (fr_nd (fr_nd (fr_nd (fr_nd (fr_lf fr_al) (fr_nd (fr_lf fr_gi) (fr_lf fr_is))) (fr_nd (fr_lf fr_il) (fr_nd (fr_lf fr_al) (fr_lf fr_gi)))) (fr_nd (fr_nd (fr_lf fr_icge) (fr_nd (fr_lf fr_il) (fr_lf fr_ic))) (fr_nd (fr_lf fr_icge) (fr_nd (fr_lf fr_al) (fr_lf fr_gr))))) (fr_nd (fr_nd (fr_nd (fr_lf fr_il) (fr_nd (fr_lf fr_ia) (fr_lf fr_ic))) (fr_nd (fr_lf fr_iclt) (fr_nd (fr_lf fr_al) (fr_lf fr_gr)))) (fr_nd (fr_nd (fr_lf fr_il) (fr_nd (fr_lf fr_ia) (fr_lf fr_ic))) (fr_nd (fr_lf fr_icgt) (fr_nd (fr_lf fr_inc) (fr_lf fr_go)))))) (fr_nd (fr_nd (fr_nd (fr_nd (fr_lf fr_ic) (fr_nd (fr_lf fr_is) (fr_lf fr_il))) (fr_nd (fr_lf fr_ic) (fr_nd (fr_lf fr_icge) (fr_lf fr_al)))) (fr_nd (fr_nd (fr_lf fr_il) (fr_nd (fr_lf fr_cs) (fr_lf fr_il))) (fr_nd (fr_lf fr_cv) (fr_nd (fr_lf fr_ifeq) (fr_lf fr_al))))) (fr_nd (fr_nd (fr_nd (fr_lf fr_il) (fr_nd (fr_lf fr_pi) (fr_lf fr_al))) (fr_nd (fr_lf fr_ic) (fr_nd (fr_lf fr_il) (fr_lf fr_sub)))) (fr_nd (fr_nd (fr_lf fr_cv) (fr_nd (fr_lf fr_ic) (fr_lf fr_rz))) (fr_nd (fr_nd (fr_lf fr_inc) (fr_lf fr_go)) (fr_nd (fr_lf fr_ic) (fr_lf fr_rz)))))))
theorem FX4_isWord : ∀ pc, fro (TX4_isWord pc) := (fr_nd (fr_nd (fr_nd (fr_nd (fr_nd (fr_lf fr_il) (fr_lf fr_al)) (fr_nd (fr_lf fr_gi) (fr_lf fr_sub))) (fr_nd (fr_nd (fr_lf fr_al) (fr_lf fr_slen2)) (fr_nd (fr_lf fr_iceq) (fr_nd (fr_lf fr_ic) (fr_lf fr_rz))))) (fr_nd (fr_nd (fr_nd (fr_lf fr_ic) (fr_lf fr_is)) (fr_nd (fr_lf fr_il) (fr_nd (fr_lf fr_al) (fr_lf fr_slen2)))) (fr_nd (fr_nd (fr_lf fr_icge) (fr_lf fr_al)) (fr_nd (fr_lf fr_gi) (fr_nd (fr_lf fr_il) (fr_lf fr_add)))))) (fr_nd (fr_nd (fr_nd (fr_nd (fr_lf fr_is) (fr_lf fr_il)) (fr_nd (fr_lf fr_iflt) (fr_nd (fr_lf fr_il) (fr_lf fr_ic)))) (fr_nd (fr_nd (fr_lf fr_icge) (fr_lf fr_al)) (fr_nd (fr_lf fr_gr) (fr_nd (fr_lf fr_il) (fr_lf fr_ia))))) (fr_nd (fr_nd (fr_nd (fr_lf fr_al) (fr_lf fr_il)) (fr_nd (fr_lf fr_sat) (fr_nd (fr_lf fr_iceq) (fr_lf fr_ic)))) (fr_nd (fr_nd (fr_lf fr_rz) (fr_lf fr_inc)) (fr_nd (fr_lf fr_go) (fr_nd (fr_lf fr_ic) (fr_lf fr_rz)))))))
theorem FX4_wordOf : ∀ pc, fro (TX4_wordOf pc) := (fr_nd (fr_nd (fr_nd (fr_lf fr_il) (fr_nd (fr_lf fr_sw) (fr_lf fr_sp))) (fr_nd (fr_nd (fr_lf fr_raF) (fr_lf fr_sp)) (fr_nd (fr_lf fr_raF) (fr_lf fr_sp)))) (fr_nd (fr_nd (fr_lf fr_raF) (fr_nd (fr_lf fr_sp) (fr_lf fr_raF))) (fr_nd (fr_nd (fr_lf fr_sp) (fr_lf fr_raF)) (fr_nd (fr_lf fr_sp) (fr_lf fr_raF)))))
theorem FX4_isDigit : ∀ pc, fro (TX4_isDigit pc) := (fr_nd (fr_nd (fr_nd (fr_lf fr_il) (fr_lf fr_ic)) (fr_nd (fr_lf fr_iclt) (fr_nd (fr_lf fr_il) (fr_lf fr_ic)))) (fr_nd (fr_nd (fr_lf fr_icgt) (fr_lf fr_ic)) (fr_nd (fr_lf fr_go) (fr_nd (fr_lf fr_ic) (fr_lf fr_rz)))))
theorem FX4_next : ∀ pc, fro (TX4_next pc) := (fr_nd (fr_nd (fr_nd (fr_nd (fr_lf fr_al) (fr_lf fr_gi)) (fr_nd (fr_lf fr_iflt) (fr_nd (fr_lf fr_al) (fr_lf fr_gi)))) (fr_nd (fr_nd (fr_lf fr_al) (fr_lf fr_gi)) (fr_nd (fr_lf fr_icge) (fr_nd (fr_lf fr_al) (fr_lf fr_gi))))) (fr_nd (fr_nd (fr_nd (fr_lf fr_ic) (fr_lf fr_icge)) (fr_nd (fr_lf fr_al) (fr_nd (fr_lf fr_gr) (fr_lf fr_al)))) (fr_nd (fr_nd (fr_lf fr_gi) (fr_lf fr_ia)) (fr_nd (fr_lf fr_go) (fr_nd (fr_lf fr_ic) (fr_lf fr_ri))))))
theorem FX4_write : ∀ pc, fro (TX4_write pc) := (fr_nd (fr_nd (fr_nd (fr_nd (fr_lf fr_al) (fr_lf fr_gi)) (fr_nd (fr_lf fr_ic) (fr_lf fr_icge))) (fr_nd (fr_nd (fr_lf fr_al) (fr_lf fr_gr)) (fr_nd (fr_lf fr_al) (fr_lf fr_gi)))) (fr_nd (fr_nd (fr_nd (fr_lf fr_il) (fr_lf fr_iast)) (fr_nd (fr_lf fr_al) (fr_lf fr_dup))) (fr_nd (fr_nd (fr_lf fr_gi) (fr_lf fr_ic)) (fr_nd (fr_lf fr_add) (fr_nd (fr_lf fr_pi) (fr_lf fr_rv))))))
theorem FX5_init : ∀ pc, fro (TX5_init pc) := (fr_nd (fr_nd (fr_nd (fr_nd (fr_lf fr_al) (fr_lf fr_oi)) (fr_nd (fr_lf fr_al) (fr_lf fr_ic))) (fr_nd (fr_nd (fr_lf fr_nwi) (fr_lf fr_pr)) (fr_nd (fr_lf fr_al) (fr_lf fr_ic)))) (fr_nd (fr_nd (fr_nd (fr_lf fr_pi) (fr_lf fr_al)) (fr_nd (fr_lf fr_ic) (fr_lf fr_nwi))) (fr_nd (fr_nd (fr_lf fr_pr) (fr_lf fr_al)) (fr_nd (fr_lf fr_ic) (fr_nd (fr_lf fr_pi) (fr_lf fr_rv))))))
theorem FX5_bodies : ∀ pc, fro (TX5_bodies pc) := (fr_nd (fr_lf fr_al) (fr_nd (fr_lf fr_gi) (fr_lf fr_ri)))
theorem FX5_ran : ∀ pc, fro (TX5_ran pc) := (fr_nd (fr_lf fr_al) (fr_nd (fr_lf fr_gi) (fr_lf fr_ri)))
theorem FX6_init : ∀ pc, fro (TX6_init pc) := (fr_nd (fr_nd (fr_nd (fr_nd (fr_lf fr_al) (fr_lf fr_oi)) (fr_nd (fr_lf fr_al) (fr_lf fr_ic))) (fr_nd (fr_nd (fr_lf fr_nwi) (fr_lf fr_pr)) (fr_nd (fr_lf fr_al) (fr_nd (fr_lf fr_ic) (fr_lf fr_nwi))))) (fr_nd (fr_nd (fr_nd (fr_lf fr_pr) (fr_lf fr_al)) (fr_nd (fr_lf fr_ic) (fr_lf fr_nwi))) (fr_nd (fr_nd (fr_lf fr_pr) (fr_lf fr_al)) (fr_nd (fr_lf fr_al) (fr_nd (fr_lf fr_pr) (fr_lf fr_rv))))))
theorem FX7_init : ∀ pc, fro (TX7_init pc) := (fr_nd (fr_nd (fr_nd (fr_nd (fr_lf fr_al) (fr_nd (fr_lf fr_oi) (fr_lf fr_al))) (fr_nd (fr_nd (fr_lf fr_ic) (fr_lf fr_pi)) (fr_nd (fr_lf fr_al) (fr_lf fr_ic)))) (fr_nd (fr_nd (fr_lf fr_nwi) (fr_nd (fr_lf fr_pr) (fr_lf fr_al))) (fr_nd (fr_nd (fr_lf fr_ic) (fr_lf fr_nwi)) (fr_nd (fr_lf fr_pr) (fr_lf fr_al))))) (fr_nd (fr_nd (fr_nd (fr_lf fr_ic) (fr_nd (fr_lf fr_nwi) (fr_lf fr_pr))) (fr_nd (fr_nd (fr_lf fr_al) (fr_lf fr_ic)) (fr_nd (fr_lf fr_nwi) (fr_lf fr_pr)))) (fr_nd (fr_nd (fr_lf fr_al) (fr_nd (fr_lf fr_ic) (fr_lf fr_pi))) (fr_nd (fr_nd (fr_lf fr_al) (fr_lf fr_ic)) (fr_nd (fr_lf fr_pi) (fr_lf fr_rv))))))
theorem FX7_goBy : ∀ pc, fro (TX7_goBy pc) := (fr_nd (fr_nd (fr_nd (fr_nd (fr_nd (fr_lf fr_al) (fr_lf fr_ic)) (fr_nd (fr_lf fr_pi) (fr_nd (fr_lf fr_al) (fr_lf fr_ic)))) (fr_nd (fr_nd (fr_lf fr_pi) (fr_lf fr_al)) (fr_nd (fr_lf fr_ic) (fr_nd (fr_lf fr_pi) (fr_lf fr_ic))))) (fr_nd (fr_nd (fr_nd (fr_lf fr_is) (fr_lf fr_ic)) (fr_nd (fr_lf fr_is) (fr_nd (fr_lf fr_il) (fr_lf fr_al)))) (fr_nd (fr_nd (fr_lf fr_gi) (fr_lf fr_icge)) (fr_nd (fr_lf fr_al) (fr_nd (fr_lf fr_il) (fr_lf fr_cs)))))) (fr_nd (fr_nd (fr_nd (fr_nd (fr_lf fr_is) (fr_lf fr_il)) (fr_nd (fr_lf fr_ic) (fr_nd (fr_lf fr_il) (fr_lf fr_shl)))) (fr_nd (fr_nd (fr_lf fr_or) (fr_lf fr_is)) (fr_nd (fr_lf fr_al) (fr_nd (fr_lf fr_al) (fr_lf fr_al))))) (fr_nd (fr_nd (fr_nd (fr_lf fr_il) (fr_lf fr_cv)) (fr_nd (fr_lf fr_inc) (fr_nd (fr_lf fr_go) (fr_lf fr_al)))) (fr_nd (fr_nd (fr_lf fr_al) (fr_nd (fr_lf fr_gi) (fr_lf fr_cv))) (fr_nd (fr_lf fr_al) (fr_nd (fr_lf fr_gi) (fr_lf fr_ri)))))))
theorem FX7_hungriest : ∀ pc, fro (TX7_hungriest pc) := (fr_nd (fr_nd (fr_nd (fr_nd (fr_lf fr_ic) (fr_nd (fr_lf fr_is) (fr_lf fr_ic))) (fr_nd (fr_nd (fr_lf fr_is) (fr_lf fr_ic)) (fr_nd (fr_lf fr_is) (fr_lf fr_il)))) (fr_nd (fr_nd (fr_nd (fr_lf fr_al) (fr_lf fr_gi)) (fr_nd (fr_lf fr_icge) (fr_lf fr_al))) (fr_nd (fr_nd (fr_lf fr_il) (fr_lf fr_cv)) (fr_nd (fr_lf fr_is) (fr_lf fr_il))))) (fr_nd (fr_nd (fr_nd (fr_nd (fr_lf fr_il) (fr_lf fr_shr)) (fr_nd (fr_lf fr_ic) (fr_lf fr_and))) (fr_nd (fr_nd (fr_lf fr_ifne) (fr_lf fr_il)) (fr_nd (fr_lf fr_il) (fr_lf fr_icle)))) (fr_nd (fr_nd (fr_nd (fr_lf fr_il) (fr_lf fr_is)) (fr_nd (fr_lf fr_il) (fr_lf fr_is))) (fr_nd (fr_nd (fr_lf fr_inc) (fr_lf fr_go)) (fr_nd (fr_lf fr_il) (fr_lf fr_ri))))))
theorem FX7_serve : ∀ pc, fro (TX7_serve pc) := (fr_nd (fr_nd (fr_nd (fr_nd (fr_nd (fr_nd (fr_nd (fr_lf fr_al) (fr_lf fr_il)) (fr_nd (fr_lf fr_ic) (fr_lf fr_cv))) (fr_nd (fr_nd (fr_lf fr_is) (fr_lf fr_il)) (fr_nd (fr_lf fr_ic) (fr_lf fr_iceq)))) (fr_nd (fr_nd (fr_nd (fr_lf fr_al) (fr_lf fr_gi)) (fr_nd (fr_lf fr_ic) (fr_lf fr_iclt))) (fr_nd (fr_nd (fr_lf fr_rv) (fr_lf fr_al)) (fr_nd (fr_lf fr_al) (fr_nd (fr_lf fr_il) (fr_lf fr_il)))))) (fr_nd (fr_nd (fr_nd (fr_nd (fr_lf fr_cv) (fr_lf fr_al)) (fr_nd (fr_lf fr_il) (fr_lf fr_cv))) (fr_nd (fr_nd (fr_lf fr_al) (fr_lf fr_ic)) (fr_nd (fr_lf fr_il) (fr_nd (fr_lf fr_add) (fr_lf fr_cv))))) (fr_nd (fr_nd (fr_nd (fr_lf fr_al) (fr_lf fr_ic)) (fr_nd (fr_lf fr_cv) (fr_lf fr_al))) (fr_nd (fr_nd (fr_lf fr_gi) (fr_lf fr_cv)) (fr_nd (fr_lf fr_ic) (fr_nd (fr_lf fr_is) (fr_lf fr_ic))))))) (fr_nd (fr_nd (fr_nd (fr_nd (fr_nd (fr_lf fr_is) (fr_lf fr_ic)) (fr_nd (fr_lf fr_is) (fr_lf fr_il))) (fr_nd (fr_nd (fr_lf fr_al) (fr_lf fr_gi)) (fr_nd (fr_lf fr_icge) (fr_lf fr_al)))) (fr_nd (fr_nd (fr_nd (fr_lf fr_il) (fr_lf fr_il)) (fr_nd (fr_lf fr_cv) (fr_lf fr_neg))) (fr_nd (fr_nd (fr_lf fr_is) (fr_lf fr_il)) (fr_nd (fr_lf fr_ifle) (fr_nd (fr_lf fr_al) (fr_lf fr_gi)))))) (fr_nd (fr_nd (fr_nd (fr_nd (fr_lf fr_il) (fr_lf fr_shr)) (fr_nd (fr_lf fr_ic) (fr_lf fr_and))) (fr_nd (fr_nd (fr_lf fr_ifne) (fr_lf fr_al)) (fr_nd (fr_lf fr_il) (fr_nd (fr_lf fr_cv) (fr_lf fr_is))))) (fr_nd (fr_nd (fr_nd (fr_lf fr_il) (fr_lf fr_il)) (fr_nd (fr_lf fr_icle) (fr_lf fr_il))) (fr_nd (fr_nd (fr_lf fr_is) (fr_lf fr_il)) (fr_nd (fr_lf fr_is) (fr_nd (fr_lf fr_inc) (fr_lf fr_go)))))))) (fr_nd (fr_nd (fr_nd (fr_nd (fr_nd (fr_nd (fr_lf fr_il) (fr_lf fr_ic)) (fr_nd (fr_lf fr_icne) (fr_lf fr_rv))) (fr_nd (fr_nd (fr_lf fr_al) (fr_lf fr_il)) (fr_nd (fr_lf fr_il) (fr_lf fr_cv)))) (fr_nd (fr_nd (fr_nd (fr_lf fr_al) (fr_lf fr_ic)) (fr_nd (fr_lf fr_cv) (fr_lf fr_add))) (fr_nd (fr_nd (fr_lf fr_is) (fr_lf fr_al)) (fr_nd (fr_lf fr_il) (fr_nd (fr_lf fr_il) (fr_lf fr_il)))))) (fr_nd (fr_nd (fr_nd (fr_nd (fr_lf fr_ic) (fr_lf fr_min)) (fr_nd (fr_lf fr_cv) (fr_lf fr_al))) (fr_nd (fr_nd (fr_lf fr_il) (fr_lf fr_il)) (fr_nd (fr_lf fr_cv) (fr_nd (fr_lf fr_al) (fr_lf fr_gr))))) (fr_nd (fr_nd (fr_nd (fr_lf fr_al) (fr_lf fr_gi)) (fr_nd (fr_lf fr_il) (fr_lf fr_iast))) (fr_nd (fr_nd (fr_lf fr_al) (fr_lf fr_gr)) (fr_nd (fr_lf fr_al) (fr_nd (fr_lf fr_gi) (fr_lf fr_il))))))) (fr_nd (fr_nd (fr_nd (fr_nd (fr_nd (fr_lf fr_iast) (fr_lf fr_al)) (fr_nd (fr_lf fr_gr) (fr_lf fr_al))) (fr_nd (fr_nd (fr_lf fr_gi) (fr_lf fr_il)) (fr_nd (fr_lf fr_iast) (fr_nd (fr_lf fr_al) (fr_lf fr_gr))))) (fr_nd (fr_nd (fr_nd (fr_lf fr_al) (fr_lf fr_gi)) (fr_nd (fr_lf fr_il) (fr_lf fr_iast))) (fr_nd (fr_nd (fr_lf fr_al) (fr_lf fr_dup)) (fr_nd (fr_lf fr_gi) (fr_nd (fr_lf fr_ic) (fr_lf fr_add)))))) (fr_nd (fr_nd (fr_nd (fr_nd (fr_lf fr_pi) (fr_lf fr_al)) (fr_nd (fr_lf fr_dup) (fr_lf fr_gi))) (fr_nd (fr_nd (fr_lf fr_ic) (fr_lf fr_il)) (fr_nd (fr_lf fr_shl) (fr_nd (fr_lf fr_or) (fr_lf fr_pi))))) (fr_nd (fr_nd (fr_nd (fr_lf fr_al) (fr_lf fr_dup)) (fr_nd (fr_lf fr_gi) (fr_lf fr_ic))) (fr_nd (fr_nd (fr_lf fr_il) (fr_lf fr_shl)) (fr_nd (fr_lf fr_or) (fr_nd (fr_lf fr_pi) (fr_lf fr_rv)))))))))
theorem FX7_weigherOf : ∀ pc, fro (TX7_weigherOf pc) := (fr_nd (fr_nd (fr_nd (fr_nd (fr_lf fr_ic) (fr_nd (fr_lf fr_is) (fr_lf fr_il))) (fr_nd (fr_lf fr_al) (fr_nd (fr_lf fr_gi) (fr_lf fr_icge)))) (fr_nd (fr_nd (fr_lf fr_il) (fr_nd (fr_lf fr_ic) (fr_lf fr_icge))) (fr_nd (fr_lf fr_al) (fr_nd (fr_lf fr_gr) (fr_lf fr_il))))) (fr_nd (fr_nd (fr_nd (fr_lf fr_ia) (fr_nd (fr_lf fr_il) (fr_lf fr_icne))) (fr_nd (fr_lf fr_al) (fr_nd (fr_lf fr_gr) (fr_lf fr_il)))) (fr_nd (fr_nd (fr_lf fr_ia) (fr_nd (fr_lf fr_ri) (fr_lf fr_inc))) (fr_nd (fr_lf fr_go) (fr_nd (fr_lf fr_ic) (fr_lf fr_ri))))))
theorem FX8_init : ∀ pc, fro (TX8_init pc) := (fr_nd (fr_nd (fr_nd (fr_nd (fr_nd (fr_lf fr_al) (fr_lf fr_oi)) (fr_nd (fr_lf fr_al) (fr_nd (fr_lf fr_ic) (fr_lf fr_nwi)))) (fr_nd (fr_nd (fr_lf fr_dup) (fr_lf fr_ic)) (fr_nd (fr_lf fr_ic) (fr_nd (fr_lf fr_iast) (fr_lf fr_dup))))) (fr_nd (fr_nd (fr_nd (fr_lf fr_ic) (fr_lf fr_ic)) (fr_nd (fr_lf fr_iast) (fr_nd (fr_lf fr_dup) (fr_lf fr_ic)))) (fr_nd (fr_nd (fr_lf fr_ic) (fr_nd (fr_lf fr_iast) (fr_lf fr_dup))) (fr_nd (fr_lf fr_ic) (fr_nd (fr_lf fr_ic) (fr_lf fr_iast)))))) (fr_nd (fr_nd (fr_nd (fr_nd (fr_lf fr_dup) (fr_lf fr_ic)) (fr_nd (fr_lf fr_ic) (fr_nd (fr_lf fr_iast) (fr_lf fr_dup)))) (fr_nd (fr_nd (fr_lf fr_ic) (fr_nd (fr_lf fr_ic) (fr_lf fr_iast))) (fr_nd (fr_lf fr_pr) (fr_nd (fr_lf fr_al) (fr_lf fr_ic))))) (fr_nd (fr_nd (fr_nd (fr_lf fr_nwi) (fr_lf fr_pr)) (fr_nd (fr_lf fr_al) (fr_nd (fr_lf fr_ic) (fr_lf fr_nwi)))) (fr_nd (fr_nd (fr_lf fr_pr) (fr_nd (fr_lf fr_al) (fr_lf fr_ic))) (fr_nd (fr_lf fr_nwj) (fr_nd (fr_lf fr_pr) (fr_lf fr_rv)))))))
theorem FX9_init : ∀ pc, fro (TX9_init pc) := (fr_nd (fr_nd (fr_nd (fr_nd (fr_nd (fr_lf fr_al) (fr_lf fr_oi)) (fr_nd (fr_lf fr_al) (fr_nd (fr_lf fr_new) (fr_lf fr_dup)))) (fr_nd (fr_nd (fr_lf fr_ci) (fr_nd (fr_lf fr_pr) (fr_lf fr_al))) (fr_nd (fr_lf fr_ic) (fr_nd (fr_lf fr_pi) (fr_lf fr_al))))) (fr_nd (fr_nd (fr_nd (fr_lf fr_ic) (fr_lf fr_pi)) (fr_nd (fr_lf fr_al) (fr_nd (fr_lf fr_ic) (fr_lf fr_pi)))) (fr_nd (fr_nd (fr_lf fr_al) (fr_nd (fr_lf fr_ic) (fr_lf fr_pi))) (fr_nd (fr_lf fr_al) (fr_nd (fr_lf fr_ic) (fr_lf fr_pi)))))) (fr_nd (fr_nd (fr_nd (fr_nd (fr_lf fr_al) (fr_lf fr_ic)) (fr_nd (fr_lf fr_pi) (fr_nd (fr_lf fr_al) (fr_lf fr_new)))) (fr_nd (fr_nd (fr_lf fr_dup) (fr_nd (fr_lf fr_ci) (fr_lf fr_pr))) (fr_nd (fr_lf fr_al) (fr_nd (fr_lf fr_ic) (fr_lf fr_nwi))))) (fr_nd (fr_nd (fr_nd (fr_lf fr_pr) (fr_lf fr_al)) (fr_nd (fr_lf fr_al) (fr_nd (fr_lf fr_pr) (fr_lf fr_al)))) (fr_nd (fr_nd (fr_lf fr_al) (fr_nd (fr_lf fr_pr) (fr_lf fr_al))) (fr_nd (fr_lf fr_al) (fr_nd (fr_lf fr_pr) (fr_lf fr_rv)))))))
theorem FX9_begin : ∀ pc, fro (TX9_begin pc) := (fr_nd (fr_nd (fr_lf fr_al) (fr_nd (fr_lf fr_gr) (fr_lf fr_al))) (fr_nd (fr_lf fr_gr) (fr_nd (fr_lf fr_cv) (fr_lf fr_rv))))
theorem FX9_goOn : ∀ pc, fro (TX9_goOn pc) := (fr_nd (fr_nd (fr_nd (fr_nd (fr_lf fr_ic) (fr_lf fr_is)) (fr_nd (fr_lf fr_ic) (fr_nd (fr_lf fr_is) (fr_lf fr_il)))) (fr_nd (fr_nd (fr_lf fr_il) (fr_lf fr_icge)) (fr_nd (fr_lf fr_il) (fr_nd (fr_lf fr_al) (fr_lf fr_gr))))) (fr_nd (fr_nd (fr_nd (fr_lf fr_al) (fr_lf fr_gr)) (fr_nd (fr_lf fr_al) (fr_nd (fr_lf fr_gr) (fr_lf fr_cv)))) (fr_nd (fr_nd (fr_lf fr_add) (fr_nd (fr_lf fr_is) (fr_lf fr_inc))) (fr_nd (fr_lf fr_go) (fr_nd (fr_lf fr_il) (fr_lf fr_ri))))))
theorem FX9_daysFed : ∀ pc, fro (TX9_daysFed pc) := (fr_nd (fr_nd (fr_nd (fr_nd (fr_lf fr_ic) (fr_nd (fr_lf fr_is) (fr_lf fr_il))) (fr_nd (fr_lf fr_ic) (fr_nd (fr_lf fr_icge) (fr_lf fr_al)))) (fr_nd (fr_nd (fr_lf fr_gr) (fr_nd (fr_lf fr_al) (fr_lf fr_gr))) (fr_nd (fr_lf fr_al) (fr_nd (fr_lf fr_gr) (fr_lf fr_cv))))) (fr_nd (fr_nd (fr_nd (fr_lf fr_pop) (fr_nd (fr_lf fr_al) (fr_lf fr_gr))) (fr_nd (fr_lf fr_il) (fr_nd (fr_lf fr_cv) (fr_lf fr_ic)))) (fr_nd (fr_nd (fr_lf fr_icne) (fr_nd (fr_lf fr_il) (fr_lf fr_ri))) (fr_nd (fr_nd (fr_lf fr_inc) (fr_lf fr_go)) (fr_nd (fr_lf fr_ic) (fr_lf fr_ri))))))
theorem FX10_init : ∀ pc, fro (TX10_init pc) := (fr_nd (fr_nd (fr_nd (fr_nd (fr_nd (fr_lf fr_al) (fr_nd (fr_lf fr_oi) (fr_lf fr_al))) (fr_nd (fr_nd (fr_lf fr_new) (fr_lf fr_dup)) (fr_nd (fr_lf fr_ci) (fr_lf fr_pr)))) (fr_nd (fr_nd (fr_nd (fr_lf fr_al) (fr_lf fr_new)) (fr_nd (fr_lf fr_dup) (fr_lf fr_ci))) (fr_nd (fr_nd (fr_lf fr_pr) (fr_lf fr_al)) (fr_nd (fr_lf fr_new) (fr_lf fr_dup))))) (fr_nd (fr_nd (fr_nd (fr_lf fr_ci) (fr_nd (fr_lf fr_pr) (fr_lf fr_al))) (fr_nd (fr_nd (fr_lf fr_new) (fr_lf fr_dup)) (fr_nd (fr_lf fr_ci) (fr_lf fr_pr)))) (fr_nd (fr_nd (fr_nd (fr_lf fr_al) (fr_lf fr_new)) (fr_nd (fr_lf fr_dup) (fr_lf fr_al))) (fr_nd (fr_nd (fr_lf fr_gr) (fr_lf fr_al)) (fr_nd (fr_lf fr_gr) (fr_lf fr_al)))))) (fr_nd (fr_nd (fr_nd (fr_nd (fr_lf fr_gr) (fr_nd (fr_lf fr_ci) (fr_lf fr_pr))) (fr_nd (fr_nd (fr_lf fr_al) (fr_lf fr_new)) (fr_nd (fr_lf fr_dup) (fr_lf fr_al)))) (fr_nd (fr_nd (fr_nd (fr_lf fr_gr) (fr_lf fr_ci)) (fr_nd (fr_lf fr_pr) (fr_lf fr_al))) (fr_nd (fr_nd (fr_lf fr_new) (fr_lf fr_dup)) (fr_nd (fr_lf fr_ci) (fr_lf fr_pr))))) (fr_nd (fr_nd (fr_nd (fr_nd (fr_lf fr_al) (fr_lf fr_new)) (fr_nd (fr_lf fr_dup) (fr_lf fr_ci))) (fr_nd (fr_nd (fr_lf fr_pr) (fr_lf fr_al)) (fr_nd (fr_lf fr_new) (fr_lf fr_dup)))) (fr_nd (fr_nd (fr_nd (fr_lf fr_ci) (fr_lf fr_pr)) (fr_nd (fr_lf fr_al) (fr_lf fr_new))) (fr_nd (fr_nd (fr_lf fr_dup) (fr_lf fr_ci)) (fr_nd (fr_lf fr_pr) (fr_lf fr_rv)))))))
theorem FX10_person : ∀ pc, fro (TX10_person pc) := (fr_nd (fr_nd (fr_nd (fr_lf fr_il) (fr_nd (fr_lf fr_il) (fr_lf fr_cs))) (fr_nd (fr_lf fr_ifeq) (fr_nd (fr_lf fr_al) (fr_lf fr_gr)))) (fr_nd (fr_nd (fr_lf fr_il) (fr_nd (fr_lf fr_il) (fr_lf fr_cv))) (fr_nd (fr_lf fr_go) (fr_nd (fr_lf fr_ic) (fr_lf fr_ri)))))
theorem FX10_mend : ∀ pc, fro (TX10_mend pc) := (fr_nd (fr_nd (fr_nd (fr_nd (fr_lf fr_al) (fr_lf fr_gr)) (fr_nd (fr_lf fr_il) (fr_nd (fr_lf fr_il) (fr_lf fr_cv)))) (fr_nd (fr_nd (fr_lf fr_is) (fr_lf fr_il)) (fr_nd (fr_lf fr_iflt) (fr_nd (fr_lf fr_il) (fr_lf fr_iflt))))) (fr_nd (fr_nd (fr_nd (fr_lf fr_il) (fr_lf fr_il)) (fr_nd (fr_lf fr_cs) (fr_nd (fr_lf fr_icle) (fr_lf fr_ic)))) (fr_nd (fr_nd (fr_lf fr_ri) (fr_nd (fr_lf fr_al) (fr_lf fr_il))) (fr_nd (fr_lf fr_il) (fr_nd (fr_lf fr_cv) (fr_lf fr_ri))))))
theorem FX10_of : ∀ pc, fro (TX10_of pc) := (fr_nd (fr_nd (fr_nd (fr_lf fr_al) (fr_nd (fr_lf fr_gr) (fr_lf fr_il))) (fr_nd (fr_nd (fr_lf fr_il) (fr_lf fr_cv)) (fr_nd (fr_lf fr_is) (fr_lf fr_il)))) (fr_nd (fr_nd (fr_nd (fr_lf fr_ifge) (fr_lf fr_ic)) (fr_nd (fr_lf fr_go) (fr_lf fr_al))) (fr_nd (fr_nd (fr_lf fr_gr) (fr_lf fr_il)) (fr_nd (fr_lf fr_cv) (fr_lf fr_ri)))))
theorem FX10_feel : ∀ pc, fro (TX10_feel pc) := (fr_nd (fr_nd (fr_nd (fr_nd (fr_lf fr_al) (fr_lf fr_gr)) (fr_nd (fr_lf fr_il) (fr_nd (fr_lf fr_cv) (fr_lf fr_ifeq)))) (fr_nd (fr_nd (fr_lf fr_il) (fr_nd (fr_lf fr_cs) (fr_lf fr_ifne))) (fr_nd (fr_lf fr_ic) (fr_nd (fr_lf fr_ri) (fr_lf fr_al))))) (fr_nd (fr_nd (fr_nd (fr_lf fr_il) (fr_nd (fr_lf fr_ic) (fr_lf fr_div))) (fr_nd (fr_lf fr_il) (fr_nd (fr_lf fr_ic) (fr_lf fr_rem)))) (fr_nd (fr_nd (fr_lf fr_cs) (fr_nd (fr_lf fr_il) (fr_lf fr_cv))) (fr_nd (fr_lf fr_ic) (fr_nd (fr_lf fr_add) (fr_lf fr_ri))))))
theorem FX10_feeling : ∀ pc, fro (TX10_feeling pc) := (fr_nd (fr_nd (fr_nd (fr_nd (fr_lf fr_al) (fr_lf fr_gr)) (fr_nd (fr_lf fr_il) (fr_lf fr_cv))) (fr_nd (fr_nd (fr_lf fr_ifeq) (fr_lf fr_al)) (fr_nd (fr_lf fr_gr) (fr_nd (fr_lf fr_il) (fr_lf fr_ic))))) (fr_nd (fr_nd (fr_nd (fr_lf fr_div) (fr_lf fr_il)) (fr_nd (fr_lf fr_ic) (fr_nd (fr_lf fr_rem) (fr_lf fr_cv)))) (fr_nd (fr_nd (fr_lf fr_ic) (fr_lf fr_add)) (fr_nd (fr_lf fr_go) (fr_nd (fr_lf fr_ic) (fr_lf fr_ri))))))
theorem FX10_feed : ∀ pc, fro (TX10_feed pc) := (fr_nd (fr_nd (fr_nd (fr_lf fr_il) (fr_nd (fr_lf fr_iflt) (fr_lf fr_il))) (fr_nd (fr_lf fr_ic) (fr_nd (fr_lf fr_icle) (fr_lf fr_ic)))) (fr_nd (fr_nd (fr_lf fr_go) (fr_nd (fr_lf fr_al) (fr_lf fr_gr))) (fr_nd (fr_lf fr_il) (fr_nd (fr_lf fr_cv) (fr_lf fr_ri)))))
theorem FX10_law : ∀ pc, fro (TX10_law pc) := (fr_nd (fr_nd (fr_nd (fr_nd (fr_lf fr_al) (fr_nd (fr_lf fr_gr) (fr_lf fr_cv))) (fr_nd (fr_lf fr_is) (fr_nd (fr_lf fr_il) (fr_lf fr_ic)))) (fr_nd (fr_nd (fr_lf fr_icne) (fr_nd (fr_lf fr_al) (fr_lf fr_gr))) (fr_nd (fr_lf fr_al) (fr_nd (fr_lf fr_gr) (fr_lf fr_cv))))) (fr_nd (fr_nd (fr_nd (fr_lf fr_al) (fr_nd (fr_lf fr_gr) (fr_lf fr_cv))) (fr_nd (fr_lf fr_il) (fr_nd (fr_lf fr_ic) (fr_lf fr_icne)))) (fr_nd (fr_nd (fr_lf fr_ic) (fr_nd (fr_lf fr_go) (fr_lf fr_ic))) (fr_nd (fr_lf fr_il) (fr_nd (fr_lf fr_sub) (fr_lf fr_ri))))))
theorem FX10_changeTo : ∀ pc, fro (TX10_changeTo pc) := (fr_nd (fr_nd (fr_nd (fr_nd (fr_lf fr_al) (fr_lf fr_gr)) (fr_nd (fr_lf fr_il) (fr_nd (fr_lf fr_cv) (fr_lf fr_is)))) (fr_nd (fr_nd (fr_lf fr_il) (fr_lf fr_il)) (fr_nd (fr_lf fr_iceq) (fr_nd (fr_lf fr_al) (fr_lf fr_gr))))) (fr_nd (fr_nd (fr_nd (fr_lf fr_il) (fr_lf fr_il)) (fr_nd (fr_lf fr_il) (fr_nd (fr_lf fr_cv) (fr_lf fr_al)))) (fr_nd (fr_nd (fr_lf fr_gr) (fr_nd (fr_lf fr_il) (fr_lf fr_il))) (fr_nd (fr_lf fr_cv) (fr_nd (fr_lf fr_il) (fr_lf fr_ri))))))
theorem FX10_later : ∀ pc, fro (TX10_later pc) := (fr_nd (fr_nd (fr_nd (fr_nd (fr_lf fr_il) (fr_nd (fr_lf fr_iflt) (fr_lf fr_il))) (fr_nd (fr_nd (fr_lf fr_ic) (fr_lf fr_icgt)) (fr_nd (fr_lf fr_al) (fr_lf fr_il)))) (fr_nd (fr_nd (fr_nd (fr_lf fr_cv) (fr_lf fr_ifne)) (fr_nd (fr_lf fr_ic) (fr_lf fr_ri))) (fr_nd (fr_nd (fr_lf fr_al) (fr_lf fr_gr)) (fr_nd (fr_lf fr_cv) (fr_lf fr_al))))) (fr_nd (fr_nd (fr_nd (fr_lf fr_gr) (fr_nd (fr_lf fr_il) (fr_lf fr_cv))) (fr_nd (fr_nd (fr_lf fr_is) (fr_lf fr_il)) (fr_nd (fr_lf fr_ic) (fr_lf fr_icne)))) (fr_nd (fr_nd (fr_nd (fr_lf fr_il) (fr_lf fr_go)) (fr_nd (fr_lf fr_al) (fr_lf fr_gr))) (fr_nd (fr_nd (fr_lf fr_gr) (fr_lf fr_il)) (fr_nd (fr_lf fr_cv) (fr_lf fr_ri))))))
theorem FX10_feltLater : ∀ pc, fro (TX10_feltLater pc) := (fr_nd (fr_nd (fr_nd (fr_nd (fr_nd (fr_lf fr_il) (fr_lf fr_iflt)) (fr_nd (fr_lf fr_il) (fr_lf fr_ic))) (fr_nd (fr_nd (fr_lf fr_icgt) (fr_lf fr_al)) (fr_nd (fr_lf fr_gr) (fr_lf fr_il)))) (fr_nd (fr_nd (fr_nd (fr_lf fr_cv) (fr_lf fr_ifne)) (fr_nd (fr_lf fr_ic) (fr_lf fr_ri))) (fr_nd (fr_nd (fr_lf fr_al) (fr_lf fr_gr)) (fr_nd (fr_lf fr_cv) (fr_lf fr_al))))) (fr_nd (fr_nd (fr_nd (fr_nd (fr_lf fr_gr) (fr_lf fr_il)) (fr_nd (fr_lf fr_cv) (fr_lf fr_pop))) (fr_nd (fr_nd (fr_lf fr_al) (fr_lf fr_gr)) (fr_nd (fr_lf fr_gr) (fr_lf fr_il)))) (fr_nd (fr_nd (fr_nd (fr_lf fr_ic) (fr_lf fr_div)) (fr_nd (fr_lf fr_il) (fr_lf fr_ic))) (fr_nd (fr_nd (fr_lf fr_rem) (fr_lf fr_cv)) (fr_nd (fr_lf fr_ic) (fr_nd (fr_lf fr_add) (fr_lf fr_ri)))))))
theorem FX10_lasts : ∀ pc, fro (TX10_lasts pc) := (fr_nd (fr_nd (fr_nd (fr_lf fr_al) (fr_nd (fr_lf fr_gr) (fr_lf fr_il))) (fr_nd (fr_nd (fr_lf fr_cv) (fr_lf fr_ifne)) (fr_nd (fr_lf fr_ic) (fr_lf fr_ri)))) (fr_nd (fr_nd (fr_nd (fr_lf fr_al) (fr_lf fr_gr)) (fr_nd (fr_lf fr_cv) (fr_lf fr_al))) (fr_nd (fr_nd (fr_lf fr_gr) (fr_lf fr_il)) (fr_nd (fr_lf fr_cv) (fr_lf fr_ri)))))
theorem FX10_isOneOrAll : ∀ pc, fro (TX10_isOneOrAll pc) := (fr_nd (fr_nd (fr_nd (fr_lf fr_il) (fr_nd (fr_lf fr_ic) (fr_lf fr_iceq))) (fr_nd (fr_lf fr_al) (fr_nd (fr_lf fr_gr) (fr_lf fr_il)))) (fr_nd (fr_nd (fr_lf fr_cv) (fr_nd (fr_lf fr_ifeq) (fr_lf fr_ic))) (fr_nd (fr_lf fr_go) (fr_nd (fr_lf fr_ic) (fr_lf fr_rz)))))
theorem FX10_day : ∀ pc, fro (TX10_day pc) := (fr_nd (fr_nd (fr_nd (fr_nd (fr_lf fr_al) (fr_lf fr_gr)) (fr_nd (fr_lf fr_al) (fr_lf fr_gr))) (fr_nd (fr_nd (fr_lf fr_al) (fr_lf fr_gr)) (fr_nd (fr_lf fr_cv) (fr_nd (fr_lf fr_is) (fr_lf fr_al))))) (fr_nd (fr_nd (fr_nd (fr_lf fr_gr) (fr_lf fr_al)) (fr_nd (fr_lf fr_gr) (fr_lf fr_al))) (fr_nd (fr_nd (fr_lf fr_gr) (fr_lf fr_gi)) (fr_nd (fr_lf fr_cv) (fr_nd (fr_lf fr_il) (fr_lf fr_ri))))))
theorem FX10_wrong : ∀ pc, fro (TX10_wrong pc) := (fr_nd (fr_nd (fr_nd (fr_nd (fr_nd (fr_lf fr_al) (fr_lf fr_gr)) (fr_nd (fr_lf fr_il) (fr_nd (fr_lf fr_cv) (fr_lf fr_ifeq)))) (fr_nd (fr_nd (fr_lf fr_il) (fr_nd (fr_lf fr_ic) (fr_lf fr_iclt))) (fr_nd (fr_lf fr_il) (fr_nd (fr_lf fr_ic) (fr_lf fr_icle))))) (fr_nd (fr_nd (fr_nd (fr_lf fr_ic) (fr_nd (fr_lf fr_ri) (fr_lf fr_al))) (fr_nd (fr_lf fr_gr) (fr_nd (fr_lf fr_il) (fr_lf fr_ic)))) (fr_nd (fr_nd (fr_lf fr_rem) (fr_nd (fr_lf fr_il) (fr_lf fr_ic))) (fr_nd (fr_lf fr_div) (fr_nd (fr_lf fr_cv) (fr_lf fr_il)))))) (fr_nd (fr_nd (fr_nd (fr_nd (fr_lf fr_sub) (fr_lf fr_ic)) (fr_nd (fr_lf fr_max) (fr_nd (fr_lf fr_is) (fr_lf fr_al)))) (fr_nd (fr_nd (fr_lf fr_gr) (fr_nd (fr_lf fr_il) (fr_lf fr_ic))) (fr_nd (fr_lf fr_rem) (fr_nd (fr_lf fr_il) (fr_lf fr_ic))))) (fr_nd (fr_nd (fr_nd (fr_lf fr_div) (fr_nd (fr_lf fr_il) (fr_lf fr_cv))) (fr_nd (fr_lf fr_al) (fr_nd (fr_lf fr_gr) (fr_lf fr_ic)))) (fr_nd (fr_nd (fr_lf fr_ic) (fr_nd (fr_lf fr_cv) (fr_lf fr_il))) (fr_nd (fr_lf fr_ic) (fr_nd (fr_lf fr_add) (fr_lf fr_ri)))))))
theorem FX10_lease : ∀ pc, fro (TX10_lease pc) := (fr_nd (fr_nd (fr_nd (fr_nd (fr_nd (fr_lf fr_il) (fr_nd (fr_lf fr_ic) (fr_lf fr_div))) (fr_nd (fr_nd (fr_lf fr_is) (fr_lf fr_il)) (fr_nd (fr_lf fr_ic) (fr_lf fr_rem)))) (fr_nd (fr_nd (fr_lf fr_is) (fr_nd (fr_lf fr_al) (fr_lf fr_gr))) (fr_nd (fr_nd (fr_lf fr_il) (fr_lf fr_cv)) (fr_nd (fr_lf fr_ifeq) (fr_lf fr_al))))) (fr_nd (fr_nd (fr_nd (fr_lf fr_gr) (fr_nd (fr_lf fr_il) (fr_lf fr_cv))) (fr_nd (fr_nd (fr_lf fr_ifeq) (fr_lf fr_il)) (fr_nd (fr_lf fr_il) (fr_lf fr_iceq)))) (fr_nd (fr_nd (fr_lf fr_il) (fr_nd (fr_lf fr_il) (fr_lf fr_icne))) (fr_nd (fr_nd (fr_lf fr_ic) (fr_lf fr_ri)) (fr_nd (fr_lf fr_al) (fr_lf fr_gr)))))) (fr_nd (fr_nd (fr_nd (fr_nd (fr_lf fr_il) (fr_nd (fr_lf fr_il) (fr_lf fr_cv))) (fr_nd (fr_nd (fr_lf fr_is) (fr_lf fr_il)) (fr_nd (fr_lf fr_iflt) (fr_lf fr_ic)))) (fr_nd (fr_nd (fr_lf fr_ri) (fr_nd (fr_lf fr_al) (fr_lf fr_gr))) (fr_nd (fr_nd (fr_lf fr_il) (fr_lf fr_il)) (fr_nd (fr_lf fr_il) (fr_lf fr_cv))))) (fr_nd (fr_nd (fr_nd (fr_lf fr_al) (fr_nd (fr_lf fr_gr) (fr_lf fr_il))) (fr_nd (fr_nd (fr_lf fr_il) (fr_lf fr_ic)) (fr_nd (fr_lf fr_cv) (fr_lf fr_al)))) (fr_nd (fr_nd (fr_nd (fr_lf fr_gr) (fr_lf fr_ic)) (fr_nd (fr_lf fr_ic) (fr_lf fr_cv))) (fr_nd (fr_nd (fr_lf fr_il) (fr_lf fr_ic)) (fr_nd (fr_lf fr_add) (fr_lf fr_ri)))))))
theorem FX10_gift : ∀ pc, fro (TX10_gift pc) := (fr_nd (fr_nd (fr_nd (fr_nd (fr_nd (fr_lf fr_al) (fr_lf fr_gr)) (fr_nd (fr_lf fr_il) (fr_lf fr_cv))) (fr_nd (fr_nd (fr_lf fr_ifeq) (fr_lf fr_il)) (fr_nd (fr_lf fr_ic) (fr_nd (fr_lf fr_iclt) (fr_lf fr_il))))) (fr_nd (fr_nd (fr_nd (fr_lf fr_ic) (fr_lf fr_icle)) (fr_nd (fr_lf fr_ic) (fr_nd (fr_lf fr_ri) (fr_lf fr_al)))) (fr_nd (fr_nd (fr_lf fr_gr) (fr_lf fr_il)) (fr_nd (fr_lf fr_ic) (fr_nd (fr_lf fr_div) (fr_lf fr_il)))))) (fr_nd (fr_nd (fr_nd (fr_nd (fr_lf fr_cv) (fr_lf fr_al)) (fr_nd (fr_lf fr_gr) (fr_nd (fr_lf fr_il) (fr_lf fr_ic)))) (fr_nd (fr_nd (fr_lf fr_rem) (fr_lf fr_il)) (fr_nd (fr_lf fr_cv) (fr_nd (fr_lf fr_al) (fr_lf fr_gr))))) (fr_nd (fr_nd (fr_nd (fr_lf fr_ic) (fr_lf fr_ic)) (fr_nd (fr_lf fr_cv) (fr_nd (fr_lf fr_al) (fr_lf fr_gr)))) (fr_nd (fr_nd (fr_lf fr_il) (fr_lf fr_ic)) (fr_nd (fr_lf fr_div) (fr_nd (fr_lf fr_cv) (fr_lf fr_ri)))))))
theorem FX10_tale : ∀ pc, fro (TX10_tale pc) := (fr_nd (fr_nd (fr_nd (fr_nd (fr_lf fr_il) (fr_lf fr_ic)) (fr_nd (fr_lf fr_icge) (fr_lf fr_ic))) (fr_nd (fr_nd (fr_lf fr_ri) (fr_lf fr_il)) (fr_nd (fr_lf fr_ic) (fr_lf fr_icne)))) (fr_nd (fr_nd (fr_nd (fr_lf fr_al) (fr_lf fr_gr)) (fr_nd (fr_lf fr_cv) (fr_lf fr_go))) (fr_nd (fr_nd (fr_lf fr_al) (fr_lf fr_gr)) (fr_nd (fr_lf fr_il) (fr_nd (fr_lf fr_cv) (fr_lf fr_ri))))))
theorem FX10_led : ∀ pc, fro (TX10_led pc) := (fr_nd (fr_nd (fr_nd (fr_lf fr_il) (fr_nd (fr_lf fr_iflt) (fr_lf fr_il))) (fr_nd (fr_lf fr_ic) (fr_nd (fr_lf fr_iclt) (fr_lf fr_ic)))) (fr_nd (fr_nd (fr_lf fr_go) (fr_nd (fr_lf fr_al) (fr_lf fr_gr))) (fr_nd (fr_lf fr_il) (fr_nd (fr_lf fr_cv) (fr_lf fr_ri)))))
theorem FX10_count : ∀ pc, fro (TX10_count pc) := (fr_nd (fr_nd (fr_nd (fr_nd (fr_lf fr_il) (fr_nd (fr_lf fr_sw) (fr_lf fr_al))) (fr_nd (fr_nd (fr_lf fr_gr) (fr_lf fr_gi)) (fr_nd (fr_lf fr_ri) (fr_lf fr_al)))) (fr_nd (fr_nd (fr_lf fr_gr) (fr_nd (fr_lf fr_cv) (fr_lf fr_ri))) (fr_nd (fr_nd (fr_lf fr_al) (fr_lf fr_gr)) (fr_nd (fr_lf fr_cv) (fr_lf fr_ri))))) (fr_nd (fr_nd (fr_nd (fr_lf fr_al) (fr_nd (fr_lf fr_gr) (fr_lf fr_cv))) (fr_nd (fr_nd (fr_lf fr_ri) (fr_lf fr_al)) (fr_nd (fr_lf fr_gr) (fr_lf fr_cv)))) (fr_nd (fr_nd (fr_lf fr_ri) (fr_nd (fr_lf fr_al) (fr_lf fr_gr))) (fr_nd (fr_nd (fr_lf fr_cv) (fr_lf fr_ri)) (fr_nd (fr_lf fr_ic) (fr_lf fr_ri))))))
theorem FL_friend : ∀ pc, fro (TL_friend pc) := (fr_nd (fr_nd (fr_nd (fr_nd (fr_nd (fr_lf fr_ic) (fr_lf fr_is)) (fr_nd (fr_lf fr_ic) (fr_nd (fr_lf fr_is) (fr_lf fr_il)))) (fr_nd (fr_nd (fr_lf fr_al) (fr_lf fr_ic)) (fr_nd (fr_lf fr_ia) (fr_nd (fr_lf fr_icge) (fr_lf fr_al))))) (fr_nd (fr_nd (fr_nd (fr_lf fr_ic) (fr_lf fr_il)) (fr_nd (fr_lf fr_mul) (fr_nd (fr_lf fr_il) (fr_lf fr_add)))) (fr_nd (fr_nd (fr_lf fr_ia) (fr_lf fr_ifle)) (fr_nd (fr_lf fr_il) (fr_nd (fr_lf fr_iflt) (fr_lf fr_al)))))) (fr_nd (fr_nd (fr_nd (fr_nd (fr_lf fr_ic) (fr_lf fr_il)) (fr_nd (fr_lf fr_mul) (fr_nd (fr_lf fr_il) (fr_lf fr_add)))) (fr_nd (fr_nd (fr_lf fr_ia) (fr_lf fr_al)) (fr_nd (fr_lf fr_ic) (fr_nd (fr_lf fr_il) (fr_lf fr_mul))))) (fr_nd (fr_nd (fr_nd (fr_lf fr_il) (fr_lf fr_add)) (fr_nd (fr_lf fr_ia) (fr_nd (fr_lf fr_icle) (fr_lf fr_il)))) (fr_nd (fr_nd (fr_lf fr_is) (fr_lf fr_inc)) (fr_nd (fr_lf fr_go) (fr_nd (fr_lf fr_il) (fr_lf fr_ri)))))))
theorem FL_out : ∀ pc, fro (TL_out pc) := (fr_nd (fr_nd (fr_nd (fr_nd (fr_nd (fr_nd (fr_lf fr_al) (fr_lf fr_ic)) (fr_nd (fr_lf fr_il) (fr_nd (fr_lf fr_mul) (fr_lf fr_il)))) (fr_nd (fr_nd (fr_lf fr_add) (fr_lf fr_ia)) (fr_nd (fr_lf fr_neg) (fr_nd (fr_lf fr_is) (fr_lf fr_al))))) (fr_nd (fr_nd (fr_nd (fr_lf fr_ic) (fr_lf fr_al)) (fr_nd (fr_lf fr_al) (fr_nd (fr_lf fr_il) (fr_lf fr_cs)))) (fr_nd (fr_nd (fr_lf fr_mul) (fr_nd (fr_lf fr_il) (fr_lf fr_add))) (fr_nd (fr_lf fr_ia) (fr_nd (fr_lf fr_is) (fr_lf fr_al)))))) (fr_nd (fr_nd (fr_nd (fr_nd (fr_lf fr_ic) (fr_lf fr_ia)) (fr_nd (fr_lf fr_ifge) (fr_nd (fr_lf fr_ic) (fr_lf fr_al)))) (fr_nd (fr_nd (fr_lf fr_ic) (fr_lf fr_il)) (fr_nd (fr_lf fr_mul) (fr_nd (fr_lf fr_ic) (fr_lf fr_add))))) (fr_nd (fr_nd (fr_nd (fr_lf fr_ia) (fr_lf fr_add)) (fr_nd (fr_lf fr_il) (fr_nd (fr_lf fr_sub) (fr_lf fr_go)))) (fr_nd (fr_nd (fr_lf fr_il) (fr_nd (fr_lf fr_al) (fr_lf fr_ic))) (fr_nd (fr_lf fr_ia) (fr_nd (fr_lf fr_mul) (fr_lf fr_al))))))) (fr_nd (fr_nd (fr_nd (fr_nd (fr_nd (fr_lf fr_ic) (fr_lf fr_il)) (fr_nd (fr_lf fr_mul) (fr_nd (fr_lf fr_ic) (fr_lf fr_add)))) (fr_nd (fr_nd (fr_lf fr_ia) (fr_lf fr_add)) (fr_nd (fr_lf fr_il) (fr_nd (fr_lf fr_al) (fr_lf fr_ic))))) (fr_nd (fr_nd (fr_nd (fr_lf fr_ia) (fr_lf fr_div)) (fr_nd (fr_lf fr_sub) (fr_nd (fr_lf fr_al) (fr_lf fr_ic)))) (fr_nd (fr_nd (fr_lf fr_il) (fr_nd (fr_lf fr_mul) (fr_lf fr_ia))) (fr_nd (fr_lf fr_al) (fr_nd (fr_lf fr_ic) (fr_lf fr_ia)))))) (fr_nd (fr_nd (fr_nd (fr_nd (fr_lf fr_div) (fr_lf fr_add)) (fr_nd (fr_lf fr_al) (fr_nd (fr_lf fr_ic) (fr_lf fr_ia)))) (fr_nd (fr_nd (fr_lf fr_ic) (fr_nd (fr_lf fr_rem) (fr_lf fr_add))) (fr_nd (fr_lf fr_il) (fr_nd (fr_lf fr_sub) (fr_lf fr_is))))) (fr_nd (fr_nd (fr_nd (fr_lf fr_il) (fr_lf fr_ifge)) (fr_nd (fr_lf fr_ic) (fr_nd (fr_lf fr_go) (fr_lf fr_il)))) (fr_nd (fr_nd (fr_lf fr_ic) (fr_nd (fr_lf fr_icle) (fr_lf fr_ic))) (fr_nd (fr_lf fr_go) (fr_nd (fr_lf fr_il) (fr_lf fr_ri))))))))
theorem FL_day : ∀ pc, fro (TL_day pc) := (fr_nd (fr_nd (fr_nd (fr_nd (fr_nd (fr_nd (fr_nd (fr_nd (fr_lf fr_ic) (fr_lf fr_is)) (fr_nd (fr_lf fr_ic) (fr_lf fr_is))) (fr_nd (fr_nd (fr_lf fr_ic) (fr_lf fr_is)) (fr_nd (fr_lf fr_ic) (fr_lf fr_is)))) (fr_nd (fr_nd (fr_nd (fr_lf fr_il) (fr_lf fr_ic)) (fr_nd (fr_lf fr_icge) (fr_lf fr_al))) (fr_nd (fr_nd (fr_lf fr_il) (fr_lf fr_ic)) (fr_nd (fr_lf fr_iast) (fr_lf fr_inc))))) (fr_nd (fr_nd (fr_nd (fr_nd (fr_lf fr_go) (fr_lf fr_ic)) (fr_nd (fr_lf fr_is) (fr_lf fr_il))) (fr_nd (fr_nd (fr_lf fr_al) (fr_lf fr_ic)) (fr_nd (fr_lf fr_ia) (fr_lf fr_icge)))) (fr_nd (fr_nd (fr_nd (fr_lf fr_ic) (fr_lf fr_is)) (fr_nd (fr_lf fr_ic) (fr_lf fr_is))) (fr_nd (fr_nd (fr_lf fr_il) (fr_lf fr_al)) (fr_nd (fr_lf fr_ic) (fr_nd (fr_lf fr_ia) (fr_lf fr_icge))))))) (fr_nd (fr_nd (fr_nd (fr_nd (fr_nd (fr_lf fr_il) (fr_lf fr_il)) (fr_nd (fr_lf fr_shr) (fr_lf fr_ic))) (fr_nd (fr_nd (fr_lf fr_and) (fr_lf fr_ifne)) (fr_nd (fr_lf fr_il) (fr_lf fr_iflt)))) (fr_nd (fr_nd (fr_nd (fr_lf fr_al) (fr_lf fr_ic)) (fr_nd (fr_lf fr_il) (fr_lf fr_mul))) (fr_nd (fr_nd (fr_lf fr_ia) (fr_lf fr_al)) (fr_nd (fr_lf fr_ic) (fr_lf fr_il))))) (fr_nd (fr_nd (fr_nd (fr_nd (fr_lf fr_mul) (fr_lf fr_ia)) (fr_nd (fr_lf fr_icle) (fr_lf fr_il))) (fr_nd (fr_nd (fr_lf fr_is) (fr_lf fr_inc)) (fr_nd (fr_lf fr_go) (fr_lf fr_il)))) (fr_nd (fr_nd (fr_nd (fr_lf fr_ic) (fr_lf fr_il)) (fr_nd (fr_lf fr_shl) (fr_lf fr_or))) (fr_nd (fr_nd (fr_lf fr_is) (fr_lf fr_al)) (fr_nd (fr_lf fr_al) (fr_nd (fr_lf fr_il) (fr_lf fr_cs)))))))) (fr_nd (fr_nd (fr_nd (fr_nd (fr_nd (fr_nd (fr_lf fr_ifge) (fr_lf fr_go)) (fr_nd (fr_lf fr_ic) (fr_lf fr_is))) (fr_nd (fr_nd (fr_lf fr_ic) (fr_lf fr_is)) (fr_nd (fr_lf fr_il) (fr_lf fr_al)))) (fr_nd (fr_nd (fr_nd (fr_lf fr_ic) (fr_lf fr_ia)) (fr_nd (fr_lf fr_icge) (fr_lf fr_al))) (fr_nd (fr_nd (fr_lf fr_ic) (fr_lf fr_il)) (fr_nd (fr_lf fr_mul) (fr_lf fr_il))))) (fr_nd (fr_nd (fr_nd (fr_nd (fr_lf fr_add) (fr_lf fr_ia)) (fr_nd (fr_lf fr_ifge) (fr_lf fr_il))) (fr_nd (fr_nd (fr_lf fr_il) (fr_lf fr_shr)) (fr_nd (fr_lf fr_ic) (fr_lf fr_and)))) (fr_nd (fr_nd (fr_nd (fr_lf fr_ifne) (fr_lf fr_il)) (fr_nd (fr_lf fr_iflt) (fr_lf fr_al))) (fr_nd (fr_nd (fr_lf fr_al) (fr_lf fr_al)) (fr_nd (fr_lf fr_al) (fr_nd (fr_lf fr_il) (fr_lf fr_il))))))) (fr_nd (fr_nd (fr_nd (fr_nd (fr_nd (fr_lf fr_il) (fr_lf fr_cs)) (fr_nd (fr_lf fr_al) (fr_lf fr_al))) (fr_nd (fr_nd (fr_lf fr_al) (fr_lf fr_al)) (fr_nd (fr_lf fr_il) (fr_lf fr_il)))) (fr_nd (fr_nd (fr_nd (fr_lf fr_il) (fr_lf fr_cs)) (fr_nd (fr_lf fr_icle) (fr_lf fr_il))) (fr_nd (fr_nd (fr_lf fr_is) (fr_lf fr_inc)) (fr_nd (fr_lf fr_go) (fr_nd (fr_lf fr_il) (fr_lf fr_ifge)))))) (fr_nd (fr_nd (fr_nd (fr_nd (fr_lf fr_go) (fr_lf fr_al)) (fr_nd (fr_lf fr_al) (fr_lf fr_al))) (fr_nd (fr_nd (fr_lf fr_al) (fr_lf fr_il)) (fr_nd (fr_lf fr_il) (fr_lf fr_il)))) (fr_nd (fr_nd (fr_nd (fr_lf fr_cs) (fr_lf fr_is)) (fr_nd (fr_lf fr_al) (fr_lf fr_ic))) (fr_nd (fr_nd (fr_lf fr_il) (fr_lf fr_mul)) (fr_nd (fr_lf fr_al) (fr_nd (fr_lf fr_ic) (fr_lf fr_il))))))))) (fr_nd (fr_nd (fr_nd (fr_nd (fr_nd (fr_nd (fr_nd (fr_lf fr_mul) (fr_lf fr_ia)) (fr_nd (fr_lf fr_il) (fr_lf fr_icle))) (fr_nd (fr_nd (fr_lf fr_al) (fr_lf fr_ic)) (fr_nd (fr_lf fr_il) (fr_lf fr_mul)))) (fr_nd (fr_nd (fr_nd (fr_lf fr_ia) (fr_lf fr_il)) (fr_nd (fr_lf fr_sub) (fr_lf fr_go))) (fr_nd (fr_nd (fr_lf fr_ic) (fr_lf fr_iast)) (fr_nd (fr_lf fr_al) (fr_lf fr_ic))))) (fr_nd (fr_nd (fr_nd (fr_nd (fr_lf fr_il) (fr_lf fr_mul)) (fr_nd (fr_lf fr_il) (fr_lf fr_add))) (fr_nd (fr_nd (fr_lf fr_dup2) (fr_lf fr_ia)) (fr_nd (fr_lf fr_al) (fr_lf fr_ic)))) (fr_nd (fr_nd (fr_nd (fr_lf fr_ia) (fr_lf fr_add)) (fr_nd (fr_lf fr_iast) (fr_lf fr_il))) (fr_nd (fr_nd (fr_lf fr_ic) (fr_lf fr_il)) (fr_nd (fr_lf fr_shl) (fr_nd (fr_lf fr_or) (fr_lf fr_is))))))) (fr_nd (fr_nd (fr_nd (fr_nd (fr_nd (fr_lf fr_al) (fr_lf fr_il)) (fr_nd (fr_lf fr_il) (fr_lf fr_iast))) (fr_nd (fr_nd (fr_lf fr_inc) (fr_lf fr_inc)) (fr_nd (fr_lf fr_go) (fr_lf fr_ic)))) (fr_nd (fr_nd (fr_nd (fr_lf fr_is) (fr_lf fr_il)) (fr_nd (fr_lf fr_al) (fr_lf fr_ic))) (fr_nd (fr_nd (fr_lf fr_ia) (fr_lf fr_icge)) (fr_nd (fr_lf fr_al) (fr_lf fr_il))))) (fr_nd (fr_nd (fr_nd (fr_nd (fr_lf fr_ia) (fr_lf fr_ic)) (fr_nd (fr_lf fr_icne) (fr_lf fr_al))) (fr_nd (fr_nd (fr_lf fr_ic) (fr_lf fr_il)) (fr_nd (fr_lf fr_mul) (fr_lf fr_al)))) (fr_nd (fr_nd (fr_nd (fr_lf fr_ic) (fr_lf fr_il)) (fr_nd (fr_lf fr_mul) (fr_lf fr_ia))) (fr_nd (fr_nd (fr_lf fr_al) (fr_lf fr_ic)) (fr_nd (fr_lf fr_ia) (fr_nd (fr_lf fr_add) (fr_lf fr_ic)))))))) (fr_nd (fr_nd (fr_nd (fr_nd (fr_nd (fr_nd (fr_lf fr_icle) (fr_lf fr_ic)) (fr_nd (fr_lf fr_go) (fr_lf fr_al))) (fr_nd (fr_nd (fr_lf fr_ic) (fr_lf fr_il)) (fr_nd (fr_lf fr_mul) (fr_lf fr_ia)))) (fr_nd (fr_nd (fr_nd (fr_lf fr_al) (fr_lf fr_ic)) (fr_nd (fr_lf fr_ia) (fr_lf fr_add))) (fr_nd (fr_nd (fr_lf fr_iast) (fr_lf fr_inc)) (fr_nd (fr_lf fr_go) (fr_lf fr_al))))) (fr_nd (fr_nd (fr_nd (fr_nd (fr_lf fr_ic) (fr_lf fr_ia)) (fr_nd (fr_lf fr_ic) (fr_lf fr_icge))) (fr_nd (fr_nd (fr_lf fr_al) (fr_lf fr_ic)) (fr_nd (fr_lf fr_dup2) (fr_lf fr_ia)))) (fr_nd (fr_nd (fr_nd (fr_lf fr_ic) (fr_lf fr_add)) (fr_nd (fr_lf fr_iast) (fr_lf fr_al))) (fr_nd (fr_nd (fr_lf fr_ic) (fr_lf fr_ia)) (fr_nd (fr_lf fr_ifeq) (fr_nd (fr_lf fr_al) (fr_lf fr_ic))))))) (fr_nd (fr_nd (fr_nd (fr_nd (fr_nd (fr_lf fr_ia) (fr_lf fr_al)) (fr_nd (fr_lf fr_ic) (fr_lf fr_ia))) (fr_nd (fr_nd (fr_lf fr_rem) (fr_lf fr_ifne)) (fr_nd (fr_lf fr_ic) (fr_lf fr_is)))) (fr_nd (fr_nd (fr_nd (fr_lf fr_il) (fr_lf fr_ic)) (fr_nd (fr_lf fr_icge) (fr_lf fr_al))) (fr_nd (fr_nd (fr_lf fr_il) (fr_lf fr_dup2)) (fr_nd (fr_lf fr_ia) (fr_nd (fr_lf fr_al) (fr_lf fr_il)))))) (fr_nd (fr_nd (fr_nd (fr_nd (fr_lf fr_ia) (fr_lf fr_ifle)) (fr_nd (fr_lf fr_ic) (fr_lf fr_go))) (fr_nd (fr_nd (fr_lf fr_al) (fr_lf fr_il)) (fr_nd (fr_lf fr_ia) (fr_lf fr_ifge)))) (fr_nd (fr_nd (fr_nd (fr_lf fr_ic) (fr_lf fr_go)) (fr_nd (fr_lf fr_ic) (fr_lf fr_add))) (fr_nd (fr_nd (fr_lf fr_iast) (fr_lf fr_inc)) (fr_nd (fr_lf fr_go) (fr_nd (fr_lf fr_il) (fr_lf fr_ri))))))))))
theorem FL_copy : ∀ pc, fro (TL_copy pc) := (fr_nd (fr_nd (fr_nd (fr_nd (fr_lf fr_ic) (fr_lf fr_nwi)) (fr_nd (fr_lf fr_as) (fr_lf fr_ic))) (fr_nd (fr_nd (fr_lf fr_is) (fr_lf fr_il)) (fr_nd (fr_lf fr_al) (fr_nd (fr_lf fr_alen) (fr_lf fr_icge))))) (fr_nd (fr_nd (fr_nd (fr_lf fr_al) (fr_lf fr_il)) (fr_nd (fr_lf fr_al) (fr_nd (fr_lf fr_il) (fr_lf fr_ia)))) (fr_nd (fr_nd (fr_lf fr_iast) (fr_lf fr_inc)) (fr_nd (fr_lf fr_go) (fr_nd (fr_lf fr_al) (fr_lf fr_raR))))))
theorem FL_three : ∀ pc, fro (TL_three pc) := (fr_nd (fr_nd (fr_nd (fr_nd (fr_lf fr_al) (fr_lf fr_il)) (fr_nd (fr_lf fr_cv) (fr_lf fr_ifle))) (fr_nd (fr_nd (fr_lf fr_al) (fr_lf fr_il)) (fr_nd (fr_lf fr_cv) (fr_lf fr_ifle)))) (fr_nd (fr_nd (fr_nd (fr_lf fr_al) (fr_lf fr_il)) (fr_nd (fr_lf fr_cv) (fr_lf fr_ifle))) (fr_nd (fr_nd (fr_lf fr_ic) (fr_lf fr_go)) (fr_nd (fr_lf fr_ic) (fr_lf fr_rz)))))
theorem frT_0 (y pc : Nat) : fro (mTb0 y pc) := (fr_c (fr_c (fr_c (fr_c (fr_c (FX0_init pc) (FX0_mayCome pc)) (fr_c (FX0_isFeeling pc) (FX0_mostOf pc))) (fr_c (fr_c (FX0_placeOfFeeling pc) (FX0_admit pc)) (fr_c (FX0_has pc) (FX0_hasPair pc)))) (fr_c (fr_c (fr_c (FX0_placeOf pc) (FX0_numberAt pc)) (fr_c (FX0_setNumber pc) (FX0_hungerOf pc))) (fr_c (fr_c (FX0_hungerMore pc) (FX0_hungerLess pc)) (fr_c (FX0_felt pc) (FX0_setFelt pc))))) (fr_c (fr_c (fr_c (fr_c (FX0_friendOf pc) (FX0_hatersOf pc)) (fr_c (FX0_feelingsBelowNone pc) (FX0_endDay pc))) (fr_c (fr_c (FX0_fade pc) (FX0_takeOver pc)) (fr_c (FX1_init pc) (FX1_add pc)))) (fr_c (fr_c (fr_c (FX1_told pc) (FX1_tell pc)) (fr_c (FX1_write pc) (FX1_taleLength pc))) (fr_c (fr_c (FX1_taleByte pc) (FX2_init pc)) (fr_c (FX2_add pc) (FX2_forgetFirst pc))))))
theorem frT_1 (y pc : Nat) : fro (mTb1 y pc) := (fr_c (fr_c (fr_c (fr_c (fr_c (FX2_undoable pc) (FX3_init pc)) (fr_c (FX3_become pc) (FX3_setWords pc))) (fr_c (fr_c (FX3_weighedOut pc) (FX3_held pc)) (fr_c (FX3_joined pc) (FX4_init pc)))) (fr_c (fr_c (fr_c (FX4_take pc) (FX4_length pc)) (fr_c (FX4_clear pc) (FX4_read pc))) (fr_c (fr_c (FX4_readLine pc) (FX4_readLevel pc)) (fr_c (FX4_levelOf pc) (FX4_readOperand pc))))) (fr_c (fr_c (fr_c (fr_c (FX4_readOpened pc) (FX4_readNumber pc)) (fr_c (FX4_readWord pc) (FX4_isWord pc))) (fr_c (fr_c (FX4_wordOf pc) (FX4_isDigit pc)) (fr_c (FX4_next pc) (FX4_write pc)))) (fr_c (fr_c (fr_c (FX5_init pc) (FX5_bodies pc)) (fr_c (FX5_ran pc) (FX6_init pc))) (fr_c (fr_c (FX7_init pc) (FX7_goBy pc)) (fr_c (FX7_hungriest pc) (FX7_serve pc))))))
theorem frT_2 (y pc : Nat) : fro (mTb2 y pc) := (fr_c (fr_c (fr_c (fr_c (FX7_weigherOf pc) (fr_c (FX8_init pc) (FX9_init pc))) (fr_c (fr_c (FX9_begin pc) (FX9_goOn pc)) (fr_c (FX9_daysFed pc) (FX10_init pc)))) (fr_c (fr_c (fr_c (FX10_person pc) (FX10_mend pc)) (fr_c (FX10_of pc) (FX10_feel pc))) (fr_c (fr_c (FX10_feeling pc) (FX10_feed pc)) (fr_c (FX10_law pc) (FX10_changeTo pc))))) (fr_c (fr_c (fr_c (fr_c (FX10_later pc) (FX10_feltLater pc)) (fr_c (FX10_lasts pc) (FX10_isOneOrAll pc))) (fr_c (fr_c (FX10_day pc) (FX10_wrong pc)) (fr_c (FX10_lease pc) (FX10_gift pc)))) (fr_c (fr_c (fr_c (FX10_tale pc) (FX10_led pc)) (fr_c (FX10_count pc) (FL_friend pc))) (fr_c (fr_c (FL_out pc) (FL_day pc)) (fr_c (FL_copy pc) (FL_three pc))))))
theorem frT (y pc : Nat) : fro (mTb y pc) := fr_c (fr_c (frT_0 y pc) (fr_c (frT_1 y pc) (frT_2 y pc))) fr_no
theorem mrn_fr : ∀ (D y : Nat) (as : List Value) (S : mS) (v : Option Value) (S' : mS), mrn D y as S v S' → S.2.1.length ≤ S'.2.1.length ∧ (S'.2.1.length = S.2.1.length → ∀ d E, mrn D y as (lfS d E S) v (lfS d E S'))
  | 0, _, _, _, _, _, h => h.elim
  | D + 1, y, as, S, v, S', h => by
    obtain ⟨h1, h2, N, n, h3, h4⟩ := h
    obtain ⟨b1, b2⟩ := mex_fr (frT y) (fun y as S v S' h => mrn_fr D y as S v S' h) N 0 (men as n) [] S h4
    refine ⟨b1, fun e d E => ⟨?_, ?_, N, n, h3, b2 e d E⟩⟩
    · show (S.2.1 ++ E).length ≤ (S'.2.1 ++ E).length
      rw [List.length_append, List.length_append]
      omega
    · show S.1 + d ≤ S'.1 + d
      omega
/-- deeper room serves too -/
theorem mex_mono {T : Nat → mO} {C C' : Nat → List Value → mS → Option Value → mS → Prop} {Q : Option Value → mS → Prop} (hC : ∀ y as S v S', C y as S v S' → C' y as S v S') : ∀ {N : Nat} {f : mF}, mex T C Q N f → mex T C' Q N f
  | 0, f, h => h.elim
  | N + 1, f, h => by
    unfold mex at h
    obtain ⟨L, hL, h⟩ := h
    unfold mex
    refine ⟨L, hL, ?_⟩
    cases hT : T f.1 L f.2.2.1 f.2.2.2 with
    | none => rw [hT] at h; cases h
    | some r =>
      rw [hT] at h
      match r, h with
      | .inl g, h => exact mex_mono hC (N := N) h
      | .inr (.inl r), h => exact h
      | .inr (.inr q), h =>
        obtain ⟨v0, S0, hc, h⟩ := h
        exact ⟨v0, S0, hC _ _ _ _ _ hc, mex_mono hC (N := N) h⟩
/-- a run without the script is a run beside it -/
theorem mTbS_lt {L : Nat} {xs : Nat → Int32} {y : Nat} (h : Nat.blt y 300 = true) : mTbS L xs y = mTb y := by
  funext pc
  show cond (Nat.blt y 300) _ _ = cond (Nat.blt y 300) _ _
  rw [h]
  rfl
theorem mrn_S {L : Nat} {xs : Nat → Int32} : ∀ {D y : Nat} {as : List Value} {S : mS} {v : Option Value} {S' : mS}, mrn D y as S v S' → mrnS L xs D y as S v S'
  | 0, _, _, _, _, _, h => h.elim
  | D + 1, y, as, S, v, S', h => by
    obtain ⟨h1, h2, N, n, h3, h4⟩ := h
    refine ⟨h1, h2, N, n, h3, ?_⟩
    cases hb : Nat.blt y 300 with
    | true =>
      rw [mTbS_lt hb]
      exact mex_mono (fun _ _ _ _ _ h => mrn_S h) h4
    | false =>
      exfalso
      cases N with
      | zero => exact h4
      | succ N =>
        unfold mex at h4
        obtain ⟨L9, _, h4⟩ := h4
        have : mTb y 0 = o_no := by
          show cond (Nat.blt y 300) _ _ = _
          rw [hb]
          rfl
        dsimp only at h4
        rw [this] at h4
        exact h4
