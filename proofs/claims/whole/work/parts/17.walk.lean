/-! walking a body over my machine: rules -/
def mEx (D : Nat) (T : Nat → mO) (Q : Option Value → mS → Prop) (f : mF) : Prop := ∃ N, mex T (mrn D) Q N f
section XR
variable {D : Nat} {T : Nat → mO} {Q : Option Value → mS → Prop} {pc : Nat} {l : mL} {st : mK} {S : mS}
theorem x_st {g : mF} (h : T pc l st S = some (.inl g)) (k : mEx D T Q g) : mEx D T Q (pc, l, st, S) := by
  obtain ⟨N, hN⟩ := k
  exact ⟨N + 1, by unfold mex; dsimp only; rw [h]; exact hN⟩
theorem x_br {c : Prop} {inst : Decidable c} {a b : mF} (h : T pc l st S = @ite _ c inst (some (.inl a)) (some (.inl b))) (k1 : c → mEx D T Q a) (k2 : ¬ c → mEx D T Q b) : mEx D T Q (pc, l, st, S) := by
  by_cases hc : c
  · exact x_st (h.trans (if_pos hc)) (k1 hc)
  · exact x_st (h.trans (if_neg hc)) (k2 hc)
theorem x_ck {c : Prop} {inst : Decidable c} {a : mF} (h : T pc l st S = @ite _ c inst none (some (.inl a))) (hc : ¬ c) (k : mEx D T Q a) : mEx D T Q (pc, l, st, S) := x_st (h.trans (if_neg hc)) k
theorem x_ok {c : Prop} {inst : Decidable c} {a : mF} (h : T pc l st S = @ite _ c inst (some (.inl a)) none) (hc : c) (k : mEx D T Q a) : mEx D T Q (pc, l, st, S) := x_st (h.trans (if_pos hc)) k
theorem x_rt {r : Option Value × mS} (h : T pc l st S = some (.inr (.inl r))) (k : Q r.1 r.2) : mEx D T Q (pc, l, st, S) := ⟨1, by unfold mex; dsimp only; rw [h]; exact k⟩
theorem x_rz {c : Prop} {inst : Decidable c} {r : Option Value × mS} (h : T pc l st S = @ite _ c inst (some (.inr (.inl r))) none) (hc : c) (k : Q r.1 r.2) : mEx D T Q (pc, l, st, S) := x_rt (h.trans (if_pos hc)) k
theorem x_ci {y : Nat} {as : List Value} {pc' : Nat} {l' : mL} {st' : mK} {S' S2 : mS} {x : Value} (h : T pc l st S = some (.inr (.inr (y, as, (pc', l', st', S'))))) (hc : mrn D y as S' (some x) S2) (k : mEx D T Q (pc', l', x :: st', S2)) : mEx D T Q (pc, l, st, S) := by
  obtain ⟨N, hN⟩ := k
  exact ⟨N + 1, by unfold mex; dsimp only; rw [h]; exact ⟨some x, S2, hc, hN⟩⟩
theorem x_cv {y : Nat} {as : List Value} {pc' : Nat} {l' : mL} {st' : mK} {S' S2 : mS} (h : T pc l st S = some (.inr (.inr (y, as, (pc', l', st', S'))))) (hc : mrn D y as S' none S2) (k : mEx D T Q (pc', l', st', S2)) : mEx D T Q (pc, l, st, S) := by
  obtain ⟨N, hN⟩ := k
  exact ⟨N + 1, by unfold mex; dsimp only; rw [h]; exact ⟨none, S2, hc, hN⟩⟩
theorem x_eq {f g : mF} (h : f = g) (k : mEx D T Q g) : mEx D T Q f := h ▸ k
/-- a switch: each case, then none of them -/
theorem x_s0 {d : Nat} {k : Nat → Option mR} {x : Int32} {ps : List (Int32 × Nat)} (h : T pc l st S = msw x d k ps) (hk : ∀ a, msw x d k ps = some a → ∃ g, a = .inl g ∧ mEx D T Q g) (hs : (msw x d k ps).isSome = true) : mEx D T Q (pc, l, st, S) := by
  obtain ⟨a, ha⟩ := Option.isSome_iff_exists.mp hs
  obtain ⟨g, rfl, hg⟩ := hk a ha
  exact x_st (h.trans ha) hg
end XR
theorem x_in {D y n : Nat} {as : List Value} {w w' : Nat} {Sh Sh' : List mT} {MI MI' : Nat → Nat → Int32} {ML ML' : Nat → Nat → Int64} {v : Option Value} {T : Nat → mO} (hT : mTb y = T) (hl : (men as n).length = (mM y).2.2.1) (h1 : Sh.length ≤ Sh'.length) (h2 : w ≤ w') (k : mEx D T (fun v2 S2 => v2 = v ∧ S2 = (w', Sh', MI', ML')) (0, men as n, [], (w, Sh, MI, ML))) : mrn (D + 1) y as (w, Sh, MI, ML) v (w', Sh', MI', ML') := by
  subst hT
  obtain ⟨N, hN⟩ := k
  exact ⟨h1, h2, N, n, hl, hN⟩
theorem mup_s {α : Type} {M : Nat → Nat → α} {a : Nat} {r : Nat → α} : mup M a r a = r := if_pos rfl
theorem mup_n {α : Type} {M : Nat → Nat → α} {a b : Nat} {r : Nat → α} (h : b ≠ a) : mup M a r b = M b := if_neg h
theorem mput_s {α : Type} {f : Nat → α} {k : Nat} {x : α} : mput f k x k = x := if_pos rfl
theorem mput_n {α : Type} {f : Nat → α} {k j : Nat} {x : α} (h : j ≠ k) : mput f k x j = f j := if_neg h
