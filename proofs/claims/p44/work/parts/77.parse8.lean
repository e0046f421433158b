/-! reading a law's text: the signs read are signs, and they keep what an operand keeps -/
theorem dps_app {h : Nat} : ∀ {a b : List Int32} {d : Nat}, dps h (a ++ b) d = (dps h a d).bind (dps h b)
  | [], b, d => rfl
  | t :: a, b, d => by
    show (dp1 h t d).bind (dps h (a ++ b)) = ((dp1 h t d).bind (dps h a)).bind (dps h b)
    cases dp1 h t d with
    | none => rfl
    | some e => exact dps_app
theorem lvO_c {c : Nat} (h : lvO c < 5) : c = 124 ∨ c = 38 ∨ c = 60 ∨ c = 61 ∨ c = 62 ∨ c = 43 ∨ c = 45 ∨ c = 42 ∨ c = 47 ∨ c = 37 := by
  unfold lvO at h
  repeat' split at h
  all_goals omega
theorem jsg_ok {c : Nat} (h : lvO c < 5) : sgn (jsg c) ∧ ∀ d, 2 ≤ d → dps 36 [jsg c] d = some (d - 1) := by
  have h1 : sgn (jsg c) ∧ opd (jsg c) = false ∧ ¬ (jsg c = -126 ∨ jsg c = -33) := by
    rcases lvO_c h with rfl | rfl | rfl | rfl | rfl | rfl | rfl | rfl | rfl | rfl <;>
      refine ⟨?_, by decide, by decide⟩ <;> unfold sgn <;> right <;> right <;> decide
  refine ⟨h1.1, fun d hd => ?_⟩
  show (dp1 36 (jsg c) d).bind (dps 36 []) = _
  unfold dp1
  rw [if_neg (by rw [h1.2.1]; decide), if_neg h1.2.2, if_pos hd]
  rfl
