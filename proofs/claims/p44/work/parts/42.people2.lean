/-! people, deeds: the class and the model answer alike -/
theorem bI2 : ∀ b : Bool, bI b &&& 1 = bI b := by decide
section TR
variable {D n : Nat} {MI : mI} {ML : mJ}
/-- the least ring, steps below s of a ring from one -/
def lsA (p : Nat → Bool) (l : Int32) : Nat → Int32
  | 0 => l
  | s + 1 => if p (s + 1) then (if lsA p l s = -2 then nI (s + 1) else if lsA p l s ≤ nI (s + 1) then lsA p l s else nI (s + 1)) else lsA p l s
theorem lsA_no {p : Nat → Bool} {l : Int32} : ∀ {s : Nat}, (∀ t, t < s → p (t + 1) = false) → lsA p l s = l
  | 0, _ => rfl
  | s + 1, h => by
    rw [lsA, h s (by omega), if_neg (by decide), lsA_no (fun t ht => h t (by omega))]
theorem lsA_yes {p : Nat → Bool} {l : Int32} {t : Nat} (ht : p (t + 1) = true) (hno : ∀ u, u < t → p (u + 1) = false) : ∀ {s : Nat}, t < s → s < 1000 → lsA p l s = (if l = -2 then nI (t + 1) else if l ≤ nI (t + 1) then l else nI (t + 1)) := by
  intro s hs h1
  induction s with
  | zero => omega
  | succ s ih =>
    by_cases e : s = t
    · subst e
      rw [lsA, ht, if_pos rfl, lsA_no hno]
    · rw [lsA, ih (by omega) (by omega)]
      by_cases hp : p (s + 1) = true
      · rw [if_pos hp]
        have m2 : (-2 : Int32).toInt = -2 := by decide
        by_cases h2 : l = -2
        · rw [if_pos h2]
          rw [if_neg (fun q => by rw [fa_eq, nI_toInt (by omega), m2] at q; omega), if_pos (nI_le (by omega) (by omega))]
        · rw [if_neg h2]
          by_cases h3 : l ≤ nI (t + 1)
          · rw [if_pos h3, if_neg h2, if_pos]
            rw [fa_le, nI_toInt (by omega)] at h3 ⊢
            omega
          · rw [if_neg h3, if_neg (fun q => by rw [fa_eq, nI_toInt (by omega), m2] at q; omega), if_pos (nI_le (by omega) (by omega))]
      · rw [if_neg hp]
theorem lsA_rgl (f : Nat → Int32) {n one : Nat} (l : Int32) (hn : n < 999) : lsA (fun s => rch f n one s one) l n = (if rgl f n one = -2 then l else if l = -2 then rgl f n one else if l ≤ rgl f n one then l else rgl f n one) := by
  have m2 : (-2 : Int32).toInt = -2 := by decide
  unfold rgl
  by_cases h : fa_first (fun s => rch f n one (s + 1) one) n < n
  · rw [if_pos h, if_neg (fun q => by rw [fa_eq, nI_toInt (by omega), m2] at q; omega)]
    exact lsA_yes (p := fun s => rch f n one s one) (fa_first_yes _ _ h) (fun u hu => fa_first_no _ _ u hu) h (by omega)
  · rw [if_neg h, if_pos rfl]
    exact lsA_no (p := fun s => rch f n one s one) (fun t ht => fa_first_no (fun s => rch f n one (s + 1) one) n t (by omega))
theorem sm_sw (p : Nat → Nat → Bool) (m : Nat) : ∀ n, sm (fun b => cn (fun a => p a b) m) n = sm (fun a => cn (fun b => p a b) n) m := by
  have h0 : ∀ m, sm (fun _ => 0) m = 0 := fun m => by
    induction m with
    | zero => rfl
    | succ m ih => rw [sm, ih]
  have hs : ∀ (f g : Nat → Nat) m, sm (fun a => f a + g a) m = sm f m + sm g m := fun f g m => by
    induction m with
    | zero => rfl
    | succ m ih => simp only [sm, ih]; omega
  have hc : ∀ (q : Nat → Bool) m, cn q m = sm (fun a => if q a then 1 else 0) m := fun q m => by
    induction m with
    | zero => rfl
    | succ m ih => simp only [sm, cn, ih]
  intro n
  induction n with
  | zero => simp only [sm, cn, h0]
  | succ n ih =>
    simp only [sm, cn, ih, hs]
    rw [hc (fun a => p a n)]
end TR
