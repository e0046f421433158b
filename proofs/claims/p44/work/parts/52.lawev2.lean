/-! the law worked out by the model -/
theorem evs_cong {w w' : Nat → Int32} (hw : ∀ i, i < 6 → w i = w' i) : ∀ {ts st : List Int32}, (∀ t ∈ ts, sgn t) → evs w ts st = evs w' ts st
  | [], st, _ => rfl
  | t :: ts, st, hs => by
    have h1 : ev1 w t st = ev1 w' t st := by
      rcases sgn_c (hs t List.mem_cons_self) with ⟨v, hv, rfl⟩ | ⟨v, hv, rfl⟩ | rfl | rfl | hb
      · rw [ev1_n hv, ev1_n hv]
      · rw [ev1_w hv, ev1_w hv, hw v hv]
      · rfl
      · rfl
      · unfold ev1
        rw [if_neg (by rw [hb.1]; decide), if_neg (by rw [hb.1]; decide)]
    unfold evs
    rw [h1]
    exact evs_cong hw (fun t ht => hs t (List.mem_cons_of_mem _ ht))
theorem EXsgn {ts : List Int32} (h : ts = [] ∨ EX ts) : ∀ t ∈ ts, sgn t := by
  rcases h with rfl | h
  · intro t ht; cases ht
  · exact h.2
theorem lwV_cong {w w' : Nat → Int32} (hw : ∀ i, i < 6 → w i = w' i) : ∀ {La : mLaw}, wfL La → lwV w La = lwV w' La
  | [], _ => rfl
  | l :: r, h => by
    have hl := h l List.mem_cons_self
    unfold lwV
    rw [evs_cong hw (EXsgn hl.1), evs_cong hw hl.2.2, lwV_cong hw (fun l hl => h l (List.mem_cons_of_mem _ hl))]
theorem lwO_cong {w w' : Nat → Int32} {La : mLaw} (hw : ∀ i, i < 6 → w i = w' i) (h : wfL La) : lwO w La = lwO w' La := by
  unfold lwO
  rw [lwV_cong hw h, hw 3 (by decide), hw 0 (by decide)]
theorem clp_b (x : Int32) : 0 ≤ (clp x).toInt ∧ (clp x).toInt ≤ 50 := by
  have h0 : (nI 0).toInt = 0 := by decide
  have h50 : (nI 50).toInt = 50 := by decide
  unfold clp
  split
  · omega
  · next h1 =>
    rw [fa_lt] at h1
    split
    · omega
    · next h2 =>
      rw [fa_lt] at h2
      omega
theorem mtk_n {v : Nat} (h : v < 10000) : mtk (nI v) = nI v := if_pos (opd_n h)
theorem mtk_w {w : Nat} (h : w < 6) : mtk (-1 - nI w) = -1 - nI w := if_pos (wcs h).1
section W3
variable {D : Nat} {Q : Option Value → mI → mJ → Prop} {MI : mI} {ML : mJ}
theorem sB_let {t : Int32} (hs : sgn t) (h : sBi t) : -t = nI 124 ∨ -t = nI 38 ∨ -t = nI 60 ∨ -t = nI 61 ∨ -t = nI 62 ∨ -t = nI 43 ∨ -t = nI 45 ∨ -t = nI 42 ∨ -t = nI 47 ∨ -t = nI 37 := by
  rcases hs with ⟨v, hv, rfl⟩ | ⟨v, hv, rfl⟩ | rfl | rfl | rfl | rfl | rfl | rfl | rfl | rfl | rfl | rfl | rfl | rfl
  · have := h.1
    rw [opd_n hv] at this
    cases this
  · have := h.1
    rw [(wcs hv).1] at this
    cases this
  · exact absurd rfl h.2.2.2.2.1
  · exact absurd rfl h.2.2.2.2.2.1
  all_goals decide
theorem nI_up1 {d : Nat} : nI (d + 1) + (-1) = nI d := by
  rw [← nI_add, Int32.add_assoc, show nI 1 + (-1) = (0 : Int32) by decide, Int32.add_zero]
theorem nI_dn1 {d : Nat} : nI (d + 1) - nI 1 = nI d := by
  rw [pk_sub (by omega)]; rfl
end W3
section W4
variable {D : Nat} {Q : Option Value → mI → mJ → Prop} {ML : mJ}
end W4
/-- the words' numbers for a buyer, a weigher, a friend by -/
def wds (f : Nat → Int32) (b fr w fed : Nat) : Nat → Int32 := fun i => if i = 0 then -(f (20 + w * 8 + b)) else if i = 1 then f (20 + fr * 8 + b) else if i = 2 then f b else if i = 3 then f (8 + b) else if i = 4 then f 19 else nI fed
section W5
variable {D : Nat} {ML : mJ}
end W5
