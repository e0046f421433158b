/-! my own pure machine: a step of each instruction as a function; references are numbers of cells, in the order in which they are made -/
abbrev mT : Type := Nat × Nat × List (Option (Option Nat))
abbrev mS : Type := Nat × List mT × (Nat → Nat → Int32) × (Nat → Nat → Int64)
abbrev mL : Type := List (Option Value)
abbrev mK : Type := List Value
abbrev mF : Type := Nat × mL × mK × mS
abbrev mR : Type := mF ⊕ ((Option Value × mS) ⊕ (Nat × List Value × mF))
abbrev mO : Type := mL → mK → mS → Option mR
def mup {α : Type} (M : Nat → Nat → α) (a : Nat) (r : Nat → α) : Nat → Nat → α := fun b => if b = a then r else M b
def mput {α : Type} (f : Nat → α) (k : Nat) (x : α) : Nat → α := fun j => if j = k then x else f j
def mget : mL → Nat → (Value → Option mR) → Option mR
  | [], _, _ => none
  | a :: t, i, k => match i with
    | 0 => match a with
      | some v => k v
      | none => none
    | j + 1 => mget t j k
def mclr (a : Option Value) (k : Option Value → Option mR) : Option mR := match a with
  | some (.long _) => k none
  | some (.double _) => k none
  | some v => k (some v)
  | none => k none
def mset1 : mL → Nat → Value → (mL → Option mR) → Option mR
  | [], _, _, _ => none
  | a :: t, i, v, k => match i with
    | 0 => k (some v :: t)
    | 1 => mclr a (fun a' => mset1 t 0 v (fun t' => k (a' :: t')))
    | j + 2 => mset1 t (j + 1) v (fun t' => k (a :: t'))
def mset2 : mL → Nat → Value → (mL → Option mR) → Option mR
  | [], _, _, _ => none
  | a :: t, i, v, k => match i with
    | 0 => match t with
      | [] => none
      | _ :: t2 => k (some v :: none :: t2)
    | 1 => mclr a (fun a' => mset2 t 0 v (fun t' => k (a' :: t')))
    | j + 2 => mset2 t (j + 1) v (fun t' => k (a :: t'))
def mpop : Nat → mK → List Value → (List Value → mK → Option mR) → Option mR
  | 0, st, acc, k => k acc st
  | n + 1, st, acc, k => match st with
    | v :: t => mpop n t (v :: acc) k
    | [] => none
def mnth {α : Type} : List α → Nat → (α → Option mR) → Option mR
  | [], _, _ => none
  | a :: t, i, k => match i with
    | 0 => k a
    | j + 1 => mnth t j k
def mrep {α : Type} : List α → Nat → α → (List α → Option mR) → Option mR
  | [], _, _, _ => none
  | a :: t, i, v, k => match i with
    | 0 => k (v :: t)
    | j + 1 => mrep t j v (fun t' => k (a :: t'))
def mapp {α : Type} : List α → α → (List α → Option mR) → Option mR
  | [], v, k => k [v]
  | a :: t, v, k => mapp t v (fun t' => k (a :: t'))
def mcat : mK → Nat
  | [] => 0
  | v :: t => v.category + mcat t
def msw (x : Int32) (d : Nat) (k : Nat → Option mR) : List (Int32 × Nat) → Option mR
  | [] => k d
  | q :: t => if x = q.1 then k q.2 else msw x d k t
theorem mget_spec {k : Value → Option mR} {r : mR} : ∀ {L : mL} {i : Nat}, mget L i k = some r → ∃ v, L[i]? = some (some v) ∧ k v = some r
  | [], _, h => by cases h
  | a :: t, 0, h => by
    cases a with
    | none => cases h
    | some v => exact ⟨v, rfl, h⟩
  | a :: t, j + 1, h => by
    obtain ⟨v, h1, h2⟩ := mget_spec (L := t) (i := j) h
    exact ⟨v, by simpa using h1, h2⟩
theorem mclr_spec {a : Option Value} {k : Option Value → Option mR} {r : mR} (h : mclr a k = some r) : ∃ a', k a' = some r ∧ ∀ w, a' = some w → a = some w ∧ ¬ w.category = 2 := by
  cases a with
  | none => exact ⟨none, h, fun w hw => by cases hw⟩
  | some v => cases v with
    | long x => exact ⟨none, h, fun w hw => by cases hw⟩
    | double x => exact ⟨none, h, fun w hw => by cases hw⟩
    | int x => exact ⟨_, h, fun w hw => by cases hw; exact ⟨rfl, by simp [Value.category]⟩⟩
    | float x => exact ⟨_, h, fun w hw => by cases hw; exact ⟨rfl, by simp [Value.category]⟩⟩
    | null => exact ⟨_, h, fun w hw => by cases hw; exact ⟨rfl, by simp [Value.category]⟩⟩
    | ref x => exact ⟨_, h, fun w hw => by cases hw; exact ⟨rfl, by simp [Value.category]⟩⟩
    | _ => exact ⟨_, h, fun w hw => by cases hw; exact ⟨rfl, by simp [Value.category]⟩⟩
theorem mset1_spec {v : Value} {r : mR} : ∀ {L : mL} {i : Nat} {k : mL → Option mR}, mset1 L i v k = some r → ∃ L' : mL, k L' = some r ∧ L'.length = L.length ∧ i < L.length ∧ ∀ (j : Nat) (w : Value), L'[j]? = some (some w) → (j = i ∧ w = v) ∨ (¬ j = i ∧ L[j]? = some (some w) ∧ ¬ (j + 1 = i ∧ w.category = 2))
  | [], _, _, h => by cases h
  | a :: t, 0, k, h => by
    refine ⟨_, h, rfl, Nat.succ_pos _, fun j w hj => ?_⟩
    cases j with
    | zero => simp at hj; exact Or.inl ⟨rfl, hj.symm⟩
    | succ j => exact Or.inr ⟨by omega, by simpa using hj, by omega⟩
  | a :: t, 1, k, h => by
    obtain ⟨a', h1, h2⟩ := mclr_spec (k := fun a' => mset1 t 0 v (fun t' => k (a' :: t'))) h
    obtain ⟨t', h3, h4, h5, h6⟩ := mset1_spec (L := t) (i := 0) h1
    refine ⟨a' :: t', h3, by simp [h4], by simp; omega, fun j w hj => ?_⟩
    cases j with
    | zero =>
      simp at hj
      obtain ⟨h7, h8⟩ := h2 w hj
      exact Or.inr ⟨by omega, by simp [h7], fun q => h8 q.2⟩
    | succ j =>
      rcases h6 j w (by simpa using hj) with ⟨h7, h8⟩ | ⟨h7, h8, h9⟩
      · exact Or.inl ⟨by omega, h8⟩
      · exact Or.inr ⟨by omega, by simpa using h8, by omega⟩
  | a :: t, j0 + 2, k, h => by
    obtain ⟨t', h3, h4, h5, h6⟩ := mset1_spec (L := t) (i := j0 + 1) (k := fun t' => k (a :: t')) h
    refine ⟨a :: t', h3, by simp [h4], by simp; omega, fun j w hj => ?_⟩
    cases j with
    | zero => exact Or.inr ⟨by omega, by simpa using hj, by omega⟩
    | succ j =>
      rcases h6 j w (by simpa using hj) with ⟨h7, h8⟩ | ⟨h7, h8, h9⟩
      · exact Or.inl ⟨by omega, h8⟩
      · exact Or.inr ⟨by omega, by simpa using h8, fun q => h9 ⟨by omega, q.2⟩⟩
theorem mset2_spec {v : Value} {r : mR} : ∀ {L : mL} {i : Nat} {k : mL → Option mR}, mset2 L i v k = some r → ∃ L' : mL, k L' = some r ∧ L'.length = L.length ∧ i + 1 < L.length ∧ ∀ (j : Nat) (w : Value), L'[j]? = some (some w) → (j = i ∧ w = v) ∨ (¬ j = i ∧ ¬ j = i + 1 ∧ L[j]? = some (some w) ∧ ¬ (j + 1 = i ∧ w.category = 2))
  | [], _, _, h => by cases h
  | [a], 0, k, h => by cases h
  | a :: b :: t, 0, k, h => by
    refine ⟨_, h, rfl, by simp, fun j w hj => ?_⟩
    match j, hj with
    | 0, hj => simp at hj; exact Or.inl ⟨rfl, hj.symm⟩
    | 1, hj => simp at hj
    | j + 2, hj => exact Or.inr ⟨by omega, by omega, by simpa using hj, by omega⟩
  | a :: t, 1, k, h => by
    obtain ⟨a', h1, h2⟩ := mclr_spec (k := fun a' => mset2 t 0 v (fun t' => k (a' :: t'))) h
    obtain ⟨t', h3, h4, h5, h6⟩ := mset2_spec (L := t) (i := 0) h1
    refine ⟨a' :: t', h3, by simp [h4], by simp; omega, fun j w hj => ?_⟩
    cases j with
    | zero =>
      simp at hj
      obtain ⟨h7, h8⟩ := h2 w hj
      exact Or.inr ⟨by omega, by omega, by simp [h7], fun q => h8 q.2⟩
    | succ j =>
      rcases h6 j w (by simpa using hj) with ⟨h7, h8⟩ | ⟨h7, h7', h8, h9⟩
      · exact Or.inl ⟨by omega, h8⟩
      · exact Or.inr ⟨by omega, by omega, by simpa using h8, by omega⟩
  | a :: t, j0 + 2, k, h => by
    obtain ⟨t', h3, h4, h5, h6⟩ := mset2_spec (L := t) (i := j0 + 1) (k := fun t' => k (a :: t')) h
    refine ⟨a :: t', h3, by simp [h4], by simp; omega, fun j w hj => ?_⟩
    cases j with
    | zero => exact Or.inr ⟨by omega, by omega, by simpa using hj, by omega⟩
    | succ j =>
      rcases h6 j w (by simpa using hj) with ⟨h7, h8⟩ | ⟨h7, h7', h8, h9⟩
      · exact Or.inl ⟨by omega, h8⟩
      · exact Or.inr ⟨by omega, by omega, by simpa using h8, fun q => h9 ⟨by omega, q.2⟩⟩
theorem mpop_spec {k : List Value → mK → Option mR} {r : mR} : ∀ {n : Nat} {st : mK} {acc : List Value}, mpop n st acc k = some r → ∃ (as : List Value) (rest : mK), k (as ++ acc) rest = some r ∧ as.length = n ∧ st = as.reverse ++ rest
  | 0, st, acc, h => ⟨[], st, h, rfl, rfl⟩
  | n + 1, [], acc, h => by cases h
  | n + 1, v :: t, acc, h => by
    obtain ⟨as, rest, h1, h2, h3⟩ := mpop_spec (n := n) (st := t) (acc := v :: acc) h
    exact ⟨as ++ [v], rest, by simpa using h1, by simp [h2], by simp [h3]⟩
theorem mnth_spec {α : Type} {k : α → Option mR} {r : mR} : ∀ {l : List α} {i : Nat}, mnth l i k = some r → ∃ a, l[i]? = some a ∧ k a = some r
  | [], _, h => by cases h
  | a :: t, 0, h => ⟨a, rfl, h⟩
  | a :: t, j + 1, h => by
    obtain ⟨b, h1, h2⟩ := mnth_spec (l := t) (i := j) h
    exact ⟨b, by simpa using h1, h2⟩
theorem mrep_spec {α : Type} {v : α} {r : mR} : ∀ {l : List α} {i : Nat} {k : List α → Option mR}, mrep l i v k = some r → i < l.length ∧ k (l.set i v) = some r
  | [], _, _, h => by cases h
  | a :: t, 0, k, h => ⟨Nat.succ_pos _, h⟩
  | a :: t, j + 1, k, h => by
    obtain ⟨h1, h2⟩ := mrep_spec (l := t) (i := j) (k := fun t' => k (a :: t')) h
    exact ⟨by simp; omega, by simpa using h2⟩
theorem mapp_spec {α : Type} {v : α} {r : mR} : ∀ {l : List α} {k : List α → Option mR}, mapp l v k = some r → k (l ++ [v]) = some r
  | [], _, h => h
  | a :: t, k, h => mapp_spec (l := t) (k := fun t' => k (a :: t')) h
theorem mcat_eq : ∀ st : mK, (st.map fun v => v.category).sum = mcat st
  | [] => rfl
  | v :: t => by simp [mcat, mcat_eq t]

def o_ic (v : Int32) (nx : Nat) : mO := fun l st S => some (.inl (nx, l, .int v :: st, S))
def o_lc (v : Int64) (nx : Nat) : mO := fun l st S => some (.inl (nx, l, .long v :: st, S))
def o_il (i nx : Nat) : mO := fun l st S => mget l i (fun v => match v with
  | .int x => some (.inl (nx, l, .int x :: st, S))
  | _ => none)
def o_ll (i nx : Nat) : mO := fun l st S => mget l i (fun v => match v with
  | .long x => some (.inl (nx, l, .long x :: st, S))
  | _ => none)
def o_al (i nx : Nat) : mO := fun l st S => mget l i (fun v => match v with
  | .ref x => some (.inl (nx, l, .ref x :: st, S))
  | .float x => some (.inl (nx, l, .float x :: st, S))
  | _ => none)
def o_is (i nx : Nat) : mO := fun l st S => match st with
  | .int x :: r => mset1 l i (.int x) (fun l' => some (.inl (nx, l', r, S)))
  | _ => none
def o_as (i nx : Nat) : mO := fun l st S => match st with
  | .ref x :: r => mset1 l i (.ref x) (fun l' => some (.inl (nx, l', r, S)))
  | _ => none
def o_ls (i nx : Nat) : mO := fun l st S => match st with
  | .long x :: r => mset2 l i (.long x) (fun l' => some (.inl (nx, l', r, S)))
  | _ => none
def o_inc (i : Nat) (c : Int32) (nx : Nat) : mO := fun l st S => mget l i (fun v => match v with
  | .int x => mset1 l i (.int (x + c)) (fun l' => some (.inl (nx, l', st, S)))
  | _ => none)
def o_add (nx : Nat) : mO := fun l st S => match st with
  | .int y :: .int x :: r => some (.inl (nx, l, .int (x + y) :: r, S))
  | _ => none
def o_sub (nx : Nat) : mO := fun l st S => match st with
  | .int y :: .int x :: r => some (.inl (nx, l, .int (x - y) :: r, S))
  | _ => none
def o_mul (nx : Nat) : mO := fun l st S => match st with
  | .int y :: .int x :: r => some (.inl (nx, l, .int (x * y) :: r, S))
  | _ => none
def o_and (nx : Nat) : mO := fun l st S => match st with
  | .int y :: .int x :: r => some (.inl (nx, l, .int (x &&& y) :: r, S))
  | _ => none
def o_or (nx : Nat) : mO := fun l st S => match st with
  | .int y :: .int x :: r => some (.inl (nx, l, .int (x ||| y) :: r, S))
  | _ => none
def o_xor (nx : Nat) : mO := fun l st S => match st with
  | .int y :: .int x :: r => some (.inl (nx, l, .int (x ^^^ y) :: r, S))
  | _ => none
def o_shl (nx : Nat) : mO := fun l st S => match st with
  | .int y :: .int x :: r => some (.inl (nx, l, .int (x <<< (y &&& 31)) :: r, S))
  | _ => none
def o_shr (nx : Nat) : mO := fun l st S => match st with
  | .int y :: .int x :: r => some (.inl (nx, l, .int (x >>> (y &&& 31)) :: r, S))
  | _ => none
def o_ushr (nx : Nat) : mO := fun l st S => match st with
  | .int y :: .int x :: r => some (.inl (nx, l, .int ((x.toUInt32 >>> (y.toUInt32 &&& Int32.toUInt32 31)).toInt32) :: r, S))
  | _ => none
def o_ladd (nx : Nat) : mO := fun l st S => match st with
  | .long y :: .long x :: r => some (.inl (nx, l, .long (x + y) :: r, S))
  | _ => none
def o_lsub (nx : Nat) : mO := fun l st S => match st with
  | .long y :: .long x :: r => some (.inl (nx, l, .long (x - y) :: r, S))
  | _ => none
def o_lmul (nx : Nat) : mO := fun l st S => match st with
  | .long y :: .long x :: r => some (.inl (nx, l, .long (x * y) :: r, S))
  | _ => none
def o_land (nx : Nat) : mO := fun l st S => match st with
  | .long y :: .long x :: r => some (.inl (nx, l, .long (x &&& y) :: r, S))
  | _ => none
def o_lor (nx : Nat) : mO := fun l st S => match st with
  | .long y :: .long x :: r => some (.inl (nx, l, .long (x ||| y) :: r, S))
  | _ => none
def o_lcmp (nx : Nat) : mO := fun l st S => match st with
  | .long y :: .long x :: r => some (.inl (nx, l, .int (lg_cmp x y) :: r, S))
  | _ => none
def o_lshl (nx : Nat) : mO := fun l st S => match st with
  | .int y :: .long x :: r => some (.inl (nx, l, .long (x <<< (y.toInt64 &&& 63)) :: r, S))
  | _ => none
def o_neg (nx : Nat) : mO := fun l st S => match st with
  | .int x :: r => some (.inl (nx, l, .int (-x) :: r, S))
  | _ => none
def o_i2l (nx : Nat) : mO := fun l st S => match st with
  | .int x :: r => some (.inl (nx, l, .long x.toInt64 :: r, S))
  | _ => none
def o_l2i (nx : Nat) : mO := fun l st S => match st with
  | .long x :: r => some (.inl (nx, l, .int x.toInt32 :: r, S))
  | _ => none
def o_i2b (nx : Nat) : mO := fun l st S => match st with
  | .int x :: r => some (.inl (nx, l, .int x.toInt8.toInt32 :: r, S))
  | _ => none
def o_i2s (nx : Nat) : mO := fun l st S => match st with
  | .int x :: r => some (.inl (nx, l, .int x.toInt16.toInt32 :: r, S))
  | _ => none
def o_div (nx : Nat) : mO := fun l st S => match st with
  | .int y :: .int x :: r => if y = 0 then none else some (.inl (nx, l, .int (x / y) :: r, S))
  | _ => none
def o_rem (nx : Nat) : mO := fun l st S => match st with
  | .int y :: .int x :: r => if y = 0 then none else some (.inl (nx, l, .int (x - x / y * y) :: r, S))
  | _ => none
def o_dup (nx : Nat) : mO := fun l st S => match st with
  | .int x :: r => some (.inl (nx, l, .int x :: .int x :: r, S))
  | .ref x :: r => some (.inl (nx, l, .ref x :: .ref x :: r, S))
  | _ => none
def o_pop (nx : Nat) : mO := fun l st S => match st with
  | .int _ :: r => some (.inl (nx, l, r, S))
  | _ => none
def o_dup2 (nx : Nat) : mO := fun l st S => match st with
  | .int x :: .ref y :: r => some (.inl (nx, l, .int x :: .ref y :: .int x :: .ref y :: r, S))
  | .int x :: .int y :: r => some (.inl (nx, l, .int x :: .int y :: .int x :: .int y :: r, S))
  | _ => none
def o_go (t : Nat) : mO := fun l st S => some (.inl (t, l, st, S))
def o_ifeq (t nx : Nat) : mO := fun l st S => match st with
  | .int x :: r => if x = 0 then some (.inl (t, l, r, S)) else some (.inl (nx, l, r, S))
  | _ => none
def o_ifne (t nx : Nat) : mO := fun l st S => match st with
  | .int x :: r => if x = 0 then some (.inl (nx, l, r, S)) else some (.inl (t, l, r, S))
  | _ => none
def o_iflt (t nx : Nat) : mO := fun l st S => match st with
  | .int x :: r => if x < 0 then some (.inl (t, l, r, S)) else some (.inl (nx, l, r, S))
  | _ => none
def o_ifge (t nx : Nat) : mO := fun l st S => match st with
  | .int x :: r => if 0 ≤ x then some (.inl (t, l, r, S)) else some (.inl (nx, l, r, S))
  | _ => none
def o_ifgt (t nx : Nat) : mO := fun l st S => match st with
  | .int x :: r => if 0 < x then some (.inl (t, l, r, S)) else some (.inl (nx, l, r, S))
  | _ => none
def o_ifle (t nx : Nat) : mO := fun l st S => match st with
  | .int x :: r => if x ≤ 0 then some (.inl (t, l, r, S)) else some (.inl (nx, l, r, S))
  | _ => none
def o_iceq (t nx : Nat) : mO := fun l st S => match st with
  | .int y :: .int x :: r => if x = y then some (.inl (t, l, r, S)) else some (.inl (nx, l, r, S))
  | _ => none
def o_icne (t nx : Nat) : mO := fun l st S => match st with
  | .int y :: .int x :: r => if x = y then some (.inl (nx, l, r, S)) else some (.inl (t, l, r, S))
  | _ => none
def o_iclt (t nx : Nat) : mO := fun l st S => match st with
  | .int y :: .int x :: r => if x < y then some (.inl (t, l, r, S)) else some (.inl (nx, l, r, S))
  | _ => none
def o_icge (t nx : Nat) : mO := fun l st S => match st with
  | .int y :: .int x :: r => if y ≤ x then some (.inl (t, l, r, S)) else some (.inl (nx, l, r, S))
  | _ => none
def o_icgt (t nx : Nat) : mO := fun l st S => match st with
  | .int y :: .int x :: r => if y < x then some (.inl (t, l, r, S)) else some (.inl (nx, l, r, S))
  | _ => none
def o_icle (t nx : Nat) : mO := fun l st S => match st with
  | .int y :: .int x :: r => if x ≤ y then some (.inl (t, l, r, S)) else some (.inl (nx, l, r, S))
  | _ => none
def o_sw (ps : List (Int32 × Nat)) (d : Nat) : mO := fun l st S => match st with
  | .int x :: r => msw x d (fun t => some (.inl (t, l, r, S))) ps
  | _ => none
def o_gi (ci k nx : Nat) : mO := fun l st S => match st with
  | .ref a :: r => match S with
    | (w, Sh, MI, ML) => mnth Sh a (fun t => match t with
      | (0, cj, rf) => cond (Nat.beq cj ci) (mnth rf k (fun q => match q with
        | none => some (.inl (nx, l, .int (MI a k) :: r, (w, Sh, MI, ML)))
        | some _ => none)) none
      | _ => none)
  | _ => none
def o_gr (ci k nx : Nat) : mO := fun l st S => match st with
  | .ref a :: r => match S with
    | (w, Sh, MI, ML) => mnth Sh a (fun t => match t with
      | (0, cj, rf) => cond (Nat.beq cj ci) (mnth rf k (fun q => match q with
        | some (some b) => some (.inl (nx, l, .ref b :: r, (w, Sh, MI, ML)))
        | _ => none)) none
      | _ => none)
  | _ => none
def o_pi (ci k nx : Nat) : mO := fun l st S => match st with
  | .int x :: .ref a :: r => match S with
    | (w, Sh, MI, ML) => mnth Sh a (fun t => match t with
      | (0, cj, rf) => cond (Nat.beq cj ci) (mnth rf k (fun q => match q with
        | none => some (.inl (nx, l, r, (w, Sh, mup MI a (mput (MI a) k x), ML)))
        | some _ => none)) none
      | _ => none)
  | _ => none
def o_pz (ci k nx : Nat) : mO := fun l st S => match st with
  | .int x :: .ref a :: r => match S with
    | (w, Sh, MI, ML) => mnth Sh a (fun t => match t with
      | (0, cj, rf) => cond (Nat.beq cj ci) (mnth rf k (fun q => match q with
        | none => if x = 0 ∨ x = 1 then some (.inl (nx, l, r, (w, Sh, mup MI a (mput (MI a) k x), ML))) else none
        | some _ => none)) none
      | _ => none)
  | _ => none
def o_pr (ci k nx : Nat) : mO := fun l st S => match st with
  | .ref b :: .ref a :: r => match S with
    | (w, Sh, MI, ML) => mnth Sh a (fun t => match t with
      | (0, cj, rf) => cond (Nat.beq cj ci) (mnth rf k (fun q => match q with
        | some _ => mrep rf k (some (some b)) (fun rf' => mrep Sh a (0, cj, rf') (fun Sh' => some (.inl (nx, l, r, (w, Sh', MI, ML)))))
        | none => none)) none
      | _ => none)
  | _ => none
def o_alen (nx : Nat) : mO := fun l st S => match st with
  | .ref a :: r => match S with
    | (w, Sh, MI, ML) => mnth Sh a (fun t => match t with
      | (0, _, _) => none
      | (_ + 1, n, _) => some (.inl (nx, l, .int (Int32.ofNat n) :: r, (w, Sh, MI, ML))))
  | _ => none
def o_ia (nx : Nat) : mO := fun l st S => match st with
  | .int i :: .ref a :: r => match S with
    | (w, Sh, MI, ML) => mnth Sh a (fun t => match t with
      | (1, n, _) => if i < 0 ∨ n ≤ i.toNatClampNeg then none else some (.inl (nx, l, .int (MI a i.toNatClampNeg) :: r, (w, Sh, MI, ML)))
      | _ => none)
  | _ => none
def o_za (nx : Nat) : mO := fun l st S => match st with
  | .int i :: .ref a :: r => match S with
    | (w, Sh, MI, ML) => mnth Sh a (fun t => match t with
      | (3, n, _) => if i < 0 ∨ n ≤ i.toNatClampNeg then none else some (.inl (nx, l, .int (MI a i.toNatClampNeg) :: r, (w, Sh, MI, ML)))
      | _ => none)
  | _ => none
def o_la (nx : Nat) : mO := fun l st S => match st with
  | .int i :: .ref a :: r => match S with
    | (w, Sh, MI, ML) => mnth Sh a (fun t => match t with
      | (2, n, _) => if i < 0 ∨ n ≤ i.toNatClampNeg then none else some (.inl (nx, l, .long (ML a i.toNatClampNeg) :: r, (w, Sh, MI, ML)))
      | _ => none)
  | _ => none
def o_iast (nx : Nat) : mO := fun l st S => match st with
  | .int x :: .int i :: .ref a :: r => match S with
    | (w, Sh, MI, ML) => mnth Sh a (fun t => match t with
      | (1, n, _) => if i < 0 ∨ n ≤ i.toNatClampNeg then none else some (.inl (nx, l, r, (w, Sh, mup MI a (mput (MI a) i.toNatClampNeg x), ML)))
      | _ => none)
  | _ => none
def o_zast (nx : Nat) : mO := fun l st S => match st with
  | .int x :: .int i :: .ref a :: r => match S with
    | (w, Sh, MI, ML) => mnth Sh a (fun t => match t with
      | (3, n, _) => if i < 0 ∨ n ≤ i.toNatClampNeg then none else some (.inl (nx, l, r, (w, Sh, mup MI a (mput (MI a) i.toNatClampNeg (x &&& 1)), ML)))
      | _ => none)
  | _ => none
def o_last (nx : Nat) : mO := fun l st S => match st with
  | .long x :: .int i :: .ref a :: r => match S with
    | (w, Sh, MI, ML) => mnth Sh a (fun t => match t with
      | (2, n, _) => if i < 0 ∨ n ≤ i.toNatClampNeg then none else some (.inl (nx, l, r, (w, Sh, MI, mup ML a (mput (ML a) i.toNatClampNeg x))))
      | _ => none)
  | _ => none
def mlits : List Nat := [0, 1, 2, 3, 4, 5, 6, 7, 8, 9, 10, 11, 12, 13, 14, 15, 16, 17, 18, 19, 20, 21, 22, 23, 24, 25, 26, 27, 28, 29, 30, 31, 32, 33, 34, 35, 36, 37, 38, 39, 40, 41, 42, 43, 44, 45, 46, 47, 48, 49, 50, 51, 52, 53, 54, 55, 56, 57, 58, 59, 60, 61, 62, 63, 64, 65, 66, 67, 68, 69, 70, 71, 72, 73, 74, 75, 76, 77, 78, 79, 80, 81, 82, 83, 84, 85, 86, 87, 88, 89, 90, 91, 92, 93, 94, 95, 96, 97, 98, 99, 100, 101, 102, 103, 104, 105, 106, 107, 108, 109, 110, 111, 112, 113, 114, 115, 116, 117, 118, 119]
def o_new (ci N : Nat) (rf : List (Option (Option Nat))) (nx : Nat) : mO := fun l st S => match S with
  | (w, Sh, MI, ML) => mnth mlits Sh.length (fun z => mapp Sh (0, ci, rf) (fun Sh' => some (.inl (nx, l, .ref z :: st, (w + N, Sh', mup MI z (fun _ => 0), ML)))))
def o_nwi (N nx : Nat) : mO := fun l st S => match st with
  | .int n :: r => match S with
    | (w, Sh, MI, ML) => if n = Int32.ofNat N then mnth mlits Sh.length (fun z => mapp Sh (1, N, []) (fun Sh' => some (.inl (nx, l, .ref z :: r, (w + N, Sh', mup MI z (fun _ => 0), ML))))) else none
  | _ => none
def o_nwz (N nx : Nat) : mO := fun l st S => match st with
  | .int n :: r => match S with
    | (w, Sh, MI, ML) => if n = Int32.ofNat N then mnth mlits Sh.length (fun z => mapp Sh (3, N, []) (fun Sh' => some (.inl (nx, l, .ref z :: r, (w + N, Sh', mup MI z (fun _ => 0), ML))))) else none
  | _ => none
def o_nwj (N nx : Nat) : mO := fun l st S => match st with
  | .int n :: r => match S with
    | (w, Sh, MI, ML) => if n = Int32.ofNat N then mnth mlits Sh.length (fun z => mapp Sh (2, N, []) (fun Sh' => some (.inl (nx, l, .ref z :: r, (w + N, Sh', MI, mup ML z (fun _ => 0)))))) else none
  | _ => none
def o_cpi (nx : Nat) : mO := fun l st S => match st with
  | .int n :: .int dp :: .ref b :: .int sp :: .ref a :: r => match S with
    | (w, Sh, MI, ML) => mnth Sh a (fun t => match t with
      | (1, n0, _) => mnth Sh b (fun u => match u with
        | (1, n1, _) => if sp < 0 ∨ dp < 0 ∨ n < 0 ∨ n0 < sp.toNatClampNeg + n.toNatClampNeg ∨ n1 < dp.toNatClampNeg + n.toNatClampNeg then none else cond (Nat.ble (mcat r) 8) (some (.inl (nx, l, r, (w, Sh, mup MI b (va_cpy (MI a) (MI b) sp.toNatClampNeg dp.toNatClampNeg n.toNatClampNeg), ML)))) none
        | _ => none)
      | _ => none)
  | _ => none
def o_cpj (nx : Nat) : mO := fun l st S => match st with
  | .int n :: .int dp :: .ref b :: .int sp :: .ref a :: r => match S with
    | (w, Sh, MI, ML) => mnth Sh a (fun t => match t with
      | (2, n0, _) => mnth Sh b (fun u => match u with
        | (2, n1, _) => if sp < 0 ∨ dp < 0 ∨ n < 0 ∨ n0 < sp.toNatClampNeg + n.toNatClampNeg ∨ n1 < dp.toNatClampNeg + n.toNatClampNeg then none else cond (Nat.ble (mcat r) 8) (some (.inl (nx, l, r, (w, Sh, MI, mup ML b (va_cpy (ML a) (ML b) sp.toNatClampNeg dp.toNatClampNeg n.toNatClampNeg))))) none
        | _ => none)
      | _ => none)
  | _ => none
def o_max (nx : Nat) : mO := fun l st S => match st with
  | .int y :: .int x :: r => cond (Nat.ble (mcat r) 8) (some (.inl (nx, l, .int (if x < y then y else x) :: r, S))) none
  | _ => none
def o_min (nx : Nat) : mO := fun l st S => match st with
  | .int y :: .int x :: r => cond (Nat.ble (mcat r) 8) (some (.inl (nx, l, .int (if y < x then y else x) :: r, S))) none
  | _ => none
def o_oi (nx : Nat) : mO := fun l st S => match st with
  | .ref _ :: r => cond (Nat.ble (mcat r) 8) (some (.inl (nx, l, r, S))) none
  | _ => none
/-- a special cell (no new one): the script 0, static tables 1 .., String constants 10 .. -/
def o_sp (j : UInt32) (nx : Nat) : mO := fun l st S => some (.inl (nx, l, .float j :: st, S))
def o_tl (j : UInt32) (N : Nat) (f : Nat → Int32) (nx : Nat) : mO := fun l st S => match st with
  | .int i :: .float q :: r => if q = j then (if i < 0 ∨ N ≤ i.toNatClampNeg then none else some (.inl (nx, l, .int (f i.toNatClampNeg) :: r, S))) else none
  | _ => none
def o_tlen (j : UInt32) (N : Nat) (nx : Nat) : mO := fun l st S => match st with
  | .float q :: r => if q = j then some (.inl (nx, l, .int (Int32.ofNat N) :: r, S)) else none
  | _ => none
def mstl : List Nat := [4, 4, 6, 4, 3, 4]
def mstb : List (List Int32) := [[104, 97, 116, 101], [108, 111, 118, 101], [104, 117, 110, 103, 101, 114], [119, 97, 110, 116], [100, 97, 121], [100, 111, 110, 101]]
def o_slen2 (nx : Nat) : mO := fun l st S => match st with
  | .float q :: r => cond (Nat.ble 10 q.toNat) (cond (Nat.ble (mcat r) 8) (mnth mstl (q.toNat - 10) (fun n => some (.inl (nx, l, .int (Int32.ofNat n) :: r, S)))) none) none
  | _ => none
def o_sat (nx : Nat) : mO := fun l st S => match st with
  | .int i :: .float q :: r => cond (Nat.ble 10 q.toNat) (cond (Nat.ble (mcat r) 8) (mnth mstb (q.toNat - 10) (fun bs => if i < 0 ∨ bs.length ≤ i.toNatClampNeg then none else some (.inl (nx, l, .int (bs.getD i.toNatClampNeg 0) :: r, S)))) none) none
  | _ => none
def o_cv (y n ci nx : Nat) : mO := fun l st S => mpop (n + 1) st [] (fun as r => match as with
  | .ref a :: _ => match S with
    | (w, Sh, MI, ML) => mnth Sh a (fun t => match t with
      | (0, cj, _) => cond (Nat.beq cj ci) (cond (Nat.ble (mcat r) 8) (some (.inr (.inr (y, as, (nx, l, r, (w, Sh, MI, ML)))))) none) none
      | _ => none)
  | _ => none)
def o_cs (y n nx : Nat) : mO := fun l st S => mpop n st [] (fun as r => cond (Nat.ble (mcat r) 8) (some (.inr (.inr (y, as, (nx, l, r, S))))) none)
def o_ci (y n nx : Nat) : mO := fun l st S => mpop (n + 1) st [] (fun as r => match as with
  | .ref _ :: _ => cond (Nat.ble (mcat r) 8) (some (.inr (.inr (y, as, (nx, l, r, S))))) none
  | _ => none)
def o_ri : mO := fun _ st S => match st with
  | [.int x] => some (.inr (.inl (some (.int x), S)))
  | _ => none
def o_rz : mO := fun _ st S => match st with
  | [.int x] => if x = 0 ∨ x = 1 then some (.inr (.inl (some (.int x), S))) else none
  | _ => none
def o_rl : mO := fun _ st S => match st with
  | [.long x] => some (.inr (.inl (some (.long x), S)))
  | _ => none
def o_rv : mO := fun _ st S => match st with
  | [] => some (.inr (.inl (none, S)))
  | _ => none
def o_raF : mO := fun _ st S => match st with
  | [.float j] => some (.inr (.inl (some (.float j), S)))
  | _ => none
def o_raR : mO := fun _ st S => match st with
  | [.ref a] => some (.inr (.inl (some (.ref a), S)))
  | _ => none
def o_no : mO := fun _ _ _ => none
/-- tables of code -/
def t_nd (k : Nat) (a b : Nat → mO) : Nat → mO := fun pc => cond (Nat.blt pc k) (a pc) (b pc)
def t_lf (k : Nat) (op : mO) : Nat → mO := fun pc => cond (Nat.beq pc k) op o_no

