/-! running: bodies by tables of code, methods by number -/
def mps (v : Option Value) (st : mK) : mK := match v with
  | some x => x :: st
  | none => st
theorem mps_eq (v : Option Value) (st : mK) : mps v st = v.toList ++ st := by cases v <;> rfl
/-- locals forgotten -/
def lle : mL → mL → Prop
  | [], [] => True
  | a :: s, b :: t => (a = none ∨ a = b) ∧ lle s t
  | _, _ => False
theorem lle_rfl : ∀ l : mL, lle l l
  | [] => True.intro
  | a :: t => ⟨Or.inr rfl, lle_rfl t⟩
theorem lle_trans : ∀ {a b c : mL}, lle a b → lle b c → lle a c
  | [], [], [], _, _ => True.intro
  | x :: a, y :: b, z :: c, h1, h2 => ⟨by
      rcases h1.1 with q | q
      · exact Or.inl q
      · rw [q]; exact h2.1, lle_trans h1.2 h2.2⟩
  | [], _ :: _, _, h, _ => h.elim
  | _ :: _, [], _, h, _ => h.elim
  | [], [], _ :: _, _, h => h.elim
  | _ :: _, _ :: _, [], _, h => h.elim
theorem lle_len : ∀ {a b : mL}, lle a b → a.length = b.length
  | [], [], _ => rfl
  | _ :: s, _ :: t, h => congrArg Nat.succ (lle_len h.2)
  | [], _ :: _, h => h.elim
  | _ :: _, [], h => h.elim
theorem lle_get : ∀ {a b : mL}, lle a b → ∀ (i : Nat) (v : Value), a[i]? = some (some v) → b[i]? = some (some v)
  | [], [], _, i, v, h => by cases h
  | x :: s, y :: t, h, 0, v, hv => by
    have hv : x = some v := by simpa using hv
    subst hv
    rcases h.1 with q | q
    · cases q
    · simp [← q]
  | x :: s, y :: t, h, i + 1, v, hv => by simpa using lle_get h.2 i v (by simpa using hv)
  | [], _ :: _, h, _, _, _ => h.elim
  | _ :: _, [], h, _, _, _ => h.elim
theorem mWt_le {l : Launch} {G : mG} {nL n0 w0 : Nat} {p : Program} {e : Env} {R : Room} {s : State} {m : MethodId} {args : Array Value} {below : List Frame} {meth : Method} {c : Code} {Q : State → Prop} {pc : Nat} {L L' : mL} {st : mK} {S : mS} (h : lle L' L) (k : mWt l G nL n0 w0 p e R s m args below meth c Q pc L' st S) : mWt l G nL n0 w0 p e R s m args below meth c Q pc L st S :=
  fun H locs ls cells slots h1 h2 hP hS hL => k H locs ls cells slots h1 h2 hP hS ⟨(lle_len h).trans hL.1, hL.2.1, hL.2.2.1, fun i v hv => hL.2.2.2 i v (lle_get h i v hv)⟩
def mex (T : Nat → mO) (C : Nat → List Value → mS → Option Value → mS → Prop) (Q : Option Value → mS → Prop) : Nat → mF → Prop
  | 0, _ => False
  | N + 1, f => ∃ L : mL, lle L f.2.1 ∧ match T f.1 L f.2.2.1 f.2.2.2 with
    | none => False
    | some (.inl g) => mex T C Q N g
    | some (.inr (.inl r)) => Q r.1 r.2
    | some (.inr (.inr q)) => ∃ (v : Option Value) (S2 : mS), C q.1 q.2.1 q.2.2.2.2.2 v S2 ∧ mex T C Q N (q.2.2.1, q.2.2.2.1, mps v q.2.2.2.2.1, S2)
def mrnT (Tb : Nat → Nat → mO) : Nat → Nat → List Value → mS → Option Value → mS → Prop
  | 0 => fun _ _ _ _ _ => False
  | D + 1 => fun y as S v S' => S.2.1.length ≤ S'.2.1.length ∧ S.1 ≤ S'.1 ∧ ∃ N n : Nat, (men as n).length = (mM y).2.2.1 ∧ mex (Tb y) (mrnT Tb D) (fun v2 S2 => v2 = v ∧ S2 = S') N (0, men as n, [], S)
def mrn : Nat → Nat → List Value → mS → Option Value → mS → Prop := mrnT mTb
def mrnS (L : Nat) (xs : Nat → Int32) : Nat → Nat → List Value → mS → Option Value → mS → Prop := mrnT (mTbS L xs)
theorem m_sim {l : Launch} {G : mG} {own : String} {cc : ByteArray} {nL : Nat} {ret : Option FieldType} {nm : String} {T : Nat → mO} (hs : mSn l G own cc nL ret nm T) {C : Nat → List Value → mS → Option Value → mS → Prop} {D : Nat} (hct : ∀ y as S v S2, C y as S v S2 → mCt l G D y as S v S2 ∧ S.2.1.length ≤ S2.2.1.length ∧ S.1 ≤ S2.1)
    {p : Program} {e : Env} {R : Room} {s : State} {m : MethodId} {args : Array Value} {below : List Frame} {meth : Method} {c : Code} {n0 w0 : Nat} {Q : State → Prop} (hC : mCx G own cc nL ret nm D p R s m args meth c n0) {v1 : Option Value} {S1 : mS}
    (hret : ∀ pc L st, mRt G cc ret pc st v1 → mWt l G nL n0 w0 p e R s m args below meth c Q pc L st S1) :
    ∀ (N pc : Nat) (L : mL) (st : mK) (S : mS), mex T C (fun v S' => v = v1 ∧ S' = S1) N (pc, L, st, S) → S.2.1.length ≤ S1.2.1.length ∧ S.1 ≤ S1.1 ∧ (S1.2.1.length ≤ n0 + R.cells → S1.1 ≤ w0 + R.slots → mWt l G nL n0 w0 p e R s m args below meth c Q pc L st S)
  | 0, pc, L, st, S, h => by cases h
  | N + 1, pc, L, st, S, h => by
    unfold mex at h
    dsimp only at h
    obtain ⟨L9, hl9, h⟩ := h
    cases hT : T pc L9 st S with
    | none => rw [hT] at h; cases h
    | some r =>
      rw [hT] at h
      have hk := hs pc D p e R s m args below meth c n0 w0 Q hC L9 st S r hT
      match r, h, hk with
      | .inl (pc', L', st', S'), h, hk =>
        obtain ⟨k1, k2, k3⟩ := hk
        obtain ⟨i1, i2, i3⟩ := m_sim hs hct hC hret N pc' L' st' S' h
        exact ⟨Nat.le_trans k1 i1, Nat.le_trans k2 i2, fun a b => mWt_le hl9 (k3 (Nat.le_trans i1 a) (Nat.le_trans i2 b) (i3 a b))⟩
      | .inr (.inl (v, S')), h, hk =>
        obtain ⟨k1, k2⟩ := hk
        obtain ⟨h1, h2⟩ := h
        dsimp only at h1 h2
        subst k1
        subst h1
        subst h2
        exact ⟨Nat.le_refl _, Nat.le_refl _, fun _ _ => mWt_le hl9 (hret pc L9 st k2)⟩
      | .inr (.inr (y, as, (pc', L', st', S'))), h, hk =>
        obtain ⟨k1, k2⟩ := hk
        obtain ⟨v, S2, h1, h2⟩ := h
        dsimp only at h1 h2
        subst k1
        obtain ⟨c1, c2, c3⟩ := hct _ _ _ _ _ h1
        obtain ⟨i1, i2, i3⟩ := m_sim hs hct hC hret N pc' L' _ S2 h2
        refine ⟨Nat.le_trans c2 i1, Nat.le_trans c3 i2, fun a b => mWt_le hl9 (k2 v S2 c1 c2 c3 (Nat.le_trans i1 a) (Nat.le_trans i2 b) ?_)⟩
        rw [← mps_eq]
        exact i3 a b
theorem m_met {l : Launch} {G : mG} {Tb : Nat → Nat → mO} (hs : ∀ y, mSn l G (mM y).1.cls (mM y).2.1 (mM y).2.2.1 (mM y).2.2.2 (mM y).1.name (Tb y)) (hp : ∀ y, plainName (mM y).1.cls = true) : ∀ (D y : Nat) (as : List Value) (S : mS) (v : Option Value) (S' : mS), mrnT Tb D y as S v S' → mCt l G D y as S v S' ∧ S.2.1.length ≤ S'.2.1.length ∧ S.1 ≤ S'.1
  | 0, y, as, S, v, S', h => by cases h
  | D + 1, y, as, S, v, S', h => by
    obtain ⟨h1, h2, N, n, h3, h4⟩ := h
    refine ⟨?_, h1, h2⟩
    unfold mCt
    refine Met.ofW (cc := (mM y).2.1) (maxL := (mM y).2.2.1) (ret := (mM y).2.2.2) (hp y) rfl ?_
    intro p e s m args below meth c s₁ B hml hv
    obtain ⟨rfl, hW⟩ := hv
    have hts := atoms_spec (ws := .code (mM y).1 (mM y).2.1 (mM y).2.2.1 (mM y).2.2.2 :: mtbl) B.pre
    have hlocks := B.notSynchronized
    have hC : mCx G (mM y).1.cls (mM y).2.1 (mM y).2.2.1 (mM y).2.2.2 (mM y).1.name D p (mRm (D + 1) (S'.2.1.length - S.2.1.length) (S'.1 - S.1)) s m (as.map (mtr G)).toArray meth c S.2.1.length :=
      ⟨B.exec, B.bytes, hml, B.returns, (name_of_methodNamed B.named B.method).1, findClass_of_methodNamed B.named, fun w hw => hts w (List.mem_cons_of_mem _ hw), hW.2.2.1, hW.2.2.2, hW.1, Nat.le_refl _, Nat.le_refl _⟩
    rw [lg_entry_eq]
    refine (m_sim (hs y) (fun y as S v S2 h => m_met hs hp D y as S v S2 h) (e := e) (below := below) (w0 := S.1) (Q := MQ below _ _ s (S'.2.1.length - S.2.1.length) (S'.1 - S.1) (mA G)) hC (v1 := v) (S1 := S') ?_ N 0 (men as n) [] S h4).2.2 (by show _ ≤ _ + (_ - _); omega) (by show _ ≤ _ + (_ - _); omega) s.heap [] _ 0 0 (by omega) (by omega) hW.2.1 va_S.rf (mlo_entry h3)
    intro pc L st hr H locs ls cells slots e1 e2 hP hS hL
    have ec : S'.2.1.length - S.2.1.length = cells := by omega
    have es : S'.1 - S.1 = slots := by omega
    rw [ec, es]
    rcases hr with ⟨x, ty, rfl, rfl, hr, hn, hd⟩ | ⟨rfl, rfl, hr, hd⟩ | ⟨x, rfl, rfl, hr, hd⟩ | ⟨j, n9, rfl, rfl, hr, hd⟩ | ⟨j, rfl, rfl, hr, hd⟩
    · exact W.zret hC.1 hC.2.1 (B.returns.trans hr) hn (fun t ht hW => ⟨⟨rfl, by rw [ht]; exact hP⟩, hS.F ht⟩) hS.2.2 hd hlocks
    · exact W.vret hC.1 hC.2.1 (B.returns.trans hr) (fun t ht hW => ⟨⟨rfl, by rw [ht]; exact hP⟩, hS.F ht⟩) hS.2.2 hd hlocks
    · exact W.lret hC.1 hC.2.1 (B.returns.trans hr) (fun t ht hW => ⟨⟨rfl, by rw [ht]; exact hP⟩, hS.F ht⟩) hS.2.2 hd hlocks
    · exact W.aret hC.1 hC.2.1 (B.returns.trans hr) (Or.inl ⟨n9, rfl⟩) (Or.inr ⟨_, rfl⟩) (fun t ht hW => ⟨⟨rfl, by rw [ht]; exact hP⟩, hS.F ht⟩) hS.2.2 hd hlocks
    · exact W.aret hC.1 hC.2.1 (B.returns.trans hr) (Or.inr ⟨_, rfl⟩) (Or.inr ⟨_, rfl⟩) (fun t ht hW => ⟨⟨rfl, by rw [ht]; exact hP⟩, hS.F ht⟩) hS.2.2 hd hlocks
