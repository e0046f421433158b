/-! soundness of a table of code -/
def mSn (l : Launch) (G : mG) (own : String) (cc : ByteArray) (nL : Nat) (ret : Option FieldType) (nm : String) (T : Nat → mO) : Prop := ∀ pc, mOk l G own cc nL ret nm pc (T pc)
section SN
variable {l : Launch} {G : mG} {own : String} {cc : ByteArray} {nL : Nat} {ret : Option FieldType} {nm : String} {pc nx : Nat}
theorem s_nd {k : Nat} {a b : Nat → mO} (ha : mSn l G own cc nL ret nm a) (hb : mSn l G own cc nL ret nm b) : mSn l G own cc nL ret nm (t_nd k a b) := fun pc => by
  unfold t_nd
  cases Nat.blt pc k
  · exact hb pc
  · exact ha pc
theorem s_lf {k : Nat} {op : mO} (h : mOk l G own cc nL ret nm k op) : mSn l G own cc nL ret nm (t_lf k op) := fun pc => by
  unfold t_lf
  cases hb : Nat.beq pc k
  · exact k_no
  · have := Nat.eq_of_beq_eq_true hb
    subst this
    exact h
theorem mSF_z1 {s : State} (h : mSF G s) : va_Z "ScalesByHate$Bazaar" "MOST_OF" "[I" (.ref (G.1.2 1)) (mA G) s s.heap := h.2.1.1
theorem mSF_t1 {s : State} (h : mSF G s) : va_T .int (G.1.2 1) 6 (fun j => .int (mtab1 j)) (mA G) s s.heap := h.2.1.2
theorem k_spT {ix jn : Nat} {j : UInt32} (hj : j.toNat = 10 + jn) (hix : (mstx jn).1 = ix) (hjn : jn < 6) (hdg : decode cc pc = .ok (.ldc ix, 2)) (hn : pc + 2 = nx) : mOk l G RX4 cc nL ret nm pc (o_sp j nx) := by
  intro D p e R s m args below meth c n0 w0 Q hC L st S r hr
  cases hr
  subst hn
  subst hix
  refine And.intro (Nat.le_refl _) (And.intro (Nat.le_refl _) (fun a1 a2 kk => ?_)); intro H locs ls cells slots h1 h2 hP hS hL
  have h := hC.sf.2.2.2.2.1 jn hjn
  have kk := kk H locs ls cells slots h1 h2 hP hS hL
  rw [List.map_cons, show mtr G (.float j) = .ref (G.1.2 (10 + jn)) by simp only [mtr, hj]] at kk
  exact va_ldcS hC.1 hC.2.1 hC.ow h hdg kk
end SN
