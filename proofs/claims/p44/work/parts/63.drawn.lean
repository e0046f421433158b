/-! drawn: pair -/
theorem ush {s : Nat} (hs : s < 32) (x : Int32) : ((x.toUInt32 >>> ((nI s).toUInt32 &&& Int32.toUInt32 31)).toInt32) = nI (x.toUInt32.toNat / 2 ^ s) := by
  apply b_ext
  intro i hi
  rw [b_ushr s hs x i]
  have e : bt x (s + i) = (x.toUInt32.toNat).testBit (s + i) := rfl
  have e2 : bt (nI (x.toUInt32.toNat / 2 ^ s)) i = (BitVec.ofNat 32 (x.toUInt32.toNat / 2 ^ s)).getLsbD i := rfl
  rw [e, e2, BitVec.getLsbD_ofNat, decide_eq_true hi, Bool.true_and, ← Nat.shiftRight_eq_div_pow, Nat.testBit_shiftRight]
def wH (n : Nat) (z : Int32) : Nat := (z.toUInt32.toNat / 2 ^ 8) % n
def bH (n : Nat) (z : Int32) : Nat := (wH n z + 1 + (z.toUInt32.toNat / 2 ^ 4) % (n - 1)) % n
theorem wb_ok {n : Nat} (z : Int32) (h : 2 ≤ n) : wH n z < n ∧ bH n z < n ∧ wH n z ≠ bH n z := by
  have h1 : wH n z < n := Nat.mod_lt _ (by omega)
  have h2 : bH n z < n := Nat.mod_lt _ (by omega)
  have h3 : (z.toUInt32.toNat / 2 ^ 4) % (n - 1) < n - 1 := Nat.mod_lt _ (by omega)
  refine ⟨h1, h2, ?_⟩
  unfold bH
  generalize (z.toUInt32.toNat / 2 ^ 4) % (n - 1) = r at *
  generalize wH n z = w at *
  rcases Nat.lt_or_ge (w + 1 + r) n with q | q
  · rw [Nat.mod_eq_of_lt q]; omega
  · rw [Nat.mod_eq_sub_mod q, Nat.mod_eq_of_lt (by omega)]; omega
def haF (n wr : Nat) (z : Int32) (f : Nat → Int32) : Nat → Int32 := if (z.toUInt32.toNat / 2 ^ 16) % 12 < wr ∧ 2 ≤ n then mput f (20 + wH n z * 8 + bH n z) (-5) else f
theorem haF_PB {n wr : Nat} {z : Int32} {f : Nat → Int32} (h8 : n ≤ 8) (hf : PB f) : PB (haF n wr z f) := by
  unfold haF
  split
  · next h =>
    have hw := wb_ok z h.2
    exact hf.put (by omega) ((okv_ft (by omega) (by omega) hw.2.2).mpr (by decide))
  · exact hf
def nxz (z : Int32) : Int32 := z * 1103515245 + nI 12345
def drD (La : mLaw) (n wr : Nat) (z : Int32) (f : Nat → Int32) (c : Int32) : Nat → Int32 × (Nat → Int32) × Int32
  | 0 => (z, f, c)
  | k + 1 => (nxz (drD La n wr z f c k).1, dyF La n (haF n wr (nxz (drD La n wr z f c k).1) (drD La n wr z f c k).2.1), (drD La n wr z f c k).2.2 + nI (dyL La n (haF n wr (nxz (drD La n wr z f c k).1) (drD La n wr z f c k).2.1)).length)
def huO (oo : Option Nat) (f : Nat → Int32) : Int32 := match oo with
  | none => nI 0
  | some o => f o
def drB (La : mLaw) (n wr m : Nat) (f : Nat → Int32) (oo : Option Nat) (z : Int32) : Nat → Int32 × Int32 × Int32
  | 0 => (z, nI 0, nI 0)
  | i + 1 => ((drD La n wr (drB La n wr m f oo z i).1 f (drB La n wr m f oo z i).2.2 m).1, (drB La n wr m f oo z i).2.1 + huO oo (drD La n wr (drB La n wr m f oo z i).1 f (drB La n wr m f oo z i).2.2 m).2.1, (drD La n wr (drB La n wr m f oo z i).1 f (drB La n wr m f oo z i).2.2 m).2.2)
def onO (n : Nat) (one : Int32) (oo : Option Nat) : Prop := (one = -1 ∧ oo = none) ∨ ∃ o, o < n ∧ one = nI o ∧ oo = some o
section T63
variable {n : Nat} {La : mLaw} {f : Nat → Int32} {MI : mI} {ML : mJ}
theorem uz (z : Int32) : z.toUInt32.toNat < 4294967296 := z.toUInt32.toNat_lt
end T63
