section ST
variable {l : Launch} {G : mG} {own : String} {cc : ByteArray} {nL : Nat} {ret : Option FieldType} {nm : String} {pc nx : Nat}
theorem k_slen2 {ix : Nat} (hw : Cond.methodLink own ix yJ0_length_8abf5 ∈ mtbl) (hdg : decode cc pc = .ok (.invokevirtual ix, 3)) (hn : pc + 3 = nx) : mOk l G own cc nL ret nm pc (o_slen2 nx) := sorry
theorem k_sat {ix : Nat} (hw : Cond.methodLink own ix yJ0_charAt_5068e ∈ mtbl) (hdg : decode cc pc = .ok (.invokevirtual ix, 3)) (hn : pc + 3 = nx) : mOk l G own cc nL ret nm pc (o_sat nx) := sorry
end ST
