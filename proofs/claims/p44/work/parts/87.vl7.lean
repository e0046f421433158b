/-! the law's bodies by blocks -/
def VL_law_8 (C : mC) (Q : Option Value → mS → Prop) (L : Nat) (xs : Nat → Int32) (a1 : Nat) (w : Nat) (Sh : List mT) (MI : mI) (ML : mJ) : Prop := mEx C (TL_law L xs) Q (8, [some (.float 0), some (.ref a1), none, none, none, none, none, none, none, none, none, none, none, none, none, none, none, none, none, none, none, none, none, none], [], (w, Sh, MI, ML))
def VL_law_47 (C : mC) (Q : Option Value → mS → Prop) (L : Nat) (xs : Nat → Int32) (a1 : Nat) (a2 : Nat) (a3 : Nat) (a4 : Nat) (a5 : Nat) (w : Nat) (Sh : List mT) (MI : mI) (ML : mJ) : Prop := mEx C (TL_law L xs) Q (47, [some (.float 0), some (.ref a1), some (.ref a2), some (.ref a3), some (.ref a4), some (.ref a5), none, none, none, none, none, none, none, none, none, none, none, none, none, none, none, none, none, none], [], (w, Sh, MI, ML))
def VL_law_62 (C : mC) (Q : Option Value → mS → Prop) (L : Nat) (xs : Nat → Int32) (a1 : Nat) (a2 : Nat) (a3 : Nat) (a4 : Nat) (a5 : Nat) (a6 : Nat) (a7 : Nat) (v8 : Int32) (w : Nat) (Sh : List mT) (MI : mI) (ML : mJ) : Prop := mEx C (TL_law L xs) Q (62, [some (.float 0), some (.ref a1), some (.ref a2), some (.ref a3), some (.ref a4), some (.ref a5), some (.ref a6), some (.ref a7), some (.int v8), none, none, none, none, none, none, none, none, none, none, none, none, none, none, none], [], (w, Sh, MI, ML))
def VL_law_103 (C : mC) (Q : Option Value → mS → Prop) (L : Nat) (xs : Nat → Int32) (a1 : Nat) (a2 : Nat) (a3 : Nat) (a4 : Nat) (a5 : Nat) (a6 : Nat) (a7 : Nat) (v8 : Int32) (v9 : Int32) (a10 : Nat) (a11 : Nat) (a12 : Nat) (w : Nat) (Sh : List mT) (MI : mI) (ML : mJ) : Prop := mEx C (TL_law L xs) Q (103, [some (.float 0), some (.ref a1), some (.ref a2), some (.ref a3), some (.ref a4), some (.ref a5), some (.ref a6), some (.ref a7), some (.int v8), some (.int v9), some (.ref a10), some (.ref a11), some (.ref a12), none, none, none, none, none, none, none, none, none, none, none], [], (w, Sh, MI, ML))
def VL_law_120 (C : mC) (Q : Option Value → mS → Prop) (L : Nat) (xs : Nat → Int32) (a1 : Nat) (a2 : Nat) (a3 : Nat) (a4 : Nat) (a5 : Nat) (a6 : Nat) (a7 : Nat) (v8 : Int32) (v9 : Int32) (a10 : Nat) (a11 : Nat) (a12 : Nat) (a13 : Nat) (v14 : Int32) (v15 : Int32) (v16 : Int32) (w : Nat) (Sh : List mT) (MI : mI) (ML : mJ) : Prop := mEx C (TL_law L xs) Q (120, [some (.float 0), some (.ref a1), some (.ref a2), some (.ref a3), some (.ref a4), some (.ref a5), some (.ref a6), some (.ref a7), some (.int v8), some (.int v9), some (.ref a10), some (.ref a11), some (.ref a12), some (.ref a13), some (.int v14), some (.int v15), some (.int v16), none, none, none, none, none, none, none], [], (w, Sh, MI, ML))
def VL_law_151 (C : mC) (Q : Option Value → mS → Prop) (L : Nat) (xs : Nat → Int32) (a1 : Nat) (a2 : Nat) (a3 : Nat) (a4 : Nat) (a5 : Nat) (a6 : Nat) (a7 : Nat) (v8 : Int32) (v9 : Int32) (a10 : Nat) (a11 : Nat) (a12 : Nat) (a13 : Nat) (v14 : Int32) (v15 : Int32) (v16 : Int32) (v17 : Int32) (w : Nat) (Sh : List mT) (MI : mI) (ML : mJ) : Prop := mEx C (TL_law L xs) Q (151, [some (.float 0), some (.ref a1), some (.ref a2), some (.ref a3), some (.ref a4), some (.ref a5), some (.ref a6), some (.ref a7), some (.int v8), some (.int v9), some (.ref a10), some (.ref a11), some (.ref a12), some (.ref a13), some (.int v14), some (.int v15), some (.int v16), some (.int v17), none, none, none, none, none, none], [], (w, Sh, MI, ML))
def VL_law_182 (C : mC) (Q : Option Value → mS → Prop) (L : Nat) (xs : Nat → Int32) (a1 : Nat) (a2 : Nat) (a3 : Nat) (a4 : Nat) (a5 : Nat) (a6 : Nat) (a7 : Nat) (v8 : Int32) (v9 : Int32) (a10 : Nat) (a11 : Nat) (a12 : Nat) (a13 : Nat) (v14 : Int32) (v15 : Int32) (v16 : Int32) (v17 : Int32) (v18 : Int32) (w : Nat) (Sh : List mT) (MI : mI) (ML : mJ) : Prop := mEx C (TL_law L xs) Q (182, [some (.float 0), some (.ref a1), some (.ref a2), some (.ref a3), some (.ref a4), some (.ref a5), some (.ref a6), some (.ref a7), some (.int v8), some (.int v9), some (.ref a10), some (.ref a11), some (.ref a12), some (.ref a13), some (.int v14), some (.int v15), some (.int v16), some (.int v17), some (.int v18), none, none, none, none, none], [], (w, Sh, MI, ML))
def VL_law_242 (C : mC) (Q : Option Value → mS → Prop) (L : Nat) (xs : Nat → Int32) (a1 : Nat) (a2 : Nat) (a3 : Nat) (a4 : Nat) (a5 : Nat) (a6 : Nat) (a7 : Nat) (v8 : Int32) (v9 : Int32) (a10 : Nat) (a11 : Nat) (a12 : Nat) (a13 : Nat) (v14 : Int32) (v15 : Int32) (v16 : Int32) (w : Nat) (Sh : List mT) (MI : mI) (ML : mJ) : Prop := mEx C (TL_law L xs) Q (242, [some (.float 0), some (.ref a1), some (.ref a2), some (.ref a3), some (.ref a4), some (.ref a5), some (.ref a6), some (.ref a7), some (.int v8), some (.int v9), some (.ref a10), some (.ref a11), some (.ref a12), some (.ref a13), some (.int v14), some (.int v15), some (.int v16), none, none, none, none, none, none, none], [], (w, Sh, MI, ML))
def VL_law_263 (C : mC) (Q : Option Value → mS → Prop) (L : Nat) (xs : Nat → Int32) (a1 : Nat) (a2 : Nat) (a3 : Nat) (a4 : Nat) (a5 : Nat) (a6 : Nat) (a7 : Nat) (v8 : Int32) (v9 : Int32) (a10 : Nat) (a11 : Nat) (a12 : Nat) (a13 : Nat) (v14 : Int32) (v15 : Int32) (v16 : Int32) (v17 : Int32) (w : Nat) (Sh : List mT) (MI : mI) (ML : mJ) : Prop := mEx C (TL_law L xs) Q (263, [some (.float 0), some (.ref a1), some (.ref a2), some (.ref a3), some (.ref a4), some (.ref a5), some (.ref a6), some (.ref a7), some (.int v8), some (.int v9), some (.ref a10), some (.ref a11), some (.ref a12), some (.ref a13), some (.int v14), some (.int v15), some (.int v16), some (.int v17), none, none, none, none, none, none], [], (w, Sh, MI, ML))
def VL_law_292 (C : mC) (Q : Option Value → mS → Prop) (L : Nat) (xs : Nat → Int32) (a1 : Nat) (a2 : Nat) (a3 : Nat) (a4 : Nat) (a5 : Nat) (a6 : Nat) (a7 : Nat) (v8 : Int32) (v9 : Int32) (a10 : Nat) (a11 : Nat) (a12 : Nat) (a13 : Nat) (v14 : Int32) (v15 : Int32) (v16 : Int32) (v17 : Int32) (w : Nat) (Sh : List mT) (MI : mI) (ML : mJ) : Prop := mEx C (TL_law L xs) Q (292, [some (.float 0), some (.ref a1), some (.ref a2), some (.ref a3), some (.ref a4), some (.ref a5), some (.ref a6), some (.ref a7), some (.int v8), some (.int v9), some (.ref a10), some (.ref a11), some (.ref a12), some (.ref a13), some (.int v14), some (.int v15), some (.int v16), some (.int v17), none, none, none, none, none, none], [], (w, Sh, MI, ML))
def VL_law_319 (C : mC) (Q : Option Value → mS → Prop) (L : Nat) (xs : Nat → Int32) (a1 : Nat) (a2 : Nat) (a3 : Nat) (a4 : Nat) (a5 : Nat) (a6 : Nat) (a7 : Nat) (v8 : Int32) (a13 : Nat) (v15 : Int32) (w : Nat) (Sh : List mT) (MI : mI) (ML : mJ) : Prop := mEx C (TL_law L xs) Q (319, [some (.float 0), some (.ref a1), some (.ref a2), some (.ref a3), some (.ref a4), some (.ref a5), some (.ref a6), some (.ref a7), some (.int v8), none, none, none, none, some (.ref a13), none, some (.int v15), none, none, none, none, none, none, none, none], [], (w, Sh, MI, ML))
def VL_law_366 (C : mC) (Q : Option Value → mS → Prop) (L : Nat) (xs : Nat → Int32) (a1 : Nat) (a2 : Nat) (a3 : Nat) (a4 : Nat) (a5 : Nat) (a6 : Nat) (a7 : Nat) (v8 : Int32) (a13 : Nat) (w : Nat) (Sh : List mT) (MI : mI) (ML : mJ) : Prop := mEx C (TL_law L xs) Q (366, [some (.float 0), some (.ref a1), some (.ref a2), some (.ref a3), some (.ref a4), some (.ref a5), some (.ref a6), some (.ref a7), some (.int v8), none, none, none, none, some (.ref a13), none, none, none, none, none, none, none, none, none, none], [], (w, Sh, MI, ML))
def VL_law_369 (C : mC) (Q : Option Value → mS → Prop) (L : Nat) (xs : Nat → Int32) (a1 : Nat) (a2 : Nat) (a3 : Nat) (a4 : Nat) (a5 : Nat) (a6 : Nat) (a7 : Nat) (v8 : Int32) (a13 : Nat) (v16 : Int32) (w : Nat) (Sh : List mT) (MI : mI) (ML : mJ) : Prop := mEx C (TL_law L xs) Q (369, [some (.float 0), some (.ref a1), some (.ref a2), some (.ref a3), some (.ref a4), some (.ref a5), some (.ref a6), some (.ref a7), some (.int v8), none, none, none, none, some (.ref a13), none, none, some (.int v16), none, none, none, none, none, none, none], [], (w, Sh, MI, ML))
def VL_law_399 (C : mC) (Q : Option Value → mS → Prop) (L : Nat) (xs : Nat → Int32) (a1 : Nat) (a2 : Nat) (a3 : Nat) (a4 : Nat) (a5 : Nat) (a6 : Nat) (a7 : Nat) (v8 : Int32) (w : Nat) (Sh : List mT) (MI : mI) (ML : mJ) : Prop := mEx C (TL_law L xs) Q (399, [some (.float 0), some (.ref a1), some (.ref a2), some (.ref a3), some (.ref a4), some (.ref a5), some (.ref a6), some (.ref a7), some (.int v8), none, none, none, none, none, none, none, none, none, none, none, none, none, none, none], [], (w, Sh, MI, ML))
def VL_law_402 (C : mC) (Q : Option Value → mS → Prop) (L : Nat) (xs : Nat → Int32) (a1 : Nat) (a2 : Nat) (a3 : Nat) (a4 : Nat) (a5 : Nat) (a6 : Nat) (a7 : Nat) (v8 : Int32) (v16 : Int32) (w : Nat) (Sh : List mT) (MI : mI) (ML : mJ) : Prop := mEx C (TL_law L xs) Q (402, [some (.float 0), some (.ref a1), some (.ref a2), some (.ref a3), some (.ref a4), some (.ref a5), some (.ref a6), some (.ref a7), some (.int v8), none, none, none, none, none, none, none, some (.int v16), none, none, none, none, none, none, none], [], (w, Sh, MI, ML))
def VL_law_453 (C : mC) (Q : Option Value → mS → Prop) (L : Nat) (xs : Nat → Int32) (a1 : Nat) (a2 : Nat) (a3 : Nat) (a4 : Nat) (a5 : Nat) (a6 : Nat) (a7 : Nat) (v8 : Int32) (v16 : Int32) (v17 : Int32) (v18 : Int32) (s0 : Int32) (w : Nat) (Sh : List mT) (MI : mI) (ML : mJ) : Prop := mEx C (TL_law L xs) Q (453, [some (.float 0), some (.ref a1), some (.ref a2), some (.ref a3), some (.ref a4), some (.ref a5), some (.ref a6), some (.ref a7), some (.int v8), none, none, none, none, none, none, none, some (.int v16), some (.int v17), some (.int v18), none, none, none, none, none], [.int s0], (w, Sh, MI, ML))
def VL_law_486 (C : mC) (Q : Option Value → mS → Prop) (L : Nat) (xs : Nat → Int32) (a1 : Nat) (a2 : Nat) (a3 : Nat) (a4 : Nat) (a5 : Nat) (a6 : Nat) (a7 : Nat) (v8 : Int32) (v16 : Int32) (v17 : Int32) (v18 : Int32) (v19 : Int32) (s0 : Int32) (w : Nat) (Sh : List mT) (MI : mI) (ML : mJ) : Prop := mEx C (TL_law L xs) Q (486, [some (.float 0), some (.ref a1), some (.ref a2), some (.ref a3), some (.ref a4), some (.ref a5), some (.ref a6), some (.ref a7), some (.int v8), none, none, none, none, none, none, none, some (.int v16), some (.int v17), some (.int v18), some (.int v19), none, none, none, none], [.int s0], (w, Sh, MI, ML))
def VL_law_501 (C : mC) (Q : Option Value → mS → Prop) (L : Nat) (xs : Nat → Int32) (a1 : Nat) (a2 : Nat) (a3 : Nat) (a4 : Nat) (a5 : Nat) (a6 : Nat) (a7 : Nat) (v8 : Int32) (v16 : Int32) (w : Nat) (Sh : List mT) (MI : mI) (ML : mJ) : Prop := mEx C (TL_law L xs) Q (501, [some (.float 0), some (.ref a1), some (.ref a2), some (.ref a3), some (.ref a4), some (.ref a5), some (.ref a6), some (.ref a7), some (.int v8), none, none, none, none, none, none, none, some (.int v16), none, none, none, none, none, none, none], [], (w, Sh, MI, ML))
def VL_law_514 (C : mC) (Q : Option Value → mS → Prop) (L : Nat) (xs : Nat → Int32) (a1 : Nat) (a2 : Nat) (a3 : Nat) (a4 : Nat) (a5 : Nat) (a6 : Nat) (a7 : Nat) (v8 : Int32) (v16 : Int32) (v21 : Int32) (w : Nat) (Sh : List mT) (MI : mI) (ML : mJ) : Prop := mEx C (TL_law L xs) Q (514, [some (.float 0), some (.ref a1), some (.ref a2), some (.ref a3), some (.ref a4), some (.ref a5), some (.ref a6), some (.ref a7), some (.int v8), none, none, none, none, none, none, none, some (.int v16), none, none, none, none, some (.int v21), none, none], [], (w, Sh, MI, ML))
def VL_law_544 (C : mC) (Q : Option Value → mS → Prop) (L : Nat) (xs : Nat → Int32) (a1 : Nat) (a2 : Nat) (a3 : Nat) (a4 : Nat) (a5 : Nat) (a6 : Nat) (a7 : Nat) (v8 : Int32) (v16 : Int32) (v21 : Int32) (w : Nat) (Sh : List mT) (MI : mI) (ML : mJ) : Prop := mEx C (TL_law L xs) Q (544, [some (.float 0), some (.ref a1), some (.ref a2), some (.ref a3), some (.ref a4), some (.ref a5), some (.ref a6), some (.ref a7), some (.int v8), none, none, none, none, none, none, none, some (.int v16), none, none, none, none, some (.int v21), none, none], [], (w, Sh, MI, ML))
def VL_law_602 (C : mC) (Q : Option Value → mS → Prop) (L : Nat) (xs : Nat → Int32) (a1 : Nat) (a2 : Nat) (a3 : Nat) (a4 : Nat) (a5 : Nat) (a6 : Nat) (a7 : Nat) (v8 : Int32) (v16 : Int32) (v17 : Int32) (v19 : Int32) (v20 : Int32) (w : Nat) (Sh : List mT) (MI : mI) (ML : mJ) : Prop := mEx C (TL_law L xs) Q (602, [some (.float 0), some (.ref a1), some (.ref a2), some (.ref a3), some (.ref a4), some (.ref a5), some (.ref a6), some (.ref a7), some (.int v8), none, none, none, none, none, none, none, some (.int v16), some (.int v17), none, some (.int v19), some (.int v20), none, none, none], [], (w, Sh, MI, ML))
def VL_law_663 (C : mC) (Q : Option Value → mS → Prop) (L : Nat) (xs : Nat → Int32) (a1 : Nat) (a2 : Nat) (a3 : Nat) (a4 : Nat) (a5 : Nat) (a6 : Nat) (a7 : Nat) (v8 : Int32) (v16 : Int32) (v19 : Int32) (v20 : Int32) (v21 : Int32) (w : Nat) (Sh : List mT) (MI : mI) (ML : mJ) : Prop := mEx C (TL_law L xs) Q (663, [some (.float 0), some (.ref a1), some (.ref a2), some (.ref a3), some (.ref a4), some (.ref a5), some (.ref a6), some (.ref a7), some (.int v8), none, none, none, none, none, none, none, some (.int v16), none, none, some (.int v19), some (.int v20), some (.int v21), none, none], [], (w, Sh, MI, ML))
def VL_law_671 (C : mC) (Q : Option Value → mS → Prop) (L : Nat) (xs : Nat → Int32) (a1 : Nat) (a2 : Nat) (a3 : Nat) (a4 : Nat) (a5 : Nat) (a6 : Nat) (a7 : Nat) (v8 : Int32) (v16 : Int32) (v19 : Int32) (v20 : Int32) (v21 : Int32) (w : Nat) (Sh : List mT) (MI : mI) (ML : mJ) : Prop := mEx C (TL_law L xs) Q (671, [some (.float 0), some (.ref a1), some (.ref a2), some (.ref a3), some (.ref a4), some (.ref a5), some (.ref a6), some (.ref a7), some (.int v8), none, none, none, none, none, none, none, some (.int v16), none, none, some (.int v19), some (.int v20), some (.int v21), none, none], [], (w, Sh, MI, ML))
def VL_law_707 (C : mC) (Q : Option Value → mS → Prop) (L : Nat) (xs : Nat → Int32) (a1 : Nat) (a2 : Nat) (a3 : Nat) (a4 : Nat) (a5 : Nat) (a6 : Nat) (a7 : Nat) (v8 : Int32) (v16 : Int32) (v17 : Int32) (v18 : Int32) (v19 : Int32) (v20 : Int32) (w : Nat) (Sh : List mT) (MI : mI) (ML : mJ) : Prop := mEx C (TL_law L xs) Q (707, [some (.float 0), some (.ref a1), some (.ref a2), some (.ref a3), some (.ref a4), some (.ref a5), some (.ref a6), some (.ref a7), some (.int v8), none, none, none, none, none, none, none, some (.int v16), some (.int v17), some (.int v18), some (.int v19), some (.int v20), none, none, none], [], (w, Sh, MI, ML))
def VL_law_713 (C : mC) (Q : Option Value → mS → Prop) (L : Nat) (xs : Nat → Int32) (a1 : Nat) (a2 : Nat) (a3 : Nat) (a4 : Nat) (a5 : Nat) (a6 : Nat) (a7 : Nat) (v8 : Int32) (v16 : Int32) (v17 : Int32) (v19 : Int32) (v20 : Int32) (w : Nat) (Sh : List mT) (MI : mI) (ML : mJ) : Prop := mEx C (TL_law L xs) Q (713, [some (.float 0), some (.ref a1), some (.ref a2), some (.ref a3), some (.ref a4), some (.ref a5), some (.ref a6), some (.ref a7), some (.int v8), none, none, none, none, none, none, none, some (.int v16), some (.int v17), none, some (.int v19), some (.int v20), none, none, none], [], (w, Sh, MI, ML))
def VL_law_743 (C : mC) (Q : Option Value → mS → Prop) (L : Nat) (xs : Nat → Int32) (a1 : Nat) (a2 : Nat) (a3 : Nat) (a4 : Nat) (a5 : Nat) (a6 : Nat) (a7 : Nat) (v8 : Int32) (v16 : Int32) (v19 : Int32) (v20 : Int32) (v21 : Int32) (s0 : Int32) (w : Nat) (Sh : List mT) (MI : mI) (ML : mJ) : Prop := mEx C (TL_law L xs) Q (743, [some (.float 0), some (.ref a1), some (.ref a2), some (.ref a3), some (.ref a4), some (.ref a5), some (.ref a6), some (.ref a7), some (.int v8), none, none, none, none, none, none, none, some (.int v16), none, none, some (.int v19), some (.int v20), some (.int v21), none, none], [.int s0], (w, Sh, MI, ML))
def VL_law_787 (C : mC) (Q : Option Value → mS → Prop) (L : Nat) (xs : Nat → Int32) (a1 : Nat) (a2 : Nat) (a3 : Nat) (a4 : Nat) (a5 : Nat) (a6 : Nat) (a7 : Nat) (v8 : Int32) (v16 : Int32) (v19 : Int32) (v20 : Int32) (v21 : Int32) (s0 : Int32) (w : Nat) (Sh : List mT) (MI : mI) (ML : mJ) : Prop := mEx C (TL_law L xs) Q (787, [some (.float 0), some (.ref a1), some (.ref a2), some (.ref a3), some (.ref a4), some (.ref a5), some (.ref a6), some (.ref a7), some (.int v8), none, none, none, none, none, none, none, some (.int v16), none, none, some (.int v19), some (.int v20), some (.int v21), none, none], [.int s0], (w, Sh, MI, ML))
def VL_law_810 (C : mC) (Q : Option Value → mS → Prop) (L : Nat) (xs : Nat → Int32) (a1 : Nat) (a2 : Nat) (a3 : Nat) (a4 : Nat) (a5 : Nat) (a6 : Nat) (a7 : Nat) (v8 : Int32) (v16 : Int32) (v19 : Int32) (v20 : Int32) (v21 : Int32) (v23 : Int32) (w : Nat) (Sh : List mT) (MI : mI) (ML : mJ) : Prop := mEx C (TL_law L xs) Q (810, [some (.float 0), some (.ref a1), some (.ref a2), some (.ref a3), some (.ref a4), some (.ref a5), some (.ref a6), some (.ref a7), some (.int v8), none, none, none, none, none, none, none, some (.int v16), none, none, some (.int v19), some (.int v20), some (.int v21), none, some (.int v23)], [], (w, Sh, MI, ML))
def VL_law_860 (C : mC) (Q : Option Value → mS → Prop) (L : Nat) (xs : Nat → Int32) (a1 : Nat) (a2 : Nat) (a3 : Nat) (a4 : Nat) (a5 : Nat) (a6 : Nat) (a7 : Nat) (v8 : Int32) (v16 : Int32) (v17 : Int32) (v19 : Int32) (v20 : Int32) (w : Nat) (Sh : List mT) (MI : mI) (ML : mJ) : Prop := mEx C (TL_law L xs) Q (860, [some (.float 0), some (.ref a1), some (.ref a2), some (.ref a3), some (.ref a4), some (.ref a5), some (.ref a6), some (.ref a7), some (.int v8), none, none, none, none, none, none, none, some (.int v16), some (.int v17), none, some (.int v19), some (.int v20), none, none, none], [], (w, Sh, MI, ML))
def VL_law_905 (C : mC) (Q : Option Value → mS → Prop) (L : Nat) (xs : Nat → Int32) (a1 : Nat) (a2 : Nat) (a3 : Nat) (a4 : Nat) (a5 : Nat) (a6 : Nat) (a7 : Nat) (v8 : Int32) (v16 : Int32) (v19 : Int32) (v20 : Int32) (v21 : Int32) (b0 : Nat) (s1 : Int32) (s2 : Int32) (w : Nat) (Sh : List mT) (MI : mI) (ML : mJ) : Prop := mEx C (TL_law L xs) Q (905, [some (.float 0), some (.ref a1), some (.ref a2), some (.ref a3), some (.ref a4), some (.ref a5), some (.ref a6), some (.ref a7), some (.int v8), none, none, none, none, none, none, none, some (.int v16), none, none, some (.int v19), some (.int v20), some (.int v21), none, none], [.int s2, .int s1, .ref b0], (w, Sh, MI, ML))
def VL_law_936 (C : mC) (Q : Option Value → mS → Prop) (L : Nat) (xs : Nat → Int32) (a1 : Nat) (a2 : Nat) (a3 : Nat) (a4 : Nat) (a5 : Nat) (a6 : Nat) (a7 : Nat) (v8 : Int32) (v16 : Int32) (v19 : Int32) (v20 : Int32) (v21 : Int32) (w : Nat) (Sh : List mT) (MI : mI) (ML : mJ) : Prop := mEx C (TL_law L xs) Q (936, [some (.float 0), some (.ref a1), some (.ref a2), some (.ref a3), some (.ref a4), some (.ref a5), some (.ref a6), some (.ref a7), some (.int v8), none, none, none, none, none, none, none, some (.int v16), none, none, some (.int v19), some (.int v20), some (.int v21), none, none], [], (w, Sh, MI, ML))
def VL_law_944 (C : mC) (Q : Option Value → mS → Prop) (L : Nat) (xs : Nat → Int32) (a1 : Nat) (a2 : Nat) (a3 : Nat) (a4 : Nat) (a5 : Nat) (a6 : Nat) (a7 : Nat) (v8 : Int32) (v16 : Int32) (v19 : Int32) (v20 : Int32) (v21 : Int32) (w : Nat) (Sh : List mT) (MI : mI) (ML : mJ) : Prop := mEx C (TL_law L xs) Q (944, [some (.float 0), some (.ref a1), some (.ref a2), some (.ref a3), some (.ref a4), some (.ref a5), some (.ref a6), some (.ref a7), some (.int v8), none, none, none, none, none, none, none, some (.int v16), none, none, some (.int v19), some (.int v20), some (.int v21), none, none], [], (w, Sh, MI, ML))
def VL_law_969 (C : mC) (Q : Option Value → mS → Prop) (L : Nat) (xs : Nat → Int32) (a1 : Nat) (a2 : Nat) (a3 : Nat) (a4 : Nat) (a5 : Nat) (a6 : Nat) (a7 : Nat) (v8 : Int32) (v16 : Int32) (w : Nat) (Sh : List mT) (MI : mI) (ML : mJ) : Prop := mEx C (TL_law L xs) Q (969, [some (.float 0), some (.ref a1), some (.ref a2), some (.ref a3), some (.ref a4), some (.ref a5), some (.ref a6), some (.ref a7), some (.int v8), none, none, none, none, none, none, none, some (.int v16), none, none, none, none, none, none, none], [], (w, Sh, MI, ML))
def VL_law_975 (C : mC) (Q : Option Value → mS → Prop) (L : Nat) (xs : Nat → Int32) (a1 : Nat) (a2 : Nat) (a3 : Nat) (a4 : Nat) (a5 : Nat) (a6 : Nat) (a7 : Nat) (v8 : Int32) (w : Nat) (Sh : List mT) (MI : mI) (ML : mJ) : Prop := mEx C (TL_law L xs) Q (975, [some (.float 0), some (.ref a1), some (.ref a2), some (.ref a3), some (.ref a4), some (.ref a5), some (.ref a6), some (.ref a7), some (.int v8), none, none, none, none, none, none, none, none, none, none, none, none, none, none, none], [], (w, Sh, MI, ML))
def VL_law_978 (C : mC) (Q : Option Value → mS → Prop) (L : Nat) (xs : Nat → Int32) (a1 : Nat) (a2 : Nat) (a3 : Nat) (a4 : Nat) (a5 : Nat) (a6 : Nat) (a7 : Nat) (v8 : Int32) (v16 : Int32) (w : Nat) (Sh : List mT) (MI : mI) (ML : mJ) : Prop := mEx C (TL_law L xs) Q (978, [some (.float 0), some (.ref a1), some (.ref a2), some (.ref a3), some (.ref a4), some (.ref a5), some (.ref a6), some (.ref a7), some (.int v8), none, none, none, none, none, none, none, some (.int v16), none, none, none, none, none, none, none], [], (w, Sh, MI, ML))
def VL_law_1013 (C : mC) (Q : Option Value → mS → Prop) (L : Nat) (xs : Nat → Int32) (a1 : Nat) (a2 : Nat) (a3 : Nat) (a4 : Nat) (a5 : Nat) (a6 : Nat) (a7 : Nat) (v8 : Int32) (v16 : Int32) (v17 : Int32) (w : Nat) (Sh : List mT) (MI : mI) (ML : mJ) : Prop := mEx C (TL_law L xs) Q (1013, [some (.float 0), some (.ref a1), some (.ref a2), some (.ref a3), some (.ref a4), some (.ref a5), some (.ref a6), some (.ref a7), some (.int v8), none, none, none, none, none, none, none, some (.int v16), some (.int v17), none, none, none, none, none, none], [], (w, Sh, MI, ML))
def VL_law_1060 (C : mC) (Q : Option Value → mS → Prop) (L : Nat) (xs : Nat → Int32) (a1 : Nat) (a2 : Nat) (a3 : Nat) (a4 : Nat) (a5 : Nat) (a6 : Nat) (a7 : Nat) (v8 : Int32) (v16 : Int32) (v17 : Int32) (v18 : Int32) (w : Nat) (Sh : List mT) (MI : mI) (ML : mJ) : Prop := mEx C (TL_law L xs) Q (1060, [some (.float 0), some (.ref a1), some (.ref a2), some (.ref a3), some (.ref a4), some (.ref a5), some (.ref a6), some (.ref a7), some (.int v8), none, none, none, none, none, none, none, some (.int v16), some (.int v17), some (.int v18), none, none, none, none, none], [], (w, Sh, MI, ML))
def VL_law_1106 (C : mC) (Q : Option Value → mS → Prop) (L : Nat) (xs : Nat → Int32) (a1 : Nat) (a2 : Nat) (a3 : Nat) (a4 : Nat) (a5 : Nat) (a6 : Nat) (a7 : Nat) (v8 : Int32) (v16 : Int32) (v17 : Int32) (v18 : Int32) (w : Nat) (Sh : List mT) (MI : mI) (ML : mJ) : Prop := mEx C (TL_law L xs) Q (1106, [some (.float 0), some (.ref a1), some (.ref a2), some (.ref a3), some (.ref a4), some (.ref a5), some (.ref a6), some (.ref a7), some (.int v8), none, none, none, none, none, none, none, some (.int v16), some (.int v17), some (.int v18), none, none, none, none, none], [], (w, Sh, MI, ML))
def VL_law_1142 (C : mC) (Q : Option Value → mS → Prop) (L : Nat) (xs : Nat → Int32) (a1 : Nat) (a2 : Nat) (a3 : Nat) (a4 : Nat) (a5 : Nat) (a6 : Nat) (a7 : Nat) (v8 : Int32) (v16 : Int32) (w : Nat) (Sh : List mT) (MI : mI) (ML : mJ) : Prop := mEx C (TL_law L xs) Q (1142, [some (.float 0), some (.ref a1), some (.ref a2), some (.ref a3), some (.ref a4), some (.ref a5), some (.ref a6), some (.ref a7), some (.int v8), none, none, none, none, none, none, none, some (.int v16), none, none, none, none, none, none, none], [], (w, Sh, MI, ML))
def VL_law_1160 (C : mC) (Q : Option Value → mS → Prop) (L : Nat) (xs : Nat → Int32) (a1 : Nat) (a2 : Nat) (w : Nat) (Sh : List mT) (MI : mI) (ML : mJ) : Prop := mEx C (TL_law L xs) Q (1160, [none, some (.ref a1), some (.ref a2), none, none, none, none, none, none, none, none, none, none, none, none, none, none, none, none, none, none, none, none, none], [], (w, Sh, MI, ML))
theorem BL_law_8 {C : mC} {Q : Option Value → mS → Prop} {L : Nat} {xs : Nat → Int32} {a1 : Nat} {w : Nat} {Sh : List mT} {MI : mI} {ML : mJ} (hL : L < 10001)
    (h : Sh.length < 80 ∧ ((Sh ++ [(1, 5, [])]).length < 80 ∧ (((Sh ++ [(1, 5, [])]) ++ [(1, 16, [])]).length < 80 ∧ ((((Sh ++ [(1, 5, [])]) ++ [(1, 16, [])]) ++ [(1, 64, [])]).length < 80 ∧ (∃ (x3 : Int32) (M1 : mI) (N2 : mJ), C 301 [.ref a1, .float 0, .ref Sh.length, .ref (Sh ++ [(1, 5, [])]).length, .ref ((Sh ++ [(1, 5, [])]) ++ [(1, 16, [])]).length, .ref (((Sh ++ [(1, 5, [])]) ++ [(1, 16, [])]) ++ [(1, 64, [])]).length, .int (nI 0), .int (nI 8)] (((((w + 5) + 16) + 64) + 3), ((((Sh ++ [(1, 5, [])]) ++ [(1, 16, [])]) ++ [(1, 64, [])]) ++ [(1, 3, [])]), (mup (mup (mup (mup MI Sh.length (fun _ => 0)) (Sh ++ [(1, 5, [])]).length (fun _ => 0)) ((Sh ++ [(1, 5, [])]) ++ [(1, 16, [])]).length (fun _ => 0)) (((Sh ++ [(1, 5, [])]) ++ [(1, 16, [])]) ++ [(1, 64, [])]).length (fun _ => 0)), ML) (some (.int x3)) (((((w + 5) + 16) + 64) + 3), ((((Sh ++ [(1, 5, [])]) ++ [(1, 16, [])]) ++ [(1, 64, [])]) ++ [(1, 3, [])]), M1, N2) ∧ ((x3 = nI 0 → Q (some (.int (nI 0))) (((((w + 5) + 16) + 64) + 3), ((((Sh ++ [(1, 5, [])]) ++ [(1, 16, [])]) ++ [(1, 64, [])]) ++ [(1, 3, [])]), M1, N2)) ∧ (¬ x3 = nI 0 → VL_law_47 C Q L xs a1 Sh.length (Sh ++ [(1, 5, [])]).length ((Sh ++ [(1, 5, [])]) ++ [(1, 16, [])]).length (((Sh ++ [(1, 5, [])]) ++ [(1, 16, [])]) ++ [(1, 64, [])]).length ((((w + 5) + 16) + 64) + 3) ((((Sh ++ [(1, 5, [])]) ++ [(1, 16, [])]) ++ [(1, 64, [])]) ++ [(1, 3, [])]) M1 N2))))))) :
    VL_law_8 C Q L xs a1 w Sh MI ML := by
  show mEx C (TL_law L xs) Q (8, [some (.float 0), some (.ref a1), none, none, none, none, none, none, none, none, none, none, none, none, none, none, none, none, none, none, none, none, none, none], [], (w, Sh, MI, ML))
  refine x_st rfl ?_
  refine y_nwi (N := 5) (nx := 11) rfl h.1 ?_
  replace h := h.2
  refine x_st rfl ?_
  refine x_st rfl ?_
  refine y_nwi (N := 16) (nx := 16) rfl h.1 ?_
  replace h := h.2
  refine x_st rfl ?_
  refine x_st rfl ?_
  refine y_nwi (N := 64) (nx := 21) rfl h.1 ?_
  replace h := h.2
  refine x_st rfl ?_
  refine x_st rfl ?_
  refine y_nwi (N := 3) (nx := 26) rfl h.1 ?_
  replace h := h.2
  refine x_st rfl ?_
  refine x_st rfl ?_
  refine x_st rfl ?_
  refine x_st rfl ?_
  refine x_st rfl ?_
  refine x_st rfl ?_
  refine x_st rfl ?_
  refine x_st rfl ?_
  refine x_st rfl ?_
  obtain ⟨x3, M1, N2, hc, h⟩ := h
  refine x_ci rfl hc ?_
  refine x_br rfl (fun c => ?_) (fun c => ?_)
  · replace h := h.1 c
    refine x_st rfl ?_
    exact x_ret rfl h
  · replace h := h.2 c
    refine x_kl ?_ h
    exact ⟨Or.inr rfl, ⟨Or.inr rfl, ⟨Or.inr rfl, ⟨Or.inr rfl, ⟨Or.inr rfl, ⟨Or.inr rfl, ⟨Or.inl rfl, ⟨Or.inl rfl, ⟨Or.inl rfl, ⟨Or.inl rfl, ⟨Or.inl rfl, ⟨Or.inl rfl, ⟨Or.inl rfl, ⟨Or.inl rfl, ⟨Or.inl rfl, ⟨Or.inl rfl, ⟨Or.inl rfl, ⟨Or.inl rfl, ⟨Or.inl rfl, ⟨Or.inl rfl, ⟨Or.inl rfl, ⟨Or.inl rfl, ⟨Or.inl rfl, ⟨Or.inl rfl, True.intro⟩⟩⟩⟩⟩⟩⟩⟩⟩⟩⟩⟩⟩⟩⟩⟩⟩⟩⟩⟩⟩⟩⟩⟩
theorem BL_law_47 {C : mC} {Q : Option Value → mS → Prop} {L : Nat} {xs : Nat → Int32} {a1 : Nat} {a2 : Nat} {a3 : Nat} {a4 : Nat} {a5 : Nat} {w : Nat} {Sh : List mT} {MI : mI} {ML : mJ} (hL : L < 10001)
    (h : Sh.length < 80 ∧ ((Sh ++ [(1, 6, [])]).length < 80 ∧ (VL_law_62 C Q L xs a1 a2 a3 a4 a5 Sh.length (Sh ++ [(1, 6, [])]).length (nI 0) ((w + 6) + 8) ((Sh ++ [(1, 6, [])]) ++ [(1, 8, [])]) (mup (mup MI Sh.length (fun _ => 0)) (Sh ++ [(1, 6, [])]).length (fun _ => 0)) ML))) :
    VL_law_47 C Q L xs a1 a2 a3 a4 a5 w Sh MI ML := by
  show mEx C (TL_law L xs) Q (47, [some (.float 0), some (.ref a1), some (.ref a2), some (.ref a3), some (.ref a4), some (.ref a5), none, none, none, none, none, none, none, none, none, none, none, none, none, none, none, none, none, none], [], (w, Sh, MI, ML))
  refine x_st rfl ?_
  refine y_nwi (N := 6) (nx := 51) rfl h.1 ?_
  replace h := h.2
  refine x_st rfl ?_
  refine x_st rfl ?_
  refine y_nwi (N := 8) (nx := 57) rfl h.1 ?_
  replace h := h.2
  refine x_st rfl ?_
  refine x_st rfl ?_
  refine x_st rfl ?_
  refine x_kl ?_ h
  exact ⟨Or.inr rfl, ⟨Or.inr rfl, ⟨Or.inr rfl, ⟨Or.inr rfl, ⟨Or.inr rfl, ⟨Or.inr rfl, ⟨Or.inr rfl, ⟨Or.inr rfl, ⟨Or.inr rfl, ⟨Or.inl rfl, ⟨Or.inl rfl, ⟨Or.inl rfl, ⟨Or.inl rfl, ⟨Or.inl rfl, ⟨Or.inl rfl, ⟨Or.inl rfl, ⟨Or.inl rfl, ⟨Or.inl rfl, ⟨Or.inl rfl, ⟨Or.inl rfl, ⟨Or.inl rfl, ⟨Or.inl rfl, ⟨Or.inl rfl, ⟨Or.inl rfl, True.intro⟩⟩⟩⟩⟩⟩⟩⟩⟩⟩⟩⟩⟩⟩⟩⟩⟩⟩⟩⟩⟩⟩⟩⟩
theorem BL_law_62 {C : mC} {Q : Option Value → mS → Prop} {L : Nat} {xs : Nat → Int32} {a1 : Nat} {a2 : Nat} {a3 : Nat} {a4 : Nat} {a5 : Nat} {a6 : Nat} {a7 : Nat} {v8 : Int32} {w : Nat} {Sh : List mT} {MI : mI} {ML : mJ} (hL : L < 10001)
    (h : ((nI 3) ≤ v8 → VL_law_1160 C Q L xs a1 a2 w Sh MI ML) ∧ (¬ (nI 3) ≤ v8 → ∃ (x3 : Int32) (M1 : mI) (N2 : mJ), C 300 [.float 0, .int ((nI 58) + v8)] (w, Sh, MI, ML) (some (.int x3)) (w, Sh, M1, N2) ∧ (∃ (x6 w7 : Nat) (S8 : List mT) (M4 : mI) (N5 : mJ), C 283 [.ref a2] (w, Sh, M1, N2) (some (.ref x6)) (w7, S8, M4, N5) ∧ (∃ (x11 w12 : Nat) (S13 : List mT) (M9 : mI) (N10 : mJ), C 283 [.ref a3] (w7, S8, M4, N5) (some (.ref x11)) (w12, S13, M9, N10) ∧ (∃ (x16 w17 : Nat) (S18 : List mT) (M14 : mI) (N15 : mJ), C 283 [.ref a4] (w12, S13, M9, N10) (some (.ref x16)) (w17, S18, M14, N15) ∧ (VL_law_103 C Q L xs a1 a2 a3 a4 a5 a6 a7 v8 ((((x3).toUInt32 >>> (((nI 1)).toUInt32 &&& Int32.toUInt32 31)).toInt32) - (((x3).toUInt32 >>> (((nI 1)).toUInt32 &&& Int32.toUInt32 31)).toInt32) / (nI 12) * (nI 12)) x6 x11 x16 w17 S18 M14 N15)))))) :
    VL_law_62 C Q L xs a1 a2 a3 a4 a5 a6 a7 v8 w Sh MI ML := by
  show mEx C (TL_law L xs) Q (62, [some (.float 0), some (.ref a1), some (.ref a2), some (.ref a3), some (.ref a4), some (.ref a5), some (.ref a6), some (.ref a7), some (.int v8), none, none, none, none, none, none, none, none, none, none, none, none, none, none, none], [], (w, Sh, MI, ML))
  refine x_st rfl ?_
  refine x_st rfl ?_
  refine x_br rfl (fun c => ?_) (fun c => ?_)
  · replace h := h.1 c
    refine x_kl ?_ h
    exact ⟨Or.inl rfl, ⟨Or.inr rfl, ⟨Or.inr rfl, ⟨Or.inl rfl, ⟨Or.inl rfl, ⟨Or.inl rfl, ⟨Or.inl rfl, ⟨Or.inl rfl, ⟨Or.inl rfl, ⟨Or.inl rfl, ⟨Or.inl rfl, ⟨Or.inl rfl, ⟨Or.inl rfl, ⟨Or.inl rfl, ⟨Or.inl rfl, ⟨Or.inl rfl, ⟨Or.inl rfl, ⟨Or.inl rfl, ⟨Or.inl rfl, ⟨Or.inl rfl, ⟨Or.inl rfl, ⟨Or.inl rfl, ⟨Or.inl rfl, ⟨Or.inl rfl, True.intro⟩⟩⟩⟩⟩⟩⟩⟩⟩⟩⟩⟩⟩⟩⟩⟩⟩⟩⟩⟩⟩⟩⟩⟩
  · replace h := h.2 c
    refine x_st rfl ?_
    refine x_st rfl ?_
    refine x_st rfl ?_
    refine x_st rfl ?_
    obtain ⟨x3, M1, N2, hc, h⟩ := h
    refine x_ci rfl hc ?_
    refine x_st rfl ?_
    refine x_st rfl ?_
    refine x_st rfl ?_
    refine x_st rfl ?_
    refine x_st rfl ?_
    refine x_st rfl ?_
    obtain ⟨x6, w7, S8, M4, N5, hc, h⟩ := h
    refine x_ci rfl hc ?_
    refine x_st rfl ?_
    refine x_st rfl ?_
    obtain ⟨x11, w12, S13, M9, N10, hc, h⟩ := h
    refine x_ci rfl hc ?_
    refine x_st rfl ?_
    refine x_st rfl ?_
    obtain ⟨x16, w17, S18, M14, N15, hc, h⟩ := h
    refine x_ci rfl hc ?_
    refine x_st rfl ?_
    refine x_kl ?_ h
    exact ⟨Or.inr rfl, ⟨Or.inr rfl, ⟨Or.inr rfl, ⟨Or.inr rfl, ⟨Or.inr rfl, ⟨Or.inr rfl, ⟨Or.inr rfl, ⟨Or.inr rfl, ⟨Or.inr rfl, ⟨Or.inr rfl, ⟨Or.inr rfl, ⟨Or.inr rfl, ⟨Or.inr rfl, ⟨Or.inl rfl, ⟨Or.inl rfl, ⟨Or.inl rfl, ⟨Or.inl rfl, ⟨Or.inl rfl, ⟨Or.inl rfl, ⟨Or.inl rfl, ⟨Or.inl rfl, ⟨Or.inl rfl, ⟨Or.inl rfl, ⟨Or.inl rfl, True.intro⟩⟩⟩⟩⟩⟩⟩⟩⟩⟩⟩⟩⟩⟩⟩⟩⟩⟩⟩⟩⟩⟩⟩⟩
theorem BL_law_103 {C : mC} {Q : Option Value → mS → Prop} {L : Nat} {xs : Nat → Int32} {a1 : Nat} {a2 : Nat} {a3 : Nat} {a4 : Nat} {a5 : Nat} {a6 : Nat} {a7 : Nat} {v8 : Int32} {v9 : Int32} {a10 : Nat} {a11 : Nat} {a12 : Nat} {w : Nat} {Sh : List mT} {MI : mI} {ML : mJ} (hL : L < 10001)
    (h : Sh.length < 80 ∧ (VL_law_120 C Q L xs a1 a2 a3 a4 a5 a6 a7 v8 v9 a10 a11 a12 Sh.length (nI 255) (nI 0) (nI 0) (w + 8) (Sh ++ [(1, 8, [])]) (mup MI Sh.length (fun _ => 0)) ML)) :
    VL_law_103 C Q L xs a1 a2 a3 a4 a5 a6 a7 v8 v9 a10 a11 a12 w Sh MI ML := by
  show mEx C (TL_law L xs) Q (103, [some (.float 0), some (.ref a1), some (.ref a2), some (.ref a3), some (.ref a4), some (.ref a5), some (.ref a6), some (.ref a7), some (.int v8), some (.int v9), some (.ref a10), some (.ref a11), some (.ref a12), none, none, none, none, none, none, none, none, none, none, none], [], (w, Sh, MI, ML))
  refine x_st rfl ?_
  refine y_nwi (N := 8) (nx := 107) rfl h.1 ?_
  replace h := h.2
  refine x_st rfl ?_
  refine x_st rfl ?_
  refine x_st rfl ?_
  refine x_st rfl ?_
  refine x_st rfl ?_
  refine x_st rfl ?_
  refine x_st rfl ?_
  refine x_kl ?_ h
  exact ⟨Or.inr rfl, ⟨Or.inr rfl, ⟨Or.inr rfl, ⟨Or.inr rfl, ⟨Or.inr rfl, ⟨Or.inr rfl, ⟨Or.inr rfl, ⟨Or.inr rfl, ⟨Or.inr rfl, ⟨Or.inr rfl, ⟨Or.inr rfl, ⟨Or.inr rfl, ⟨Or.inr rfl, ⟨Or.inr rfl, ⟨Or.inr rfl, ⟨Or.inr rfl, ⟨Or.inr rfl, ⟨Or.inl rfl, ⟨Or.inl rfl, ⟨Or.inl rfl, ⟨Or.inl rfl, ⟨Or.inl rfl, ⟨Or.inl rfl, ⟨Or.inl rfl, True.intro⟩⟩⟩⟩⟩⟩⟩⟩⟩⟩⟩⟩⟩⟩⟩⟩⟩⟩⟩⟩⟩⟩⟩⟩
theorem BL_law_120 {C : mC} {Q : Option Value → mS → Prop} {L : Nat} {xs : Nat → Int32} {a1 : Nat} {a2 : Nat} {a3 : Nat} {a4 : Nat} {a5 : Nat} {a6 : Nat} {a7 : Nat} {v8 : Int32} {v9 : Int32} {a10 : Nat} {a11 : Nat} {a12 : Nat} {a13 : Nat} {v14 : Int32} {v15 : Int32} {v16 : Int32} {w : Nat} {Sh : List mT} {MI : mI} {ML : mJ} (hL : L < 10001)
    (h : ((nI 40) ≤ v16 → VL_law_319 C Q L xs a1 a2 a3 a4 a5 a6 a7 v8 a13 v15 w Sh MI ML) ∧ (¬ (nI 40) ≤ v16 → (v16 = v9 → isO Sh a1 10 ∧ ∃ (x3 : Int32) (M1 : mI) (N2 : mJ), C 147 [.ref a1, .int v9, .int (-1 : Int32)] (w, Sh, MI, ML) (some (.int x3)) (w, Sh, M1, N2) ∧ ((x3 = v15 → VL_law_151 C Q L xs a1 a2 a3 a4 a5 a6 a7 v8 v9 a10 a11 a12 a13 v14 v15 v16 (nI 0) w Sh M1 N2) ∧ (¬ x3 = v15 → Q (some (.int (nI 0))) (w, Sh, M1, N2)))) ∧ (¬ v16 = v9 → VL_law_242 C Q L xs a1 a2 a3 a4 a5 a6 a7 v8 v9 a10 a11 a12 a13 v14 v15 v16 w Sh MI ML))) :
    VL_law_120 C Q L xs a1 a2 a3 a4 a5 a6 a7 v8 v9 a10 a11 a12 a13 v14 v15 v16 w Sh MI ML := by
  show mEx C (TL_law L xs) Q (120, [some (.float 0), some (.ref a1), some (.ref a2), some (.ref a3), some (.ref a4), some (.ref a5), some (.ref a6), some (.ref a7), some (.int v8), some (.int v9), some (.ref a10), some (.ref a11), some (.ref a12), some (.ref a13), some (.int v14), some (.int v15), some (.int v16), none, none, none, none, none, none, none], [], (w, Sh, MI, ML))
  refine x_st rfl ?_
  refine x_st rfl ?_
  refine x_br rfl (fun c => ?_) (fun c => ?_)
  · replace h := h.1 c
    refine x_kl ?_ h
    exact ⟨Or.inr rfl, ⟨Or.inr rfl, ⟨Or.inr rfl, ⟨Or.inr rfl, ⟨Or.inr rfl, ⟨Or.inr rfl, ⟨Or.inr rfl, ⟨Or.inr rfl, ⟨Or.inr rfl, ⟨Or.inl rfl, ⟨Or.inl rfl, ⟨Or.inl rfl, ⟨Or.inl rfl, ⟨Or.inr rfl, ⟨Or.inl rfl, ⟨Or.inr rfl, ⟨Or.inl rfl, ⟨Or.inl rfl, ⟨Or.inl rfl, ⟨Or.inl rfl, ⟨Or.inl rfl, ⟨Or.inl rfl, ⟨Or.inl rfl, ⟨Or.inl rfl, True.intro⟩⟩⟩⟩⟩⟩⟩⟩⟩⟩⟩⟩⟩⟩⟩⟩⟩⟩⟩⟩⟩⟩⟩⟩
  · replace h := h.2 c
    refine x_st rfl ?_
    refine x_st rfl ?_
    refine x_br rfl (fun c => ?_) (fun c => ?_)
    · replace h := h.1 c
      refine x_st rfl ?_
      refine x_st rfl ?_
      refine x_st rfl ?_
      obtain ⟨ho, x3, M1, N2, hc, h⟩ := h
      refine y_vi (y := 147) (n := 2) (ci := 10) (nx := 141) rfl (fun _ => rfl) ho rfl hc ?_
      refine x_st rfl ?_
      refine x_br rfl (fun c => ?_) (fun c => ?_)
      · replace h := h.1 c
        refine x_st rfl ?_
        refine x_st rfl ?_
        refine x_kl ?_ h
        exact ⟨Or.inr rfl, ⟨Or.inr rfl, ⟨Or.inr rfl, ⟨Or.inr rfl, ⟨Or.inr rfl, ⟨Or.inr rfl, ⟨Or.inr rfl, ⟨Or.inr rfl, ⟨Or.inr rfl, ⟨Or.inr rfl, ⟨Or.inr rfl, ⟨Or.inr rfl, ⟨Or.inr rfl, ⟨Or.inr rfl, ⟨Or.inr rfl, ⟨Or.inr rfl, ⟨Or.inr rfl, ⟨Or.inr rfl, ⟨Or.inl rfl, ⟨Or.inl rfl, ⟨Or.inl rfl, ⟨Or.inl rfl, ⟨Or.inl rfl, ⟨Or.inl rfl, True.intro⟩⟩⟩⟩⟩⟩⟩⟩⟩⟩⟩⟩⟩⟩⟩⟩⟩⟩⟩⟩⟩⟩⟩⟩
      · replace h := h.2 c
        refine x_st rfl ?_
        exact x_ret rfl h
    · replace h := h.2 c
      refine x_kl ?_ h
      exact ⟨Or.inr rfl, ⟨Or.inr rfl, ⟨Or.inr rfl, ⟨Or.inr rfl, ⟨Or.inr rfl, ⟨Or.inr rfl, ⟨Or.inr rfl, ⟨Or.inr rfl, ⟨Or.inr rfl, ⟨Or.inr rfl, ⟨Or.inr rfl, ⟨Or.inr rfl, ⟨Or.inr rfl, ⟨Or.inr rfl, ⟨Or.inr rfl, ⟨Or.inr rfl, ⟨Or.inr rfl, ⟨Or.inl rfl, ⟨Or.inl rfl, ⟨Or.inl rfl, ⟨Or.inl rfl, ⟨Or.inl rfl, ⟨Or.inl rfl, ⟨Or.inl rfl, True.intro⟩⟩⟩⟩⟩⟩⟩⟩⟩⟩⟩⟩⟩⟩⟩⟩⟩⟩⟩⟩⟩⟩⟩⟩
theorem BL_law_151 {C : mC} {Q : Option Value → mS → Prop} {L : Nat} {xs : Nat → Int32} {a1 : Nat} {a2 : Nat} {a3 : Nat} {a4 : Nat} {a5 : Nat} {a6 : Nat} {a7 : Nat} {v8 : Int32} {v9 : Int32} {a10 : Nat} {a11 : Nat} {a12 : Nat} {a13 : Nat} {v14 : Int32} {v15 : Int32} {v16 : Int32} {v17 : Int32} {w : Nat} {Sh : List mT} {MI : mI} {ML : mJ} (hL : L < 10001)
    (h : aok Sh a2 0 (nI 0) ∧ (((MI a2 0) ≤ v17 → VL_law_242 C Q L xs a1 a2 a3 a4 a5 a6 a7 v8 v9 a10 a11 a12 a13 v14 v15 v16 w Sh MI ML) ∧ (¬ (MI a2 0) ≤ v17 → isO Sh a1 10 ∧ ∃ (x3 : Int32) (M1 : mI) (N2 : mJ), C 147 [.ref a1, .int v9, .int v17] (w, Sh, MI, ML) (some (.int x3)) (w, Sh, M1, N2) ∧ (∃ i4 : Nat, aok Sh a11 i4 ((nI 2) * v17) ∧ ((x3 = (M1 a11 i4) → VL_law_182 C Q L xs a1 a2 a3 a4 a5 a6 a7 v8 v9 a10 a11 a12 a13 v14 v15 v16 v17 (nI 0) w Sh M1 N2) ∧ (¬ x3 = (M1 a11 i4) → Q (some (.int (nI 0))) (w, Sh, M1, N2))))))) :
    VL_law_151 C Q L xs a1 a2 a3 a4 a5 a6 a7 v8 v9 a10 a11 a12 a13 v14 v15 v16 v17 w Sh MI ML := by
  show mEx C (TL_law L xs) Q (151, [some (.float 0), some (.ref a1), some (.ref a2), some (.ref a3), some (.ref a4), some (.ref a5), some (.ref a6), some (.ref a7), some (.int v8), some (.int v9), some (.ref a10), some (.ref a11), some (.ref a12), some (.ref a13), some (.int v14), some (.int v15), some (.int v16), some (.int v17), none, none, none, none, none, none], [], (w, Sh, MI, ML))
  refine x_st rfl ?_
  refine x_st rfl ?_
  refine x_st rfl ?_
  refine y_ia (nx := 156) (i := 0) rfl h.1 ?_
  replace h := h.2
  refine x_br rfl (fun c => ?_) (fun c => ?_)
  · replace h := h.1 c
    refine x_kl ?_ h
    exact ⟨Or.inr rfl, ⟨Or.inr rfl, ⟨Or.inr rfl, ⟨Or.inr rfl, ⟨Or.inr rfl, ⟨Or.inr rfl, ⟨Or.inr rfl, ⟨Or.inr rfl, ⟨Or.inr rfl, ⟨Or.inr rfl, ⟨Or.inr rfl, ⟨Or.inr rfl, ⟨Or.inr rfl, ⟨Or.inr rfl, ⟨Or.inr rfl, ⟨Or.inr rfl, ⟨Or.inr rfl, ⟨Or.inl rfl, ⟨Or.inl rfl, ⟨Or.inl rfl, ⟨Or.inl rfl, ⟨Or.inl rfl, ⟨Or.inl rfl, ⟨Or.inl rfl, True.intro⟩⟩⟩⟩⟩⟩⟩⟩⟩⟩⟩⟩⟩⟩⟩⟩⟩⟩⟩⟩⟩⟩⟩⟩
  · replace h := h.2 c
    refine x_st rfl ?_
    refine x_st rfl ?_
    refine x_st rfl ?_
    obtain ⟨ho, x3, M1, N2, hc, h⟩ := h
    refine y_vi (y := 147) (n := 2) (ci := 10) (nx := 167) rfl (fun _ => rfl) ho rfl hc ?_
    refine x_st rfl ?_
    refine x_st rfl ?_
    refine x_st rfl ?_
    refine x_st rfl ?_
    obtain ⟨i4, ha, h⟩ := h
    refine y_ia (nx := 174) (i := i4) rfl ha ?_
    refine x_br rfl (fun c => ?_) (fun c => ?_)
    · replace h := h.1 c
      refine x_st rfl ?_
      refine x_st rfl ?_
      refine x_kl ?_ h
      exact ⟨Or.inr rfl, ⟨Or.inr rfl, ⟨Or.inr rfl, ⟨Or.inr rfl, ⟨Or.inr rfl, ⟨Or.inr rfl, ⟨Or.inr rfl, ⟨Or.inr rfl, ⟨Or.inr rfl, ⟨Or.inr rfl, ⟨Or.inr rfl, ⟨Or.inr rfl, ⟨Or.inr rfl, ⟨Or.inr rfl, ⟨Or.inr rfl, ⟨Or.inr rfl, ⟨Or.inr rfl, ⟨Or.inr rfl, ⟨Or.inr rfl, ⟨Or.inl rfl, ⟨Or.inl rfl, ⟨Or.inl rfl, ⟨Or.inl rfl, ⟨Or.inl rfl, True.intro⟩⟩⟩⟩⟩⟩⟩⟩⟩⟩⟩⟩⟩⟩⟩⟩⟩⟩⟩⟩⟩⟩⟩⟩
    · replace h := h.2 c
      refine x_st rfl ?_
      exact x_ret rfl h
theorem BL_law_182 {C : mC} {Q : Option Value → mS → Prop} {L : Nat} {xs : Nat → Int32} {a1 : Nat} {a2 : Nat} {a3 : Nat} {a4 : Nat} {a5 : Nat} {a6 : Nat} {a7 : Nat} {v8 : Int32} {v9 : Int32} {a10 : Nat} {a11 : Nat} {a12 : Nat} {a13 : Nat} {v14 : Int32} {v15 : Int32} {v16 : Int32} {v17 : Int32} {v18 : Int32} {w : Nat} {Sh : List mT} {MI : mI} {ML : mJ} (hL : L < 10001)
    (h : aok Sh a2 0 (nI 0) ∧ (((MI a2 0) ≤ v18 → VL_law_151 C Q L xs a1 a2 a3 a4 a5 a6 a7 v8 v9 a10 a11 a12 a13 v14 v15 v16 (v17 + (nI 1)) w Sh MI ML) ∧ (¬ (MI a2 0) ≤ v18 → (v17 = v18 → VL_law_182 C Q L xs a1 a2 a3 a4 a5 a6 a7 v8 v9 a10 a11 a12 a13 v14 v15 v16 v17 (v18 + (nI 1)) w Sh MI ML) ∧ (¬ v17 = v18 → isO Sh a1 10 ∧ ∃ (x3 : Int32) (M1 : mI) (N2 : mJ), C 148 [.ref a1, .int v9, .int (((nI 10) * v17) + v18)] (w, Sh, MI, ML) (some (.int x3)) (w, Sh, M1, N2) ∧ (∃ i4 : Nat, aok Sh a12 i4 (((nI 8) * v17) + v18) ∧ ((x3 = ((M1 a12 i4) + (nI 100)) → VL_law_182 C Q L xs a1 a2 a3 a4 a5 a6 a7 v8 v9 a10 a11 a12 a13 v14 v15 v16 v17 (v18 + (nI 1)) w Sh M1 N2) ∧ (¬ x3 = ((M1 a12 i4) + (nI 100)) → Q (some (.int (nI 0))) (w, Sh, M1, N2)))))))) :
    VL_law_182 C Q L xs a1 a2 a3 a4 a5 a6 a7 v8 v9 a10 a11 a12 a13 v14 v15 v16 v17 v18 w Sh MI ML := by
  show mEx C (TL_law L xs) Q (182, [some (.float 0), some (.ref a1), some (.ref a2), some (.ref a3), some (.ref a4), some (.ref a5), some (.ref a6), some (.ref a7), some (.int v8), some (.int v9), some (.ref a10), some (.ref a11), some (.ref a12), some (.ref a13), some (.int v14), some (.int v15), some (.int v16), some (.int v17), some (.int v18), none, none, none, none, none], [], (w, Sh, MI, ML))
  refine x_st rfl ?_
  refine x_st rfl ?_
  refine x_st rfl ?_
  refine y_ia (nx := 187) (i := 0) rfl h.1 ?_
  replace h := h.2
  refine x_br rfl (fun c => ?_) (fun c => ?_)
  · replace h := h.1 c
    refine x_st rfl ?_
    refine x_st rfl ?_
    refine x_kl ?_ h
    exact ⟨Or.inr rfl, ⟨Or.inr rfl, ⟨Or.inr rfl, ⟨Or.inr rfl, ⟨Or.inr rfl, ⟨Or.inr rfl, ⟨Or.inr rfl, ⟨Or.inr rfl, ⟨Or.inr rfl, ⟨Or.inr rfl, ⟨Or.inr rfl, ⟨Or.inr rfl, ⟨Or.inr rfl, ⟨Or.inr rfl, ⟨Or.inr rfl, ⟨Or.inr rfl, ⟨Or.inr rfl, ⟨Or.inr rfl, ⟨Or.inl rfl, ⟨Or.inl rfl, ⟨Or.inl rfl, ⟨Or.inl rfl, ⟨Or.inl rfl, ⟨Or.inl rfl, True.intro⟩⟩⟩⟩⟩⟩⟩⟩⟩⟩⟩⟩⟩⟩⟩⟩⟩⟩⟩⟩⟩⟩⟩⟩
  · replace h := h.2 c
    refine x_st rfl ?_
    refine x_st rfl ?_
    refine x_br rfl (fun c => ?_) (fun c => ?_)
    · replace h := h.1 c
      refine x_st rfl ?_
      refine x_st rfl ?_
      refine x_kl ?_ h
      exact ⟨Or.inr rfl, ⟨Or.inr rfl, ⟨Or.inr rfl, ⟨Or.inr rfl, ⟨Or.inr rfl, ⟨Or.inr rfl, ⟨Or.inr rfl, ⟨Or.inr rfl, ⟨Or.inr rfl, ⟨Or.inr rfl, ⟨Or.inr rfl, ⟨Or.inr rfl, ⟨Or.inr rfl, ⟨Or.inr rfl, ⟨Or.inr rfl, ⟨Or.inr rfl, ⟨Or.inr rfl, ⟨Or.inr rfl, ⟨Or.inr rfl, ⟨Or.inl rfl, ⟨Or.inl rfl, ⟨Or.inl rfl, ⟨Or.inl rfl, ⟨Or.inl rfl, True.intro⟩⟩⟩⟩⟩⟩⟩⟩⟩⟩⟩⟩⟩⟩⟩⟩⟩⟩⟩⟩⟩⟩⟩⟩
    · replace h := h.2 c
      refine x_st rfl ?_
      refine x_st rfl ?_
      refine x_st rfl ?_
      refine x_st rfl ?_
      refine x_st rfl ?_
      refine x_st rfl ?_
      refine x_st rfl ?_
      obtain ⟨ho, x3, M1, N2, hc, h⟩ := h
      refine y_vi (y := 148) (n := 2) (ci := 10) (nx := 211) rfl (fun _ => rfl) ho rfl hc ?_
      refine x_st rfl ?_
      refine x_st rfl ?_
      refine x_st rfl ?_
      refine x_st rfl ?_
      refine x_st rfl ?_
      refine x_st rfl ?_
      obtain ⟨i4, ha, h⟩ := h
      refine y_ia (nx := 222) (i := i4) rfl ha ?_
      refine x_st rfl ?_
      refine x_st rfl ?_
      refine x_br rfl (fun c => ?_) (fun c => ?_)
      · replace h := h.1 c
        refine x_st rfl ?_
        refine x_st rfl ?_
        refine x_kl ?_ h
        exact ⟨Or.inr rfl, ⟨Or.inr rfl, ⟨Or.inr rfl, ⟨Or.inr rfl, ⟨Or.inr rfl, ⟨Or.inr rfl, ⟨Or.inr rfl, ⟨Or.inr rfl, ⟨Or.inr rfl, ⟨Or.inr rfl, ⟨Or.inr rfl, ⟨Or.inr rfl, ⟨Or.inr rfl, ⟨Or.inr rfl, ⟨Or.inr rfl, ⟨Or.inr rfl, ⟨Or.inr rfl, ⟨Or.inr rfl, ⟨Or.inr rfl, ⟨Or.inl rfl, ⟨Or.inl rfl, ⟨Or.inl rfl, ⟨Or.inl rfl, ⟨Or.inl rfl, True.intro⟩⟩⟩⟩⟩⟩⟩⟩⟩⟩⟩⟩⟩⟩⟩⟩⟩⟩⟩⟩⟩⟩⟩⟩
      · replace h := h.2 c
        refine x_st rfl ?_
        exact x_ret rfl h
theorem BL_law_242 {C : mC} {Q : Option Value → mS → Prop} {L : Nat} {xs : Nat → Int32} {a1 : Nat} {a2 : Nat} {a3 : Nat} {a4 : Nat} {a5 : Nat} {a6 : Nat} {a7 : Nat} {v8 : Int32} {v9 : Int32} {a10 : Nat} {a11 : Nat} {a12 : Nat} {a13 : Nat} {v14 : Int32} {v15 : Int32} {v16 : Int32} {w : Nat} {Sh : List mT} {MI : mI} {ML : mJ} (hL : L < 10001)
    (h : ∃ (x3 : Int32) (M1 : mI) (N2 : mJ), C 282 [.ref a10, .ref a11, .ref a12, .ref a5, .ref a7] (w, Sh, MI, ML) (some (.int x3)) (w, Sh, M1, N2) ∧ (VL_law_263 C Q L xs a1 a2 a3 a4 a5 a6 a7 v8 v9 a10 a11 a12 a13 v14 (v15 + x3) v16 (nI 0) w Sh M1 N2)) :
    VL_law_242 C Q L xs a1 a2 a3 a4 a5 a6 a7 v8 v9 a10 a11 a12 a13 v14 v15 v16 w Sh MI ML := by
  show mEx C (TL_law L xs) Q (242, [some (.float 0), some (.ref a1), some (.ref a2), some (.ref a3), some (.ref a4), some (.ref a5), some (.ref a6), some (.ref a7), some (.int v8), some (.int v9), some (.ref a10), some (.ref a11), some (.ref a12), some (.ref a13), some (.int v14), some (.int v15), some (.int v16), none, none, none, none, none, none, none], [], (w, Sh, MI, ML))
  refine x_st rfl ?_
  refine x_st rfl ?_
  refine x_st rfl ?_
  refine x_st rfl ?_
  refine x_st rfl ?_
  refine x_st rfl ?_
  obtain ⟨x3, M1, N2, hc, h⟩ := h
  refine x_ci rfl hc ?_
  refine x_st rfl ?_
  refine x_st rfl ?_
  refine x_st rfl ?_
  refine x_st rfl ?_
  refine x_kl ?_ h
  exact ⟨Or.inr rfl, ⟨Or.inr rfl, ⟨Or.inr rfl, ⟨Or.inr rfl, ⟨Or.inr rfl, ⟨Or.inr rfl, ⟨Or.inr rfl, ⟨Or.inr rfl, ⟨Or.inr rfl, ⟨Or.inr rfl, ⟨Or.inr rfl, ⟨Or.inr rfl, ⟨Or.inr rfl, ⟨Or.inr rfl, ⟨Or.inr rfl, ⟨Or.inr rfl, ⟨Or.inr rfl, ⟨Or.inr rfl, ⟨Or.inl rfl, ⟨Or.inl rfl, ⟨Or.inl rfl, ⟨Or.inl rfl, ⟨Or.inl rfl, ⟨Or.inl rfl, True.intro⟩⟩⟩⟩⟩⟩⟩⟩⟩⟩⟩⟩⟩⟩⟩⟩⟩⟩⟩⟩⟩⟩⟩⟩
theorem BL_law_263 {C : mC} {Q : Option Value → mS → Prop} {L : Nat} {xs : Nat → Int32} {a1 : Nat} {a2 : Nat} {a3 : Nat} {a4 : Nat} {a5 : Nat} {a6 : Nat} {a7 : Nat} {v8 : Int32} {v9 : Int32} {a10 : Nat} {a11 : Nat} {a12 : Nat} {a13 : Nat} {v14 : Int32} {v15 : Int32} {v16 : Int32} {v17 : Int32} {w : Nat} {Sh : List mT} {MI : mI} {ML : mJ} (hL : L < 10001)
    (h : aok Sh a2 0 (nI 0) ∧ (((MI a2 0) ≤ v17 → VL_law_120 C Q L xs a1 a2 a3 a4 a5 a6 a7 v8 v9 a10 a11 a12 a13 v14 v15 (v16 + (nI 1)) w Sh MI ML) ∧ (¬ (MI a2 0) ≤ v17 → ∃ i1 : Nat, aok Sh a7 i1 v17 ∧ (((MI a7 i1) = (nI 8) → VL_law_292 C Q L xs a1 a2 a3 a4 a5 a6 a7 v8 v9 a10 a11 a12 a13 (v14 &&& (((nI 1) <<< (v17 &&& 31)) ^^^ (-1 : Int32))) v15 v16 v17 w Sh MI ML) ∧ (¬ (MI a7 i1) = (nI 8) → VL_law_292 C Q L xs a1 a2 a3 a4 a5 a6 a7 v8 v9 a10 a11 a12 a13 v14 v15 v16 v17 w Sh MI ML))))) :
    VL_law_263 C Q L xs a1 a2 a3 a4 a5 a6 a7 v8 v9 a10 a11 a12 a13 v14 v15 v16 v17 w Sh MI ML := by
  show mEx C (TL_law L xs) Q (263, [some (.float 0), some (.ref a1), some (.ref a2), some (.ref a3), some (.ref a4), some (.ref a5), some (.ref a6), some (.ref a7), some (.int v8), some (.int v9), some (.ref a10), some (.ref a11), some (.ref a12), some (.ref a13), some (.int v14), some (.int v15), some (.int v16), some (.int v17), none, none, none, none, none, none], [], (w, Sh, MI, ML))
  refine x_st rfl ?_
  refine x_st rfl ?_
  refine x_st rfl ?_
  refine y_ia (nx := 268) (i := 0) rfl h.1 ?_
  replace h := h.2
  refine x_br rfl (fun c => ?_) (fun c => ?_)
  · replace h := h.1 c
    refine x_st rfl ?_
    refine x_st rfl ?_
    refine x_kl ?_ h
    exact ⟨Or.inr rfl, ⟨Or.inr rfl, ⟨Or.inr rfl, ⟨Or.inr rfl, ⟨Or.inr rfl, ⟨Or.inr rfl, ⟨Or.inr rfl, ⟨Or.inr rfl, ⟨Or.inr rfl, ⟨Or.inr rfl, ⟨Or.inr rfl, ⟨Or.inr rfl, ⟨Or.inr rfl, ⟨Or.inr rfl, ⟨Or.inr rfl, ⟨Or.inr rfl, ⟨Or.inr rfl, ⟨Or.inl rfl, ⟨Or.inl rfl, ⟨Or.inl rfl, ⟨Or.inl rfl, ⟨Or.inl rfl, ⟨Or.inl rfl, ⟨Or.inl rfl, True.intro⟩⟩⟩⟩⟩⟩⟩⟩⟩⟩⟩⟩⟩⟩⟩⟩⟩⟩⟩⟩⟩⟩⟩⟩
  · replace h := h.2 c
    refine x_st rfl ?_
    refine x_st rfl ?_
    obtain ⟨i1, ha, h⟩ := h
    refine y_ia (nx := 276) (i := i1) rfl ha ?_
    refine x_st rfl ?_
    refine x_br rfl (fun c => ?_) (fun c => ?_)
    · replace h := h.1 c
      refine x_st rfl ?_
      refine x_st rfl ?_
      refine x_st rfl ?_
      refine x_st rfl ?_
      refine x_st rfl ?_
      refine x_st rfl ?_
      refine x_st rfl ?_
      refine x_st rfl ?_
      refine x_kl ?_ h
      exact ⟨Or.inr rfl, ⟨Or.inr rfl, ⟨Or.inr rfl, ⟨Or.inr rfl, ⟨Or.inr rfl, ⟨Or.inr rfl, ⟨Or.inr rfl, ⟨Or.inr rfl, ⟨Or.inr rfl, ⟨Or.inr rfl, ⟨Or.inr rfl, ⟨Or.inr rfl, ⟨Or.inr rfl, ⟨Or.inr rfl, ⟨Or.inr rfl, ⟨Or.inr rfl, ⟨Or.inr rfl, ⟨Or.inr rfl, ⟨Or.inl rfl, ⟨Or.inl rfl, ⟨Or.inl rfl, ⟨Or.inl rfl, ⟨Or.inl rfl, ⟨Or.inl rfl, True.intro⟩⟩⟩⟩⟩⟩⟩⟩⟩⟩⟩⟩⟩⟩⟩⟩⟩⟩⟩⟩⟩⟩⟩⟩
    · replace h := h.2 c
      refine x_kl ?_ h
      exact ⟨Or.inr rfl, ⟨Or.inr rfl, ⟨Or.inr rfl, ⟨Or.inr rfl, ⟨Or.inr rfl, ⟨Or.inr rfl, ⟨Or.inr rfl, ⟨Or.inr rfl, ⟨Or.inr rfl, ⟨Or.inr rfl, ⟨Or.inr rfl, ⟨Or.inr rfl, ⟨Or.inr rfl, ⟨Or.inr rfl, ⟨Or.inr rfl, ⟨Or.inr rfl, ⟨Or.inr rfl, ⟨Or.inr rfl, ⟨Or.inl rfl, ⟨Or.inl rfl, ⟨Or.inl rfl, ⟨Or.inl rfl, ⟨Or.inl rfl, ⟨Or.inl rfl, True.intro⟩⟩⟩⟩⟩⟩⟩⟩⟩⟩⟩⟩⟩⟩⟩⟩⟩⟩⟩⟩⟩⟩⟩⟩
theorem BL_law_292 {C : mC} {Q : Option Value → mS → Prop} {L : Nat} {xs : Nat → Int32} {a1 : Nat} {a2 : Nat} {a3 : Nat} {a4 : Nat} {a5 : Nat} {a6 : Nat} {a7 : Nat} {v8 : Int32} {v9 : Int32} {a10 : Nat} {a11 : Nat} {a12 : Nat} {a13 : Nat} {v14 : Int32} {v15 : Int32} {v16 : Int32} {v17 : Int32} {w : Nat} {Sh : List mT} {MI : mI} {ML : mJ} (hL : L < 10001)
    (h : ∃ i1 : Nat, aok Sh a13 i1 v17 ∧ (∃ i2 : Nat, aok Sh a13 i2 v17 ∧ (VL_law_263 C Q L xs a1 a2 a3 a4 a5 a6 a7 v8 v9 a10 a11 a12 a13 v14 v15 v16 (v17 + (nI 1)) w Sh (mup MI a13 (mput (MI a13) i2 ((MI a13 i1) + ((v14 >>> (v17 &&& 31)) &&& (nI 1))))) ML))) :
    VL_law_292 C Q L xs a1 a2 a3 a4 a5 a6 a7 v8 v9 a10 a11 a12 a13 v14 v15 v16 v17 w Sh MI ML := by
  show mEx C (TL_law L xs) Q (292, [some (.float 0), some (.ref a1), some (.ref a2), some (.ref a3), some (.ref a4), some (.ref a5), some (.ref a6), some (.ref a7), some (.int v8), some (.int v9), some (.ref a10), some (.ref a11), some (.ref a12), some (.ref a13), some (.int v14), some (.int v15), some (.int v16), some (.int v17), none, none, none, none, none, none], [], (w, Sh, MI, ML))
  refine x_st rfl ?_
  refine x_st rfl ?_
  refine x_st rfl ?_
  obtain ⟨i1, ha, h⟩ := h
  refine y_ia (nx := 298) (i := i1) rfl ha ?_
  refine x_st rfl ?_
  refine x_st rfl ?_
  refine x_st rfl ?_
  refine x_st rfl ?_
  refine x_st rfl ?_
  refine x_st rfl ?_
  obtain ⟨i2, ha, h⟩ := h
  refine y_iast (nx := 307) (i := i2) rfl ha ?_
  refine x_st rfl ?_
  refine x_st rfl ?_
  refine x_kl ?_ h
  exact ⟨Or.inr rfl, ⟨Or.inr rfl, ⟨Or.inr rfl, ⟨Or.inr rfl, ⟨Or.inr rfl, ⟨Or.inr rfl, ⟨Or.inr rfl, ⟨Or.inr rfl, ⟨Or.inr rfl, ⟨Or.inr rfl, ⟨Or.inr rfl, ⟨Or.inr rfl, ⟨Or.inr rfl, ⟨Or.inr rfl, ⟨Or.inr rfl, ⟨Or.inr rfl, ⟨Or.inr rfl, ⟨Or.inr rfl, ⟨Or.inl rfl, ⟨Or.inl rfl, ⟨Or.inl rfl, ⟨Or.inl rfl, ⟨Or.inl rfl, ⟨Or.inl rfl, True.intro⟩⟩⟩⟩⟩⟩⟩⟩⟩⟩⟩⟩⟩⟩⟩⟩⟩⟩⟩⟩⟩⟩⟩⟩
theorem BL_law_319 {C : mC} {Q : Option Value → mS → Prop} {L : Nat} {xs : Nat → Int32} {a1 : Nat} {a2 : Nat} {a3 : Nat} {a4 : Nat} {a5 : Nat} {a6 : Nat} {a7 : Nat} {v8 : Int32} {a13 : Nat} {v15 : Int32} {w : Nat} {Sh : List mT} {MI : mI} {ML : mJ} (hL : L < 10001)
    (h : isO Sh a1 10 ∧ ∃ (x3 : Int32) (M1 : mI) (N2 : mJ), C 147 [.ref a1, .int (nI 40), .int (-1 : Int32)] (w, Sh, MI, ML) (some (.int x3)) (w, Sh, M1, N2) ∧ ((x3 = v15 → isO Sh a1 10 ∧ ∃ (x6 : Int32) (M4 : mI) (N5 : mJ), C 147 [.ref a1, .int (nI 41), .int (-1 : Int32)] (w, Sh, M1, N2) (some (.int x6)) (w, Sh, M4, N5) ∧ ((x6 = (-1 : Int32) → aok Sh a2 0 (nI 0) ∧ (isO Sh a1 10 ∧ ∃ (x9 : Int32) (M7 : mI) (N8 : mJ), C 147 [.ref a1, .int (nI 0), .int (M4 a2 0)] (w, Sh, M4, N5) (some (.int x9)) (w, Sh, M7, N8) ∧ ((x9 = (-1 : Int32) → isO Sh a1 10 ∧ ∃ (x12 : Int32) (M10 : mI) (N11 : mJ), C 147 [.ref a1, .int (-1 : Int32), .int (-1 : Int32)] (w, Sh, M7, N8) (some (.int x12)) (w, Sh, M10, N11) ∧ ((x12 = (-1 : Int32) → VL_law_366 C Q L xs a1 a2 a3 a4 a5 a6 a7 v8 a13 w Sh M10 N11) ∧ (¬ x12 = (-1 : Int32) → Q (some (.int (nI 0))) (w, Sh, M10, N11)))) ∧ (¬ x9 = (-1 : Int32) → Q (some (.int (nI 0))) (w, Sh, M7, N8))))) ∧ (¬ x6 = (-1 : Int32) → Q (some (.int (nI 0))) (w, Sh, M4, N5)))) ∧ (¬ x3 = v15 → Q (some (.int (nI 0))) (w, Sh, M1, N2)))) :
    VL_law_319 C Q L xs a1 a2 a3 a4 a5 a6 a7 v8 a13 v15 w Sh MI ML := by
  show mEx C (TL_law L xs) Q (319, [some (.float 0), some (.ref a1), some (.ref a2), some (.ref a3), some (.ref a4), some (.ref a5), some (.ref a6), some (.ref a7), some (.int v8), none, none, none, none, some (.ref a13), none, some (.int v15), none, none, none, none, none, none, none, none], [], (w, Sh, MI, ML))
  refine x_st rfl ?_
  refine x_st rfl ?_
  refine x_st rfl ?_
  obtain ⟨ho, x3, M1, N2, hc, h⟩ := h
  refine y_vi (y := 147) (n := 2) (ci := 10) (nx := 326) rfl (fun _ => rfl) ho rfl hc ?_
  refine x_st rfl ?_
  refine x_br rfl (fun c => ?_) (fun c => ?_)
  · replace h := h.1 c
    refine x_st rfl ?_
    refine x_st rfl ?_
    refine x_st rfl ?_
    obtain ⟨ho, x6, M4, N5, hc, h⟩ := h
    refine y_vi (y := 147) (n := 2) (ci := 10) (nx := 338) rfl (fun _ => rfl) ho rfl hc ?_
    refine x_st rfl ?_
    refine x_br rfl (fun c => ?_) (fun c => ?_)
    · replace h := h.1 c
      refine x_st rfl ?_
      refine x_st rfl ?_
      refine x_st rfl ?_
      refine x_st rfl ?_
      refine y_ia (nx := 347) (i := 0) rfl h.1 ?_
      replace h := h.2
      obtain ⟨ho, x9, M7, N8, hc, h⟩ := h
      refine y_vi (y := 147) (n := 2) (ci := 10) (nx := 350) rfl (fun _ => rfl) ho rfl hc ?_
      refine x_st rfl ?_
      refine x_br rfl (fun c => ?_) (fun c => ?_)
      · replace h := h.1 c
        refine x_st rfl ?_
        refine x_st rfl ?_
        refine x_st rfl ?_
        obtain ⟨ho, x12, M10, N11, hc, h⟩ := h
        refine y_vi (y := 147) (n := 2) (ci := 10) (nx := 360) rfl (fun _ => rfl) ho rfl hc ?_
        refine x_st rfl ?_
        refine x_br rfl (fun c => ?_) (fun c => ?_)
        · replace h := h.1 c
          refine x_kl ?_ h
          exact ⟨Or.inr rfl, ⟨Or.inr rfl, ⟨Or.inr rfl, ⟨Or.inr rfl, ⟨Or.inr rfl, ⟨Or.inr rfl, ⟨Or.inr rfl, ⟨Or.inr rfl, ⟨Or.inr rfl, ⟨Or.inl rfl, ⟨Or.inl rfl, ⟨Or.inl rfl, ⟨Or.inl rfl, ⟨Or.inr rfl, ⟨Or.inl rfl, ⟨Or.inl rfl, ⟨Or.inl rfl, ⟨Or.inl rfl, ⟨Or.inl rfl, ⟨Or.inl rfl, ⟨Or.inl rfl, ⟨Or.inl rfl, ⟨Or.inl rfl, ⟨Or.inl rfl, True.intro⟩⟩⟩⟩⟩⟩⟩⟩⟩⟩⟩⟩⟩⟩⟩⟩⟩⟩⟩⟩⟩⟩⟩⟩
        · replace h := h.2 c
          refine x_st rfl ?_
          exact x_ret rfl h
      · replace h := h.2 c
        refine x_st rfl ?_
        exact x_ret rfl h
    · replace h := h.2 c
      refine x_st rfl ?_
      exact x_ret rfl h
  · replace h := h.2 c
    refine x_st rfl ?_
    exact x_ret rfl h
theorem BL_law_366 {C : mC} {Q : Option Value → mS → Prop} {L : Nat} {xs : Nat → Int32} {a1 : Nat} {a2 : Nat} {a3 : Nat} {a4 : Nat} {a5 : Nat} {a6 : Nat} {a7 : Nat} {v8 : Int32} {a13 : Nat} {w : Nat} {Sh : List mT} {MI : mI} {ML : mJ} (hL : L < 10001)
    (h : VL_law_369 C Q L xs a1 a2 a3 a4 a5 a6 a7 v8 a13 (nI 0) w Sh MI ML) :
    VL_law_366 C Q L xs a1 a2 a3 a4 a5 a6 a7 v8 a13 w Sh MI ML := by
  show mEx C (TL_law L xs) Q (366, [some (.float 0), some (.ref a1), some (.ref a2), some (.ref a3), some (.ref a4), some (.ref a5), some (.ref a6), some (.ref a7), some (.int v8), none, none, none, none, some (.ref a13), none, none, none, none, none, none, none, none, none, none], [], (w, Sh, MI, ML))
  refine x_st rfl ?_
  refine x_st rfl ?_
  refine x_kl ?_ h
  exact ⟨Or.inr rfl, ⟨Or.inr rfl, ⟨Or.inr rfl, ⟨Or.inr rfl, ⟨Or.inr rfl, ⟨Or.inr rfl, ⟨Or.inr rfl, ⟨Or.inr rfl, ⟨Or.inr rfl, ⟨Or.inl rfl, ⟨Or.inl rfl, ⟨Or.inl rfl, ⟨Or.inl rfl, ⟨Or.inr rfl, ⟨Or.inl rfl, ⟨Or.inl rfl, ⟨Or.inr rfl, ⟨Or.inl rfl, ⟨Or.inl rfl, ⟨Or.inl rfl, ⟨Or.inl rfl, ⟨Or.inl rfl, ⟨Or.inl rfl, ⟨Or.inl rfl, True.intro⟩⟩⟩⟩⟩⟩⟩⟩⟩⟩⟩⟩⟩⟩⟩⟩⟩⟩⟩⟩⟩⟩⟩⟩
theorem BL_law_369 {C : mC} {Q : Option Value → mS → Prop} {L : Nat} {xs : Nat → Int32} {a1 : Nat} {a2 : Nat} {a3 : Nat} {a4 : Nat} {a5 : Nat} {a6 : Nat} {a7 : Nat} {v8 : Int32} {a13 : Nat} {v16 : Int32} {w : Nat} {Sh : List mT} {MI : mI} {ML : mJ} (hL : L < 10001)
    (h : aok Sh a2 0 (nI 0) ∧ (((MI a2 0) ≤ v16 → VL_law_399 C Q L xs a1 a2 a3 a4 a5 a6 a7 v8 w Sh MI ML) ∧ (¬ (MI a2 0) ≤ v16 → isO Sh a1 10 ∧ ∃ (x3 : Int32) (M1 : mI) (N2 : mJ), C 149 [.ref a1, .int v16] (w, Sh, MI, ML) (some (.int x3)) (w, Sh, M1, N2) ∧ (∃ i4 : Nat, aok Sh a13 i4 v16 ∧ ((x3 = (M1 a13 i4) → VL_law_369 C Q L xs a1 a2 a3 a4 a5 a6 a7 v8 a13 (v16 + (nI 1)) w Sh M1 N2) ∧ (¬ x3 = (M1 a13 i4) → Q (some (.int (nI 0))) (w, Sh, M1, N2))))))) :
    VL_law_369 C Q L xs a1 a2 a3 a4 a5 a6 a7 v8 a13 v16 w Sh MI ML := by
  show mEx C (TL_law L xs) Q (369, [some (.float 0), some (.ref a1), some (.ref a2), some (.ref a3), some (.ref a4), some (.ref a5), some (.ref a6), some (.ref a7), some (.int v8), none, none, none, none, some (.ref a13), none, none, some (.int v16), none, none, none, none, none, none, none], [], (w, Sh, MI, ML))
  refine x_st rfl ?_
  refine x_st rfl ?_
  refine x_st rfl ?_
  refine y_ia (nx := 374) (i := 0) rfl h.1 ?_
  replace h := h.2
  refine x_br rfl (fun c => ?_) (fun c => ?_)
  · replace h := h.1 c
    refine x_kl ?_ h
    exact ⟨Or.inr rfl, ⟨Or.inr rfl, ⟨Or.inr rfl, ⟨Or.inr rfl, ⟨Or.inr rfl, ⟨Or.inr rfl, ⟨Or.inr rfl, ⟨Or.inr rfl, ⟨Or.inr rfl, ⟨Or.inl rfl, ⟨Or.inl rfl, ⟨Or.inl rfl, ⟨Or.inl rfl, ⟨Or.inl rfl, ⟨Or.inl rfl, ⟨Or.inl rfl, ⟨Or.inl rfl, ⟨Or.inl rfl, ⟨Or.inl rfl, ⟨Or.inl rfl, ⟨Or.inl rfl, ⟨Or.inl rfl, ⟨Or.inl rfl, ⟨Or.inl rfl, True.intro⟩⟩⟩⟩⟩⟩⟩⟩⟩⟩⟩⟩⟩⟩⟩⟩⟩⟩⟩⟩⟩⟩⟩⟩
  · replace h := h.2 c
    refine x_st rfl ?_
    refine x_st rfl ?_
    obtain ⟨ho, x3, M1, N2, hc, h⟩ := h
    refine y_vi (y := 149) (n := 1) (ci := 10) (nx := 383) rfl (fun _ => rfl) ho rfl hc ?_
    refine x_st rfl ?_
    refine x_st rfl ?_
    obtain ⟨i4, ha, h⟩ := h
    refine y_ia (nx := 388) (i := i4) rfl ha ?_
    refine x_br rfl (fun c => ?_) (fun c => ?_)
    · replace h := h.1 c
      refine x_st rfl ?_
      refine x_st rfl ?_
      refine x_kl ?_ h
      exact ⟨Or.inr rfl, ⟨Or.inr rfl, ⟨Or.inr rfl, ⟨Or.inr rfl, ⟨Or.inr rfl, ⟨Or.inr rfl, ⟨Or.inr rfl, ⟨Or.inr rfl, ⟨Or.inr rfl, ⟨Or.inl rfl, ⟨Or.inl rfl, ⟨Or.inl rfl, ⟨Or.inl rfl, ⟨Or.inr rfl, ⟨Or.inl rfl, ⟨Or.inl rfl, ⟨Or.inr rfl, ⟨Or.inl rfl, ⟨Or.inl rfl, ⟨Or.inl rfl, ⟨Or.inl rfl, ⟨Or.inl rfl, ⟨Or.inl rfl, ⟨Or.inl rfl, True.intro⟩⟩⟩⟩⟩⟩⟩⟩⟩⟩⟩⟩⟩⟩⟩⟩⟩⟩⟩⟩⟩⟩⟩⟩
    · replace h := h.2 c
      refine x_st rfl ?_
      exact x_ret rfl h
theorem BL_law_399 {C : mC} {Q : Option Value → mS → Prop} {L : Nat} {xs : Nat → Int32} {a1 : Nat} {a2 : Nat} {a3 : Nat} {a4 : Nat} {a5 : Nat} {a6 : Nat} {a7 : Nat} {v8 : Int32} {w : Nat} {Sh : List mT} {MI : mI} {ML : mJ} (hL : L < 10001)
    (h : VL_law_402 C Q L xs a1 a2 a3 a4 a5 a6 a7 v8 (nI 0) w Sh MI ML) :
    VL_law_399 C Q L xs a1 a2 a3 a4 a5 a6 a7 v8 w Sh MI ML := by
  show mEx C (TL_law L xs) Q (399, [some (.float 0), some (.ref a1), some (.ref a2), some (.ref a3), some (.ref a4), some (.ref a5), some (.ref a6), some (.ref a7), some (.int v8), none, none, none, none, none, none, none, none, none, none, none, none, none, none, none], [], (w, Sh, MI, ML))
  refine x_st rfl ?_
  refine x_st rfl ?_
  refine x_kl ?_ h
  exact ⟨Or.inr rfl, ⟨Or.inr rfl, ⟨Or.inr rfl, ⟨Or.inr rfl, ⟨Or.inr rfl, ⟨Or.inr rfl, ⟨Or.inr rfl, ⟨Or.inr rfl, ⟨Or.inr rfl, ⟨Or.inl rfl, ⟨Or.inl rfl, ⟨Or.inl rfl, ⟨Or.inl rfl, ⟨Or.inl rfl, ⟨Or.inl rfl, ⟨Or.inl rfl, ⟨Or.inr rfl, ⟨Or.inl rfl, ⟨Or.inl rfl, ⟨Or.inl rfl, ⟨Or.inl rfl, ⟨Or.inl rfl, ⟨Or.inl rfl, ⟨Or.inl rfl, True.intro⟩⟩⟩⟩⟩⟩⟩⟩⟩⟩⟩⟩⟩⟩⟩⟩⟩⟩⟩⟩⟩⟩⟩⟩
theorem BL_law_402 {C : mC} {Q : Option Value → mS → Prop} {L : Nat} {xs : Nat → Int32} {a1 : Nat} {a2 : Nat} {a3 : Nat} {a4 : Nat} {a5 : Nat} {a6 : Nat} {a7 : Nat} {v8 : Int32} {v16 : Int32} {w : Nat} {Sh : List mT} {MI : mI} {ML : mJ} (hL : L < 10001)
    (h : ((nI 7) ≤ v16 → VL_law_975 C Q L xs a1 a2 a3 a4 a5 a6 a7 v8 w Sh MI ML) ∧ (¬ (nI 7) ≤ v16 → ∃ (x3 : Int32) (M1 : mI) (N2 : mJ), C 300 [.float 0, .int (((nI 61) + ((nI 7) * v8)) + v16)] (w, Sh, MI, ML) (some (.int x3)) (w, Sh, M1, N2) ∧ (aok Sh a2 0 (nI 0) ∧ (((M1 a2 0) = nI 0 → VL_law_453 C Q L xs a1 a2 a3 a4 a5 a6 a7 v8 v16 x3 ((((x3).toUInt32 >>> (((nI 1)).toUInt32 &&& Int32.toUInt32 31)).toInt32) - (((x3).toUInt32 >>> (((nI 1)).toUInt32 &&& Int32.toUInt32 31)).toInt32) / (nI 6) * (nI 6)) (nI 0) w Sh M1 N2) ∧ (¬ (M1 a2 0) = nI 0 → aok Sh a2 0 (nI 0) ∧ (¬ (M1 a2 0) = nI 0 ∧ (VL_law_453 C Q L xs a1 a2 a3 a4 a5 a6 a7 v8 v16 x3 ((((x3).toUInt32 >>> (((nI 1)).toUInt32 &&& Int32.toUInt32 31)).toInt32) - (((x3).toUInt32 >>> (((nI 1)).toUInt32 &&& Int32.toUInt32 31)).toInt32) / (nI 6) * (nI 6)) ((((x3).toUInt32 >>> (((nI 5)).toUInt32 &&& Int32.toUInt32 31)).toInt32) - (((x3).toUInt32 >>> (((nI 5)).toUInt32 &&& Int32.toUInt32 31)).toInt32) / (M1 a2 0) * (M1 a2 0)) w Sh M1 N2))))))) :
    VL_law_402 C Q L xs a1 a2 a3 a4 a5 a6 a7 v8 v16 w Sh MI ML := by
  show mEx C (TL_law L xs) Q (402, [some (.float 0), some (.ref a1), some (.ref a2), some (.ref a3), some (.ref a4), some (.ref a5), some (.ref a6), some (.ref a7), some (.int v8), none, none, none, none, none, none, none, some (.int v16), none, none, none, none, none, none, none], [], (w, Sh, MI, ML))
  refine x_st rfl ?_
  refine x_st rfl ?_
  refine x_br rfl (fun c => ?_) (fun c => ?_)
  · replace h := h.1 c
    refine x_kl ?_ h
    exact ⟨Or.inr rfl, ⟨Or.inr rfl, ⟨Or.inr rfl, ⟨Or.inr rfl, ⟨Or.inr rfl, ⟨Or.inr rfl, ⟨Or.inr rfl, ⟨Or.inr rfl, ⟨Or.inr rfl, ⟨Or.inl rfl, ⟨Or.inl rfl, ⟨Or.inl rfl, ⟨Or.inl rfl, ⟨Or.inl rfl, ⟨Or.inl rfl, ⟨Or.inl rfl, ⟨Or.inl rfl, ⟨Or.inl rfl, ⟨Or.inl rfl, ⟨Or.inl rfl, ⟨Or.inl rfl, ⟨Or.inl rfl, ⟨Or.inl rfl, ⟨Or.inl rfl, True.intro⟩⟩⟩⟩⟩⟩⟩⟩⟩⟩⟩⟩⟩⟩⟩⟩⟩⟩⟩⟩⟩⟩⟩⟩
  · replace h := h.2 c
    refine x_st rfl ?_
    refine x_st rfl ?_
    refine x_st rfl ?_
    refine x_st rfl ?_
    refine x_st rfl ?_
    refine x_st rfl ?_
    refine x_st rfl ?_
    refine x_st rfl ?_
    obtain ⟨x3, M1, N2, hc, h⟩ := h
    refine x_ci rfl hc ?_
    refine x_st rfl ?_
    refine x_st rfl ?_
    refine x_st rfl ?_
    refine x_st rfl ?_
    refine x_st rfl ?_
    refine x_st rfl ?_
    refine x_st rfl ?_
    refine x_st rfl ?_
    refine x_st rfl ?_
    refine y_ia (nx := 438) (i := 0) rfl h.1 ?_
    replace h := h.2
    refine x_br rfl (fun c => ?_) (fun c => ?_)
    · replace h := h.1 c
      refine x_st rfl ?_
      refine x_st rfl ?_
      refine x_kl ?_ h
      exact ⟨Or.inr rfl, ⟨Or.inr rfl, ⟨Or.inr rfl, ⟨Or.inr rfl, ⟨Or.inr rfl, ⟨Or.inr rfl, ⟨Or.inr rfl, ⟨Or.inr rfl, ⟨Or.inr rfl, ⟨Or.inl rfl, ⟨Or.inl rfl, ⟨Or.inl rfl, ⟨Or.inl rfl, ⟨Or.inl rfl, ⟨Or.inl rfl, ⟨Or.inl rfl, ⟨Or.inr rfl, ⟨Or.inr rfl, ⟨Or.inr rfl, ⟨Or.inl rfl, ⟨Or.inl rfl, ⟨Or.inl rfl, ⟨Or.inl rfl, ⟨Or.inl rfl, True.intro⟩⟩⟩⟩⟩⟩⟩⟩⟩⟩⟩⟩⟩⟩⟩⟩⟩⟩⟩⟩⟩⟩⟩⟩
    · replace h := h.2 c
      refine x_st rfl ?_
      refine x_st rfl ?_
      refine x_st rfl ?_
      refine x_st rfl ?_
      refine x_st rfl ?_
      refine y_ia (nx := 452) (i := 0) rfl h.1 ?_
      replace h := h.2
      refine x_ck rfl h.1 ?_
      have h := h.2
      refine x_kl ?_ h
      exact ⟨Or.inr rfl, ⟨Or.inr rfl, ⟨Or.inr rfl, ⟨Or.inr rfl, ⟨Or.inr rfl, ⟨Or.inr rfl, ⟨Or.inr rfl, ⟨Or.inr rfl, ⟨Or.inr rfl, ⟨Or.inl rfl, ⟨Or.inl rfl, ⟨Or.inl rfl, ⟨Or.inl rfl, ⟨Or.inl rfl, ⟨Or.inl rfl, ⟨Or.inl rfl, ⟨Or.inr rfl, ⟨Or.inr rfl, ⟨Or.inr rfl, ⟨Or.inl rfl, ⟨Or.inl rfl, ⟨Or.inl rfl, ⟨Or.inl rfl, ⟨Or.inl rfl, True.intro⟩⟩⟩⟩⟩⟩⟩⟩⟩⟩⟩⟩⟩⟩⟩⟩⟩⟩⟩⟩⟩⟩⟩⟩
theorem BL_law_453 {C : mC} {Q : Option Value → mS → Prop} {L : Nat} {xs : Nat → Int32} {a1 : Nat} {a2 : Nat} {a3 : Nat} {a4 : Nat} {a5 : Nat} {a6 : Nat} {a7 : Nat} {v8 : Int32} {v16 : Int32} {v17 : Int32} {v18 : Int32} {s0 : Int32} {w : Nat} {Sh : List mT} {MI : mI} {ML : mJ} (hL : L < 10001)
    (h : aok Sh a2 0 (nI 0) ∧ (((nI 2) ≤ (MI a2 0) → aok Sh a2 0 (nI 0) ∧ (¬ ((MI a2 0) - (nI 1)) = nI 0 ∧ (aok Sh a2 0 (nI 0) ∧ (¬ (MI a2 0) = nI 0 ∧ (VL_law_486 C Q L xs a1 a2 a3 a4 a5 a6 a7 v8 v16 v17 v18 s0 (((s0 + (nI 1)) + ((((v17).toUInt32 >>> (((nI 9)).toUInt32 &&& Int32.toUInt32 31)).toInt32) - (((v17).toUInt32 >>> (((nI 9)).toUInt32 &&& Int32.toUInt32 31)).toInt32) / ((MI a2 0) - (nI 1)) * ((MI a2 0) - (nI 1)))) - ((s0 + (nI 1)) + ((((v17).toUInt32 >>> (((nI 9)).toUInt32 &&& Int32.toUInt32 31)).toInt32) - (((v17).toUInt32 >>> (((nI 9)).toUInt32 &&& Int32.toUInt32 31)).toInt32) / ((MI a2 0) - (nI 1)) * ((MI a2 0) - (nI 1)))) / (MI a2 0) * (MI a2 0)) w Sh MI ML))))) ∧ (¬ (nI 2) ≤ (MI a2 0) → VL_law_486 C Q L xs a1 a2 a3 a4 a5 a6 a7 v8 v16 v17 v18 s0 (nI 0) w Sh MI ML))) :
    VL_law_453 C Q L xs a1 a2 a3 a4 a5 a6 a7 v8 v16 v17 v18 s0 w Sh MI ML := by
  show mEx C (TL_law L xs) Q (453, [some (.float 0), some (.ref a1), some (.ref a2), some (.ref a3), some (.ref a4), some (.ref a5), some (.ref a6), some (.ref a7), some (.int v8), none, none, none, none, none, none, none, some (.int v16), some (.int v17), some (.int v18), none, none, none, none, none], [.int s0], (w, Sh, MI, ML))
  refine x_st rfl ?_
  refine x_st rfl ?_
  refine x_st rfl ?_
  refine y_ia (nx := 458) (i := 0) rfl h.1 ?_
  replace h := h.2
  refine x_st rfl ?_
  refine x_br rfl (fun c => ?_) (fun c => ?_)
  · replace h := h.1 c
    refine x_st rfl ?_
    refine x_st rfl ?_
    refine x_st rfl ?_
    refine x_st rfl ?_
    refine x_st rfl ?_
    refine x_st rfl ?_
    refine x_st rfl ?_
    refine x_st rfl ?_
    refine y_ia (nx := 478) (i := 0) rfl h.1 ?_
    replace h := h.2
    refine x_st rfl ?_
    refine x_st rfl ?_
    refine x_ck rfl h.1 ?_
    have h := h.2
    refine x_st rfl ?_
    refine x_st rfl ?_
    refine x_st rfl ?_
    refine y_ia (nx := 485) (i := 0) rfl h.1 ?_
    replace h := h.2
    refine x_ck rfl h.1 ?_
    have h := h.2
    refine x_kl ?_ h
    exact ⟨Or.inr rfl, ⟨Or.inr rfl, ⟨Or.inr rfl, ⟨Or.inr rfl, ⟨Or.inr rfl, ⟨Or.inr rfl, ⟨Or.inr rfl, ⟨Or.inr rfl, ⟨Or.inr rfl, ⟨Or.inl rfl, ⟨Or.inl rfl, ⟨Or.inl rfl, ⟨Or.inl rfl, ⟨Or.inl rfl, ⟨Or.inl rfl, ⟨Or.inl rfl, ⟨Or.inr rfl, ⟨Or.inr rfl, ⟨Or.inr rfl, ⟨Or.inr rfl, ⟨Or.inl rfl, ⟨Or.inl rfl, ⟨Or.inl rfl, ⟨Or.inl rfl, True.intro⟩⟩⟩⟩⟩⟩⟩⟩⟩⟩⟩⟩⟩⟩⟩⟩⟩⟩⟩⟩⟩⟩⟩⟩
  · replace h := h.2 c
    refine x_st rfl ?_
    refine x_st rfl ?_
    refine x_kl ?_ h
    exact ⟨Or.inr rfl, ⟨Or.inr rfl, ⟨Or.inr rfl, ⟨Or.inr rfl, ⟨Or.inr rfl, ⟨Or.inr rfl, ⟨Or.inr rfl, ⟨Or.inr rfl, ⟨Or.inr rfl, ⟨Or.inl rfl, ⟨Or.inl rfl, ⟨Or.inl rfl, ⟨Or.inl rfl, ⟨Or.inl rfl, ⟨Or.inl rfl, ⟨Or.inl rfl, ⟨Or.inr rfl, ⟨Or.inr rfl, ⟨Or.inr rfl, ⟨Or.inr rfl, ⟨Or.inl rfl, ⟨Or.inl rfl, ⟨Or.inl rfl, ⟨Or.inl rfl, True.intro⟩⟩⟩⟩⟩⟩⟩⟩⟩⟩⟩⟩⟩⟩⟩⟩⟩⟩⟩⟩⟩⟩⟩⟩
theorem BL_law_486 {C : mC} {Q : Option Value → mS → Prop} {L : Nat} {xs : Nat → Int32} {a1 : Nat} {a2 : Nat} {a3 : Nat} {a4 : Nat} {a5 : Nat} {a6 : Nat} {a7 : Nat} {v8 : Int32} {v16 : Int32} {v17 : Int32} {v18 : Int32} {v19 : Int32} {s0 : Int32} {w : Nat} {Sh : List mT} {MI : mI} {ML : mJ} (hL : L < 10001)
    (h : (v18 < (nI 3) → VL_law_501 C Q L xs a1 a2 a3 a4 a5 a6 a7 v8 v16 w Sh MI ML) ∧ (¬ v18 < (nI 3) → aok Sh a2 0 (nI 0) ∧ (((nI 3) ≤ (MI a2 0) → (v18 = (nI 3) → VL_law_602 C Q L xs a1 a2 a3 a4 a5 a6 a7 v8 v16 v17 v19 s0 w Sh MI ML) ∧ (¬ v18 = (nI 3) → VL_law_707 C Q L xs a1 a2 a3 a4 a5 a6 a7 v8 v16 v17 v18 v19 s0 w Sh MI ML)) ∧ (¬ (nI 3) ≤ (MI a2 0) → VL_law_501 C Q L xs a1 a2 a3 a4 a5 a6 a7 v8 v16 w Sh MI ML)))) :
    VL_law_486 C Q L xs a1 a2 a3 a4 a5 a6 a7 v8 v16 v17 v18 v19 s0 w Sh MI ML := by
  show mEx C (TL_law L xs) Q (486, [some (.float 0), some (.ref a1), some (.ref a2), some (.ref a3), some (.ref a4), some (.ref a5), some (.ref a6), some (.ref a7), some (.int v8), none, none, none, none, none, none, none, some (.int v16), some (.int v17), some (.int v18), some (.int v19), none, none, none, none], [.int s0], (w, Sh, MI, ML))
  refine x_st rfl ?_
  refine x_st rfl ?_
  refine x_st rfl ?_
  refine x_br rfl (fun c => ?_) (fun c => ?_)
  · replace h := h.1 c
    refine x_kl ?_ h
    exact ⟨Or.inr rfl, ⟨Or.inr rfl, ⟨Or.inr rfl, ⟨Or.inr rfl, ⟨Or.inr rfl, ⟨Or.inr rfl, ⟨Or.inr rfl, ⟨Or.inr rfl, ⟨Or.inr rfl, ⟨Or.inl rfl, ⟨Or.inl rfl, ⟨Or.inl rfl, ⟨Or.inl rfl, ⟨Or.inl rfl, ⟨Or.inl rfl, ⟨Or.inl rfl, ⟨Or.inr rfl, ⟨Or.inl rfl, ⟨Or.inl rfl, ⟨Or.inl rfl, ⟨Or.inl rfl, ⟨Or.inl rfl, ⟨Or.inl rfl, ⟨Or.inl rfl, True.intro⟩⟩⟩⟩⟩⟩⟩⟩⟩⟩⟩⟩⟩⟩⟩⟩⟩⟩⟩⟩⟩⟩⟩⟩
  · replace h := h.2 c
    refine x_st rfl ?_
    refine x_st rfl ?_
    refine y_ia (nx := 497) (i := 0) rfl h.1 ?_
    replace h := h.2
    refine x_st rfl ?_
    refine x_br rfl (fun c => ?_) (fun c => ?_)
    · replace h := h.1 c
      refine x_st rfl ?_
      refine x_st rfl ?_
      refine x_br rfl (fun c => ?_) (fun c => ?_)
      · replace h := h.1 c
        refine x_kl ?_ h
        exact ⟨Or.inr rfl, ⟨Or.inr rfl, ⟨Or.inr rfl, ⟨Or.inr rfl, ⟨Or.inr rfl, ⟨Or.inr rfl, ⟨Or.inr rfl, ⟨Or.inr rfl, ⟨Or.inr rfl, ⟨Or.inl rfl, ⟨Or.inl rfl, ⟨Or.inl rfl, ⟨Or.inl rfl, ⟨Or.inl rfl, ⟨Or.inl rfl, ⟨Or.inl rfl, ⟨Or.inr rfl, ⟨Or.inr rfl, ⟨Or.inl rfl, ⟨Or.inr rfl, ⟨Or.inr rfl, ⟨Or.inl rfl, ⟨Or.inl rfl, ⟨Or.inl rfl, True.intro⟩⟩⟩⟩⟩⟩⟩⟩⟩⟩⟩⟩⟩⟩⟩⟩⟩⟩⟩⟩⟩⟩⟩⟩
      · replace h := h.2 c
        refine x_kl ?_ h
        exact ⟨Or.inr rfl, ⟨Or.inr rfl, ⟨Or.inr rfl, ⟨Or.inr rfl, ⟨Or.inr rfl, ⟨Or.inr rfl, ⟨Or.inr rfl, ⟨Or.inr rfl, ⟨Or.inr rfl, ⟨Or.inl rfl, ⟨Or.inl rfl, ⟨Or.inl rfl, ⟨Or.inl rfl, ⟨Or.inl rfl, ⟨Or.inl rfl, ⟨Or.inl rfl, ⟨Or.inr rfl, ⟨Or.inr rfl, ⟨Or.inr rfl, ⟨Or.inr rfl, ⟨Or.inr rfl, ⟨Or.inl rfl, ⟨Or.inl rfl, ⟨Or.inl rfl, True.intro⟩⟩⟩⟩⟩⟩⟩⟩⟩⟩⟩⟩⟩⟩⟩⟩⟩⟩⟩⟩⟩⟩⟩⟩
    · replace h := h.2 c
      refine x_kl ?_ h
      exact ⟨Or.inr rfl, ⟨Or.inr rfl, ⟨Or.inr rfl, ⟨Or.inr rfl, ⟨Or.inr rfl, ⟨Or.inr rfl, ⟨Or.inr rfl, ⟨Or.inr rfl, ⟨Or.inr rfl, ⟨Or.inl rfl, ⟨Or.inl rfl, ⟨Or.inl rfl, ⟨Or.inl rfl, ⟨Or.inl rfl, ⟨Or.inl rfl, ⟨Or.inl rfl, ⟨Or.inr rfl, ⟨Or.inl rfl, ⟨Or.inl rfl, ⟨Or.inl rfl, ⟨Or.inl rfl, ⟨Or.inl rfl, ⟨Or.inl rfl, ⟨Or.inl rfl, True.intro⟩⟩⟩⟩⟩⟩⟩⟩⟩⟩⟩⟩⟩⟩⟩⟩⟩⟩⟩⟩⟩⟩⟩⟩
theorem BL_law_501 {C : mC} {Q : Option Value → mS → Prop} {L : Nat} {xs : Nat → Int32} {a1 : Nat} {a2 : Nat} {a3 : Nat} {a4 : Nat} {a5 : Nat} {a6 : Nat} {a7 : Nat} {v8 : Int32} {v16 : Int32} {w : Nat} {Sh : List mT} {MI : mI} {ML : mJ} (hL : L < 10001)
    (h : ∃ (x3 : Int32) (M1 : mI) (N2 : mJ), C 282 [.ref a2, .ref a3, .ref a4, .ref a5, .ref a7] (w, Sh, MI, ML) (some (.int x3)) (w, Sh, M1, N2) ∧ (VL_law_514 C Q L xs a1 a2 a3 a4 a5 a6 a7 v8 v16 x3 w Sh M1 N2)) :
    VL_law_501 C Q L xs a1 a2 a3 a4 a5 a6 a7 v8 v16 w Sh MI ML := by
  show mEx C (TL_law L xs) Q (501, [some (.float 0), some (.ref a1), some (.ref a2), some (.ref a3), some (.ref a4), some (.ref a5), some (.ref a6), some (.ref a7), some (.int v8), none, none, none, none, none, none, none, some (.int v16), none, none, none, none, none, none, none], [], (w, Sh, MI, ML))
  refine x_st rfl ?_
  refine x_st rfl ?_
  refine x_st rfl ?_
  refine x_st rfl ?_
  refine x_st rfl ?_
  obtain ⟨x3, M1, N2, hc, h⟩ := h
  refine x_ci rfl hc ?_
  refine x_st rfl ?_
  refine x_kl ?_ h
  exact ⟨Or.inr rfl, ⟨Or.inr rfl, ⟨Or.inr rfl, ⟨Or.inr rfl, ⟨Or.inr rfl, ⟨Or.inr rfl, ⟨Or.inr rfl, ⟨Or.inr rfl, ⟨Or.inr rfl, ⟨Or.inl rfl, ⟨Or.inl rfl, ⟨Or.inl rfl, ⟨Or.inl rfl, ⟨Or.inl rfl, ⟨Or.inl rfl, ⟨Or.inl rfl, ⟨Or.inr rfl, ⟨Or.inl rfl, ⟨Or.inl rfl, ⟨Or.inl rfl, ⟨Or.inl rfl, ⟨Or.inr rfl, ⟨Or.inl rfl, ⟨Or.inl rfl, True.intro⟩⟩⟩⟩⟩⟩⟩⟩⟩⟩⟩⟩⟩⟩⟩⟩⟩⟩⟩⟩⟩⟩⟩⟩
theorem BL_law_514 {C : mC} {Q : Option Value → mS → Prop} {L : Nat} {xs : Nat → Int32} {a1 : Nat} {a2 : Nat} {a3 : Nat} {a4 : Nat} {a5 : Nat} {a6 : Nat} {a7 : Nat} {v8 : Int32} {v16 : Int32} {v21 : Int32} {w : Nat} {Sh : List mT} {MI : mI} {ML : mJ} (hL : L < 10001)
    (h : aok Sh a6 0 (nI 0) ∧ (aok Sh a6 0 (nI 0) ∧ (aok Sh a6 1 (nI 1) ∧ (aok Sh a6 1 (nI 1) ∧ (aok Sh a6 2 (nI 2) ∧ (aok Sh a2 0 (nI 0) ∧ (aok Sh a6 2 (nI 2) ∧ (VL_law_544 C Q L xs a1 a2 a3 a4 a5 a6 a7 v8 v16 v21 w Sh (mup (mup (mup MI a6 (mput (MI a6) 0 ((MI a6 0) + (nI 1)))) a6 (mput ((mup MI a6 (mput (MI a6) 0 ((MI a6 0) + (nI 1)))) a6) 1 (((mup MI a6 (mput (MI a6) 0 ((MI a6 0) + (nI 1)))) a6 1) + v21))) a6 (mput ((mup (mup MI a6 (mput (MI a6) 0 ((MI a6 0) + (nI 1)))) a6 (mput ((mup MI a6 (mput (MI a6) 0 ((MI a6 0) + (nI 1)))) a6) 1 (((mup MI a6 (mput (MI a6) 0 ((MI a6 0) + (nI 1)))) a6 1) + v21))) a6) 2 (((mup (mup MI a6 (mput (MI a6) 0 ((MI a6 0) + (nI 1)))) a6 (mput ((mup MI a6 (mput (MI a6) 0 ((MI a6 0) + (nI 1)))) a6) 1 (((mup MI a6 (mput (MI a6) 0 ((MI a6 0) + (nI 1)))) a6 1) + v21))) a6 2) + (((mup (mup MI a6 (mput (MI a6) 0 ((MI a6 0) + (nI 1)))) a6 (mput ((mup MI a6 (mput (MI a6) 0 ((MI a6 0) + (nI 1)))) a6) 1 (((mup MI a6 (mput (MI a6) 0 ((MI a6 0) + (nI 1)))) a6 1) + v21))) a2 0) - v21)))) ML)))))))) :
    VL_law_514 C Q L xs a1 a2 a3 a4 a5 a6 a7 v8 v16 v21 w Sh MI ML := by
  show mEx C (TL_law L xs) Q (514, [some (.float 0), some (.ref a1), some (.ref a2), some (.ref a3), some (.ref a4), some (.ref a5), some (.ref a6), some (.ref a7), some (.int v8), none, none, none, none, none, none, none, some (.int v16), none, none, none, none, some (.int v21), none, none], [], (w, Sh, MI, ML))
  refine x_st rfl ?_
  refine x_st rfl ?_
  refine x_st rfl ?_
  refine y_ia (nx := 519) (i := 0) rfl h.1 ?_
  replace h := h.2
  refine x_st rfl ?_
  refine x_st rfl ?_
  refine y_iast (nx := 522) (i := 0) rfl h.1 ?_
  replace h := h.2
  refine x_st rfl ?_
  refine x_st rfl ?_
  refine x_st rfl ?_
  refine y_ia (nx := 527) (i := 1) rfl h.1 ?_
  replace h := h.2
  refine x_st rfl ?_
  refine x_st rfl ?_
  refine y_iast (nx := 531) (i := 1) rfl h.1 ?_
  replace h := h.2
  refine x_st rfl ?_
  refine x_st rfl ?_
  refine x_st rfl ?_
  refine y_ia (nx := 536) (i := 2) rfl h.1 ?_
  replace h := h.2
  refine x_st rfl ?_
  refine x_st rfl ?_
  refine y_ia (nx := 539) (i := 0) rfl h.1 ?_
  replace h := h.2
  refine x_st rfl ?_
  refine x_st rfl ?_
  refine x_st rfl ?_
  refine y_iast (nx := 544) (i := 2) rfl h.1 ?_
  replace h := h.2
  refine x_kl ?_ h
  exact ⟨Or.inr rfl, ⟨Or.inr rfl, ⟨Or.inr rfl, ⟨Or.inr rfl, ⟨Or.inr rfl, ⟨Or.inr rfl, ⟨Or.inr rfl, ⟨Or.inr rfl, ⟨Or.inr rfl, ⟨Or.inl rfl, ⟨Or.inl rfl, ⟨Or.inl rfl, ⟨Or.inl rfl, ⟨Or.inl rfl, ⟨Or.inl rfl, ⟨Or.inl rfl, ⟨Or.inr rfl, ⟨Or.inl rfl, ⟨Or.inl rfl, ⟨Or.inl rfl, ⟨Or.inl rfl, ⟨Or.inr rfl, ⟨Or.inl rfl, ⟨Or.inl rfl, True.intro⟩⟩⟩⟩⟩⟩⟩⟩⟩⟩⟩⟩⟩⟩⟩⟩⟩⟩⟩⟩⟩⟩⟩⟩
theorem BL_law_544 {C : mC} {Q : Option Value → mS → Prop} {L : Nat} {xs : Nat → Int32} {a1 : Nat} {a2 : Nat} {a3 : Nat} {a4 : Nat} {a5 : Nat} {a6 : Nat} {a7 : Nat} {v8 : Int32} {v16 : Int32} {v21 : Int32} {w : Nat} {Sh : List mT} {MI : mI} {ML : mJ} (hL : L < 10001)
    (h : isO Sh a1 10 ∧ ∃ (x3 : Int32) (M1 : mI) (N2 : mJ), C 158 [.ref a1] (w, Sh, MI, ML) (some (.int x3)) (w, Sh, M1, N2) ∧ ((x3 = v21 → isO Sh a1 10 ∧ ∃ (x6 : Int32) (M4 : mI) (N5 : mJ), C 138 [.ref a1, .int (nI 0), .int (nI 5)] (w, Sh, M1, N2) (some (.int x6)) (w, Sh, M4, N5) ∧ (aok Sh a2 4 (nI 4) ∧ ((x6 = (M4 a2 4) → isO Sh a1 10 ∧ ∃ (x9 : Int32) (M7 : mI) (N8 : mJ), C 162 [.ref a1, .int (-1 : Int32)] (w, Sh, M4, N5) (some (.int x9)) (w, Sh, M7, N8) ∧ ((x9 < ((nI 8) * v21) → Q (some (.int (nI 0))) (w, Sh, M7, N8)) ∧ (¬ x9 < ((nI 8) * v21) → isO Sh a1 10 ∧ ∃ (x12 : Int32) (M10 : mI) (N11 : mJ), C 162 [.ref a1, .int (-1 : Int32)] (w, Sh, M7, N8) (some (.int x12)) (w, Sh, M10, N11) ∧ ((x12 ≤ ((nI 9) * v21) → VL_law_969 C Q L xs a1 a2 a3 a4 a5 a6 a7 v8 v16 w Sh M10 N11) ∧ (¬ x12 ≤ ((nI 9) * v21) → Q (some (.int (nI 0))) (w, Sh, M10, N11)))))) ∧ (¬ x6 = (M4 a2 4) → Q (some (.int (nI 0))) (w, Sh, M4, N5))))) ∧ (¬ x3 = v21 → Q (some (.int (nI 0))) (w, Sh, M1, N2)))) :
    VL_law_544 C Q L xs a1 a2 a3 a4 a5 a6 a7 v8 v16 v21 w Sh MI ML := by
  show mEx C (TL_law L xs) Q (544, [some (.float 0), some (.ref a1), some (.ref a2), some (.ref a3), some (.ref a4), some (.ref a5), some (.ref a6), some (.ref a7), some (.int v8), none, none, none, none, none, none, none, some (.int v16), none, none, none, none, some (.int v21), none, none], [], (w, Sh, MI, ML))
  refine x_st rfl ?_
  obtain ⟨ho, x3, M1, N2, hc, h⟩ := h
  refine y_vi (y := 158) (n := 0) (ci := 10) (nx := 548) rfl (fun _ => rfl) ho rfl hc ?_
  refine x_st rfl ?_
  refine x_br rfl (fun c => ?_) (fun c => ?_)
  · replace h := h.1 c
    refine x_st rfl ?_
    refine x_st rfl ?_
    refine x_st rfl ?_
    obtain ⟨ho, x6, M4, N5, hc, h⟩ := h
    refine y_vi (y := 138) (n := 2) (ci := 10) (nx := 559) rfl (fun _ => rfl) ho rfl hc ?_
    refine x_st rfl ?_
    refine x_st rfl ?_
    refine y_ia (nx := 562) (i := 4) rfl h.1 ?_
    replace h := h.2
    refine x_br rfl (fun c => ?_) (fun c => ?_)
    · replace h := h.1 c
      refine x_st rfl ?_
      refine x_st rfl ?_
      obtain ⟨ho, x9, M7, N8, hc, h⟩ := h
      refine y_vi (y := 162) (n := 1) (ci := 10) (nx := 570) rfl (fun _ => rfl) ho rfl hc ?_
      refine x_st rfl ?_
      refine x_st rfl ?_
      refine x_st rfl ?_
      refine x_br rfl (fun c => ?_) (fun c => ?_)
      · replace h := h.1 c
        refine x_st rfl ?_
        exact x_ret rfl h
      · replace h := h.2 c
        refine x_st rfl ?_
        refine x_st rfl ?_
        obtain ⟨ho, x12, M10, N11, hc, h⟩ := h
        refine y_vi (y := 162) (n := 1) (ci := 10) (nx := 583) rfl (fun _ => rfl) ho rfl hc ?_
        refine x_st rfl ?_
        refine x_st rfl ?_
        refine x_st rfl ?_
        refine x_br rfl (fun c => ?_) (fun c => ?_)
        · replace h := h.1 c
          refine x_st rfl ?_
          refine x_kl ?_ h
          exact ⟨Or.inr rfl, ⟨Or.inr rfl, ⟨Or.inr rfl, ⟨Or.inr rfl, ⟨Or.inr rfl, ⟨Or.inr rfl, ⟨Or.inr rfl, ⟨Or.inr rfl, ⟨Or.inr rfl, ⟨Or.inl rfl, ⟨Or.inl rfl, ⟨Or.inl rfl, ⟨Or.inl rfl, ⟨Or.inl rfl, ⟨Or.inl rfl, ⟨Or.inl rfl, ⟨Or.inr rfl, ⟨Or.inl rfl, ⟨Or.inl rfl, ⟨Or.inl rfl, ⟨Or.inl rfl, ⟨Or.inl rfl, ⟨Or.inl rfl, ⟨Or.inl rfl, True.intro⟩⟩⟩⟩⟩⟩⟩⟩⟩⟩⟩⟩⟩⟩⟩⟩⟩⟩⟩⟩⟩⟩⟩⟩
        · replace h := h.2 c
          refine x_st rfl ?_
          exact x_ret rfl h
    · replace h := h.2 c
      refine x_st rfl ?_
      exact x_ret rfl h
  · replace h := h.2 c
    refine x_st rfl ?_
    exact x_ret rfl h
theorem BL_law_602 {C : mC} {Q : Option Value → mS → Prop} {L : Nat} {xs : Nat → Int32} {a1 : Nat} {a2 : Nat} {a3 : Nat} {a4 : Nat} {a5 : Nat} {a6 : Nat} {a7 : Nat} {v8 : Int32} {v16 : Int32} {v17 : Int32} {v19 : Int32} {v20 : Int32} {w : Nat} {Sh : List mT} {MI : mI} {ML : mJ} (hL : L < 10001)
    (h : ∃ i1 : Nat, aok Sh a4 i1 (((nI 8) * v20) + v19) ∧ (((-9 : Int32) ≤ ((MI a4 i1) - ((nI 1) + ((((v17).toUInt32 >>> (((nI 13)).toUInt32 &&& Int32.toUInt32 31)).toInt32) - (((v17).toUInt32 >>> (((nI 13)).toUInt32 &&& Int32.toUInt32 31)).toInt32) / (nI 9) * (nI 9)))) → ∃ i2 : Nat, aok Sh a4 i2 (((nI 8) * v20) + v19) ∧ (∃ i3 : Nat, aok Sh a4 i3 (((nI 8) * v20) + v19) ∧ (VL_law_663 C Q L xs a1 a2 a3 a4 a5 a6 a7 v8 v16 v19 v20 ((nI 1) + ((((v17).toUInt32 >>> (((nI 13)).toUInt32 &&& Int32.toUInt32 31)).toInt32) - (((v17).toUInt32 >>> (((nI 13)).toUInt32 &&& Int32.toUInt32 31)).toInt32) / (nI 9) * (nI 9))) w Sh (mup MI a4 (mput (MI a4) i3 ((MI a4 i2) - ((nI 1) + ((((v17).toUInt32 >>> (((nI 13)).toUInt32 &&& Int32.toUInt32 31)).toInt32) - (((v17).toUInt32 >>> (((nI 13)).toUInt32 &&& Int32.toUInt32 31)).toInt32) / (nI 9) * (nI 9)))))) ML))) ∧ (¬ (-9 : Int32) ≤ ((MI a4 i1) - ((nI 1) + ((((v17).toUInt32 >>> (((nI 13)).toUInt32 &&& Int32.toUInt32 31)).toInt32) - (((v17).toUInt32 >>> (((nI 13)).toUInt32 &&& Int32.toUInt32 31)).toInt32) / (nI 9) * (nI 9)))) → ∃ i4 : Nat, aok Sh a4 i4 (((nI 8) * v20) + v19) ∧ (VL_law_663 C Q L xs a1 a2 a3 a4 a5 a6 a7 v8 v16 v19 v20 ((nI 1) + ((((v17).toUInt32 >>> (((nI 13)).toUInt32 &&& Int32.toUInt32 31)).toInt32) - (((v17).toUInt32 >>> (((nI 13)).toUInt32 &&& Int32.toUInt32 31)).toInt32) / (nI 9) * (nI 9))) w Sh (mup MI a4 (mput (MI a4) i4 (-9 : Int32))) ML)))) :
    VL_law_602 C Q L xs a1 a2 a3 a4 a5 a6 a7 v8 v16 v17 v19 v20 w Sh MI ML := by
  show mEx C (TL_law L xs) Q (602, [some (.float 0), some (.ref a1), some (.ref a2), some (.ref a3), some (.ref a4), some (.ref a5), some (.ref a6), some (.ref a7), some (.int v8), none, none, none, none, none, none, none, some (.int v16), some (.int v17), none, some (.int v19), some (.int v20), none, none, none], [], (w, Sh, MI, ML))
  refine x_st rfl ?_
  refine x_st rfl ?_
  refine x_st rfl ?_
  refine x_st rfl ?_
  refine x_st rfl ?_
  refine x_st rfl ?_
  refine x_st rfl ?_
  refine x_st rfl ?_
  refine x_st rfl ?_
  refine x_st rfl ?_
  refine x_st rfl ?_
  refine x_st rfl ?_
  refine x_st rfl ?_
  refine x_st rfl ?_
  refine x_st rfl ?_
  refine x_st rfl ?_
  refine x_st rfl ?_
  refine x_st rfl ?_
  refine x_st rfl ?_
  refine x_st rfl ?_
  obtain ⟨i1, ha, h⟩ := h
  refine y_ia (nx := 635) (i := i1) rfl ha ?_
  refine x_st rfl ?_
  refine x_st rfl ?_
  refine x_st rfl ?_
  refine x_br rfl (fun c => ?_) (fun c => ?_)
  · replace h := h.1 c
    refine x_st rfl ?_
    refine x_st rfl ?_
    refine x_st rfl ?_
    refine x_st rfl ?_
    refine x_st rfl ?_
    refine x_st rfl ?_
    obtain ⟨i2, ha, h⟩ := h
    refine y_ia (nx := 659) (i := i2) rfl ha ?_
    refine x_st rfl ?_
    refine x_st rfl ?_
    obtain ⟨i3, ha, h⟩ := h
    refine y_iast (nx := 663) (i := i3) rfl ha ?_
    refine x_kl ?_ h
    exact ⟨Or.inr rfl, ⟨Or.inr rfl, ⟨Or.inr rfl, ⟨Or.inr rfl, ⟨Or.inr rfl, ⟨Or.inr rfl, ⟨Or.inr rfl, ⟨Or.inr rfl, ⟨Or.inr rfl, ⟨Or.inl rfl, ⟨Or.inl rfl, ⟨Or.inl rfl, ⟨Or.inl rfl, ⟨Or.inl rfl, ⟨Or.inl rfl, ⟨Or.inl rfl, ⟨Or.inr rfl, ⟨Or.inl rfl, ⟨Or.inl rfl, ⟨Or.inr rfl, ⟨Or.inr rfl, ⟨Or.inr rfl, ⟨Or.inl rfl, ⟨Or.inl rfl, True.intro⟩⟩⟩⟩⟩⟩⟩⟩⟩⟩⟩⟩⟩⟩⟩⟩⟩⟩⟩⟩⟩⟩⟩⟩
  · replace h := h.2 c
    refine x_st rfl ?_
    refine x_st rfl ?_
    obtain ⟨i4, ha, h⟩ := h
    refine y_iast (nx := 663) (i := i4) rfl ha ?_
    refine x_kl ?_ h
    exact ⟨Or.inr rfl, ⟨Or.inr rfl, ⟨Or.inr rfl, ⟨Or.inr rfl, ⟨Or.inr rfl, ⟨Or.inr rfl, ⟨Or.inr rfl, ⟨Or.inr rfl, ⟨Or.inr rfl, ⟨Or.inl rfl, ⟨Or.inl rfl, ⟨Or.inl rfl, ⟨Or.inl rfl, ⟨Or.inl rfl, ⟨Or.inl rfl, ⟨Or.inl rfl, ⟨Or.inr rfl, ⟨Or.inl rfl, ⟨Or.inl rfl, ⟨Or.inr rfl, ⟨Or.inr rfl, ⟨Or.inr rfl, ⟨Or.inl rfl, ⟨Or.inl rfl, True.intro⟩⟩⟩⟩⟩⟩⟩⟩⟩⟩⟩⟩⟩⟩⟩⟩⟩⟩⟩⟩⟩⟩⟩⟩
theorem BL_law_663 {C : mC} {Q : Option Value → mS → Prop} {L : Nat} {xs : Nat → Int32} {a1 : Nat} {a2 : Nat} {a3 : Nat} {a4 : Nat} {a5 : Nat} {a6 : Nat} {a7 : Nat} {v8 : Int32} {v16 : Int32} {v19 : Int32} {v20 : Int32} {v21 : Int32} {w : Nat} {Sh : List mT} {MI : mI} {ML : mJ} (hL : L < 10001)
    (h : aok Sh a6 3 (nI 3) ∧ (aok Sh a6 3 (nI 3) ∧ (VL_law_671 C Q L xs a1 a2 a3 a4 a5 a6 a7 v8 v16 v19 v20 v21 w Sh (mup MI a6 (mput (MI a6) 3 ((MI a6 3) + (nI 1)))) ML))) :
    VL_law_663 C Q L xs a1 a2 a3 a4 a5 a6 a7 v8 v16 v19 v20 v21 w Sh MI ML := by
  show mEx C (TL_law L xs) Q (663, [some (.float 0), some (.ref a1), some (.ref a2), some (.ref a3), some (.ref a4), some (.ref a5), some (.ref a6), some (.ref a7), some (.int v8), none, none, none, none, none, none, none, some (.int v16), none, none, some (.int v19), some (.int v20), some (.int v21), none, none], [], (w, Sh, MI, ML))
  refine x_st rfl ?_
  refine x_st rfl ?_
  refine x_st rfl ?_
  refine y_ia (nx := 668) (i := 3) rfl h.1 ?_
  replace h := h.2
  refine x_st rfl ?_
  refine x_st rfl ?_
  refine y_iast (nx := 671) (i := 3) rfl h.1 ?_
  replace h := h.2
  refine x_kl ?_ h
  exact ⟨Or.inr rfl, ⟨Or.inr rfl, ⟨Or.inr rfl, ⟨Or.inr rfl, ⟨Or.inr rfl, ⟨Or.inr rfl, ⟨Or.inr rfl, ⟨Or.inr rfl, ⟨Or.inr rfl, ⟨Or.inl rfl, ⟨Or.inl rfl, ⟨Or.inl rfl, ⟨Or.inl rfl, ⟨Or.inl rfl, ⟨Or.inl rfl, ⟨Or.inl rfl, ⟨Or.inr rfl, ⟨Or.inl rfl, ⟨Or.inl rfl, ⟨Or.inr rfl, ⟨Or.inr rfl, ⟨Or.inr rfl, ⟨Or.inl rfl, ⟨Or.inl rfl, True.intro⟩⟩⟩⟩⟩⟩⟩⟩⟩⟩⟩⟩⟩⟩⟩⟩⟩⟩⟩⟩⟩⟩⟩⟩
theorem BL_law_671 {C : mC} {Q : Option Value → mS → Prop} {L : Nat} {xs : Nat → Int32} {a1 : Nat} {a2 : Nat} {a3 : Nat} {a4 : Nat} {a5 : Nat} {a6 : Nat} {a7 : Nat} {v8 : Int32} {v16 : Int32} {v19 : Int32} {v20 : Int32} {v21 : Int32} {w : Nat} {Sh : List mT} {MI : mI} {ML : mJ} (hL : L < 10001)
    (h : isO Sh a1 10 ∧ ∃ (x3 : Int32) (M1 : mI) (N2 : mJ), C 159 [.ref a1, .int (((nI 10) * v19) + v20), .int v21] (w, Sh, MI, ML) (some (.int x3)) (w, Sh, M1, N2) ∧ (∃ i4 : Nat, aok Sh a4 i4 (((nI 8) * v20) + v19) ∧ ((x3 = ((M1 a4 i4) + (nI 100)) → VL_law_969 C Q L xs a1 a2 a3 a4 a5 a6 a7 v8 v16 w Sh M1 N2) ∧ (¬ x3 = ((M1 a4 i4) + (nI 100)) → Q (some (.int (nI 0))) (w, Sh, M1, N2))))) :
    VL_law_671 C Q L xs a1 a2 a3 a4 a5 a6 a7 v8 v16 v19 v20 v21 w Sh MI ML := by
  show mEx C (TL_law L xs) Q (671, [some (.float 0), some (.ref a1), some (.ref a2), some (.ref a3), some (.ref a4), some (.ref a5), some (.ref a6), some (.ref a7), some (.int v8), none, none, none, none, none, none, none, some (.int v16), none, none, some (.int v19), some (.int v20), some (.int v21), none, none], [], (w, Sh, MI, ML))
  refine x_st rfl ?_
  refine x_st rfl ?_
  refine x_st rfl ?_
  refine x_st rfl ?_
  refine x_st rfl ?_
  refine x_st rfl ?_
  refine x_st rfl ?_
  obtain ⟨ho, x3, M1, N2, hc, h⟩ := h
  refine y_vi (y := 159) (n := 2) (ci := 10) (nx := 685) rfl (fun _ => rfl) ho rfl hc ?_
  refine x_st rfl ?_
  refine x_st rfl ?_
  refine x_st rfl ?_
  refine x_st rfl ?_
  refine x_st rfl ?_
  refine x_st rfl ?_
  obtain ⟨i4, ha, h⟩ := h
  refine y_ia (nx := 696) (i := i4) rfl ha ?_
  refine x_st rfl ?_
  refine x_st rfl ?_
  refine x_br rfl (fun c => ?_) (fun c => ?_)
  · replace h := h.1 c
    refine x_st rfl ?_
    refine x_kl ?_ h
    exact ⟨Or.inr rfl, ⟨Or.inr rfl, ⟨Or.inr rfl, ⟨Or.inr rfl, ⟨Or.inr rfl, ⟨Or.inr rfl, ⟨Or.inr rfl, ⟨Or.inr rfl, ⟨Or.inr rfl, ⟨Or.inl rfl, ⟨Or.inl rfl, ⟨Or.inl rfl, ⟨Or.inl rfl, ⟨Or.inl rfl, ⟨Or.inl rfl, ⟨Or.inl rfl, ⟨Or.inr rfl, ⟨Or.inl rfl, ⟨Or.inl rfl, ⟨Or.inl rfl, ⟨Or.inl rfl, ⟨Or.inl rfl, ⟨Or.inl rfl, ⟨Or.inl rfl, True.intro⟩⟩⟩⟩⟩⟩⟩⟩⟩⟩⟩⟩⟩⟩⟩⟩⟩⟩⟩⟩⟩⟩⟩⟩
  · replace h := h.2 c
    refine x_st rfl ?_
    exact x_ret rfl h
theorem BL_law_707 {C : mC} {Q : Option Value → mS → Prop} {L : Nat} {xs : Nat → Int32} {a1 : Nat} {a2 : Nat} {a3 : Nat} {a4 : Nat} {a5 : Nat} {a6 : Nat} {a7 : Nat} {v8 : Int32} {v16 : Int32} {v17 : Int32} {v18 : Int32} {v19 : Int32} {v20 : Int32} {w : Nat} {Sh : List mT} {MI : mI} {ML : mJ} (hL : L < 10001)
    (h : (v18 = (nI 4) → VL_law_713 C Q L xs a1 a2 a3 a4 a5 a6 a7 v8 v16 v17 v19 v20 w Sh MI ML) ∧ (¬ v18 = (nI 4) → VL_law_860 C Q L xs a1 a2 a3 a4 a5 a6 a7 v8 v16 v17 v19 v20 w Sh MI ML)) :
    VL_law_707 C Q L xs a1 a2 a3 a4 a5 a6 a7 v8 v16 v17 v18 v19 v20 w Sh MI ML := by
  show mEx C (TL_law L xs) Q (707, [some (.float 0), some (.ref a1), some (.ref a2), some (.ref a3), some (.ref a4), some (.ref a5), some (.ref a6), some (.ref a7), some (.int v8), none, none, none, none, none, none, none, some (.int v16), some (.int v17), some (.int v18), some (.int v19), some (.int v20), none, none, none], [], (w, Sh, MI, ML))
  refine x_st rfl ?_
  refine x_st rfl ?_
  refine x_br rfl (fun c => ?_) (fun c => ?_)
  · replace h := h.1 c
    refine x_kl ?_ h
    exact ⟨Or.inr rfl, ⟨Or.inr rfl, ⟨Or.inr rfl, ⟨Or.inr rfl, ⟨Or.inr rfl, ⟨Or.inr rfl, ⟨Or.inr rfl, ⟨Or.inr rfl, ⟨Or.inr rfl, ⟨Or.inl rfl, ⟨Or.inl rfl, ⟨Or.inl rfl, ⟨Or.inl rfl, ⟨Or.inl rfl, ⟨Or.inl rfl, ⟨Or.inl rfl, ⟨Or.inr rfl, ⟨Or.inr rfl, ⟨Or.inl rfl, ⟨Or.inr rfl, ⟨Or.inr rfl, ⟨Or.inl rfl, ⟨Or.inl rfl, ⟨Or.inl rfl, True.intro⟩⟩⟩⟩⟩⟩⟩⟩⟩⟩⟩⟩⟩⟩⟩⟩⟩⟩⟩⟩⟩⟩⟩⟩
  · replace h := h.2 c
    refine x_kl ?_ h
    exact ⟨Or.inr rfl, ⟨Or.inr rfl, ⟨Or.inr rfl, ⟨Or.inr rfl, ⟨Or.inr rfl, ⟨Or.inr rfl, ⟨Or.inr rfl, ⟨Or.inr rfl, ⟨Or.inr rfl, ⟨Or.inl rfl, ⟨Or.inl rfl, ⟨Or.inl rfl, ⟨Or.inl rfl, ⟨Or.inl rfl, ⟨Or.inl rfl, ⟨Or.inl rfl, ⟨Or.inr rfl, ⟨Or.inr rfl, ⟨Or.inl rfl, ⟨Or.inr rfl, ⟨Or.inr rfl, ⟨Or.inl rfl, ⟨Or.inl rfl, ⟨Or.inl rfl, True.intro⟩⟩⟩⟩⟩⟩⟩⟩⟩⟩⟩⟩⟩⟩⟩⟩⟩⟩⟩⟩⟩⟩⟩⟩
theorem BL_law_713 {C : mC} {Q : Option Value → mS → Prop} {L : Nat} {xs : Nat → Int32} {a1 : Nat} {a2 : Nat} {a3 : Nat} {a4 : Nat} {a5 : Nat} {a6 : Nat} {a7 : Nat} {v8 : Int32} {v16 : Int32} {v17 : Int32} {v19 : Int32} {v20 : Int32} {w : Nat} {Sh : List mT} {MI : mI} {ML : mJ} (hL : L < 10001)
    (h : aok Sh a2 0 (nI 0) ∧ (¬ (MI a2 0) = nI 0 ∧ ((((((v17).toUInt32 >>> (((nI 13)).toUInt32 &&& Int32.toUInt32 31)).toInt32) - (((v17).toUInt32 >>> (((nI 13)).toUInt32 &&& Int32.toUInt32 31)).toInt32) / (MI a2 0) * (MI a2 0)) = v19 → VL_law_743 C Q L xs a1 a2 a3 a4 a5 a6 a7 v8 v16 v19 v20 ((((v17).toUInt32 >>> (((nI 13)).toUInt32 &&& Int32.toUInt32 31)).toInt32) - (((v17).toUInt32 >>> (((nI 13)).toUInt32 &&& Int32.toUInt32 31)).toInt32) / (MI a2 0) * (MI a2 0)) (nI 0) w Sh MI ML) ∧ (¬ ((((v17).toUInt32 >>> (((nI 13)).toUInt32 &&& Int32.toUInt32 31)).toInt32) - (((v17).toUInt32 >>> (((nI 13)).toUInt32 &&& Int32.toUInt32 31)).toInt32) / (MI a2 0) * (MI a2 0)) = v19 → (((((v17).toUInt32 >>> (((nI 13)).toUInt32 &&& Int32.toUInt32 31)).toInt32) - (((v17).toUInt32 >>> (((nI 13)).toUInt32 &&& Int32.toUInt32 31)).toInt32) / (MI a2 0) * (MI a2 0)) = v20 → VL_law_743 C Q L xs a1 a2 a3 a4 a5 a6 a7 v8 v16 v19 v20 ((((v17).toUInt32 >>> (((nI 13)).toUInt32 &&& Int32.toUInt32 31)).toInt32) - (((v17).toUInt32 >>> (((nI 13)).toUInt32 &&& Int32.toUInt32 31)).toInt32) / (MI a2 0) * (MI a2 0)) (nI 0) w Sh MI ML) ∧ (¬ ((((v17).toUInt32 >>> (((nI 13)).toUInt32 &&& Int32.toUInt32 31)).toInt32) - (((v17).toUInt32 >>> (((nI 13)).toUInt32 &&& Int32.toUInt32 31)).toInt32) / (MI a2 0) * (MI a2 0)) = v20 → VL_law_743 C Q L xs a1 a2 a3 a4 a5 a6 a7 v8 v16 v19 v20 ((((v17).toUInt32 >>> (((nI 13)).toUInt32 &&& Int32.toUInt32 31)).toInt32) - (((v17).toUInt32 >>> (((nI 13)).toUInt32 &&& Int32.toUInt32 31)).toInt32) / (MI a2 0) * (MI a2 0)) (nI 1) w Sh MI ML))))) :
    VL_law_713 C Q L xs a1 a2 a3 a4 a5 a6 a7 v8 v16 v17 v19 v20 w Sh MI ML := by
  show mEx C (TL_law L xs) Q (713, [some (.float 0), some (.ref a1), some (.ref a2), some (.ref a3), some (.ref a4), some (.ref a5), some (.ref a6), some (.ref a7), some (.int v8), none, none, none, none, none, none, none, some (.int v16), some (.int v17), none, some (.int v19), some (.int v20), none, none, none], [], (w, Sh, MI, ML))
  refine x_st rfl ?_
  refine x_st rfl ?_
  refine x_st rfl ?_
  refine x_st rfl ?_
  refine x_st rfl ?_
  refine y_ia (nx := 721) (i := 0) rfl h.1 ?_
  replace h := h.2
  refine x_ck rfl h.1 ?_
  have h := h.2
  refine x_st rfl ?_
  refine x_st rfl ?_
  refine x_st rfl ?_
  refine x_br rfl (fun c => ?_) (fun c => ?_)
  · replace h := h.1 c
    refine x_st rfl ?_
    refine x_kl ?_ h
    exact ⟨Or.inr rfl, ⟨Or.inr rfl, ⟨Or.inr rfl, ⟨Or.inr rfl, ⟨Or.inr rfl, ⟨Or.inr rfl, ⟨Or.inr rfl, ⟨Or.inr rfl, ⟨Or.inr rfl, ⟨Or.inl rfl, ⟨Or.inl rfl, ⟨Or.inl rfl, ⟨Or.inl rfl, ⟨Or.inl rfl, ⟨Or.inl rfl, ⟨Or.inl rfl, ⟨Or.inr rfl, ⟨Or.inl rfl, ⟨Or.inl rfl, ⟨Or.inr rfl, ⟨Or.inr rfl, ⟨Or.inr rfl, ⟨Or.inl rfl, ⟨Or.inl rfl, True.intro⟩⟩⟩⟩⟩⟩⟩⟩⟩⟩⟩⟩⟩⟩⟩⟩⟩⟩⟩⟩⟩⟩⟩⟩
  · replace h := h.2 c
    refine x_st rfl ?_
    refine x_st rfl ?_
    refine x_br rfl (fun c => ?_) (fun c => ?_)
    · replace h := h.1 c
      refine x_st rfl ?_
      refine x_kl ?_ h
      exact ⟨Or.inr rfl, ⟨Or.inr rfl, ⟨Or.inr rfl, ⟨Or.inr rfl, ⟨Or.inr rfl, ⟨Or.inr rfl, ⟨Or.inr rfl, ⟨Or.inr rfl, ⟨Or.inr rfl, ⟨Or.inl rfl, ⟨Or.inl rfl, ⟨Or.inl rfl, ⟨Or.inl rfl, ⟨Or.inl rfl, ⟨Or.inl rfl, ⟨Or.inl rfl, ⟨Or.inr rfl, ⟨Or.inl rfl, ⟨Or.inl rfl, ⟨Or.inr rfl, ⟨Or.inr rfl, ⟨Or.inr rfl, ⟨Or.inl rfl, ⟨Or.inl rfl, True.intro⟩⟩⟩⟩⟩⟩⟩⟩⟩⟩⟩⟩⟩⟩⟩⟩⟩⟩⟩⟩⟩⟩⟩⟩
    · replace h := h.2 c
      refine x_st rfl ?_
      refine x_st rfl ?_
      refine x_kl ?_ h
      exact ⟨Or.inr rfl, ⟨Or.inr rfl, ⟨Or.inr rfl, ⟨Or.inr rfl, ⟨Or.inr rfl, ⟨Or.inr rfl, ⟨Or.inr rfl, ⟨Or.inr rfl, ⟨Or.inr rfl, ⟨Or.inl rfl, ⟨Or.inl rfl, ⟨Or.inl rfl, ⟨Or.inl rfl, ⟨Or.inl rfl, ⟨Or.inl rfl, ⟨Or.inl rfl, ⟨Or.inr rfl, ⟨Or.inl rfl, ⟨Or.inl rfl, ⟨Or.inr rfl, ⟨Or.inr rfl, ⟨Or.inr rfl, ⟨Or.inl rfl, ⟨Or.inl rfl, True.intro⟩⟩⟩⟩⟩⟩⟩⟩⟩⟩⟩⟩⟩⟩⟩⟩⟩⟩⟩⟩⟩⟩⟩⟩
theorem BL_law_743 {C : mC} {Q : Option Value → mS → Prop} {L : Nat} {xs : Nat → Int32} {a1 : Nat} {a2 : Nat} {a3 : Nat} {a4 : Nat} {a5 : Nat} {a6 : Nat} {a7 : Nat} {v8 : Int32} {v16 : Int32} {v19 : Int32} {v20 : Int32} {v21 : Int32} {s0 : Int32} {w : Nat} {Sh : List mT} {MI : mI} {ML : mJ} (hL : L < 10001)
    (h : (s0 = nI 0 → VL_law_787 C Q L xs a1 a2 a3 a4 a5 a6 a7 v8 v16 v19 v20 v21 (-1 : Int32) w Sh MI ML) ∧ (¬ s0 = nI 0 → ∃ i1 : Nat, aok Sh a4 i1 (((nI 8) * v20) + v21) ∧ ((nI 0 ≤ (MI a4 i1) → VL_law_787 C Q L xs a1 a2 a3 a4 a5 a6 a7 v8 v16 v19 v20 v21 (-5 : Int32) w Sh MI ML) ∧ (¬ nI 0 ≤ (MI a4 i1) → ∃ i2 : Nat, aok Sh a4 i2 (((nI 8) * v20) + v21) ∧ (VL_law_787 C Q L xs a1 a2 a3 a4 a5 a6 a7 v8 v16 v19 v20 v21 ((MI a4 i2) + (nI 100)) w Sh MI ML))))) :
    VL_law_743 C Q L xs a1 a2 a3 a4 a5 a6 a7 v8 v16 v19 v20 v21 s0 w Sh MI ML := by
  show mEx C (TL_law L xs) Q (743, [some (.float 0), some (.ref a1), some (.ref a2), some (.ref a3), some (.ref a4), some (.ref a5), some (.ref a6), some (.ref a7), some (.int v8), none, none, none, none, none, none, none, some (.int v16), none, none, some (.int v19), some (.int v20), some (.int v21), none, none], [.int s0], (w, Sh, MI, ML))
  refine x_st rfl ?_
  refine x_st rfl ?_
  refine x_br rfl (fun c => ?_) (fun c => ?_)
  · replace h := h.1 c
    refine x_st rfl ?_
    refine x_st rfl ?_
    refine x_kl ?_ h
    exact ⟨Or.inr rfl, ⟨Or.inr rfl, ⟨Or.inr rfl, ⟨Or.inr rfl, ⟨Or.inr rfl, ⟨Or.inr rfl, ⟨Or.inr rfl, ⟨Or.inr rfl, ⟨Or.inr rfl, ⟨Or.inl rfl, ⟨Or.inl rfl, ⟨Or.inl rfl, ⟨Or.inl rfl, ⟨Or.inl rfl, ⟨Or.inl rfl, ⟨Or.inl rfl, ⟨Or.inr rfl, ⟨Or.inl rfl, ⟨Or.inl rfl, ⟨Or.inr rfl, ⟨Or.inr rfl, ⟨Or.inr rfl, ⟨Or.inl rfl, ⟨Or.inl rfl, True.intro⟩⟩⟩⟩⟩⟩⟩⟩⟩⟩⟩⟩⟩⟩⟩⟩⟩⟩⟩⟩⟩⟩⟩⟩
  · replace h := h.2 c
    refine x_st rfl ?_
    refine x_st rfl ?_
    refine x_st rfl ?_
    refine x_st rfl ?_
    refine x_st rfl ?_
    refine x_st rfl ?_
    obtain ⟨i1, ha, h⟩ := h
    refine y_ia (nx := 765) (i := i1) rfl ha ?_
    refine x_br rfl (fun c => ?_) (fun c => ?_)
    · replace h := h.1 c
      refine x_st rfl ?_
      refine x_kl ?_ h
      exact ⟨Or.inr rfl, ⟨Or.inr rfl, ⟨Or.inr rfl, ⟨Or.inr rfl, ⟨Or.inr rfl, ⟨Or.inr rfl, ⟨Or.inr rfl, ⟨Or.inr rfl, ⟨Or.inr rfl, ⟨Or.inl rfl, ⟨Or.inl rfl, ⟨Or.inl rfl, ⟨Or.inl rfl, ⟨Or.inl rfl, ⟨Or.inl rfl, ⟨Or.inl rfl, ⟨Or.inr rfl, ⟨Or.inl rfl, ⟨Or.inl rfl, ⟨Or.inr rfl, ⟨Or.inr rfl, ⟨Or.inr rfl, ⟨Or.inl rfl, ⟨Or.inl rfl, True.intro⟩⟩⟩⟩⟩⟩⟩⟩⟩⟩⟩⟩⟩⟩⟩⟩⟩⟩⟩⟩⟩⟩⟩⟩
    · replace h := h.2 c
      refine x_st rfl ?_
      refine x_st rfl ?_
      refine x_st rfl ?_
      refine x_st rfl ?_
      refine x_st rfl ?_
      refine x_st rfl ?_
      obtain ⟨i2, ha, h⟩ := h
      refine y_ia (nx := 779) (i := i2) rfl ha ?_
      refine x_st rfl ?_
      refine x_st rfl ?_
      refine x_st rfl ?_
      refine x_kl ?_ h
      exact ⟨Or.inr rfl, ⟨Or.inr rfl, ⟨Or.inr rfl, ⟨Or.inr rfl, ⟨Or.inr rfl, ⟨Or.inr rfl, ⟨Or.inr rfl, ⟨Or.inr rfl, ⟨Or.inr rfl, ⟨Or.inl rfl, ⟨Or.inl rfl, ⟨Or.inl rfl, ⟨Or.inl rfl, ⟨Or.inl rfl, ⟨Or.inl rfl, ⟨Or.inl rfl, ⟨Or.inr rfl, ⟨Or.inl rfl, ⟨Or.inl rfl, ⟨Or.inr rfl, ⟨Or.inr rfl, ⟨Or.inr rfl, ⟨Or.inl rfl, ⟨Or.inl rfl, True.intro⟩⟩⟩⟩⟩⟩⟩⟩⟩⟩⟩⟩⟩⟩⟩⟩⟩⟩⟩⟩⟩⟩⟩⟩
theorem BL_law_787 {C : mC} {Q : Option Value → mS → Prop} {L : Nat} {xs : Nat → Int32} {a1 : Nat} {a2 : Nat} {a3 : Nat} {a4 : Nat} {a5 : Nat} {a6 : Nat} {a7 : Nat} {v8 : Int32} {v16 : Int32} {v19 : Int32} {v20 : Int32} {v21 : Int32} {s0 : Int32} {w : Nat} {Sh : List mT} {MI : mI} {ML : mJ} (hL : L < 10001)
    (h : isO Sh a1 10 ∧ ∃ (x3 : Int32) (M1 : mI) (N2 : mJ), C 160 [.ref a1, .int (((nI 10) * v19) + v20), .int v21] (w, Sh, MI, ML) (some (.int x3)) (w, Sh, M1, N2) ∧ ((x3 = s0 → VL_law_810 C Q L xs a1 a2 a3 a4 a5 a6 a7 v8 v16 v19 v20 v21 s0 w Sh M1 N2) ∧ (¬ x3 = s0 → Q (some (.int (nI 0))) (w, Sh, M1, N2)))) :
    VL_law_787 C Q L xs a1 a2 a3 a4 a5 a6 a7 v8 v16 v19 v20 v21 s0 w Sh MI ML := by
  show mEx C (TL_law L xs) Q (787, [some (.float 0), some (.ref a1), some (.ref a2), some (.ref a3), some (.ref a4), some (.ref a5), some (.ref a6), some (.ref a7), some (.int v8), none, none, none, none, none, none, none, some (.int v16), none, none, some (.int v19), some (.int v20), some (.int v21), none, none], [.int s0], (w, Sh, MI, ML))
  refine x_st rfl ?_
  refine x_st rfl ?_
  refine x_st rfl ?_
  refine x_st rfl ?_
  refine x_st rfl ?_
  refine x_st rfl ?_
  refine x_st rfl ?_
  refine x_st rfl ?_
  obtain ⟨ho, x3, M1, N2, hc, h⟩ := h
  refine y_vi (y := 160) (n := 2) (ci := 10) (nx := 803) rfl (fun _ => rfl) ho rfl hc ?_
  refine x_st rfl ?_
  refine x_br rfl (fun c => ?_) (fun c => ?_)
  · replace h := h.1 c
    refine x_kl ?_ h
    exact ⟨Or.inr rfl, ⟨Or.inr rfl, ⟨Or.inr rfl, ⟨Or.inr rfl, ⟨Or.inr rfl, ⟨Or.inr rfl, ⟨Or.inr rfl, ⟨Or.inr rfl, ⟨Or.inr rfl, ⟨Or.inl rfl, ⟨Or.inl rfl, ⟨Or.inl rfl, ⟨Or.inl rfl, ⟨Or.inl rfl, ⟨Or.inl rfl, ⟨Or.inl rfl, ⟨Or.inr rfl, ⟨Or.inl rfl, ⟨Or.inl rfl, ⟨Or.inr rfl, ⟨Or.inr rfl, ⟨Or.inr rfl, ⟨Or.inl rfl, ⟨Or.inr rfl, True.intro⟩⟩⟩⟩⟩⟩⟩⟩⟩⟩⟩⟩⟩⟩⟩⟩⟩⟩⟩⟩⟩⟩⟩⟩
  · replace h := h.2 c
    refine x_st rfl ?_
    exact x_ret rfl h
theorem BL_law_810 {C : mC} {Q : Option Value → mS → Prop} {L : Nat} {xs : Nat → Int32} {a1 : Nat} {a2 : Nat} {a3 : Nat} {a4 : Nat} {a5 : Nat} {a6 : Nat} {a7 : Nat} {v8 : Int32} {v16 : Int32} {v19 : Int32} {v20 : Int32} {v21 : Int32} {v23 : Int32} {w : Nat} {Sh : List mT} {MI : mI} {ML : mJ} (hL : L < 10001)
    (h : (v23 ≤ nI 0 → VL_law_969 C Q L xs a1 a2 a3 a4 a5 a6 a7 v8 v16 w Sh MI ML) ∧ (¬ v23 ≤ nI 0 → ∃ i1 : Nat, aok Sh a4 i1 (((nI 8) * v20) + v21) ∧ (∃ i2 : Nat, aok Sh a4 i2 (((nI 8) * v19) + v21) ∧ (∃ i3 : Nat, aok Sh a4 i3 (((nI 8) * v20) + v21) ∧ (aok Sh a6 4 (nI 4) ∧ (aok Sh a6 4 (nI 4) ∧ (VL_law_969 C Q L xs a1 a2 a3 a4 a5 a6 a7 v8 v16 w Sh (mup (mup (mup MI a4 (mput (MI a4) i2 (MI a4 i1))) a4 (mput ((mup MI a4 (mput (MI a4) i2 (MI a4 i1))) a4) i3 (nI 0))) a6 (mput ((mup (mup MI a4 (mput (MI a4) i2 (MI a4 i1))) a4 (mput ((mup MI a4 (mput (MI a4) i2 (MI a4 i1))) a4) i3 (nI 0))) a6) 4 (((mup (mup MI a4 (mput (MI a4) i2 (MI a4 i1))) a4 (mput ((mup MI a4 (mput (MI a4) i2 (MI a4 i1))) a4) i3 (nI 0))) a6 4) + (nI 1)))) ML))))))) :
    VL_law_810 C Q L xs a1 a2 a3 a4 a5 a6 a7 v8 v16 v19 v20 v21 v23 w Sh MI ML := by
  show mEx C (TL_law L xs) Q (810, [some (.float 0), some (.ref a1), some (.ref a2), some (.ref a3), some (.ref a4), some (.ref a5), some (.ref a6), some (.ref a7), some (.int v8), none, none, none, none, none, none, none, some (.int v16), none, none, some (.int v19), some (.int v20), some (.int v21), none, some (.int v23)], [], (w, Sh, MI, ML))
  refine x_st rfl ?_
  refine x_br rfl (fun c => ?_) (fun c => ?_)
  · replace h := h.1 c
    refine x_st rfl ?_
    refine x_kl ?_ h
    exact ⟨Or.inr rfl, ⟨Or.inr rfl, ⟨Or.inr rfl, ⟨Or.inr rfl, ⟨Or.inr rfl, ⟨Or.inr rfl, ⟨Or.inr rfl, ⟨Or.inr rfl, ⟨Or.inr rfl, ⟨Or.inl rfl, ⟨Or.inl rfl, ⟨Or.inl rfl, ⟨Or.inl rfl, ⟨Or.inl rfl, ⟨Or.inl rfl, ⟨Or.inl rfl, ⟨Or.inr rfl, ⟨Or.inl rfl, ⟨Or.inl rfl, ⟨Or.inl rfl, ⟨Or.inl rfl, ⟨Or.inl rfl, ⟨Or.inl rfl, ⟨Or.inl rfl, True.intro⟩⟩⟩⟩⟩⟩⟩⟩⟩⟩⟩⟩⟩⟩⟩⟩⟩⟩⟩⟩⟩⟩⟩⟩
  · replace h := h.2 c
    refine x_st rfl ?_
    refine x_st rfl ?_
    refine x_st rfl ?_
    refine x_st rfl ?_
    refine x_st rfl ?_
    refine x_st rfl ?_
    refine x_st rfl ?_
    refine x_st rfl ?_
    refine x_st rfl ?_
    refine x_st rfl ?_
    refine x_st rfl ?_
    refine x_st rfl ?_
    obtain ⟨i1, ha, h⟩ := h
    refine y_ia (nx := 836) (i := i1) rfl ha ?_
    obtain ⟨i2, ha, h⟩ := h
    refine y_iast (nx := 837) (i := i2) rfl ha ?_
    refine x_st rfl ?_
    refine x_st rfl ?_
    refine x_st rfl ?_
    refine x_st rfl ?_
    refine x_st rfl ?_
    refine x_st rfl ?_
    refine x_st rfl ?_
    obtain ⟨i3, ha, h⟩ := h
    refine y_iast (nx := 849) (i := i3) rfl ha ?_
    refine x_st rfl ?_
    refine x_st rfl ?_
    refine x_st rfl ?_
    refine y_ia (nx := 854) (i := 4) rfl h.1 ?_
    replace h := h.2
    refine x_st rfl ?_
    refine x_st rfl ?_
    refine y_iast (nx := 857) (i := 4) rfl h.1 ?_
    replace h := h.2
    refine x_st rfl ?_
    refine x_kl ?_ h
    exact ⟨Or.inr rfl, ⟨Or.inr rfl, ⟨Or.inr rfl, ⟨Or.inr rfl, ⟨Or.inr rfl, ⟨Or.inr rfl, ⟨Or.inr rfl, ⟨Or.inr rfl, ⟨Or.inr rfl, ⟨Or.inl rfl, ⟨Or.inl rfl, ⟨Or.inl rfl, ⟨Or.inl rfl, ⟨Or.inl rfl, ⟨Or.inl rfl, ⟨Or.inl rfl, ⟨Or.inr rfl, ⟨Or.inl rfl, ⟨Or.inl rfl, ⟨Or.inl rfl, ⟨Or.inl rfl, ⟨Or.inl rfl, ⟨Or.inl rfl, ⟨Or.inl rfl, True.intro⟩⟩⟩⟩⟩⟩⟩⟩⟩⟩⟩⟩⟩⟩⟩⟩⟩⟩⟩⟩⟩⟩⟩⟩
theorem BL_law_860 {C : mC} {Q : Option Value → mS → Prop} {L : Nat} {xs : Nat → Int32} {a1 : Nat} {a2 : Nat} {a3 : Nat} {a4 : Nat} {a5 : Nat} {a6 : Nat} {a7 : Nat} {v8 : Int32} {v16 : Int32} {v17 : Int32} {v19 : Int32} {v20 : Int32} {w : Nat} {Sh : List mT} {MI : mI} {ML : mJ} (hL : L < 10001)
    (h : ∃ i1 : Nat, aok Sh a3 i1 ((nI 2) * v19) ∧ ((((MI a3 i1) + ((nI 1) + ((((v17).toUInt32 >>> (((nI 13)).toUInt32 &&& Int32.toUInt32 31)).toInt32) - (((v17).toUInt32 >>> (((nI 13)).toUInt32 &&& Int32.toUInt32 31)).toInt32) / (nI 99) * (nI 99)))) ≤ (nI 99) → ∃ i2 : Nat, aok Sh a3 i2 ((nI 2) * v19) ∧ (VL_law_905 C Q L xs a1 a2 a3 a4 a5 a6 a7 v8 v16 v19 v20 ((nI 1) + ((((v17).toUInt32 >>> (((nI 13)).toUInt32 &&& Int32.toUInt32 31)).toInt32) - (((v17).toUInt32 >>> (((nI 13)).toUInt32 &&& Int32.toUInt32 31)).toInt32) / (nI 99) * (nI 99))) a3 ((nI 2) * v19) ((MI a3 i2) + ((nI 1) + ((((v17).toUInt32 >>> (((nI 13)).toUInt32 &&& Int32.toUInt32 31)).toInt32) - (((v17).toUInt32 >>> (((nI 13)).toUInt32 &&& Int32.toUInt32 31)).toInt32) / (nI 99) * (nI 99)))) w Sh MI ML)) ∧ (¬ ((MI a3 i1) + ((nI 1) + ((((v17).toUInt32 >>> (((nI 13)).toUInt32 &&& Int32.toUInt32 31)).toInt32) - (((v17).toUInt32 >>> (((nI 13)).toUInt32 &&& Int32.toUInt32 31)).toInt32) / (nI 99) * (nI 99)))) ≤ (nI 99) → VL_law_905 C Q L xs a1 a2 a3 a4 a5 a6 a7 v8 v16 v19 v20 ((nI 1) + ((((v17).toUInt32 >>> (((nI 13)).toUInt32 &&& Int32.toUInt32 31)).toInt32) - (((v17).toUInt32 >>> (((nI 13)).toUInt32 &&& Int32.toUInt32 31)).toInt32) / (nI 99) * (nI 99))) a3 ((nI 2) * v19) (nI 99) w Sh MI ML))) :
    VL_law_860 C Q L xs a1 a2 a3 a4 a5 a6 a7 v8 v16 v17 v19 v20 w Sh MI ML := by
  show mEx C (TL_law L xs) Q (860, [some (.float 0), some (.ref a1), some (.ref a2), some (.ref a3), some (.ref a4), some (.ref a5), some (.ref a6), some (.ref a7), some (.int v8), none, none, none, none, none, none, none, some (.int v16), some (.int v17), none, some (.int v19), some (.int v20), none, none, none], [], (w, Sh, MI, ML))
  refine x_st rfl ?_
  refine x_st rfl ?_
  refine x_st rfl ?_
  refine x_st rfl ?_
  refine x_st rfl ?_
  refine x_st rfl ?_
  refine x_st rfl ?_
  refine x_st rfl ?_
  refine x_st rfl ?_
  refine x_st rfl ?_
  refine x_st rfl ?_
  refine x_st rfl ?_
  refine x_st rfl ?_
  refine x_st rfl ?_
  refine x_st rfl ?_
  refine x_st rfl ?_
  obtain ⟨i1, ha, h⟩ := h
  refine y_ia (nx := 883) (i := i1) rfl ha ?_
  refine x_st rfl ?_
  refine x_st rfl ?_
  refine x_st rfl ?_
  refine x_br rfl (fun c => ?_) (fun c => ?_)
  · replace h := h.1 c
    refine x_st rfl ?_
    refine x_st rfl ?_
    refine x_st rfl ?_
    refine x_st rfl ?_
    obtain ⟨i2, ha, h⟩ := h
    refine y_ia (nx := 902) (i := i2) rfl ha ?_
    refine x_st rfl ?_
    refine x_st rfl ?_
    refine x_kl ?_ h
    exact ⟨Or.inr rfl, ⟨Or.inr rfl, ⟨Or.inr rfl, ⟨Or.inr rfl, ⟨Or.inr rfl, ⟨Or.inr rfl, ⟨Or.inr rfl, ⟨Or.inr rfl, ⟨Or.inr rfl, ⟨Or.inl rfl, ⟨Or.inl rfl, ⟨Or.inl rfl, ⟨Or.inl rfl, ⟨Or.inl rfl, ⟨Or.inl rfl, ⟨Or.inl rfl, ⟨Or.inr rfl, ⟨Or.inl rfl, ⟨Or.inl rfl, ⟨Or.inr rfl, ⟨Or.inr rfl, ⟨Or.inr rfl, ⟨Or.inl rfl, ⟨Or.inl rfl, True.intro⟩⟩⟩⟩⟩⟩⟩⟩⟩⟩⟩⟩⟩⟩⟩⟩⟩⟩⟩⟩⟩⟩⟩⟩
  · replace h := h.2 c
    refine x_st rfl ?_
    refine x_st rfl ?_
    refine x_kl ?_ h
    exact ⟨Or.inr rfl, ⟨Or.inr rfl, ⟨Or.inr rfl, ⟨Or.inr rfl, ⟨Or.inr rfl, ⟨Or.inr rfl, ⟨Or.inr rfl, ⟨Or.inr rfl, ⟨Or.inr rfl, ⟨Or.inl rfl, ⟨Or.inl rfl, ⟨Or.inl rfl, ⟨Or.inl rfl, ⟨Or.inl rfl, ⟨Or.inl rfl, ⟨Or.inl rfl, ⟨Or.inr rfl, ⟨Or.inl rfl, ⟨Or.inl rfl, ⟨Or.inr rfl, ⟨Or.inr rfl, ⟨Or.inr rfl, ⟨Or.inl rfl, ⟨Or.inl rfl, True.intro⟩⟩⟩⟩⟩⟩⟩⟩⟩⟩⟩⟩⟩⟩⟩⟩⟩⟩⟩⟩⟩⟩⟩⟩
theorem BL_law_905 {C : mC} {Q : Option Value → mS → Prop} {L : Nat} {xs : Nat → Int32} {a1 : Nat} {a2 : Nat} {a3 : Nat} {a4 : Nat} {a5 : Nat} {a6 : Nat} {a7 : Nat} {v8 : Int32} {v16 : Int32} {v19 : Int32} {v20 : Int32} {v21 : Int32} {b0 : Nat} {s1 : Int32} {s2 : Int32} {w : Nat} {Sh : List mT} {MI : mI} {ML : mJ} (hL : L < 10001)
    (h : ∃ i1 : Nat, aok Sh b0 i1 s1 ∧ (∃ i2 : Nat, aok Sh a3 i2 ((nI 2) * v20) ∧ ((((mup MI b0 (mput (MI b0) i1 s2)) a3 i2) ≤ v21 → ∃ i3 : Nat, aok Sh a3 i3 ((nI 2) * v20) ∧ (VL_law_936 C Q L xs a1 a2 a3 a4 a5 a6 a7 v8 v16 v19 v20 v21 w Sh (mup (mup MI b0 (mput (MI b0) i1 s2)) a3 (mput ((mup MI b0 (mput (MI b0) i1 s2)) a3) i3 (nI 0))) ML)) ∧ (¬ ((mup MI b0 (mput (MI b0) i1 s2)) a3 i2) ≤ v21 → ∃ i4 : Nat, aok Sh a3 i4 ((nI 2) * v20) ∧ (∃ i5 : Nat, aok Sh a3 i5 ((nI 2) * v20) ∧ (VL_law_936 C Q L xs a1 a2 a3 a4 a5 a6 a7 v8 v16 v19 v20 v21 w Sh (mup (mup MI b0 (mput (MI b0) i1 s2)) a3 (mput ((mup MI b0 (mput (MI b0) i1 s2)) a3) i5 (((mup MI b0 (mput (MI b0) i1 s2)) a3 i4) - v21))) ML)))))) :
    VL_law_905 C Q L xs a1 a2 a3 a4 a5 a6 a7 v8 v16 v19 v20 v21 b0 s1 s2 w Sh MI ML := by
  show mEx C (TL_law L xs) Q (905, [some (.float 0), some (.ref a1), some (.ref a2), some (.ref a3), some (.ref a4), some (.ref a5), some (.ref a6), some (.ref a7), some (.int v8), none, none, none, none, none, none, none, some (.int v16), none, none, some (.int v19), some (.int v20), some (.int v21), none, none], [.int s2, .int s1, .ref b0], (w, Sh, MI, ML))
  obtain ⟨i1, ha, h⟩ := h
  refine y_iast (nx := 906) (i := i1) rfl ha ?_
  refine x_st rfl ?_
  refine x_st rfl ?_
  refine x_st rfl ?_
  refine x_st rfl ?_
  refine x_st rfl ?_
  refine x_st rfl ?_
  refine x_st rfl ?_
  refine x_st rfl ?_
  obtain ⟨i2, ha, h⟩ := h
  refine y_ia (nx := 917) (i := i2) rfl ha ?_
  refine x_st rfl ?_
  refine x_br rfl (fun c => ?_) (fun c => ?_)
  · replace h := h.1 c
    refine x_st rfl ?_
    obtain ⟨i3, ha, h⟩ := h
    refine y_iast (nx := 936) (i := i3) rfl ha ?_
    refine x_kl ?_ h
    exact ⟨Or.inr rfl, ⟨Or.inr rfl, ⟨Or.inr rfl, ⟨Or.inr rfl, ⟨Or.inr rfl, ⟨Or.inr rfl, ⟨Or.inr rfl, ⟨Or.inr rfl, ⟨Or.inr rfl, ⟨Or.inl rfl, ⟨Or.inl rfl, ⟨Or.inl rfl, ⟨Or.inl rfl, ⟨Or.inl rfl, ⟨Or.inl rfl, ⟨Or.inl rfl, ⟨Or.inr rfl, ⟨Or.inl rfl, ⟨Or.inl rfl, ⟨Or.inr rfl, ⟨Or.inr rfl, ⟨Or.inr rfl, ⟨Or.inl rfl, ⟨Or.inl rfl, True.intro⟩⟩⟩⟩⟩⟩⟩⟩⟩⟩⟩⟩⟩⟩⟩⟩⟩⟩⟩⟩⟩⟩⟩⟩
  · replace h := h.2 c
    refine x_st rfl ?_
    refine x_st rfl ?_
    refine x_st rfl ?_
    refine x_st rfl ?_
    obtain ⟨i4, ha, h⟩ := h
    refine y_ia (nx := 928) (i := i4) rfl ha ?_
    refine x_st rfl ?_
    refine x_st rfl ?_
    refine x_st rfl ?_
    obtain ⟨i5, ha, h⟩ := h
    refine y_iast (nx := 936) (i := i5) rfl ha ?_
    refine x_kl ?_ h
    exact ⟨Or.inr rfl, ⟨Or.inr rfl, ⟨Or.inr rfl, ⟨Or.inr rfl, ⟨Or.inr rfl, ⟨Or.inr rfl, ⟨Or.inr rfl, ⟨Or.inr rfl, ⟨Or.inr rfl, ⟨Or.inl rfl, ⟨Or.inl rfl, ⟨Or.inl rfl, ⟨Or.inl rfl, ⟨Or.inl rfl, ⟨Or.inl rfl, ⟨Or.inl rfl, ⟨Or.inr rfl, ⟨Or.inl rfl, ⟨Or.inl rfl, ⟨Or.inr rfl, ⟨Or.inr rfl, ⟨Or.inr rfl, ⟨Or.inl rfl, ⟨Or.inl rfl, True.intro⟩⟩⟩⟩⟩⟩⟩⟩⟩⟩⟩⟩⟩⟩⟩⟩⟩⟩⟩⟩⟩⟩⟩⟩
theorem BL_law_936 {C : mC} {Q : Option Value → mS → Prop} {L : Nat} {xs : Nat → Int32} {a1 : Nat} {a2 : Nat} {a3 : Nat} {a4 : Nat} {a5 : Nat} {a6 : Nat} {a7 : Nat} {v8 : Int32} {v16 : Int32} {v19 : Int32} {v20 : Int32} {v21 : Int32} {w : Nat} {Sh : List mT} {MI : mI} {ML : mJ} (hL : L < 10001)
    (h : aok Sh a6 5 (nI 5) ∧ (aok Sh a6 5 (nI 5) ∧ (VL_law_944 C Q L xs a1 a2 a3 a4 a5 a6 a7 v8 v16 v19 v20 v21 w Sh (mup MI a6 (mput (MI a6) 5 ((MI a6 5) + (nI 1)))) ML))) :
    VL_law_936 C Q L xs a1 a2 a3 a4 a5 a6 a7 v8 v16 v19 v20 v21 w Sh MI ML := by
  show mEx C (TL_law L xs) Q (936, [some (.float 0), some (.ref a1), some (.ref a2), some (.ref a3), some (.ref a4), some (.ref a5), some (.ref a6), some (.ref a7), some (.int v8), none, none, none, none, none, none, none, some (.int v16), none, none, some (.int v19), some (.int v20), some (.int v21), none, none], [], (w, Sh, MI, ML))
  refine x_st rfl ?_
  refine x_st rfl ?_
  refine x_st rfl ?_
  refine y_ia (nx := 941) (i := 5) rfl h.1 ?_
  replace h := h.2
  refine x_st rfl ?_
  refine x_st rfl ?_
  refine y_iast (nx := 944) (i := 5) rfl h.1 ?_
  replace h := h.2
  refine x_kl ?_ h
  exact ⟨Or.inr rfl, ⟨Or.inr rfl, ⟨Or.inr rfl, ⟨Or.inr rfl, ⟨Or.inr rfl, ⟨Or.inr rfl, ⟨Or.inr rfl, ⟨Or.inr rfl, ⟨Or.inr rfl, ⟨Or.inl rfl, ⟨Or.inl rfl, ⟨Or.inl rfl, ⟨Or.inl rfl, ⟨Or.inl rfl, ⟨Or.inl rfl, ⟨Or.inl rfl, ⟨Or.inr rfl, ⟨Or.inl rfl, ⟨Or.inl rfl, ⟨Or.inr rfl, ⟨Or.inr rfl, ⟨Or.inr rfl, ⟨Or.inl rfl, ⟨Or.inl rfl, True.intro⟩⟩⟩⟩⟩⟩⟩⟩⟩⟩⟩⟩⟩⟩⟩⟩⟩⟩⟩⟩⟩⟩⟩⟩
theorem BL_law_944 {C : mC} {Q : Option Value → mS → Prop} {L : Nat} {xs : Nat → Int32} {a1 : Nat} {a2 : Nat} {a3 : Nat} {a4 : Nat} {a5 : Nat} {a6 : Nat} {a7 : Nat} {v8 : Int32} {v16 : Int32} {v19 : Int32} {v20 : Int32} {v21 : Int32} {w : Nat} {Sh : List mT} {MI : mI} {ML : mJ} (hL : L < 10001)
    (h : isO Sh a1 10 ∧ ∃ (x3 : Int32) (M1 : mI) (N2 : mJ), C 161 [.ref a1, .int (((nI 10) * v19) + v20), .int v21] (w, Sh, MI, ML) (some (.int x3)) (w, Sh, M1, N2) ∧ (∃ i4 : Nat, aok Sh a3 i4 ((nI 2) * v19) ∧ ((x3 = (M1 a3 i4) → VL_law_969 C Q L xs a1 a2 a3 a4 a5 a6 a7 v8 v16 w Sh M1 N2) ∧ (¬ x3 = (M1 a3 i4) → Q (some (.int (nI 0))) (w, Sh, M1, N2))))) :
    VL_law_944 C Q L xs a1 a2 a3 a4 a5 a6 a7 v8 v16 v19 v20 v21 w Sh MI ML := by
  show mEx C (TL_law L xs) Q (944, [some (.float 0), some (.ref a1), some (.ref a2), some (.ref a3), some (.ref a4), some (.ref a5), some (.ref a6), some (.ref a7), some (.int v8), none, none, none, none, none, none, none, some (.int v16), none, none, some (.int v19), some (.int v20), some (.int v21), none, none], [], (w, Sh, MI, ML))
  refine x_st rfl ?_
  refine x_st rfl ?_
  refine x_st rfl ?_
  refine x_st rfl ?_
  refine x_st rfl ?_
  refine x_st rfl ?_
  refine x_st rfl ?_
  obtain ⟨ho, x3, M1, N2, hc, h⟩ := h
  refine y_vi (y := 161) (n := 2) (ci := 10) (nx := 958) rfl (fun _ => rfl) ho rfl hc ?_
  refine x_st rfl ?_
  refine x_st rfl ?_
  refine x_st rfl ?_
  refine x_st rfl ?_
  obtain ⟨i4, ha, h⟩ := h
  refine y_ia (nx := 964) (i := i4) rfl ha ?_
  refine x_br rfl (fun c => ?_) (fun c => ?_)
  · replace h := h.1 c
    refine x_kl ?_ h
    exact ⟨Or.inr rfl, ⟨Or.inr rfl, ⟨Or.inr rfl, ⟨Or.inr rfl, ⟨Or.inr rfl, ⟨Or.inr rfl, ⟨Or.inr rfl, ⟨Or.inr rfl, ⟨Or.inr rfl, ⟨Or.inl rfl, ⟨Or.inl rfl, ⟨Or.inl rfl, ⟨Or.inl rfl, ⟨Or.inl rfl, ⟨Or.inl rfl, ⟨Or.inl rfl, ⟨Or.inr rfl, ⟨Or.inl rfl, ⟨Or.inl rfl, ⟨Or.inl rfl, ⟨Or.inl rfl, ⟨Or.inl rfl, ⟨Or.inl rfl, ⟨Or.inl rfl, True.intro⟩⟩⟩⟩⟩⟩⟩⟩⟩⟩⟩⟩⟩⟩⟩⟩⟩⟩⟩⟩⟩⟩⟩⟩
  · replace h := h.2 c
    refine x_st rfl ?_
    exact x_ret rfl h
theorem BL_law_969 {C : mC} {Q : Option Value → mS → Prop} {L : Nat} {xs : Nat → Int32} {a1 : Nat} {a2 : Nat} {a3 : Nat} {a4 : Nat} {a5 : Nat} {a6 : Nat} {a7 : Nat} {v8 : Int32} {v16 : Int32} {w : Nat} {Sh : List mT} {MI : mI} {ML : mJ} (hL : L < 10001)
    (h : VL_law_402 C Q L xs a1 a2 a3 a4 a5 a6 a7 v8 (v16 + (nI 1)) w Sh MI ML) :
    VL_law_969 C Q L xs a1 a2 a3 a4 a5 a6 a7 v8 v16 w Sh MI ML := by
  show mEx C (TL_law L xs) Q (969, [some (.float 0), some (.ref a1), some (.ref a2), some (.ref a3), some (.ref a4), some (.ref a5), some (.ref a6), some (.ref a7), some (.int v8), none, none, none, none, none, none, none, some (.int v16), none, none, none, none, none, none, none], [], (w, Sh, MI, ML))
  refine x_st rfl ?_
  refine x_st rfl ?_
  refine x_kl ?_ h
  exact ⟨Or.inr rfl, ⟨Or.inr rfl, ⟨Or.inr rfl, ⟨Or.inr rfl, ⟨Or.inr rfl, ⟨Or.inr rfl, ⟨Or.inr rfl, ⟨Or.inr rfl, ⟨Or.inr rfl, ⟨Or.inl rfl, ⟨Or.inl rfl, ⟨Or.inl rfl, ⟨Or.inl rfl, ⟨Or.inl rfl, ⟨Or.inl rfl, ⟨Or.inl rfl, ⟨Or.inr rfl, ⟨Or.inl rfl, ⟨Or.inl rfl, ⟨Or.inl rfl, ⟨Or.inl rfl, ⟨Or.inl rfl, ⟨Or.inl rfl, ⟨Or.inl rfl, True.intro⟩⟩⟩⟩⟩⟩⟩⟩⟩⟩⟩⟩⟩⟩⟩⟩⟩⟩⟩⟩⟩⟩⟩⟩
theorem BL_law_975 {C : mC} {Q : Option Value → mS → Prop} {L : Nat} {xs : Nat → Int32} {a1 : Nat} {a2 : Nat} {a3 : Nat} {a4 : Nat} {a5 : Nat} {a6 : Nat} {a7 : Nat} {v8 : Int32} {w : Nat} {Sh : List mT} {MI : mI} {ML : mJ} (hL : L < 10001)
    (h : VL_law_978 C Q L xs a1 a2 a3 a4 a5 a6 a7 v8 (nI 0) w Sh MI ML) :
    VL_law_975 C Q L xs a1 a2 a3 a4 a5 a6 a7 v8 w Sh MI ML := by
  show mEx C (TL_law L xs) Q (975, [some (.float 0), some (.ref a1), some (.ref a2), some (.ref a3), some (.ref a4), some (.ref a5), some (.ref a6), some (.ref a7), some (.int v8), none, none, none, none, none, none, none, none, none, none, none, none, none, none, none], [], (w, Sh, MI, ML))
  refine x_st rfl ?_
  refine x_st rfl ?_
  refine x_kl ?_ h
  exact ⟨Or.inr rfl, ⟨Or.inr rfl, ⟨Or.inr rfl, ⟨Or.inr rfl, ⟨Or.inr rfl, ⟨Or.inr rfl, ⟨Or.inr rfl, ⟨Or.inr rfl, ⟨Or.inr rfl, ⟨Or.inl rfl, ⟨Or.inl rfl, ⟨Or.inl rfl, ⟨Or.inl rfl, ⟨Or.inl rfl, ⟨Or.inl rfl, ⟨Or.inl rfl, ⟨Or.inr rfl, ⟨Or.inl rfl, ⟨Or.inl rfl, ⟨Or.inl rfl, ⟨Or.inl rfl, ⟨Or.inl rfl, ⟨Or.inl rfl, ⟨Or.inl rfl, True.intro⟩⟩⟩⟩⟩⟩⟩⟩⟩⟩⟩⟩⟩⟩⟩⟩⟩⟩⟩⟩⟩⟩⟩⟩
theorem BL_law_978 {C : mC} {Q : Option Value → mS → Prop} {L : Nat} {xs : Nat → Int32} {a1 : Nat} {a2 : Nat} {a3 : Nat} {a4 : Nat} {a5 : Nat} {a6 : Nat} {a7 : Nat} {v8 : Int32} {v16 : Int32} {w : Nat} {Sh : List mT} {MI : mI} {ML : mJ} (hL : L < 10001)
    (h : ((nI 6) ≤ v16 → VL_law_1013 C Q L xs a1 a2 a3 a4 a5 a6 a7 v8 (nI 0) (nI 0) w Sh MI ML) ∧ (¬ (nI 6) ≤ v16 → isO Sh a1 10 ∧ ∃ (x3 : Int32) (M1 : mI) (N2 : mJ), C 163 [.ref a1, .int v16] (w, Sh, MI, ML) (some (.int x3)) (w, Sh, M1, N2) ∧ (∃ i4 : Nat, aok Sh a6 i4 v16 ∧ ((x3 = (M1 a6 i4) → VL_law_978 C Q L xs a1 a2 a3 a4 a5 a6 a7 v8 (v16 + (nI 1)) w Sh M1 N2) ∧ (¬ x3 = (M1 a6 i4) → Q (some (.int (nI 0))) (w, Sh, M1, N2)))))) :
    VL_law_978 C Q L xs a1 a2 a3 a4 a5 a6 a7 v8 v16 w Sh MI ML := by
  show mEx C (TL_law L xs) Q (978, [some (.float 0), some (.ref a1), some (.ref a2), some (.ref a3), some (.ref a4), some (.ref a5), some (.ref a6), some (.ref a7), some (.int v8), none, none, none, none, none, none, none, some (.int v16), none, none, none, none, none, none, none], [], (w, Sh, MI, ML))
  refine x_st rfl ?_
  refine x_st rfl ?_
  refine x_br rfl (fun c => ?_) (fun c => ?_)
  · replace h := h.1 c
    refine x_st rfl ?_
    refine x_st rfl ?_
    refine x_st rfl ?_
    refine x_st rfl ?_
    refine x_kl ?_ h
    exact ⟨Or.inr rfl, ⟨Or.inr rfl, ⟨Or.inr rfl, ⟨Or.inr rfl, ⟨Or.inr rfl, ⟨Or.inr rfl, ⟨Or.inr rfl, ⟨Or.inr rfl, ⟨Or.inr rfl, ⟨Or.inl rfl, ⟨Or.inl rfl, ⟨Or.inl rfl, ⟨Or.inl rfl, ⟨Or.inl rfl, ⟨Or.inl rfl, ⟨Or.inl rfl, ⟨Or.inr rfl, ⟨Or.inr rfl, ⟨Or.inl rfl, ⟨Or.inl rfl, ⟨Or.inl rfl, ⟨Or.inl rfl, ⟨Or.inl rfl, ⟨Or.inl rfl, True.intro⟩⟩⟩⟩⟩⟩⟩⟩⟩⟩⟩⟩⟩⟩⟩⟩⟩⟩⟩⟩⟩⟩⟩⟩
  · replace h := h.2 c
    refine x_st rfl ?_
    refine x_st rfl ?_
    obtain ⟨ho, x3, M1, N2, hc, h⟩ := h
    refine y_vi (y := 163) (n := 1) (ci := 10) (nx := 991) rfl (fun _ => rfl) ho rfl hc ?_
    refine x_st rfl ?_
    refine x_st rfl ?_
    obtain ⟨i4, ha, h⟩ := h
    refine y_ia (nx := 996) (i := i4) rfl ha ?_
    refine x_br rfl (fun c => ?_) (fun c => ?_)
    · replace h := h.1 c
      refine x_st rfl ?_
      refine x_st rfl ?_
      refine x_kl ?_ h
      exact ⟨Or.inr rfl, ⟨Or.inr rfl, ⟨Or.inr rfl, ⟨Or.inr rfl, ⟨Or.inr rfl, ⟨Or.inr rfl, ⟨Or.inr rfl, ⟨Or.inr rfl, ⟨Or.inr rfl, ⟨Or.inl rfl, ⟨Or.inl rfl, ⟨Or.inl rfl, ⟨Or.inl rfl, ⟨Or.inl rfl, ⟨Or.inl rfl, ⟨Or.inl rfl, ⟨Or.inr rfl, ⟨Or.inl rfl, ⟨Or.inl rfl, ⟨Or.inl rfl, ⟨Or.inl rfl, ⟨Or.inl rfl, ⟨Or.inl rfl, ⟨Or.inl rfl, True.intro⟩⟩⟩⟩⟩⟩⟩⟩⟩⟩⟩⟩⟩⟩⟩⟩⟩⟩⟩⟩⟩⟩⟩⟩
    · replace h := h.2 c
      refine x_st rfl ?_
      exact x_ret rfl h
theorem BL_law_1013 {C : mC} {Q : Option Value → mS → Prop} {L : Nat} {xs : Nat → Int32} {a1 : Nat} {a2 : Nat} {a3 : Nat} {a4 : Nat} {a5 : Nat} {a6 : Nat} {a7 : Nat} {v8 : Int32} {v16 : Int32} {v17 : Int32} {w : Nat} {Sh : List mT} {MI : mI} {ML : mJ} (hL : L < 10001)
    (h : aok Sh a2 0 (nI 0) ∧ (((MI a2 0) ≤ v17 → VL_law_1142 C Q L xs a1 a2 a3 a4 a5 a6 a7 v8 v16 w Sh MI ML) ∧ (¬ (MI a2 0) ≤ v17 → isO Sh a1 10 ∧ ∃ (x3 : Int32) (M1 : mI) (N2 : mJ), C 138 [.ref a1, .int v17, .int (nI 0)] (w, Sh, MI, ML) (some (.int x3)) (w, Sh, M1, N2) ∧ (∃ i4 : Nat, aok Sh a3 i4 ((nI 2) * v17) ∧ ((x3 = (M1 a3 i4) → isO Sh a1 10 ∧ ∃ (x7 : Int32) (M5 : mI) (N6 : mJ), C 138 [.ref a1, .int v17, .int (nI 1)] (w, Sh, M1, N2) (some (.int x7)) (w, Sh, M5, N6) ∧ (∃ i8 : Nat, aok Sh a3 i8 (((nI 2) * v17) + (nI 1)) ∧ ((x7 = (M5 a3 i8) → VL_law_1060 C Q L xs a1 a2 a3 a4 a5 a6 a7 v8 v16 v17 (nI 0) w Sh M5 N6) ∧ (¬ x7 = (M5 a3 i8) → Q (some (.int (nI 0))) (w, Sh, M5, N6))))) ∧ (¬ x3 = (M1 a3 i4) → Q (some (.int (nI 0))) (w, Sh, M1, N2))))))) :
    VL_law_1013 C Q L xs a1 a2 a3 a4 a5 a6 a7 v8 v16 v17 w Sh MI ML := by
  show mEx C (TL_law L xs) Q (1013, [some (.float 0), some (.ref a1), some (.ref a2), some (.ref a3), some (.ref a4), some (.ref a5), some (.ref a6), some (.ref a7), some (.int v8), none, none, none, none, none, none, none, some (.int v16), some (.int v17), none, none, none, none, none, none], [], (w, Sh, MI, ML))
  refine x_st rfl ?_
  refine x_st rfl ?_
  refine x_st rfl ?_
  refine y_ia (nx := 1018) (i := 0) rfl h.1 ?_
  replace h := h.2
  refine x_br rfl (fun c => ?_) (fun c => ?_)
  · replace h := h.1 c
    refine x_kl ?_ h
    exact ⟨Or.inr rfl, ⟨Or.inr rfl, ⟨Or.inr rfl, ⟨Or.inr rfl, ⟨Or.inr rfl, ⟨Or.inr rfl, ⟨Or.inr rfl, ⟨Or.inr rfl, ⟨Or.inr rfl, ⟨Or.inl rfl, ⟨Or.inl rfl, ⟨Or.inl rfl, ⟨Or.inl rfl, ⟨Or.inl rfl, ⟨Or.inl rfl, ⟨Or.inl rfl, ⟨Or.inr rfl, ⟨Or.inl rfl, ⟨Or.inl rfl, ⟨Or.inl rfl, ⟨Or.inl rfl, ⟨Or.inl rfl, ⟨Or.inl rfl, ⟨Or.inl rfl, True.intro⟩⟩⟩⟩⟩⟩⟩⟩⟩⟩⟩⟩⟩⟩⟩⟩⟩⟩⟩⟩⟩⟩⟩⟩
  · replace h := h.2 c
    refine x_st rfl ?_
    refine x_st rfl ?_
    refine x_st rfl ?_
    obtain ⟨ho, x3, M1, N2, hc, h⟩ := h
    refine y_vi (y := 138) (n := 2) (ci := 10) (nx := 1028) rfl (fun _ => rfl) ho rfl hc ?_
    refine x_st rfl ?_
    refine x_st rfl ?_
    refine x_st rfl ?_
    refine x_st rfl ?_
    obtain ⟨i4, ha, h⟩ := h
    refine y_ia (nx := 1034) (i := i4) rfl ha ?_
    refine x_br rfl (fun c => ?_) (fun c => ?_)
    · replace h := h.1 c
      refine x_st rfl ?_
      refine x_st rfl ?_
      refine x_st rfl ?_
      obtain ⟨ho, x7, M5, N6, hc, h⟩ := h
      refine y_vi (y := 138) (n := 2) (ci := 10) (nx := 1044) rfl (fun _ => rfl) ho rfl hc ?_
      refine x_st rfl ?_
      refine x_st rfl ?_
      refine x_st rfl ?_
      refine x_st rfl ?_
      refine x_st rfl ?_
      refine x_st rfl ?_
      obtain ⟨i8, ha, h⟩ := h
      refine y_ia (nx := 1052) (i := i8) rfl ha ?_
      refine x_br rfl (fun c => ?_) (fun c => ?_)
      · replace h := h.1 c
        refine x_st rfl ?_
        refine x_st rfl ?_
        refine x_kl ?_ h
        exact ⟨Or.inr rfl, ⟨Or.inr rfl, ⟨Or.inr rfl, ⟨Or.inr rfl, ⟨Or.inr rfl, ⟨Or.inr rfl, ⟨Or.inr rfl, ⟨Or.inr rfl, ⟨Or.inr rfl, ⟨Or.inl rfl, ⟨Or.inl rfl, ⟨Or.inl rfl, ⟨Or.inl rfl, ⟨Or.inl rfl, ⟨Or.inl rfl, ⟨Or.inl rfl, ⟨Or.inr rfl, ⟨Or.inr rfl, ⟨Or.inr rfl, ⟨Or.inl rfl, ⟨Or.inl rfl, ⟨Or.inl rfl, ⟨Or.inl rfl, ⟨Or.inl rfl, True.intro⟩⟩⟩⟩⟩⟩⟩⟩⟩⟩⟩⟩⟩⟩⟩⟩⟩⟩⟩⟩⟩⟩⟩⟩
      · replace h := h.2 c
        refine x_st rfl ?_
        exact x_ret rfl h
    · replace h := h.2 c
      refine x_st rfl ?_
      exact x_ret rfl h
theorem BL_law_1060 {C : mC} {Q : Option Value → mS → Prop} {L : Nat} {xs : Nat → Int32} {a1 : Nat} {a2 : Nat} {a3 : Nat} {a4 : Nat} {a5 : Nat} {a6 : Nat} {a7 : Nat} {v8 : Int32} {v16 : Int32} {v17 : Int32} {v18 : Int32} {w : Nat} {Sh : List mT} {MI : mI} {ML : mJ} (hL : L < 10001)
    (h : aok Sh a2 0 (nI 0) ∧ (((MI a2 0) ≤ v18 → VL_law_1013 C Q L xs a1 a2 a3 a4 a5 a6 a7 v8 v16 (v17 + (nI 1)) w Sh MI ML) ∧ (¬ (MI a2 0) ≤ v18 → (v17 = v18 → VL_law_1106 C Q L xs a1 a2 a3 a4 a5 a6 a7 v8 v16 v17 v18 w Sh MI ML) ∧ (¬ v17 = v18 → isO Sh a1 10 ∧ ∃ (x3 : Int32) (M1 : mI) (N2 : mJ), C 140 [.ref a1, .int (((nI 10) * v17) + v18)] (w, Sh, MI, ML) (some (.int x3)) (w, Sh, M1, N2) ∧ (∃ i4 : Nat, aok Sh a4 i4 (((nI 8) * v17) + v18) ∧ ((x3 = ((M1 a4 i4) + (nI 100)) → VL_law_1106 C Q L xs a1 a2 a3 a4 a5 a6 a7 v8 v16 v17 v18 w Sh M1 N2) ∧ (¬ x3 = ((M1 a4 i4) + (nI 100)) → Q (some (.int (nI 0))) (w, Sh, M1, N2)))))))) :
    VL_law_1060 C Q L xs a1 a2 a3 a4 a5 a6 a7 v8 v16 v17 v18 w Sh MI ML := by
  show mEx C (TL_law L xs) Q (1060, [some (.float 0), some (.ref a1), some (.ref a2), some (.ref a3), some (.ref a4), some (.ref a5), some (.ref a6), some (.ref a7), some (.int v8), none, none, none, none, none, none, none, some (.int v16), some (.int v17), some (.int v18), none, none, none, none, none], [], (w, Sh, MI, ML))
  refine x_st rfl ?_
  refine x_st rfl ?_
  refine x_st rfl ?_
  refine y_ia (nx := 1065) (i := 0) rfl h.1 ?_
  replace h := h.2
  refine x_br rfl (fun c => ?_) (fun c => ?_)
  · replace h := h.1 c
    refine x_st rfl ?_
    refine x_st rfl ?_
    refine x_kl ?_ h
    exact ⟨Or.inr rfl, ⟨Or.inr rfl, ⟨Or.inr rfl, ⟨Or.inr rfl, ⟨Or.inr rfl, ⟨Or.inr rfl, ⟨Or.inr rfl, ⟨Or.inr rfl, ⟨Or.inr rfl, ⟨Or.inl rfl, ⟨Or.inl rfl, ⟨Or.inl rfl, ⟨Or.inl rfl, ⟨Or.inl rfl, ⟨Or.inl rfl, ⟨Or.inl rfl, ⟨Or.inr rfl, ⟨Or.inr rfl, ⟨Or.inl rfl, ⟨Or.inl rfl, ⟨Or.inl rfl, ⟨Or.inl rfl, ⟨Or.inl rfl, ⟨Or.inl rfl, True.intro⟩⟩⟩⟩⟩⟩⟩⟩⟩⟩⟩⟩⟩⟩⟩⟩⟩⟩⟩⟩⟩⟩⟩⟩
  · replace h := h.2 c
    refine x_st rfl ?_
    refine x_st rfl ?_
    refine x_br rfl (fun c => ?_) (fun c => ?_)
    · replace h := h.1 c
      refine x_kl ?_ h
      exact ⟨Or.inr rfl, ⟨Or.inr rfl, ⟨Or.inr rfl, ⟨Or.inr rfl, ⟨Or.inr rfl, ⟨Or.inr rfl, ⟨Or.inr rfl, ⟨Or.inr rfl, ⟨Or.inr rfl, ⟨Or.inl rfl, ⟨Or.inl rfl, ⟨Or.inl rfl, ⟨Or.inl rfl, ⟨Or.inl rfl, ⟨Or.inl rfl, ⟨Or.inl rfl, ⟨Or.inr rfl, ⟨Or.inr rfl, ⟨Or.inr rfl, ⟨Or.inl rfl, ⟨Or.inl rfl, ⟨Or.inl rfl, ⟨Or.inl rfl, ⟨Or.inl rfl, True.intro⟩⟩⟩⟩⟩⟩⟩⟩⟩⟩⟩⟩⟩⟩⟩⟩⟩⟩⟩⟩⟩⟩⟩⟩
    · replace h := h.2 c
      refine x_st rfl ?_
      refine x_st rfl ?_
      refine x_st rfl ?_
      refine x_st rfl ?_
      refine x_st rfl ?_
      refine x_st rfl ?_
      obtain ⟨ho, x3, M1, N2, hc, h⟩ := h
      refine y_vi (y := 140) (n := 1) (ci := 10) (nx := 1087) rfl (fun _ => rfl) ho rfl hc ?_
      refine x_st rfl ?_
      refine x_st rfl ?_
      refine x_st rfl ?_
      refine x_st rfl ?_
      refine x_st rfl ?_
      refine x_st rfl ?_
      obtain ⟨i4, ha, h⟩ := h
      refine y_ia (nx := 1098) (i := i4) rfl ha ?_
      refine x_st rfl ?_
      refine x_st rfl ?_
      refine x_br rfl (fun c => ?_) (fun c => ?_)
      · replace h := h.1 c
        refine x_kl ?_ h
        exact ⟨Or.inr rfl, ⟨Or.inr rfl, ⟨Or.inr rfl, ⟨Or.inr rfl, ⟨Or.inr rfl, ⟨Or.inr rfl, ⟨Or.inr rfl, ⟨Or.inr rfl, ⟨Or.inr rfl, ⟨Or.inl rfl, ⟨Or.inl rfl, ⟨Or.inl rfl, ⟨Or.inl rfl, ⟨Or.inl rfl, ⟨Or.inl rfl, ⟨Or.inl rfl, ⟨Or.inr rfl, ⟨Or.inr rfl, ⟨Or.inr rfl, ⟨Or.inl rfl, ⟨Or.inl rfl, ⟨Or.inl rfl, ⟨Or.inl rfl, ⟨Or.inl rfl, True.intro⟩⟩⟩⟩⟩⟩⟩⟩⟩⟩⟩⟩⟩⟩⟩⟩⟩⟩⟩⟩⟩⟩⟩⟩
      · replace h := h.2 c
        refine x_st rfl ?_
        exact x_ret rfl h
theorem BL_law_1106 {C : mC} {Q : Option Value → mS → Prop} {L : Nat} {xs : Nat → Int32} {a1 : Nat} {a2 : Nat} {a3 : Nat} {a4 : Nat} {a5 : Nat} {a6 : Nat} {a7 : Nat} {v8 : Int32} {v16 : Int32} {v17 : Int32} {v18 : Int32} {w : Nat} {Sh : List mT} {MI : mI} {ML : mJ} (hL : L < 10001)
    (h : ∃ i1 : Nat, aok Sh a4 i1 (((nI 8) * v17) + v18) ∧ ((nI 0 ≤ (MI a4 i1) → VL_law_1060 C Q L xs a1 a2 a3 a4 a5 a6 a7 v8 (v16 + (nI 0)) v17 (v18 + (nI 1)) w Sh MI ML) ∧ (¬ nI 0 ≤ (MI a4 i1) → VL_law_1060 C Q L xs a1 a2 a3 a4 a5 a6 a7 v8 (v16 + (nI 1)) v17 (v18 + (nI 1)) w Sh MI ML))) :
    VL_law_1106 C Q L xs a1 a2 a3 a4 a5 a6 a7 v8 v16 v17 v18 w Sh MI ML := by
  show mEx C (TL_law L xs) Q (1106, [some (.float 0), some (.ref a1), some (.ref a2), some (.ref a3), some (.ref a4), some (.ref a5), some (.ref a6), some (.ref a7), some (.int v8), none, none, none, none, none, none, none, some (.int v16), some (.int v17), some (.int v18), none, none, none, none, none], [], (w, Sh, MI, ML))
  refine x_st rfl ?_
  refine x_st rfl ?_
  refine x_st rfl ?_
  refine x_st rfl ?_
  refine x_st rfl ?_
  refine x_st rfl ?_
  refine x_st rfl ?_
  obtain ⟨i1, ha, h⟩ := h
  refine y_ia (nx := 1119) (i := i1) rfl ha ?_
  refine x_br rfl (fun c => ?_) (fun c => ?_)
  · replace h := h.1 c
    refine x_st rfl ?_
    refine x_st rfl ?_
    refine x_st rfl ?_
    refine x_st rfl ?_
    refine x_st rfl ?_
    refine x_kl ?_ h
    exact ⟨Or.inr rfl, ⟨Or.inr rfl, ⟨Or.inr rfl, ⟨Or.inr rfl, ⟨Or.inr rfl, ⟨Or.inr rfl, ⟨Or.inr rfl, ⟨Or.inr rfl, ⟨Or.inr rfl, ⟨Or.inl rfl, ⟨Or.inl rfl, ⟨Or.inl rfl, ⟨Or.inl rfl, ⟨Or.inl rfl, ⟨Or.inl rfl, ⟨Or.inl rfl, ⟨Or.inr rfl, ⟨Or.inr rfl, ⟨Or.inr rfl, ⟨Or.inl rfl, ⟨Or.inl rfl, ⟨Or.inl rfl, ⟨Or.inl rfl, ⟨Or.inl rfl, True.intro⟩⟩⟩⟩⟩⟩⟩⟩⟩⟩⟩⟩⟩⟩⟩⟩⟩⟩⟩⟩⟩⟩⟩⟩
  · replace h := h.2 c
    refine x_st rfl ?_
    refine x_st rfl ?_
    refine x_st rfl ?_
    refine x_st rfl ?_
    refine x_st rfl ?_
    refine x_st rfl ?_
    refine x_kl ?_ h
    exact ⟨Or.inr rfl, ⟨Or.inr rfl, ⟨Or.inr rfl, ⟨Or.inr rfl, ⟨Or.inr rfl, ⟨Or.inr rfl, ⟨Or.inr rfl, ⟨Or.inr rfl, ⟨Or.inr rfl, ⟨Or.inl rfl, ⟨Or.inl rfl, ⟨Or.inl rfl, ⟨Or.inl rfl, ⟨Or.inl rfl, ⟨Or.inl rfl, ⟨Or.inl rfl, ⟨Or.inr rfl, ⟨Or.inr rfl, ⟨Or.inr rfl, ⟨Or.inl rfl, ⟨Or.inl rfl, ⟨Or.inl rfl, ⟨Or.inl rfl, ⟨Or.inl rfl, True.intro⟩⟩⟩⟩⟩⟩⟩⟩⟩⟩⟩⟩⟩⟩⟩⟩⟩⟩⟩⟩⟩⟩⟩⟩
theorem BL_law_1142 {C : mC} {Q : Option Value → mS → Prop} {L : Nat} {xs : Nat → Int32} {a1 : Nat} {a2 : Nat} {a3 : Nat} {a4 : Nat} {a5 : Nat} {a6 : Nat} {a7 : Nat} {v8 : Int32} {v16 : Int32} {w : Nat} {Sh : List mT} {MI : mI} {ML : mJ} (hL : L < 10001)
    (h : isO Sh a1 10 ∧ ∃ (x3 : Int32) (M1 : mI) (N2 : mJ), C 177 [.ref a1, .int (nI 5)] (w, Sh, MI, ML) (some (.int x3)) (w, Sh, M1, N2) ∧ ((x3 = v16 → VL_law_62 C Q L xs a1 a2 a3 a4 a5 a6 a7 (v8 + (nI 1)) w Sh M1 N2) ∧ (¬ x3 = v16 → Q (some (.int (nI 0))) (w, Sh, M1, N2)))) :
    VL_law_1142 C Q L xs a1 a2 a3 a4 a5 a6 a7 v8 v16 w Sh MI ML := by
  show mEx C (TL_law L xs) Q (1142, [some (.float 0), some (.ref a1), some (.ref a2), some (.ref a3), some (.ref a4), some (.ref a5), some (.ref a6), some (.ref a7), some (.int v8), none, none, none, none, none, none, none, some (.int v16), none, none, none, none, none, none, none], [], (w, Sh, MI, ML))
  refine x_st rfl ?_
  refine x_st rfl ?_
  obtain ⟨ho, x3, M1, N2, hc, h⟩ := h
  refine y_vi (y := 177) (n := 1) (ci := 10) (nx := 1147) rfl (fun _ => rfl) ho rfl hc ?_
  refine x_st rfl ?_
  refine x_br rfl (fun c => ?_) (fun c => ?_)
  · replace h := h.1 c
    refine x_st rfl ?_
    refine x_st rfl ?_
    refine x_kl ?_ h
    exact ⟨Or.inr rfl, ⟨Or.inr rfl, ⟨Or.inr rfl, ⟨Or.inr rfl, ⟨Or.inr rfl, ⟨Or.inr rfl, ⟨Or.inr rfl, ⟨Or.inr rfl, ⟨Or.inr rfl, ⟨Or.inl rfl, ⟨Or.inl rfl, ⟨Or.inl rfl, ⟨Or.inl rfl, ⟨Or.inl rfl, ⟨Or.inl rfl, ⟨Or.inl rfl, ⟨Or.inl rfl, ⟨Or.inl rfl, ⟨Or.inl rfl, ⟨Or.inl rfl, ⟨Or.inl rfl, ⟨Or.inl rfl, ⟨Or.inl rfl, ⟨Or.inl rfl, True.intro⟩⟩⟩⟩⟩⟩⟩⟩⟩⟩⟩⟩⟩⟩⟩⟩⟩⟩⟩⟩⟩⟩⟩⟩
  · replace h := h.2 c
    refine x_st rfl ?_
    exact x_ret rfl h
theorem BL_law_1160 {C : mC} {Q : Option Value → mS → Prop} {L : Nat} {xs : Nat → Int32} {a1 : Nat} {a2 : Nat} {w : Nat} {Sh : List mT} {MI : mI} {ML : mJ} (hL : L < 10001)
    (h : isO Sh a1 10 ∧ ∃ (x3 : Int32) (M1 : mI) (N2 : mJ), C 140 [.ref a1, .int (nI 0)] (w, Sh, MI, ML) (some (.int x3)) (w, Sh, M1, N2) ∧ ((x3 = (-1 : Int32) → aok Sh a2 0 (nI 0) ∧ (isO Sh a1 10 ∧ ∃ (x6 : Int32) (M4 : mI) (N5 : mJ), C 140 [.ref a1, .int (M1 a2 0)] (w, Sh, M1, N2) (some (.int x6)) (w, Sh, M4, N5) ∧ ((x6 = (-1 : Int32) → aok Sh a2 0 (nI 0) ∧ (isO Sh a1 10 ∧ ∃ (x9 : Int32) (M7 : mI) (N8 : mJ), C 149 [.ref a1, .int (M4 a2 0)] (w, Sh, M4, N5) (some (.int x9)) (w, Sh, M7, N8) ∧ ((x9 = (-1 : Int32) → isO Sh a1 10 ∧ ∃ (x12 : Int32) (M10 : mI) (N11 : mJ), C 159 [.ref a1, .int (nI 11), .int (nI 1)] (w, Sh, M7, N8) (some (.int x12)) (w, Sh, M10, N11) ∧ ((x12 = (-1 : Int32) → isO Sh a1 10 ∧ ∃ (x15 : Int32) (M13 : mI) (N14 : mJ), C 159 [.ref a1, .int (nI 1), .int (nI 0)] (w, Sh, M10, N11) (some (.int x15)) (w, Sh, M13, N14) ∧ ((x15 = (-1 : Int32) → isO Sh a1 10 ∧ ∃ (x18 : Int32) (M16 : mI) (N17 : mJ), C 161 [.ref a1, .int (nI 1), .int (nI 100)] (w, Sh, M13, N14) (some (.int x18)) (w, Sh, M16, N17) ∧ ((x18 = (-1 : Int32) → isO Sh a1 10 ∧ ∃ (x21 : Int32) (M19 : mI) (N20 : mJ), C 160 [.ref a1, .int (nI 0), .int (nI 1)] (w, Sh, M16, N17) (some (.int x21)) (w, Sh, M19, N20) ∧ ((x21 = (-1 : Int32) → isO Sh a1 10 ∧ ∃ (x24 : Int32) (M22 : mI) (N23 : mJ), C 163 [.ref a1, .int (nI 6)] (w, Sh, M19, N20) (some (.int x24)) (w, Sh, M22, N23) ∧ ((x24 = (-1 : Int32) → Q (some (.int (nI 1))) (w, Sh, M22, N23)) ∧ (¬ x24 = (-1 : Int32) → Q (some (.int (nI 0))) (w, Sh, M22, N23)))) ∧ (¬ x21 = (-1 : Int32) → Q (some (.int (nI 0))) (w, Sh, M19, N20)))) ∧ (¬ x18 = (-1 : Int32) → Q (some (.int (nI 0))) (w, Sh, M16, N17)))) ∧ (¬ x15 = (-1 : Int32) → Q (some (.int (nI 0))) (w, Sh, M13, N14)))) ∧ (¬ x12 = (-1 : Int32) → Q (some (.int (nI 0))) (w, Sh, M10, N11)))) ∧ (¬ x9 = (-1 : Int32) → Q (some (.int (nI 0))) (w, Sh, M7, N8))))) ∧ (¬ x6 = (-1 : Int32) → Q (some (.int (nI 0))) (w, Sh, M4, N5))))) ∧ (¬ x3 = (-1 : Int32) → Q (some (.int (nI 0))) (w, Sh, M1, N2)))) :
    VL_law_1160 C Q L xs a1 a2 w Sh MI ML := by
  show mEx C (TL_law L xs) Q (1160, [none, some (.ref a1), some (.ref a2), none, none, none, none, none, none, none, none, none, none, none, none, none, none, none, none, none, none, none, none, none], [], (w, Sh, MI, ML))
  refine x_st rfl ?_
  refine x_st rfl ?_
  obtain ⟨ho, x3, M1, N2, hc, h⟩ := h
  refine y_vi (y := 140) (n := 1) (ci := 10) (nx := 1165) rfl (fun _ => rfl) ho rfl hc ?_
  refine x_st rfl ?_
  refine x_br rfl (fun c => ?_) (fun c => ?_)
  · replace h := h.1 c
    refine x_st rfl ?_
    refine x_st rfl ?_
    refine x_st rfl ?_
    refine y_ia (nx := 1173) (i := 0) rfl h.1 ?_
    replace h := h.2
    obtain ⟨ho, x6, M4, N5, hc, h⟩ := h
    refine y_vi (y := 140) (n := 1) (ci := 10) (nx := 1176) rfl (fun _ => rfl) ho rfl hc ?_
    refine x_st rfl ?_
    refine x_br rfl (fun c => ?_) (fun c => ?_)
    · replace h := h.1 c
      refine x_st rfl ?_
      refine x_st rfl ?_
      refine x_st rfl ?_
      refine y_ia (nx := 1184) (i := 0) rfl h.1 ?_
      replace h := h.2
      obtain ⟨ho, x9, M7, N8, hc, h⟩ := h
      refine y_vi (y := 149) (n := 1) (ci := 10) (nx := 1187) rfl (fun _ => rfl) ho rfl hc ?_
      refine x_st rfl ?_
      refine x_br rfl (fun c => ?_) (fun c => ?_)
      · replace h := h.1 c
        refine x_st rfl ?_
        refine x_st rfl ?_
        refine x_st rfl ?_
        obtain ⟨ho, x12, M10, N11, hc, h⟩ := h
        refine y_vi (y := 159) (n := 2) (ci := 10) (nx := 1198) rfl (fun _ => rfl) ho rfl hc ?_
        refine x_st rfl ?_
        refine x_br rfl (fun c => ?_) (fun c => ?_)
        · replace h := h.1 c
          refine x_st rfl ?_
          refine x_st rfl ?_
          refine x_st rfl ?_
          obtain ⟨ho, x15, M13, N14, hc, h⟩ := h
          refine y_vi (y := 159) (n := 2) (ci := 10) (nx := 1208) rfl (fun _ => rfl) ho rfl hc ?_
          refine x_st rfl ?_
          refine x_br rfl (fun c => ?_) (fun c => ?_)
          · replace h := h.1 c
            refine x_st rfl ?_
            refine x_st rfl ?_
            refine x_st rfl ?_
            obtain ⟨ho, x18, M16, N17, hc, h⟩ := h
            refine y_vi (y := 161) (n := 2) (ci := 10) (nx := 1219) rfl (fun _ => rfl) ho rfl hc ?_
            refine x_st rfl ?_
            refine x_br rfl (fun c => ?_) (fun c => ?_)
            · replace h := h.1 c
              refine x_st rfl ?_
              refine x_st rfl ?_
              refine x_st rfl ?_
              obtain ⟨ho, x21, M19, N20, hc, h⟩ := h
              refine y_vi (y := 160) (n := 2) (ci := 10) (nx := 1229) rfl (fun _ => rfl) ho rfl hc ?_
              refine x_st rfl ?_
              refine x_br rfl (fun c => ?_) (fun c => ?_)
              · replace h := h.1 c
                refine x_st rfl ?_
                refine x_st rfl ?_
                obtain ⟨ho, x24, M22, N23, hc, h⟩ := h
                refine y_vi (y := 163) (n := 1) (ci := 10) (nx := 1239) rfl (fun _ => rfl) ho rfl hc ?_
                refine x_st rfl ?_
                refine x_br rfl (fun c => ?_) (fun c => ?_)
                · replace h := h.1 c
                  refine x_st rfl ?_
                  refine x_st rfl ?_
                  exact x_ret rfl h
                · replace h := h.2 c
                  refine x_st rfl ?_
                  exact x_ret rfl h
              · replace h := h.2 c
                refine x_st rfl ?_
                exact x_ret rfl h
            · replace h := h.2 c
              refine x_st rfl ?_
              exact x_ret rfl h
          · replace h := h.2 c
            refine x_st rfl ?_
            exact x_ret rfl h
        · replace h := h.2 c
          refine x_st rfl ?_
          exact x_ret rfl h
      · replace h := h.2 c
        refine x_st rfl ?_
        exact x_ret rfl h
    · replace h := h.2 c
      refine x_st rfl ?_
      exact x_ret rfl h
  · replace h := h.2 c
    refine x_st rfl ?_
    exact x_ret rfl h
