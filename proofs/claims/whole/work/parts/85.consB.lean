set_option maxRecDepth 100000 in
theorem ic_14 {D : Nat} : mrn (D + 1) 179 [.ref 46] (4028, [(0, 10, [some (some 1), some (some 3), some (some 6), some (some 15), some (some 24), some (some 28), some (some 33), some (some 39), some (some 43), some (some 10)]), (0, 0, [none, some (some 2)]), (1, 84, []), (0, 4, [some (some 4), none, some (some 5), none, none]), (1, 161, []), (1, 160, []), (0, 3, [some (some 7), none, some (some 8), some (some 9)]), (1, 161, []), (1, 6, []), (1, 40, []), (0, 8, [some (some 11), some (some 12), some (some 13), some (some 14)]), (1, 6, []), (1, 6, []), (1, 6, []), (2, 360, []), (0, 9, [some (some 16), none, none, none, none, none, none, some (some 1), some (some 6), some (some 10), some (some 18), some (some 23)]), (0, 0, [none, some (some 17)]), (1, 84, []), (0, 7, [none, some (some 19), some (some 20), some (some 21), some (some 22), none, none]), (1, 8, []), (1, 8, []), (1, 8, []), (1, 8, []), (1, 19, []), (0, 6, [some (some 1), some (some 25), some (some 26), some (some 27)]), (1, 72, []), (1, 2304, []), (1, 8, []), (0, 7, [none, some (some 29), some (some 30), some (some 31), some (some 32), none, none]), (1, 8, []), (1, 8, []), (1, 8, []), (1, 8, []), (0, 1, [some (some 34), some (some 35), none, some (some 36), some (some 38), none]), (1, 6, []), (1, 72, []), (0, 0, [none, some (some 37)]), (1, 84, []), (1, 6, []), (0, 2, [some (some 40), some (some 41), some (some 42), none, none]), (1, 40, []), (1, 40, []), (1, 40, []), (0, 5, [some (some 44), none, some (some 45), none]), (1, 50, []), (1, 24, []), (0, 11, [some none, some none, some none, some none, none, none, none, some none, none, some none, none, some none, some none, some none, none, some none, some none, none, none, none, none, some none, some none, some none, some none, some none, some none, some none, some none, none, none, some none, some none, some none, some none, some none, some none, none, some none, some none, none, none, some none, some none, none, none, none, some none, some none, some none, some none])], rdI [(43, 3, nI 0), (43, 1, nI 0), (39, 4, nI 0), (39, 3, nI 0), (33, 5, nI 0), (37, 18, nI 6), (37, 16, nI 1), (36, 0, nI 0), (33, 2, nI 0), (28, 6, nI 0), (28, 5, nI 0), (28, 0, nI 0), (18, 6, nI 0), (18, 5, nI 0), (18, 0, nI 0), (15, 6, nI 0), (15, 5, nI 0), (15, 4, nI 0), (15, 3, nI 0), (15, 2, nI 0), (15, 1, nI 8), (17, 18, nI 6), (17, 16, nI 1), (16, 0, nI 0), (11, 5, nI 6), (11, 4, nI 6), (11, 3, nI 6), (11, 2, nI 6), (11, 1, nI 6), (11, 0, nI 6), (6, 1, nI 0), (3, 4, nI 0), (3, 3, nI 0), (3, 1, nI 0), (2, 18, nI 6), (2, 16, nI 1), (1, 0, nI 0)], rdJ []) none (8386, [(0, 10, [some (some 1), some (some 3), some (some 6), some (some 15), some (some 24), some (some 28), some (some 33), some (some 39), some (some 43), some (some 10)]), (0, 0, [none, some (some 2)]), (1, 84, []), (0, 4, [some (some 4), none, some (some 5), none, none]), (1, 161, []), (1, 160, []), (0, 3, [some (some 7), none, some (some 8), some (some 9)]), (1, 161, []), (1, 6, []), (1, 40, []), (0, 8, [some (some 11), some (some 12), some (some 13), some (some 14)]), (1, 6, []), (1, 6, []), (1, 6, []), (2, 360, []), (0, 9, [some (some 16), none, none, none, none, none, none, some (some 1), some (some 6), some (some 10), some (some 18), some (some 23)]), (0, 0, [none, some (some 17)]), (1, 84, []), (0, 7, [none, some (some 19), some (some 20), some (some 21), some (some 22), none, none]), (1, 8, []), (1, 8, []), (1, 8, []), (1, 8, []), (1, 19, []), (0, 6, [some (some 1), some (some 25), some (some 26), some (some 27)]), (1, 72, []), (1, 2304, []), (1, 8, []), (0, 7, [none, some (some 29), some (some 30), some (some 31), some (some 32), none, none]), (1, 8, []), (1, 8, []), (1, 8, []), (1, 8, []), (0, 1, [some (some 34), some (some 35), none, some (some 36), some (some 38), none]), (1, 6, []), (1, 72, []), (0, 0, [none, some (some 37)]), (1, 84, []), (1, 6, []), (0, 2, [some (some 40), some (some 41), some (some 42), none, none]), (1, 40, []), (1, 40, []), (1, 40, []), (0, 5, [some (some 44), none, some (some 45), none]), (1, 50, []), (1, 24, []), (0, 11, [some (some 47), some (some 48), some (some 49), some (some 50), none, none, none, some (some 51), none, some (some 52), none, some (some 53), some (some 54), some (some 55), none, some (some 56), some (some 57), none, none, none, none, some (some 58), some (some 59), some (some 60), some (some 61), some (some 62), some (some 63), some (some 64), some (some 65), none, none, some (some 66), some (some 67), some (some 68), some (some 69), some (some 70), some (some 71), none, some (some 72), some (some 73), none, none, some (some 74), some (some 75), none, none, none, some (some 76), some (some 77), some (some 78), some (some 79)]), (1, 84, []), (1, 40, []), (1, 40, []), (1, 40, []), (1, 160, []), (1, 160, []), (1, 160, []), (1, 160, []), (1, 160, []), (1, 160, []), (1, 160, []), (1, 160, []), (1, 6, []), (2, 6, []), (1, 84, []), (3, 8, []), (3, 8, []), (3, 8, []), (1, 8, []), (1, 2048, []), (1, 8, []), (3, 8, []), (3, 8, []), (1, 6, []), (1, 72, []), (1, 84, []), (1, 6, []), (1, 50, []), (1, 24, []), (1, 6, []), (1, 6, []), (2, 360, []), (2, 60, [])], rdI [(47, 18, nI 6), (47, 16, nI 1), (76, 5, (-1 : Int32)), (76, 4, (-1 : Int32)), (76, 3, (-1 : Int32)), (76, 2, (-1 : Int32)), (76, 1, (-1 : Int32)), (76, 0, (-1 : Int32)), (46, 40, (-1 : Int32)), (43, 3, nI 0), (43, 1, nI 0), (39, 4, nI 0), (39, 3, nI 0), (33, 5, nI 0), (37, 18, nI 6), (37, 16, nI 1), (36, 0, nI 0), (33, 2, nI 0), (28, 6, nI 0), (28, 5, nI 0), (28, 0, nI 0), (18, 6, nI 0), (18, 5, nI 0), (18, 0, nI 0), (15, 6, nI 0), (15, 5, nI 0), (15, 4, nI 0), (15, 3, nI 0), (15, 2, nI 0), (15, 1, nI 8), (17, 18, nI 6), (17, 16, nI 1), (16, 0, nI 0), (11, 5, nI 6), (11, 4, nI 6), (11, 3, nI 6), (11, 2, nI 6), (11, 1, nI 6), (11, 0, nI 6), (6, 1, nI 0), (3, 4, nI 0), (3, 3, nI 0), (3, 1, nI 0), (2, 18, nI 6), (2, 16, nI 1), (1, 0, nI 0)], rdJ [(60, 5, (146885 : Int64)), (60, 4, (4153 : Int64)), (60, 3, (755156 : Int64)), (60, 2, (290921650 : Int64)), (60, 1, (409285 : Int64)), (60, 0, (263813 : Int64))]) := by
  refine xA_en (n := 1) (T := TX11_init) rfl rfl (by decide) (by decide) ?_
  refine x_st rfl ?_
  refine x_st rfl ?_
  refine x_st rfl ?_
  refine x_st rfl ?_
  refine xA_new rfl rfl ?_
  refine x_st rfl ?_
  refine x_st rfl ?_
  refine x_st rfl ?_
  refine xA_new rfl rfl ?_
  refine x_st rfl ?_
  refine x_st rfl ?_
  refine x_st rfl ?_
  refine xA_new rfl rfl ?_
  refine x_st rfl ?_
  refine x_st rfl ?_
  refine x_st rfl ?_
  refine xA_new rfl rfl ?_
  refine x_st rfl ?_
  refine x_st rfl ?_
  refine x_st rfl ?_
  refine xA_new rfl rfl ?_
  refine x_st rfl ?_
  refine x_st rfl ?_
  refine x_st rfl ?_
  refine xA_new rfl rfl ?_
  refine x_st rfl ?_
  refine x_st rfl ?_
  refine x_st rfl ?_
  refine xA_new rfl rfl ?_
  refine x_st rfl ?_
  refine x_st rfl ?_
  refine x_st rfl ?_
  refine xA_new rfl rfl ?_
  refine x_st rfl ?_
  refine x_st rfl ?_
  refine x_st rfl ?_
  refine xA_new rfl rfl ?_
  refine x_st rfl ?_
  refine x_st rfl ?_
  refine x_st rfl ?_
  refine xA_new rfl rfl ?_
  refine x_st rfl ?_
  refine x_st rfl ?_
  refine x_st rfl ?_
  refine xA_new rfl rfl ?_
  refine x_st rfl ?_
  refine x_st rfl ?_
  refine x_st rfl ?_
  refine xA_new rfl rfl ?_
  refine x_st rfl ?_
  refine x_st rfl ?_
  refine x_st rfl ?_
  refine xA_new rfl rfl ?_
  refine x_st rfl ?_
  refine x_st rfl ?_
  refine x_st rfl ?_
  refine xA_nl rfl rfl ?_
  refine x_st rfl ?_
  refine x_st rfl ?_
  refine x_st rfl ?_
  refine xA_last (i := 0) rfl rfl (by decide) (by decide) (by decide) ?_
  refine x_st rfl ?_
  refine x_st rfl ?_
  refine x_st rfl ?_
  refine xA_last (i := 1) rfl rfl (by decide) (by decide) (by decide) ?_
  refine x_st rfl ?_
  refine x_st rfl ?_
  refine x_st rfl ?_
  refine xA_last (i := 2) rfl rfl (by decide) (by decide) (by decide) ?_
  refine x_st rfl ?_
  refine x_st rfl ?_
  refine x_st rfl ?_
  refine xA_last (i := 3) rfl rfl (by decide) (by decide) (by decide) ?_
  refine x_st rfl ?_
  refine x_st rfl ?_
  refine x_st rfl ?_
  refine xA_last (i := 4) rfl rfl (by decide) (by decide) (by decide) ?_
  refine x_st rfl ?_
  refine x_st rfl ?_
  refine x_st rfl ?_
  refine xA_last (i := 5) rfl rfl (by decide) (by decide) (by decide) ?_
  refine x_st rfl ?_
  refine x_st rfl ?_
  refine x_st rfl ?_
  refine xA_new rfl rfl ?_
  refine x_st rfl ?_
  refine x_st rfl ?_
  refine x_st rfl ?_
  refine xA_new rfl rfl ?_
  refine x_st rfl ?_
  refine x_st rfl ?_
  refine x_st rfl ?_
  refine xA_new rfl rfl ?_
  refine x_st rfl ?_
  refine x_st rfl ?_
  refine x_st rfl ?_
  refine xA_new rfl rfl ?_
  refine x_st rfl ?_
  refine x_st rfl ?_
  refine x_st rfl ?_
  refine xA_new rfl rfl ?_
  refine x_st rfl ?_
  refine x_st rfl ?_
  refine x_st rfl ?_
  refine xA_new rfl rfl ?_
  refine x_st rfl ?_
  refine x_st rfl ?_
  refine x_st rfl ?_
  refine xA_new rfl rfl ?_
  refine x_st rfl ?_
  refine x_st rfl ?_
  refine x_st rfl ?_
  refine xA_new rfl rfl ?_
  refine x_st rfl ?_
  refine x_st rfl ?_
  refine x_st rfl ?_
  refine xA_new rfl rfl ?_
  refine x_st rfl ?_
  refine x_st rfl ?_
  refine x_st rfl ?_
  refine xA_new rfl rfl ?_
  refine x_st rfl ?_
  refine x_st rfl ?_
  refine x_st rfl ?_
  refine xA_new rfl rfl ?_
  refine x_st rfl ?_
  refine x_st rfl ?_
  refine x_st rfl ?_
  refine xA_new rfl rfl ?_
  refine x_st rfl ?_
  refine x_st rfl ?_
  refine x_st rfl ?_
  refine xA_new rfl rfl ?_
  refine x_st rfl ?_
  refine x_st rfl ?_
  refine x_st rfl ?_
  refine xA_pi rfl rfl rfl ?_
  refine x_st rfl ?_
  refine x_st rfl ?_
  refine xA_new rfl rfl ?_
  refine x_st rfl ?_
  refine x_st rfl ?_
  refine x_st rfl ?_
  refine xA_new rfl rfl ?_
  refine x_st rfl ?_
  refine x_st rfl ?_
  refine x_st rfl ?_
  refine xA_new rfl rfl ?_
  refine x_st rfl ?_
  refine x_st rfl ?_
  refine x_st rfl ?_
  refine xA_new rfl rfl ?_
  refine x_st rfl ?_
  refine x_st rfl ?_
  refine x_st rfl ?_
  refine xA_nl rfl rfl ?_
  refine x_st rfl ?_
  refine x_st rfl ?_
  refine x_st rfl ?_
  refine xA_nl rfl rfl ?_
  refine x_st rfl ?_
  refine x_st rfl ?_
  refine x_st rfl ?_
  refine x_st rfl ?_
  refine x_st rfl ?_
  refine x_st rfl ?_
  refine x_st rfl ?_
  refine x_st rfl ?_
  refine x_st rfl ?_
  refine x_st rfl ?_
  refine xA_iast (i := 0) rfl rfl (by decide) (by decide) (by decide) ?_
  refine x_st rfl ?_
  refine x_st rfl ?_
  refine x_st rfl ?_
  refine x_st rfl ?_
  refine x_st rfl ?_
  refine x_st rfl ?_
  refine x_st rfl ?_
  refine x_st rfl ?_
  refine x_st rfl ?_
  refine xA_iast (i := 1) rfl rfl (by decide) (by decide) (by decide) ?_
  refine x_st rfl ?_
  refine x_st rfl ?_
  refine x_st rfl ?_
  refine x_st rfl ?_
  refine x_st rfl ?_
  refine x_st rfl ?_
  refine x_st rfl ?_
  refine x_st rfl ?_
  refine x_st rfl ?_
  refine xA_iast (i := 2) rfl rfl (by decide) (by decide) (by decide) ?_
  refine x_st rfl ?_
  refine x_st rfl ?_
  refine x_st rfl ?_
  refine x_st rfl ?_
  refine x_st rfl ?_
  refine x_st rfl ?_
  refine x_st rfl ?_
  refine x_st rfl ?_
  refine x_st rfl ?_
  refine xA_iast (i := 3) rfl rfl (by decide) (by decide) (by decide) ?_
  refine x_st rfl ?_
  refine x_st rfl ?_
  refine x_st rfl ?_
  refine x_st rfl ?_
  refine x_st rfl ?_
  refine x_st rfl ?_
  refine x_st rfl ?_
  refine x_st rfl ?_
  refine x_st rfl ?_
  refine xA_iast (i := 4) rfl rfl (by decide) (by decide) (by decide) ?_
  refine x_st rfl ?_
  refine x_st rfl ?_
  refine x_st rfl ?_
  refine x_st rfl ?_
  refine x_st rfl ?_
  refine x_st rfl ?_
  refine x_st rfl ?_
  refine x_st rfl ?_
  refine x_st rfl ?_
  refine xA_iast (i := 5) rfl rfl (by decide) (by decide) (by decide) ?_
  refine x_st rfl ?_
  refine x_st rfl ?_
  refine x_st rfl ?_
  refine x_st rfl ?_
  refine x_st rfl ?_
  refine x_st rfl ?_
  refine x_st rfl ?_
  refine x_st rfl ?_
  refine x_st rfl ?_
  refine xA_iast (i := 16) rfl rfl (by decide) (by decide) (by decide) ?_
  refine x_st rfl ?_
  refine x_st rfl ?_
  refine x_st rfl ?_
  refine x_st rfl ?_
  refine xA_iast (i := 18) rfl rfl (by decide) (by decide) (by decide) ?_
  exact x_ret rfl ⟨rfl, rfl⟩
