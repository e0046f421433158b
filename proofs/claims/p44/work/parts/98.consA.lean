set_option maxRecDepth 100000 in
theorem ic_0 {D : Nat} : mrn (D + 1) 0 [.ref 1] (12, [(0, 10, [some none, some none, some none, some none, some none, some none, some none, some none, some none, some none]), (0, 0, [none, some none])], rdI [], rdJ []) none (96, [(0, 10, [some none, some none, some none, some none, some none, some none, some none, some none, some none, some none]), (0, 0, [none, some (some 2)]), (1, 84, [])], rdI [(2, 18, nI 6), (2, 16, nI 1), (1, 0, nI 0)], rdJ []) := by
  refine xA_en (n := 0) (T := TX0_init) rfl rfl (by decide) (by decide) ?_
  refine x_st rfl ?_
  refine x_st rfl ?_
  refine x_st rfl ?_
  refine x_st rfl ?_
  refine xA_pi rfl rfl rfl ?_
  refine x_st rfl ?_
  refine x_st rfl ?_
  refine xA_new rfl rfl ?_
  refine x_st rfl ?_
  refine x_st rfl ?_
  refine x_st rfl ?_
  refine x_st rfl ?_
  refine x_st rfl ?_
  refine xA_iast (i := 16) rfl rfl (by decide) (by decide) (by decide) ?_
  refine x_st rfl ?_
  refine x_st rfl ?_
  refine x_st rfl ?_
  refine x_st rfl ?_
  refine xA_iast (i := 18) rfl rfl (by decide) (by decide) (by decide) ?_
  exact x_ret rfl ⟨rfl, rfl⟩
set_option maxRecDepth 100000 in
theorem ic_1 {D : Nat} : mrn (D + 1) 51 [.ref 3] (101, [(0, 10, [some (some 1), some none, some none, some none, some none, some none, some none, some none, some none, some none]), (0, 0, [none, some (some 2)]), (1, 84, []), (0, 4, [some none, none, some none, none, none])], rdI [(2, 18, nI 6), (2, 16, nI 1), (1, 0, nI 0)], rdJ []) none (422, [(0, 10, [some (some 1), some none, some none, some none, some none, some none, some none, some none, some none, some none]), (0, 0, [none, some (some 2)]), (1, 84, []), (0, 4, [some (some 4), none, some (some 5), none, none]), (1, 161, []), (1, 160, [])], rdI [(3, 4, nI 0), (3, 3, nI 0), (3, 1, nI 0), (2, 18, nI 6), (2, 16, nI 1), (1, 0, nI 0)], rdJ []) := by
  refine xA_en (n := 0) (T := TX4_init) rfl rfl (by decide) (by decide) ?_
  refine x_st rfl ?_
  refine x_st rfl ?_
  refine x_st rfl ?_
  refine x_st rfl ?_
  refine xA_new rfl rfl ?_
  refine x_st rfl ?_
  refine x_st rfl ?_
  refine x_st rfl ?_
  refine xA_pi rfl rfl rfl ?_
  refine x_st rfl ?_
  refine x_st rfl ?_
  refine xA_new rfl rfl ?_
  refine x_st rfl ?_
  refine x_st rfl ?_
  refine x_st rfl ?_
  refine xA_pi rfl rfl rfl ?_
  refine x_st rfl ?_
  refine x_st rfl ?_
  refine xA_pi rfl rfl rfl ?_
  exact x_ret rfl ⟨rfl, rfl⟩
set_option maxRecDepth 100000 in
theorem ic_2 {D : Nat} : mrn (D + 1) 45 [.ref 6] (426, [(0, 10, [some (some 1), some (some 3), some none, some none, some none, some none, some none, some none, some none, some none]), (0, 0, [none, some (some 2)]), (1, 84, []), (0, 4, [some (some 4), none, some (some 5), none, none]), (1, 161, []), (1, 160, []), (0, 3, [some none, none, some none, some none])], rdI [(3, 4, nI 0), (3, 3, nI 0), (3, 1, nI 0), (2, 18, nI 6), (2, 16, nI 1), (1, 0, nI 0)], rdJ []) none (633, [(0, 10, [some (some 1), some (some 3), some none, some none, some none, some none, some none, some none, some none, some none]), (0, 0, [none, some (some 2)]), (1, 84, []), (0, 4, [some (some 4), none, some (some 5), none, none]), (1, 161, []), (1, 160, []), (0, 3, [some (some 7), none, some (some 8), some (some 9)]), (1, 161, []), (1, 6, []), (1, 40, [])], rdI [(6, 1, nI 0), (3, 4, nI 0), (3, 3, nI 0), (3, 1, nI 0), (2, 18, nI 6), (2, 16, nI 1), (1, 0, nI 0)], rdJ []) := by
  refine xA_en (n := 0) (T := TX3_init) rfl rfl (by decide) (by decide) ?_
  refine x_st rfl ?_
  refine x_st rfl ?_
  refine x_st rfl ?_
  refine x_st rfl ?_
  refine xA_new rfl rfl ?_
  refine x_st rfl ?_
  refine x_st rfl ?_
  refine x_st rfl ?_
  refine xA_pi rfl rfl rfl ?_
  refine x_st rfl ?_
  refine x_st rfl ?_
  refine xA_new rfl rfl ?_
  refine x_st rfl ?_
  refine x_st rfl ?_
  refine x_st rfl ?_
  refine xA_new rfl rfl ?_
  refine x_st rfl ?_
  exact x_ret rfl ⟨rfl, rfl⟩
set_option maxRecDepth 100000 in
theorem ic_3 {D : Nat} : mrn (D + 1) 100 [.ref 10] (637, [(0, 10, [some (some 1), some (some 3), some (some 6), some none, some none, some none, some none, some none, some none, some none]), (0, 0, [none, some (some 2)]), (1, 84, []), (0, 4, [some (some 4), none, some (some 5), none, none]), (1, 161, []), (1, 160, []), (0, 3, [some (some 7), none, some (some 8), some (some 9)]), (1, 161, []), (1, 6, []), (1, 40, []), (0, 8, [some none, some none, some none, some none])], rdI [(6, 1, nI 0), (3, 4, nI 0), (3, 3, nI 0), (3, 1, nI 0), (2, 18, nI 6), (2, 16, nI 1), (1, 0, nI 0)], rdJ []) none (1015, [(0, 10, [some (some 1), some (some 3), some (some 6), some none, some none, some none, some none, some none, some none, some none]), (0, 0, [none, some (some 2)]), (1, 84, []), (0, 4, [some (some 4), none, some (some 5), none, none]), (1, 161, []), (1, 160, []), (0, 3, [some (some 7), none, some (some 8), some (some 9)]), (1, 161, []), (1, 6, []), (1, 40, []), (0, 8, [some (some 11), some (some 12), some (some 13), some (some 14)]), (1, 6, []), (1, 6, []), (1, 6, []), (2, 360, [])], rdI [(11, 5, nI 6), (11, 4, nI 6), (11, 3, nI 6), (11, 2, nI 6), (11, 1, nI 6), (11, 0, nI 6), (6, 1, nI 0), (3, 4, nI 0), (3, 3, nI 0), (3, 1, nI 0), (2, 18, nI 6), (2, 16, nI 1), (1, 0, nI 0)], rdJ []) := by
  refine xA_en (n := 0) (T := TX8_init) rfl rfl (by decide) (by decide) ?_
  refine x_st rfl ?_
  refine x_st rfl ?_
  refine x_st rfl ?_
  refine x_st rfl ?_
  refine xA_new rfl rfl ?_
  refine x_st rfl ?_
  refine x_st rfl ?_
  refine x_st rfl ?_
  refine xA_iast (i := 0) rfl rfl (by decide) (by decide) (by decide) ?_
  refine x_st rfl ?_
  refine x_st rfl ?_
  refine x_st rfl ?_
  refine xA_iast (i := 1) rfl rfl (by decide) (by decide) (by decide) ?_
  refine x_st rfl ?_
  refine x_st rfl ?_
  refine x_st rfl ?_
  refine xA_iast (i := 2) rfl rfl (by decide) (by decide) (by decide) ?_
  refine x_st rfl ?_
  refine x_st rfl ?_
  refine x_st rfl ?_
  refine xA_iast (i := 3) rfl rfl (by decide) (by decide) (by decide) ?_
  refine x_st rfl ?_
  refine x_st rfl ?_
  refine x_st rfl ?_
  refine xA_iast (i := 4) rfl rfl (by decide) (by decide) (by decide) ?_
  refine x_st rfl ?_
  refine x_st rfl ?_
  refine x_st rfl ?_
  refine xA_iast (i := 5) rfl rfl (by decide) (by decide) (by decide) ?_
  refine x_st rfl ?_
  refine x_st rfl ?_
  refine x_st rfl ?_
  refine xA_new rfl rfl ?_
  refine x_st rfl ?_
  refine x_st rfl ?_
  refine x_st rfl ?_
  refine xA_new rfl rfl ?_
  refine x_st rfl ?_
  refine x_st rfl ?_
  refine x_st rfl ?_
  refine xA_nl rfl rfl ?_
  refine x_st rfl ?_
  exact x_ret rfl ⟨rfl, rfl⟩
set_option maxRecDepth 100000 in
theorem ic_4 {D : Nat} : mrn (D + 1) 0 [.ref 16] (1029, [(0, 10, [some (some 1), some (some 3), some (some 6), some none, some none, some none, some none, some none, some none, some (some 10)]), (0, 0, [none, some (some 2)]), (1, 84, []), (0, 4, [some (some 4), none, some (some 5), none, none]), (1, 161, []), (1, 160, []), (0, 3, [some (some 7), none, some (some 8), some (some 9)]), (1, 161, []), (1, 6, []), (1, 40, []), (0, 8, [some (some 11), some (some 12), some (some 13), some (some 14)]), (1, 6, []), (1, 6, []), (1, 6, []), (2, 360, []), (0, 9, [some none, none, none, none, none, none, none, some none, some none, some none, some none, some none]), (0, 0, [none, some none])], rdI [(11, 5, nI 6), (11, 4, nI 6), (11, 3, nI 6), (11, 2, nI 6), (11, 1, nI 6), (11, 0, nI 6), (6, 1, nI 0), (3, 4, nI 0), (3, 3, nI 0), (3, 1, nI 0), (2, 18, nI 6), (2, 16, nI 1), (1, 0, nI 0)], rdJ []) none (1113, [(0, 10, [some (some 1), some (some 3), some (some 6), some none, some none, some none, some none, some none, some none, some (some 10)]), (0, 0, [none, some (some 2)]), (1, 84, []), (0, 4, [some (some 4), none, some (some 5), none, none]), (1, 161, []), (1, 160, []), (0, 3, [some (some 7), none, some (some 8), some (some 9)]), (1, 161, []), (1, 6, []), (1, 40, []), (0, 8, [some (some 11), some (some 12), some (some 13), some (some 14)]), (1, 6, []), (1, 6, []), (1, 6, []), (2, 360, []), (0, 9, [some none, none, none, none, none, none, none, some none, some none, some none, some none, some none]), (0, 0, [none, some (some 17)]), (1, 84, [])], rdI [(17, 18, nI 6), (17, 16, nI 1), (16, 0, nI 0), (11, 5, nI 6), (11, 4, nI 6), (11, 3, nI 6), (11, 2, nI 6), (11, 1, nI 6), (11, 0, nI 6), (6, 1, nI 0), (3, 4, nI 0), (3, 3, nI 0), (3, 1, nI 0), (2, 18, nI 6), (2, 16, nI 1), (1, 0, nI 0)], rdJ []) := by
  refine xA_en (n := 0) (T := TX0_init) rfl rfl (by decide) (by decide) ?_
  refine x_st rfl ?_
  refine x_st rfl ?_
  refine x_st rfl ?_
  refine x_st rfl ?_
  refine xA_pi rfl rfl rfl ?_
  refine x_st rfl ?_
  refine x_st rfl ?_
  refine xA_new rfl rfl ?_
  refine x_st rfl ?_
  refine x_st rfl ?_
  refine x_st rfl ?_
  refine x_st rfl ?_
  refine x_st rfl ?_
  refine xA_iast (i := 16) rfl rfl (by decide) (by decide) (by decide) ?_
  refine x_st rfl ?_
  refine x_st rfl ?_
  refine x_st rfl ?_
  refine x_st rfl ?_
  refine xA_iast (i := 18) rfl rfl (by decide) (by decide) (by decide) ?_
  exact x_ret rfl ⟨rfl, rfl⟩
set_option maxRecDepth 100000 in
theorem ic_5 {D : Nat} : mrn (D + 1) 95 [.ref 18] (1120, [(0, 10, [some (some 1), some (some 3), some (some 6), some none, some none, some none, some none, some none, some none, some (some 10)]), (0, 0, [none, some (some 2)]), (1, 84, []), (0, 4, [some (some 4), none, some (some 5), none, none]), (1, 161, []), (1, 160, []), (0, 3, [some (some 7), none, some (some 8), some (some 9)]), (1, 161, []), (1, 6, []), (1, 40, []), (0, 8, [some (some 11), some (some 12), some (some 13), some (some 14)]), (1, 6, []), (1, 6, []), (1, 6, []), (2, 360, []), (0, 9, [some (some 16), none, none, none, none, none, none, some none, some none, some none, some none, some none]), (0, 0, [none, some (some 17)]), (1, 84, []), (0, 7, [none, some none, some none, some none, some none, none, none])], rdI [(15, 6, nI 0), (15, 5, nI 0), (15, 4, nI 0), (15, 3, nI 0), (15, 2, nI 0), (15, 1, nI 8), (17, 18, nI 6), (17, 16, nI 1), (16, 0, nI 0), (11, 5, nI 6), (11, 4, nI 6), (11, 3, nI 6), (11, 2, nI 6), (11, 1, nI 6), (11, 0, nI 6), (6, 1, nI 0), (3, 4, nI 0), (3, 3, nI 0), (3, 1, nI 0), (2, 18, nI 6), (2, 16, nI 1), (1, 0, nI 0)], rdJ []) none (1152, [(0, 10, [some (some 1), some (some 3), some (some 6), some none, some none, some none, some none, some none, some none, some (some 10)]), (0, 0, [none, some (some 2)]), (1, 84, []), (0, 4, [some (some 4), none, some (some 5), none, none]), (1, 161, []), (1, 160, []), (0, 3, [some (some 7), none, some (some 8), some (some 9)]), (1, 161, []), (1, 6, []), (1, 40, []), (0, 8, [some (some 11), some (some 12), some (some 13), some (some 14)]), (1, 6, []), (1, 6, []), (1, 6, []), (2, 360, []), (0, 9, [some (some 16), none, none, none, none, none, none, some none, some none, some none, some none, some none]), (0, 0, [none, some (some 17)]), (1, 84, []), (0, 7, [none, some (some 19), some (some 20), some (some 21), some (some 22), none, none]), (1, 8, []), (1, 8, []), (1, 8, []), (1, 8, [])], rdI [(18, 6, nI 0), (18, 5, nI 0), (18, 0, nI 0), (15, 6, nI 0), (15, 5, nI 0), (15, 4, nI 0), (15, 3, nI 0), (15, 2, nI 0), (15, 1, nI 8), (17, 18, nI 6), (17, 16, nI 1), (16, 0, nI 0), (11, 5, nI 6), (11, 4, nI 6), (11, 3, nI 6), (11, 2, nI 6), (11, 1, nI 6), (11, 0, nI 6), (6, 1, nI 0), (3, 4, nI 0), (3, 3, nI 0), (3, 1, nI 0), (2, 18, nI 6), (2, 16, nI 1), (1, 0, nI 0)], rdJ []) := by
  refine xA_en (n := 0) (T := TX7_init) rfl rfl (by decide) (by decide) ?_
  refine x_st rfl ?_
  refine x_st rfl ?_
  refine x_st rfl ?_
  refine x_st rfl ?_
  refine xA_pi rfl rfl rfl ?_
  refine x_st rfl ?_
  refine x_st rfl ?_
  refine xA_new rfl rfl ?_
  refine x_st rfl ?_
  refine x_st rfl ?_
  refine x_st rfl ?_
  refine xA_new rfl rfl ?_
  refine x_st rfl ?_
  refine x_st rfl ?_
  refine x_st rfl ?_
  refine xA_new rfl rfl ?_
  refine x_st rfl ?_
  refine x_st rfl ?_
  refine x_st rfl ?_
  refine xA_new rfl rfl ?_
  refine x_st rfl ?_
  refine x_st rfl ?_
  refine x_st rfl ?_
  refine xA_pi rfl rfl rfl ?_
  refine x_st rfl ?_
  refine x_st rfl ?_
  refine xA_pi rfl rfl rfl ?_
  exact x_ret rfl ⟨rfl, rfl⟩
set_option maxRecDepth 100000 in
theorem ic_6 {D : Nat} : mrn (D + 2) 121 [.ref 15, .ref 1, .ref 6, .ref 10] (1027, [(0, 10, [some (some 1), some (some 3), some (some 6), some none, some none, some none, some none, some none, some none, some (some 10)]), (0, 0, [none, some (some 2)]), (1, 84, []), (0, 4, [some (some 4), none, some (some 5), none, none]), (1, 161, []), (1, 160, []), (0, 3, [some (some 7), none, some (some 8), some (some 9)]), (1, 161, []), (1, 6, []), (1, 40, []), (0, 8, [some (some 11), some (some 12), some (some 13), some (some 14)]), (1, 6, []), (1, 6, []), (1, 6, []), (2, 360, []), (0, 9, [some none, none, none, none, none, none, none, some none, some none, some none, some none, some none])], rdI [(11, 5, nI 6), (11, 4, nI 6), (11, 3, nI 6), (11, 2, nI 6), (11, 1, nI 6), (11, 0, nI 6), (6, 1, nI 0), (3, 4, nI 0), (3, 3, nI 0), (3, 1, nI 0), (2, 18, nI 6), (2, 16, nI 1), (1, 0, nI 0)], rdJ []) none (1171, [(0, 10, [some (some 1), some (some 3), some (some 6), some none, some none, some none, some none, some none, some none, some (some 10)]), (0, 0, [none, some (some 2)]), (1, 84, []), (0, 4, [some (some 4), none, some (some 5), none, none]), (1, 161, []), (1, 160, []), (0, 3, [some (some 7), none, some (some 8), some (some 9)]), (1, 161, []), (1, 6, []), (1, 40, []), (0, 8, [some (some 11), some (some 12), some (some 13), some (some 14)]), (1, 6, []), (1, 6, []), (1, 6, []), (2, 360, []), (0, 9, [some (some 16), none, none, none, none, none, none, some (some 1), some (some 6), some (some 10), some (some 18), some (some 23)]), (0, 0, [none, some (some 17)]), (1, 84, []), (0, 7, [none, some (some 19), some (some 20), some (some 21), some (some 22), none, none]), (1, 8, []), (1, 8, []), (1, 8, []), (1, 8, []), (1, 19, [])], rdI [(18, 6, nI 0), (18, 5, nI 0), (18, 0, nI 0), (15, 6, nI 0), (15, 5, nI 0), (15, 4, nI 0), (15, 3, nI 0), (15, 2, nI 0), (15, 1, nI 8), (17, 18, nI 6), (17, 16, nI 1), (16, 0, nI 0), (11, 5, nI 6), (11, 4, nI 6), (11, 3, nI 6), (11, 2, nI 6), (11, 1, nI 6), (11, 0, nI 6), (6, 1, nI 0), (3, 4, nI 0), (3, 3, nI 0), (3, 1, nI 0), (2, 18, nI 6), (2, 16, nI 1), (1, 0, nI 0)], rdJ []) := by
  refine xA_en (n := 0) (T := TX9_init) rfl rfl (by decide) (by decide) ?_
  refine x_st rfl ?_
  refine x_st rfl ?_
  refine x_st rfl ?_
  refine xA_new rfl rfl ?_
  refine x_st rfl ?_
  refine x_cv rfl ic_4 ?_
  refine x_st rfl ?_
  refine x_st rfl ?_
  refine x_st rfl ?_
  refine xA_pi rfl rfl rfl ?_
  refine x_st rfl ?_
  refine x_st rfl ?_
  refine xA_pi rfl rfl rfl ?_
  refine x_st rfl ?_
  refine x_st rfl ?_
  refine xA_pi rfl rfl rfl ?_
  refine x_st rfl ?_
  refine x_st rfl ?_
  refine xA_pi rfl rfl rfl ?_
  refine x_st rfl ?_
  refine x_st rfl ?_
  refine xA_pi rfl rfl rfl ?_
  refine x_st rfl ?_
  refine x_st rfl ?_
  refine xA_pi rfl rfl rfl ?_
  refine x_st rfl ?_
  refine xA_new rfl rfl ?_
  refine x_st rfl ?_
  refine x_cv rfl ic_5 ?_
  refine x_st rfl ?_
  refine x_st rfl ?_
  refine x_st rfl ?_
  refine xA_new rfl rfl ?_
  refine x_st rfl ?_
  refine x_st rfl ?_
  refine x_st rfl ?_
  refine x_st rfl ?_
  refine x_st rfl ?_
  refine x_st rfl ?_
  refine x_st rfl ?_
  refine x_st rfl ?_
  refine x_st rfl ?_
  refine x_st rfl ?_
  exact x_ret rfl ⟨rfl, rfl⟩
set_option maxRecDepth 100000 in
theorem ic_7 {D : Nat} : mrn (D + 1) 83 [.ref 24, .ref 1] (1175, [(0, 10, [some (some 1), some (some 3), some (some 6), some (some 15), some none, some none, some none, some none, some none, some (some 10)]), (0, 0, [none, some (some 2)]), (1, 84, []), (0, 4, [some (some 4), none, some (some 5), none, none]), (1, 161, []), (1, 160, []), (0, 3, [some (some 7), none, some (some 8), some (some 9)]), (1, 161, []), (1, 6, []), (1, 40, []), (0, 8, [some (some 11), some (some 12), some (some 13), some (some 14)]), (1, 6, []), (1, 6, []), (1, 6, []), (2, 360, []), (0, 9, [some (some 16), none, none, none, none, none, none, some (some 1), some (some 6), some (some 10), some (some 18), some (some 23)]), (0, 0, [none, some (some 17)]), (1, 84, []), (0, 7, [none, some (some 19), some (some 20), some (some 21), some (some 22), none, none]), (1, 8, []), (1, 8, []), (1, 8, []), (1, 8, []), (1, 19, []), (0, 6, [some none, some none, some none, some none])], rdI [(18, 6, nI 0), (18, 5, nI 0), (18, 0, nI 0), (15, 6, nI 0), (15, 5, nI 0), (15, 4, nI 0), (15, 3, nI 0), (15, 2, nI 0), (15, 1, nI 8), (17, 18, nI 6), (17, 16, nI 1), (16, 0, nI 0), (11, 5, nI 6), (11, 4, nI 6), (11, 3, nI 6), (11, 2, nI 6), (11, 1, nI 6), (11, 0, nI 6), (6, 1, nI 0), (3, 4, nI 0), (3, 3, nI 0), (3, 1, nI 0), (2, 18, nI 6), (2, 16, nI 1), (1, 0, nI 0)], rdJ []) none (3559, [(0, 10, [some (some 1), some (some 3), some (some 6), some (some 15), some none, some none, some none, some none, some none, some (some 10)]), (0, 0, [none, some (some 2)]), (1, 84, []), (0, 4, [some (some 4), none, some (some 5), none, none]), (1, 161, []), (1, 160, []), (0, 3, [some (some 7), none, some (some 8), some (some 9)]), (1, 161, []), (1, 6, []), (1, 40, []), (0, 8, [some (some 11), some (some 12), some (some 13), some (some 14)]), (1, 6, []), (1, 6, []), (1, 6, []), (2, 360, []), (0, 9, [some (some 16), none, none, none, none, none, none, some (some 1), some (some 6), some (some 10), some (some 18), some (some 23)]), (0, 0, [none, some (some 17)]), (1, 84, []), (0, 7, [none, some (some 19), some (some 20), some (some 21), some (some 22), none, none]), (1, 8, []), (1, 8, []), (1, 8, []), (1, 8, []), (1, 19, []), (0, 6, [some (some 1), some (some 25), some (some 26), some (some 27)]), (1, 72, []), (1, 2304, []), (1, 8, [])], rdI [(18, 6, nI 0), (18, 5, nI 0), (18, 0, nI 0), (15, 6, nI 0), (15, 5, nI 0), (15, 4, nI 0), (15, 3, nI 0), (15, 2, nI 0), (15, 1, nI 8), (17, 18, nI 6), (17, 16, nI 1), (16, 0, nI 0), (11, 5, nI 6), (11, 4, nI 6), (11, 3, nI 6), (11, 2, nI 6), (11, 1, nI 6), (11, 0, nI 6), (6, 1, nI 0), (3, 4, nI 0), (3, 3, nI 0), (3, 1, nI 0), (2, 18, nI 6), (2, 16, nI 1), (1, 0, nI 0)], rdJ []) := by
  refine xA_en (n := 0) (T := TX6_init) rfl rfl (by decide) (by decide) ?_
  refine x_st rfl ?_
  refine x_st rfl ?_
  refine x_st rfl ?_
  refine x_st rfl ?_
  refine xA_new rfl rfl ?_
  refine x_st rfl ?_
  refine x_st rfl ?_
  refine x_st rfl ?_
  refine xA_new rfl rfl ?_
  refine x_st rfl ?_
  refine x_st rfl ?_
  refine x_st rfl ?_
  refine xA_new rfl rfl ?_
  refine x_st rfl ?_
  refine x_st rfl ?_
  refine x_st rfl ?_
  refine x_st rfl ?_
  exact x_ret rfl ⟨rfl, rfl⟩
set_option maxRecDepth 100000 in
theorem ic_8 {D : Nat} : mrn (D + 1) 95 [.ref 28] (3566, [(0, 10, [some (some 1), some (some 3), some (some 6), some (some 15), some (some 24), some none, some none, some none, some none, some (some 10)]), (0, 0, [none, some (some 2)]), (1, 84, []), (0, 4, [some (some 4), none, some (some 5), none, none]), (1, 161, []), (1, 160, []), (0, 3, [some (some 7), none, some (some 8), some (some 9)]), (1, 161, []), (1, 6, []), (1, 40, []), (0, 8, [some (some 11), some (some 12), some (some 13), some (some 14)]), (1, 6, []), (1, 6, []), (1, 6, []), (2, 360, []), (0, 9, [some (some 16), none, none, none, none, none, none, some (some 1), some (some 6), some (some 10), some (some 18), some (some 23)]), (0, 0, [none, some (some 17)]), (1, 84, []), (0, 7, [none, some (some 19), some (some 20), some (some 21), some (some 22), none, none]), (1, 8, []), (1, 8, []), (1, 8, []), (1, 8, []), (1, 19, []), (0, 6, [some (some 1), some (some 25), some (some 26), some (some 27)]), (1, 72, []), (1, 2304, []), (1, 8, []), (0, 7, [none, some none, some none, some none, some none, none, none])], rdI [(18, 6, nI 0), (18, 5, nI 0), (18, 0, nI 0), (15, 6, nI 0), (15, 5, nI 0), (15, 4, nI 0), (15, 3, nI 0), (15, 2, nI 0), (15, 1, nI 8), (17, 18, nI 6), (17, 16, nI 1), (16, 0, nI 0), (11, 5, nI 6), (11, 4, nI 6), (11, 3, nI 6), (11, 2, nI 6), (11, 1, nI 6), (11, 0, nI 6), (6, 1, nI 0), (3, 4, nI 0), (3, 3, nI 0), (3, 1, nI 0), (2, 18, nI 6), (2, 16, nI 1), (1, 0, nI 0)], rdJ []) none (3598, [(0, 10, [some (some 1), some (some 3), some (some 6), some (some 15), some (some 24), some none, some none, some none, some none, some (some 10)]), (0, 0, [none, some (some 2)]), (1, 84, []), (0, 4, [some (some 4), none, some (some 5), none, none]), (1, 161, []), (1, 160, []), (0, 3, [some (some 7), none, some (some 8), some (some 9)]), (1, 161, []), (1, 6, []), (1, 40, []), (0, 8, [some (some 11), some (some 12), some (some 13), some (some 14)]), (1, 6, []), (1, 6, []), (1, 6, []), (2, 360, []), (0, 9, [some (some 16), none, none, none, none, none, none, some (some 1), some (some 6), some (some 10), some (some 18), some (some 23)]), (0, 0, [none, some (some 17)]), (1, 84, []), (0, 7, [none, some (some 19), some (some 20), some (some 21), some (some 22), none, none]), (1, 8, []), (1, 8, []), (1, 8, []), (1, 8, []), (1, 19, []), (0, 6, [some (some 1), some (some 25), some (some 26), some (some 27)]), (1, 72, []), (1, 2304, []), (1, 8, []), (0, 7, [none, some (some 29), some (some 30), some (some 31), some (some 32), none, none]), (1, 8, []), (1, 8, []), (1, 8, []), (1, 8, [])], rdI [(28, 6, nI 0), (28, 5, nI 0), (28, 0, nI 0), (18, 6, nI 0), (18, 5, nI 0), (18, 0, nI 0), (15, 6, nI 0), (15, 5, nI 0), (15, 4, nI 0), (15, 3, nI 0), (15, 2, nI 0), (15, 1, nI 8), (17, 18, nI 6), (17, 16, nI 1), (16, 0, nI 0), (11, 5, nI 6), (11, 4, nI 6), (11, 3, nI 6), (11, 2, nI 6), (11, 1, nI 6), (11, 0, nI 6), (6, 1, nI 0), (3, 4, nI 0), (3, 3, nI 0), (3, 1, nI 0), (2, 18, nI 6), (2, 16, nI 1), (1, 0, nI 0)], rdJ []) := by
  refine xA_en (n := 0) (T := TX7_init) rfl rfl (by decide) (by decide) ?_
  refine x_st rfl ?_
  refine x_st rfl ?_
  refine x_st rfl ?_
  refine x_st rfl ?_
  refine xA_pi rfl rfl rfl ?_
  refine x_st rfl ?_
  refine x_st rfl ?_
  refine xA_new rfl rfl ?_
  refine x_st rfl ?_
  refine x_st rfl ?_
  refine x_st rfl ?_
  refine xA_new rfl rfl ?_
  refine x_st rfl ?_
  refine x_st rfl ?_
  refine x_st rfl ?_
  refine xA_new rfl rfl ?_
  refine x_st rfl ?_
  refine x_st rfl ?_
  refine x_st rfl ?_
  refine xA_new rfl rfl ?_
  refine x_st rfl ?_
  refine x_st rfl ?_
  refine x_st rfl ?_
  refine xA_pi rfl rfl rfl ?_
  refine x_st rfl ?_
  refine x_st rfl ?_
  refine xA_pi rfl rfl rfl ?_
  exact x_ret rfl ⟨rfl, rfl⟩
set_option maxRecDepth 100000 in
theorem ic_9 {D : Nat} : mrn (D + 1) 0 [.ref 36] (3684, [(0, 10, [some (some 1), some (some 3), some (some 6), some (some 15), some (some 24), some (some 28), some none, some none, some none, some (some 10)]), (0, 0, [none, some (some 2)]), (1, 84, []), (0, 4, [some (some 4), none, some (some 5), none, none]), (1, 161, []), (1, 160, []), (0, 3, [some (some 7), none, some (some 8), some (some 9)]), (1, 161, []), (1, 6, []), (1, 40, []), (0, 8, [some (some 11), some (some 12), some (some 13), some (some 14)]), (1, 6, []), (1, 6, []), (1, 6, []), (2, 360, []), (0, 9, [some (some 16), none, none, none, none, none, none, some (some 1), some (some 6), some (some 10), some (some 18), some (some 23)]), (0, 0, [none, some (some 17)]), (1, 84, []), (0, 7, [none, some (some 19), some (some 20), some (some 21), some (some 22), none, none]), (1, 8, []), (1, 8, []), (1, 8, []), (1, 8, []), (1, 19, []), (0, 6, [some (some 1), some (some 25), some (some 26), some (some 27)]), (1, 72, []), (1, 2304, []), (1, 8, []), (0, 7, [none, some (some 29), some (some 30), some (some 31), some (some 32), none, none]), (1, 8, []), (1, 8, []), (1, 8, []), (1, 8, []), (0, 1, [some (some 34), some (some 35), none, some none, some none, none]), (1, 6, []), (1, 72, []), (0, 0, [none, some none])], rdI [(33, 2, nI 0), (28, 6, nI 0), (28, 5, nI 0), (28, 0, nI 0), (18, 6, nI 0), (18, 5, nI 0), (18, 0, nI 0), (15, 6, nI 0), (15, 5, nI 0), (15, 4, nI 0), (15, 3, nI 0), (15, 2, nI 0), (15, 1, nI 8), (17, 18, nI 6), (17, 16, nI 1), (16, 0, nI 0), (11, 5, nI 6), (11, 4, nI 6), (11, 3, nI 6), (11, 2, nI 6), (11, 1, nI 6), (11, 0, nI 6), (6, 1, nI 0), (3, 4, nI 0), (3, 3, nI 0), (3, 1, nI 0), (2, 18, nI 6), (2, 16, nI 1), (1, 0, nI 0)], rdJ []) none (3768, [(0, 10, [some (some 1), some (some 3), some (some 6), some (some 15), some (some 24), some (some 28), some none, some none, some none, some (some 10)]), (0, 0, [none, some (some 2)]), (1, 84, []), (0, 4, [some (some 4), none, some (some 5), none, none]), (1, 161, []), (1, 160, []), (0, 3, [some (some 7), none, some (some 8), some (some 9)]), (1, 161, []), (1, 6, []), (1, 40, []), (0, 8, [some (some 11), some (some 12), some (some 13), some (some 14)]), (1, 6, []), (1, 6, []), (1, 6, []), (2, 360, []), (0, 9, [some (some 16), none, none, none, none, none, none, some (some 1), some (some 6), some (some 10), some (some 18), some (some 23)]), (0, 0, [none, some (some 17)]), (1, 84, []), (0, 7, [none, some (some 19), some (some 20), some (some 21), some (some 22), none, none]), (1, 8, []), (1, 8, []), (1, 8, []), (1, 8, []), (1, 19, []), (0, 6, [some (some 1), some (some 25), some (some 26), some (some 27)]), (1, 72, []), (1, 2304, []), (1, 8, []), (0, 7, [none, some (some 29), some (some 30), some (some 31), some (some 32), none, none]), (1, 8, []), (1, 8, []), (1, 8, []), (1, 8, []), (0, 1, [some (some 34), some (some 35), none, some none, some none, none]), (1, 6, []), (1, 72, []), (0, 0, [none, some (some 37)]), (1, 84, [])], rdI [(37, 18, nI 6), (37, 16, nI 1), (36, 0, nI 0), (33, 2, nI 0), (28, 6, nI 0), (28, 5, nI 0), (28, 0, nI 0), (18, 6, nI 0), (18, 5, nI 0), (18, 0, nI 0), (15, 6, nI 0), (15, 5, nI 0), (15, 4, nI 0), (15, 3, nI 0), (15, 2, nI 0), (15, 1, nI 8), (17, 18, nI 6), (17, 16, nI 1), (16, 0, nI 0), (11, 5, nI 6), (11, 4, nI 6), (11, 3, nI 6), (11, 2, nI 6), (11, 1, nI 6), (11, 0, nI 6), (6, 1, nI 0), (3, 4, nI 0), (3, 3, nI 0), (3, 1, nI 0), (2, 18, nI 6), (2, 16, nI 1), (1, 0, nI 0)], rdJ []) := by
  refine xA_en (n := 0) (T := TX0_init) rfl rfl (by decide) (by decide) ?_
  refine x_st rfl ?_
  refine x_st rfl ?_
  refine x_st rfl ?_
  refine x_st rfl ?_
  refine xA_pi rfl rfl rfl ?_
  refine x_st rfl ?_
  refine x_st rfl ?_
  refine xA_new rfl rfl ?_
  refine x_st rfl ?_
  refine x_st rfl ?_
  refine x_st rfl ?_
  refine x_st rfl ?_
  refine x_st rfl ?_
  refine xA_iast (i := 16) rfl rfl (by decide) (by decide) (by decide) ?_
  refine x_st rfl ?_
  refine x_st rfl ?_
  refine x_st rfl ?_
  refine x_st rfl ?_
  refine xA_iast (i := 18) rfl rfl (by decide) (by decide) (by decide) ?_
  exact x_ret rfl ⟨rfl, rfl⟩
set_option maxRecDepth 100000 in
theorem ic_10 {D : Nat} : mrn (D + 2) 28 [.ref 33] (3604, [(0, 10, [some (some 1), some (some 3), some (some 6), some (some 15), some (some 24), some (some 28), some none, some none, some none, some (some 10)]), (0, 0, [none, some (some 2)]), (1, 84, []), (0, 4, [some (some 4), none, some (some 5), none, none]), (1, 161, []), (1, 160, []), (0, 3, [some (some 7), none, some (some 8), some (some 9)]), (1, 161, []), (1, 6, []), (1, 40, []), (0, 8, [some (some 11), some (some 12), some (some 13), some (some 14)]), (1, 6, []), (1, 6, []), (1, 6, []), (2, 360, []), (0, 9, [some (some 16), none, none, none, none, none, none, some (some 1), some (some 6), some (some 10), some (some 18), some (some 23)]), (0, 0, [none, some (some 17)]), (1, 84, []), (0, 7, [none, some (some 19), some (some 20), some (some 21), some (some 22), none, none]), (1, 8, []), (1, 8, []), (1, 8, []), (1, 8, []), (1, 19, []), (0, 6, [some (some 1), some (some 25), some (some 26), some (some 27)]), (1, 72, []), (1, 2304, []), (1, 8, []), (0, 7, [none, some (some 29), some (some 30), some (some 31), some (some 32), none, none]), (1, 8, []), (1, 8, []), (1, 8, []), (1, 8, []), (0, 1, [some none, some none, none, some none, some none, none])], rdI [(28, 6, nI 0), (28, 5, nI 0), (28, 0, nI 0), (18, 6, nI 0), (18, 5, nI 0), (18, 0, nI 0), (15, 6, nI 0), (15, 5, nI 0), (15, 4, nI 0), (15, 3, nI 0), (15, 2, nI 0), (15, 1, nI 8), (17, 18, nI 6), (17, 16, nI 1), (16, 0, nI 0), (11, 5, nI 6), (11, 4, nI 6), (11, 3, nI 6), (11, 2, nI 6), (11, 1, nI 6), (11, 0, nI 6), (6, 1, nI 0), (3, 4, nI 0), (3, 3, nI 0), (3, 1, nI 0), (2, 18, nI 6), (2, 16, nI 1), (1, 0, nI 0)], rdJ []) none (3774, [(0, 10, [some (some 1), some (some 3), some (some 6), some (some 15), some (some 24), some (some 28), some none, some none, some none, some (some 10)]), (0, 0, [none, some (some 2)]), (1, 84, []), (0, 4, [some (some 4), none, some (some 5), none, none]), (1, 161, []), (1, 160, []), (0, 3, [some (some 7), none, some (some 8), some (some 9)]), (1, 161, []), (1, 6, []), (1, 40, []), (0, 8, [some (some 11), some (some 12), some (some 13), some (some 14)]), (1, 6, []), (1, 6, []), (1, 6, []), (2, 360, []), (0, 9, [some (some 16), none, none, none, none, none, none, some (some 1), some (some 6), some (some 10), some (some 18), some (some 23)]), (0, 0, [none, some (some 17)]), (1, 84, []), (0, 7, [none, some (some 19), some (some 20), some (some 21), some (some 22), none, none]), (1, 8, []), (1, 8, []), (1, 8, []), (1, 8, []), (1, 19, []), (0, 6, [some (some 1), some (some 25), some (some 26), some (some 27)]), (1, 72, []), (1, 2304, []), (1, 8, []), (0, 7, [none, some (some 29), some (some 30), some (some 31), some (some 32), none, none]), (1, 8, []), (1, 8, []), (1, 8, []), (1, 8, []), (0, 1, [some (some 34), some (some 35), none, some (some 36), some (some 38), none]), (1, 6, []), (1, 72, []), (0, 0, [none, some (some 37)]), (1, 84, []), (1, 6, [])], rdI [(33, 5, nI 0), (37, 18, nI 6), (37, 16, nI 1), (36, 0, nI 0), (33, 2, nI 0), (28, 6, nI 0), (28, 5, nI 0), (28, 0, nI 0), (18, 6, nI 0), (18, 5, nI 0), (18, 0, nI 0), (15, 6, nI 0), (15, 5, nI 0), (15, 4, nI 0), (15, 3, nI 0), (15, 2, nI 0), (15, 1, nI 8), (17, 18, nI 6), (17, 16, nI 1), (16, 0, nI 0), (11, 5, nI 6), (11, 4, nI 6), (11, 3, nI 6), (11, 2, nI 6), (11, 1, nI 6), (11, 0, nI 6), (6, 1, nI 0), (3, 4, nI 0), (3, 3, nI 0), (3, 1, nI 0), (2, 18, nI 6), (2, 16, nI 1), (1, 0, nI 0)], rdJ []) := by
  refine xA_en (n := 0) (T := TX1_init) rfl rfl (by decide) (by decide) ?_
  refine x_st rfl ?_
  refine x_st rfl ?_
  refine x_st rfl ?_
  refine x_st rfl ?_
  refine xA_new rfl rfl ?_
  refine x_st rfl ?_
  refine x_st rfl ?_
  refine x_st rfl ?_
  refine xA_new rfl rfl ?_
  refine x_st rfl ?_
  refine x_st rfl ?_
  refine x_st rfl ?_
  refine xA_pi rfl rfl rfl ?_
  refine x_st rfl ?_
  refine xA_new rfl rfl ?_
  refine x_st rfl ?_
  refine x_cv rfl ic_9 ?_
  refine x_st rfl ?_
  refine x_st rfl ?_
  refine x_st rfl ?_
  refine xA_new rfl rfl ?_
  refine x_st rfl ?_
  refine x_st rfl ?_
  refine x_st rfl ?_
  refine xA_pz rfl rfl rfl (by decide) ?_
  exact x_ret rfl ⟨rfl, rfl⟩
set_option maxRecDepth 100000 in
theorem ic_11 {D : Nat} : mrn (D + 1) 38 [.ref 39] (3779, [(0, 10, [some (some 1), some (some 3), some (some 6), some (some 15), some (some 24), some (some 28), some (some 33), some none, some none, some (some 10)]), (0, 0, [none, some (some 2)]), (1, 84, []), (0, 4, [some (some 4), none, some (some 5), none, none]), (1, 161, []), (1, 160, []), (0, 3, [some (some 7), none, some (some 8), some (some 9)]), (1, 161, []), (1, 6, []), (1, 40, []), (0, 8, [some (some 11), some (some 12), some (some 13), some (some 14)]), (1, 6, []), (1, 6, []), (1, 6, []), (2, 360, []), (0, 9, [some (some 16), none, none, none, none, none, none, some (some 1), some (some 6), some (some 10), some (some 18), some (some 23)]), (0, 0, [none, some (some 17)]), (1, 84, []), (0, 7, [none, some (some 19), some (some 20), some (some 21), some (some 22), none, none]), (1, 8, []), (1, 8, []), (1, 8, []), (1, 8, []), (1, 19, []), (0, 6, [some (some 1), some (some 25), some (some 26), some (some 27)]), (1, 72, []), (1, 2304, []), (1, 8, []), (0, 7, [none, some (some 29), some (some 30), some (some 31), some (some 32), none, none]), (1, 8, []), (1, 8, []), (1, 8, []), (1, 8, []), (0, 1, [some (some 34), some (some 35), none, some (some 36), some (some 38), none]), (1, 6, []), (1, 72, []), (0, 0, [none, some (some 37)]), (1, 84, []), (1, 6, []), (0, 2, [some none, some none, some none, none, none])], rdI [(33, 5, nI 0), (37, 18, nI 6), (37, 16, nI 1), (36, 0, nI 0), (33, 2, nI 0), (28, 6, nI 0), (28, 5, nI 0), (28, 0, nI 0), (18, 6, nI 0), (18, 5, nI 0), (18, 0, nI 0), (15, 6, nI 0), (15, 5, nI 0), (15, 4, nI 0), (15, 3, nI 0), (15, 2, nI 0), (15, 1, nI 8), (17, 18, nI 6), (17, 16, nI 1), (16, 0, nI 0), (11, 5, nI 6), (11, 4, nI 6), (11, 3, nI 6), (11, 2, nI 6), (11, 1, nI 6), (11, 0, nI 6), (6, 1, nI 0), (3, 4, nI 0), (3, 3, nI 0), (3, 1, nI 0), (2, 18, nI 6), (2, 16, nI 1), (1, 0, nI 0)], rdJ []) none (3899, [(0, 10, [some (some 1), some (some 3), some (some 6), some (some 15), some (some 24), some (some 28), some (some 33), some none, some none, some (some 10)]), (0, 0, [none, some (some 2)]), (1, 84, []), (0, 4, [some (some 4), none, some (some 5), none, none]), (1, 161, []), (1, 160, []), (0, 3, [some (some 7), none, some (some 8), some (some 9)]), (1, 161, []), (1, 6, []), (1, 40, []), (0, 8, [some (some 11), some (some 12), some (some 13), some (some 14)]), (1, 6, []), (1, 6, []), (1, 6, []), (2, 360, []), (0, 9, [some (some 16), none, none, none, none, none, none, some (some 1), some (some 6), some (some 10), some (some 18), some (some 23)]), (0, 0, [none, some (some 17)]), (1, 84, []), (0, 7, [none, some (some 19), some (some 20), some (some 21), some (some 22), none, none]), (1, 8, []), (1, 8, []), (1, 8, []), (1, 8, []), (1, 19, []), (0, 6, [some (some 1), some (some 25), some (some 26), some (some 27)]), (1, 72, []), (1, 2304, []), (1, 8, []), (0, 7, [none, some (some 29), some (some 30), some (some 31), some (some 32), none, none]), (1, 8, []), (1, 8, []), (1, 8, []), (1, 8, []), (0, 1, [some (some 34), some (some 35), none, some (some 36), some (some 38), none]), (1, 6, []), (1, 72, []), (0, 0, [none, some (some 37)]), (1, 84, []), (1, 6, []), (0, 2, [some (some 40), some (some 41), some (some 42), none, none]), (1, 40, []), (1, 40, []), (1, 40, [])], rdI [(39, 4, nI 0), (39, 3, nI 0), (33, 5, nI 0), (37, 18, nI 6), (37, 16, nI 1), (36, 0, nI 0), (33, 2, nI 0), (28, 6, nI 0), (28, 5, nI 0), (28, 0, nI 0), (18, 6, nI 0), (18, 5, nI 0), (18, 0, nI 0), (15, 6, nI 0), (15, 5, nI 0), (15, 4, nI 0), (15, 3, nI 0), (15, 2, nI 0), (15, 1, nI 8), (17, 18, nI 6), (17, 16, nI 1), (16, 0, nI 0), (11, 5, nI 6), (11, 4, nI 6), (11, 3, nI 6), (11, 2, nI 6), (11, 1, nI 6), (11, 0, nI 6), (6, 1, nI 0), (3, 4, nI 0), (3, 3, nI 0), (3, 1, nI 0), (2, 18, nI 6), (2, 16, nI 1), (1, 0, nI 0)], rdJ []) := by
  refine xA_en (n := 0) (T := TX2_init) rfl rfl (by decide) (by decide) ?_
  refine x_st rfl ?_
  refine x_st rfl ?_
  refine x_st rfl ?_
  refine x_st rfl ?_
  refine xA_new rfl rfl ?_
  refine x_st rfl ?_
  refine x_st rfl ?_
  refine x_st rfl ?_
  refine xA_new rfl rfl ?_
  refine x_st rfl ?_
  refine x_st rfl ?_
  refine x_st rfl ?_
  refine xA_new rfl rfl ?_
  refine x_st rfl ?_
  refine x_st rfl ?_
  refine x_st rfl ?_
  refine xA_pi rfl rfl rfl ?_
  refine x_st rfl ?_
  refine x_st rfl ?_
  refine xA_pi rfl rfl rfl ?_
  exact x_ret rfl ⟨rfl, rfl⟩
set_option maxRecDepth 100000 in
theorem ic_12 {D : Nat} : mrn (D + 1) 68 [.ref 43] (3903, [(0, 10, [some (some 1), some (some 3), some (some 6), some (some 15), some (some 24), some (some 28), some (some 33), some (some 39), some none, some (some 10)]), (0, 0, [none, some (some 2)]), (1, 84, []), (0, 4, [some (some 4), none, some (some 5), none, none]), (1, 161, []), (1, 160, []), (0, 3, [some (some 7), none, some (some 8), some (some 9)]), (1, 161, []), (1, 6, []), (1, 40, []), (0, 8, [some (some 11), some (some 12), some (some 13), some (some 14)]), (1, 6, []), (1, 6, []), (1, 6, []), (2, 360, []), (0, 9, [some (some 16), none, none, none, none, none, none, some (some 1), some (some 6), some (some 10), some (some 18), some (some 23)]), (0, 0, [none, some (some 17)]), (1, 84, []), (0, 7, [none, some (some 19), some (some 20), some (some 21), some (some 22), none, none]), (1, 8, []), (1, 8, []), (1, 8, []), (1, 8, []), (1, 19, []), (0, 6, [some (some 1), some (some 25), some (some 26), some (some 27)]), (1, 72, []), (1, 2304, []), (1, 8, []), (0, 7, [none, some (some 29), some (some 30), some (some 31), some (some 32), none, none]), (1, 8, []), (1, 8, []), (1, 8, []), (1, 8, []), (0, 1, [some (some 34), some (some 35), none, some (some 36), some (some 38), none]), (1, 6, []), (1, 72, []), (0, 0, [none, some (some 37)]), (1, 84, []), (1, 6, []), (0, 2, [some (some 40), some (some 41), some (some 42), none, none]), (1, 40, []), (1, 40, []), (1, 40, []), (0, 5, [some none, none, some none, none])], rdI [(39, 4, nI 0), (39, 3, nI 0), (33, 5, nI 0), (37, 18, nI 6), (37, 16, nI 1), (36, 0, nI 0), (33, 2, nI 0), (28, 6, nI 0), (28, 5, nI 0), (28, 0, nI 0), (18, 6, nI 0), (18, 5, nI 0), (18, 0, nI 0), (15, 6, nI 0), (15, 5, nI 0), (15, 4, nI 0), (15, 3, nI 0), (15, 2, nI 0), (15, 1, nI 8), (17, 18, nI 6), (17, 16, nI 1), (16, 0, nI 0), (11, 5, nI 6), (11, 4, nI 6), (11, 3, nI 6), (11, 2, nI 6), (11, 1, nI 6), (11, 0, nI 6), (6, 1, nI 0), (3, 4, nI 0), (3, 3, nI 0), (3, 1, nI 0), (2, 18, nI 6), (2, 16, nI 1), (1, 0, nI 0)], rdJ []) none (3977, [(0, 10, [some (some 1), some (some 3), some (some 6), some (some 15), some (some 24), some (some 28), some (some 33), some (some 39), some none, some (some 10)]), (0, 0, [none, some (some 2)]), (1, 84, []), (0, 4, [some (some 4), none, some (some 5), none, none]), (1, 161, []), (1, 160, []), (0, 3, [some (some 7), none, some (some 8), some (some 9)]), (1, 161, []), (1, 6, []), (1, 40, []), (0, 8, [some (some 11), some (some 12), some (some 13), some (some 14)]), (1, 6, []), (1, 6, []), (1, 6, []), (2, 360, []), (0, 9, [some (some 16), none, none, none, none, none, none, some (some 1), some (some 6), some (some 10), some (some 18), some (some 23)]), (0, 0, [none, some (some 17)]), (1, 84, []), (0, 7, [none, some (some 19), some (some 20), some (some 21), some (some 22), none, none]), (1, 8, []), (1, 8, []), (1, 8, []), (1, 8, []), (1, 19, []), (0, 6, [some (some 1), some (some 25), some (some 26), some (some 27)]), (1, 72, []), (1, 2304, []), (1, 8, []), (0, 7, [none, some (some 29), some (some 30), some (some 31), some (some 32), none, none]), (1, 8, []), (1, 8, []), (1, 8, []), (1, 8, []), (0, 1, [some (some 34), some (some 35), none, some (some 36), some (some 38), none]), (1, 6, []), (1, 72, []), (0, 0, [none, some (some 37)]), (1, 84, []), (1, 6, []), (0, 2, [some (some 40), some (some 41), some (some 42), none, none]), (1, 40, []), (1, 40, []), (1, 40, []), (0, 5, [some (some 44), none, some (some 45), none]), (1, 50, []), (1, 24, [])], rdI [(43, 3, nI 0), (43, 1, nI 0), (39, 4, nI 0), (39, 3, nI 0), (33, 5, nI 0), (37, 18, nI 6), (37, 16, nI 1), (36, 0, nI 0), (33, 2, nI 0), (28, 6, nI 0), (28, 5, nI 0), (28, 0, nI 0), (18, 6, nI 0), (18, 5, nI 0), (18, 0, nI 0), (15, 6, nI 0), (15, 5, nI 0), (15, 4, nI 0), (15, 3, nI 0), (15, 2, nI 0), (15, 1, nI 8), (17, 18, nI 6), (17, 16, nI 1), (16, 0, nI 0), (11, 5, nI 6), (11, 4, nI 6), (11, 3, nI 6), (11, 2, nI 6), (11, 1, nI 6), (11, 0, nI 6), (6, 1, nI 0), (3, 4, nI 0), (3, 3, nI 0), (3, 1, nI 0), (2, 18, nI 6), (2, 16, nI 1), (1, 0, nI 0)], rdJ []) := by
  refine xA_en (n := 0) (T := TX5_init) rfl rfl (by decide) (by decide) ?_
  refine x_st rfl ?_
  refine x_st rfl ?_
  refine x_st rfl ?_
  refine x_st rfl ?_
  refine xA_new rfl rfl ?_
  refine x_st rfl ?_
  refine x_st rfl ?_
  refine x_st rfl ?_
  refine xA_pi rfl rfl rfl ?_
  refine x_st rfl ?_
  refine x_st rfl ?_
  refine xA_new rfl rfl ?_
  refine x_st rfl ?_
  refine x_st rfl ?_
  refine x_st rfl ?_
  refine xA_pi rfl rfl rfl ?_
  exact x_ret rfl ⟨rfl, rfl⟩
set_option maxRecDepth 100000 in
theorem ic_13 {D : Nat} : mrn (D + 3) 134 [.ref 0] (10, [(0, 10, [some none, some none, some none, some none, some none, some none, some none, some none, some none, some none])], rdI [], rdJ []) none (3977, [(0, 10, [some (some 1), some (some 3), some (some 6), some (some 15), some (some 24), some (some 28), some (some 33), some (some 39), some (some 43), some (some 10)]), (0, 0, [none, some (some 2)]), (1, 84, []), (0, 4, [some (some 4), none, some (some 5), none, none]), (1, 161, []), (1, 160, []), (0, 3, [some (some 7), none, some (some 8), some (some 9)]), (1, 161, []), (1, 6, []), (1, 40, []), (0, 8, [some (some 11), some (some 12), some (some 13), some (some 14)]), (1, 6, []), (1, 6, []), (1, 6, []), (2, 360, []), (0, 9, [some (some 16), none, none, none, none, none, none, some (some 1), some (some 6), some (some 10), some (some 18), some (some 23)]), (0, 0, [none, some (some 17)]), (1, 84, []), (0, 7, [none, some (some 19), some (some 20), some (some 21), some (some 22), none, none]), (1, 8, []), (1, 8, []), (1, 8, []), (1, 8, []), (1, 19, []), (0, 6, [some (some 1), some (some 25), some (some 26), some (some 27)]), (1, 72, []), (1, 2304, []), (1, 8, []), (0, 7, [none, some (some 29), some (some 30), some (some 31), some (some 32), none, none]), (1, 8, []), (1, 8, []), (1, 8, []), (1, 8, []), (0, 1, [some (some 34), some (some 35), none, some (some 36), some (some 38), none]), (1, 6, []), (1, 72, []), (0, 0, [none, some (some 37)]), (1, 84, []), (1, 6, []), (0, 2, [some (some 40), some (some 41), some (some 42), none, none]), (1, 40, []), (1, 40, []), (1, 40, []), (0, 5, [some (some 44), none, some (some 45), none]), (1, 50, []), (1, 24, [])], rdI [(43, 3, nI 0), (43, 1, nI 0), (39, 4, nI 0), (39, 3, nI 0), (33, 5, nI 0), (37, 18, nI 6), (37, 16, nI 1), (36, 0, nI 0), (33, 2, nI 0), (28, 6, nI 0), (28, 5, nI 0), (28, 0, nI 0), (18, 6, nI 0), (18, 5, nI 0), (18, 0, nI 0), (15, 6, nI 0), (15, 5, nI 0), (15, 4, nI 0), (15, 3, nI 0), (15, 2, nI 0), (15, 1, nI 8), (17, 18, nI 6), (17, 16, nI 1), (16, 0, nI 0), (11, 5, nI 6), (11, 4, nI 6), (11, 3, nI 6), (11, 2, nI 6), (11, 1, nI 6), (11, 0, nI 6), (6, 1, nI 0), (3, 4, nI 0), (3, 3, nI 0), (3, 1, nI 0), (2, 18, nI 6), (2, 16, nI 1), (1, 0, nI 0)], rdJ []) := by
  refine xA_en (n := 0) (T := TX10_init) rfl rfl (by decide) (by decide) ?_
  refine x_st rfl ?_
  refine x_st rfl ?_
  refine x_st rfl ?_
  refine xA_new rfl rfl ?_
  refine x_st rfl ?_
  refine x_cv rfl ic_0 ?_
  refine x_st rfl ?_
  refine x_st rfl ?_
  refine xA_new rfl rfl ?_
  refine x_st rfl ?_
  refine x_cv rfl ic_1 ?_
  refine x_st rfl ?_
  refine x_st rfl ?_
  refine xA_new rfl rfl ?_
  refine x_st rfl ?_
  refine x_cv rfl ic_2 ?_
  refine x_st rfl ?_
  refine x_st rfl ?_
  refine xA_new rfl rfl ?_
  refine x_st rfl ?_
  refine x_cv rfl ic_3 ?_
  refine x_st rfl ?_
  refine x_st rfl ?_
  refine xA_new rfl rfl ?_
  refine x_st rfl ?_
  refine x_st rfl ?_
  refine x_st rfl ?_
  refine x_st rfl ?_
  refine x_st rfl ?_
  refine x_st rfl ?_
  refine x_st rfl ?_
  refine x_cv rfl ic_6 ?_
  refine x_st rfl ?_
  refine x_st rfl ?_
  refine xA_new rfl rfl ?_
  refine x_st rfl ?_
  refine x_st rfl ?_
  refine x_st rfl ?_
  refine x_cv rfl ic_7 ?_
  refine x_st rfl ?_
  refine x_st rfl ?_
  refine xA_new rfl rfl ?_
  refine x_st rfl ?_
  refine x_cv rfl ic_8 ?_
  refine x_st rfl ?_
  refine x_st rfl ?_
  refine xA_new rfl rfl ?_
  refine x_st rfl ?_
  refine x_cv rfl ic_10 ?_
  refine x_st rfl ?_
  refine x_st rfl ?_
  refine xA_new rfl rfl ?_
  refine x_st rfl ?_
  refine x_cv rfl ic_11 ?_
  refine x_st rfl ?_
  refine x_st rfl ?_
  refine xA_new rfl rfl ?_
  refine x_st rfl ?_
  refine x_cv rfl ic_12 ?_
  refine x_st rfl ?_
  exact x_ret rfl ⟨rfl, rfl⟩
