/-! all tables of code are sound -/
theorem snd_0 (l : Launch) (G : mG) : ∀ j, j < 32 → mSn l G (mM (0 + j)).1.cls (mM (0 + j)).2.1 (mM (0 + j)).2.2.1 (mM (0 + j)).2.2.2 (mM (0 + j)).1.name (mTb (0 + j)) := by
  intro j hj
  match j, hj with
  | 0, _ => exact SX0_init l G
  | 1, _ => exact SX0_mayCome l G
  | 2, _ => exact SX0_isFeeling l G
  | 3, _ => exact SX0_mostOf l G
  | 4, _ => exact SX0_placeOfFeeling l G
  | 5, _ => exact SX0_admit l G
  | 6, _ => exact SX0_has l G
  | 7, _ => exact SX0_hasPair l G
  | 8, _ => exact SX0_placeOf l G
  | 9, _ => exact SX0_numberAt l G
  | 10, _ => exact SX0_setNumber l G
  | 11, _ => exact SX0_hungerOf l G
  | 12, _ => exact SX0_hungerMore l G
  | 13, _ => exact SX0_hungerLess l G
  | 14, _ => exact SX0_felt l G
  | 15, _ => exact SX0_setFelt l G
  | 16, _ => exact SX0_friendOf l G
  | 17, _ => exact SX0_loversOf l G
  | 18, _ => exact SX0_hatersOf l G
  | 19, _ => exact SX0_loveless l G
  | 20, _ => exact SX0_feelingsBelowNone l G
  | 21, _ => exact SX0_smallestRing l G
  | 22, _ => exact SX0_ringThrough l G
  | 23, _ => exact SX0_hatedBy l G
  | 24, _ => exact SX0_endDay l G
  | 25, _ => exact SX0_fade l G
  | 26, _ => exact SX0_takeOver l G
  | 27, _ => exact SX0_layBack l G
  | 28, _ => exact SX1_init l G
  | 29, _ => exact SX1_add l G
  | 30, _ => exact SX1_told l G
  | 31, _ => exact SX1_tell l G
  | q + 32, h => exact absurd h (by omega)
theorem snd_1 (l : Launch) (G : mG) : ∀ j, j < 32 → mSn l G (mM (32 + j)).1.cls (mM (32 + j)).2.1 (mM (32 + j)).2.2.1 (mM (32 + j)).2.2.2 (mM (32 + j)).1.name (mTb (32 + j)) := by
  intro j hj
  match j, hj with
  | 0, _ => exact SX1_write l G
  | 1, _ => exact SX1_taleLength l G
  | 2, _ => exact SX1_taleByte l G
  | 3, _ => exact SX1_keepImage l G
  | 4, _ => exact SX1_hasImage l G
  | 5, _ => exact SX1_layBack l G
  | 6, _ => exact SX2_init l G
  | 7, _ => exact SX2_add l G
  | 8, _ => exact SX2_forgetFirst l G
  | 9, _ => exact SX2_undoable l G
  | 10, _ => exact SX2_redoable l G
  | 11, _ => exact SX2_stepBack l G
  | 12, _ => exact SX2_stepOn l G
  | 13, _ => exact SX3_init l G
  | 14, _ => exact SX3_become l G
  | 15, _ => exact SX3_setWords l G
  | 16, _ => exact SX3_weighedOut l G
  | 17, _ => exact SX3_held l G
  | 18, _ => exact SX3_joined l G
  | 19, _ => exact SX4_init l G
  | 20, _ => exact SX4_take l G
  | 21, _ => exact SX4_length l G
  | 22, _ => exact SX4_clear l G
  | 23, _ => exact SX4_read l G
  | 24, _ => exact SX4_readLine l G
  | 25, _ => exact SX4_readLevel l G
  | 26, _ => exact SX4_levelOf l G
  | 27, _ => exact SX4_readOperand l G
  | 28, _ => exact SX4_readOpened l G
  | 29, _ => exact SX4_readNumber l G
  | 30, _ => exact SX4_readWord l G
  | 31, _ => exact SX4_isWord l G
  | q + 32, h => exact absurd h (by omega)
theorem snd_2 (l : Launch) (G : mG) : ∀ j, j < 32 → mSn l G (mM (64 + j)).1.cls (mM (64 + j)).2.1 (mM (64 + j)).2.2.1 (mM (64 + j)).2.2.2 (mM (64 + j)).1.name (mTb (64 + j)) := by
  intro j hj
  match j, hj with
  | 0, _ => exact SX4_wordOf l G
  | 1, _ => exact SX4_isDigit l G
  | 2, _ => exact SX4_next l G
  | 3, _ => exact SX4_write l G
  | 4, _ => exact SX5_init l G
  | 5, _ => exact SX5_isKind l G
  | 6, _ => exact SX5_isAct l G
  | 7, _ => exact SX5_isUnder l G
  | 8, _ => exact SX5_add l G
  | 9, _ => exact SX5_has l G
  | 10, _ => exact SX5_bodies l G
  | 11, _ => exact SX5_kindOf l G
  | 12, _ => exact SX5_forgetTrace l G
  | 13, _ => exact SX5_ran l G
  | 14, _ => exact SX5_traced l G
  | 15, _ => exact SX5_perform l G
  | 16, _ => exact SX5_run l G
  | 17, _ => exact SX5_runBody l G
  | 18, _ => exact SX5_note l G
  | 19, _ => exact SX6_init l G
  | 20, _ => exact SX6_asManyAsCanBe l G
  | 21, _ => exact SX6_atLeastHarm l G
  | 22, _ => exact SX6_isThereAWay l G
  | 23, _ => exact SX6_price l G
  | 24, _ => exact SX6_weigherOf l G
  | 25, _ => exact SX6_mayWeigh l G
  | 26, _ => exact SX6_setPrice l G
  | 27, _ => exact SX6_settle l G
  | 28, _ => exact SX6_cheapest l G
  | 29, _ => exact SX6_priceBy l G
  | 30, _ => exact SX6_setLeast l G
  | 31, _ => exact SX7_init l G
  | q + 32, h => exact absurd h (by omega)
theorem snd_3 (l : Launch) (G : mG) : ∀ j, j < 32 → mSn l G (mM (96 + j)).1.cls (mM (96 + j)).2.1 (mM (96 + j)).2.2.1 (mM (96 + j)).2.2.2 (mM (96 + j)).1.name (mTb (96 + j)) := by
  intro j hj
  match j, hj with
  | 0, _ => exact SX7_goBy l G
  | 1, _ => exact SX7_hungriest l G
  | 2, _ => exact SX7_serve l G
  | 3, _ => exact SX7_weigherOf l G
  | 4, _ => exact SX8_init l G
  | 5, _ => exact SX8_isSort l G
  | 6, _ => exact SX8_has l G
  | 7, _ => exact SX8_held l G
  | 8, _ => exact SX8_isBare l G
  | 9, _ => exact SX8_holdsNeedle l G
  | 10, _ => exact SX8_holdsBytes l G
  | 11, _ => exact SX8_areAlikeRows l G
  | 12, _ => exact SX8_needleOn l G
  | 13, _ => exact SX8_sizeOf l G
  | 14, _ => exact SX8_refusalOfBytes l G
  | 15, _ => exact SX8_refusalOfPlace l G
  | 16, _ => exact SX8_hasPlaces l G
  | 17, _ => exact SX8_holdNothing l G
  | 18, _ => exact SX8_holdNeedle l G
  | 19, _ => exact SX8_holdRow l G
  | 20, _ => exact SX8_hold l G
  | 21, _ => exact SX8_at l G
  | 22, _ => exact SX8_setAt l G
  | 23, _ => exact SX8_lowestBits l G
  | 24, _ => exact SX8_copy l G
  | 25, _ => exact SX9_init l G
  | 26, _ => exact SX9_begin l G
  | 27, _ => exact SX9_goOn l G
  | 28, _ => exact SX9_daysFed l G
  | 29, _ => exact SX9_seekWorth l G
  | 30, _ => exact SX9_firstUnlike l G
  | 31, _ => exact SX9_tryNumbers l G
  | q + 32, h => exact absurd h (by omega)
theorem snd_4 (l : Launch) (G : mG) : ∀ j, j < 32 → mSn l G (mM (128 + j)).1.cls (mM (128 + j)).2.1 (mM (128 + j)).2.2.1 (mM (128 + j)).2.2.2 (mM (128 + j)).1.name (mTb (128 + j)) := by
  intro j hj
  match j, hj with
  | 0, _ => exact SX9_playTurns l G
  | 1, _ => exact SX9_playWrong l G
  | 2, _ => exact SX9_playForgive l G
  | 3, _ => exact SX9_hungerAt l G
  | 4, _ => exact SX9_drawBazaars l G
  | 5, _ => exact SX9_drawHate l G
  | 6, _ => exact SX10_init l G
  | 7, _ => exact SX10_person l G
  | 8, _ => exact SX10_people l G
  | 9, _ => exact SX10_mend l G
  | 10, _ => exact SX10_of l G
  | 11, _ => exact SX10_feel l G
  | 12, _ => exact SX10_feeling l G
  | 13, _ => exact SX10_feed l G
  | 14, _ => exact SX10_law l G
  | 15, _ => exact SX10_changeTo l G
  | 16, _ => exact SX10_paired l G
  | 17, _ => exact SX10_harm l G
  | 18, _ => exact SX10_lacks l G
  | 19, _ => exact SX10_later l G
  | 20, _ => exact SX10_feltLater l G
  | 21, _ => exact SX10_lasts l G
  | 22, _ => exact SX10_renewed l G
  | 23, _ => exact SX10_worth l G
  | 24, _ => exact SX10_ring l G
  | 25, _ => exact SX10_isOneOrAll l G
  | 26, _ => exact SX10_judge l G
  | 27, _ => exact SX10_fits l G
  | 28, _ => exact SX10_byTurns l G
  | 29, _ => exact SX10_drawn l G
  | 30, _ => exact SX10_day l G
  | 31, _ => exact SX10_wrong l G
  | q + 32, h => exact absurd h (by omega)
theorem snd_5 (l : Launch) (G : mG) : ∀ j, j < 32 → mSn l G (mM (160 + j)).1.cls (mM (160 + j)).2.1 (mM (160 + j)).2.2.1 (mM (160 + j)).2.2.2 (mM (160 + j)).1.name (mTb (160 + j)) := by
  intro j hj
  match j, hj with
  | 0, _ => exact SX10_lease l G
  | 1, _ => exact SX10_gift l G
  | 2, _ => exact SX10_tale l G
  | 3, _ => exact SX10_led l G
  | 4, _ => exact SX10_image l G
  | 5, _ => exact SX10_back l G
  | 6, _ => exact SX10_undo l G
  | 7, _ => exact SX10_redo l G
  | 8, _ => exact SX10_body l G
  | 9, _ => exact SX10_act l G
  | 10, _ => exact SX10_trace l G
  | 11, _ => exact SX10_keep l G
  | 12, _ => exact SX10_row l G
  | 13, _ => exact SX10_put l G
  | 14, _ => exact SX10_element l G
  | 15, _ => exact SX10_shift l G
  | 16, _ => exact SX10_taken l G
  | 17, _ => exact SX10_count l G
  | 18, _ => exact SX11_within l G
  | 19, _ => exact SX11_init l G
  | 20, _ => exact SX11_becomes l G
  | 21, _ => exact SX11_undo l G
  | 22, _ => exact SX11_redo l G
  | 23, _ => exact SX11_isOne l G
  | 24, _ => exact SX11_felt l G
  | 25, _ => exact SX11_isPair l G
  | 26, _ => exact SX11_adds l G
  | 27, _ => exact SX11_person l G
  | 28, _ => exact SX11_people l G
  | 29, _ => exact SX11_placeOf l G
  | 30, _ => exact SX11_mostOf l G
  | 31, _ => exact SX11_mend l G
  | q + 32, h => exact absurd h (by omega)
theorem snd_6 (l : Launch) (G : mG) : ∀ j, j < 32 → mSn l G (mM (192 + j)).1.cls (mM (192 + j)).2.1 (mM (192 + j)).2.2.1 (mM (192 + j)).2.2.2 (mM (192 + j)).1.name (mTb (192 + j)) := by
  intro j hj
  match j, hj with
  | 0, _ => exact SX11_of l G
  | 1, _ => exact SX11_feel l G
  | 2, _ => exact SX11_feeling l G
  | 3, _ => exact SX11_feed l G
  | 4, _ => exact SX11_byteAt l G
  | 5, _ => exact SX11_wrong l G
  | 6, _ => exact SX11_takes l G
  | 7, _ => exact SX11_writes l G
  | 8, _ => exact SX11_readsEither l G
  | 9, _ => exact SX11_readsBoth l G
  | 10, _ => exact SX11_readsCompared l G
  | 11, _ => exact SX11_readsSums l G
  | 12, _ => exact SX11_readsProduct l G
  | 13, _ => exact SX11_readsWord l G
  | 14, _ => exact SX11_readsOne l G
  | 15, _ => exact SX11_law l G
  | 16, _ => exact SX11_joined l G
  | 17, _ => exact SX11_workedOut l G
  | 18, _ => exact SX11_ruled l G
  | 19, _ => exact SX11_thinks l G
  | 20, _ => exact SX11_friendOf l G
  | 21, _ => exact SX11_weighedOut l G
  | 22, _ => exact SX11_nextBuyer l G
  | 23, _ => exact SX11_buys l G
  | 24, _ => exact SX11_goesBy l G
  | 25, _ => exact SX11_price l G
  | 26, _ => exact SX11_leastFrom l G
  | 27, _ => exact SX11_planned l G
  | 28, _ => exact SX11_paired l G
  | 29, _ => exact SX11_harm l G
  | 30, _ => exact SX11_manyFor l G
  | 31, _ => exact SX11_lacks l G
  | q + 32, h => exact absurd h (by omega)
theorem snd_7 (l : Launch) (G : mG) : ∀ j, j < 32 → mSn l G (mM (224 + j)).1.cls (mM (224 + j)).2.1 (mM (224 + j)).2.2.1 (mM (224 + j)).2.2.2 (mM (224 + j)).1.name (mTb (224 + j)) := by
  intro j hj
  match j, hj with
  | 0, _ => exact SX11_fedBehind l G
  | 1, _ => exact SX11_later l G
  | 2, _ => exact SX11_feltLater l G
  | 3, _ => exact SX11_lastsThen l G
  | 4, _ => exact SX11_lasts l G
  | 5, _ => exact SX11_renewed l G
  | 6, _ => exact SX11_worth l G
  | 7, _ => exact SX11_ring l G
  | 8, _ => exact SX11_lookAt l G
  | 9, _ => exact SX11_wrongDay l G
  | 10, _ => exact SX11_judge l G
  | 11, _ => exact SX11_fits l G
  | 12, _ => exact SX11_playedFrom l G
  | 13, _ => exact SX11_byTurns l G
  | 14, _ => exact SX11_drawn l G
  | 15, _ => exact SX11_writesTale l G
  | 16, _ => exact SX11_tells l G
  | 17, _ => exact SX11_day l G
  | 18, _ => exact SX11_wrong_ l G
  | 19, _ => exact SX11_lease l G
  | 20, _ => exact SX11_gift l G
  | 21, _ => exact SX11_tale l G
  | 22, _ => exact SX11_led l G
  | 23, _ => exact SX11_image l G
  | 24, _ => exact SX11_back l G
  | 25, _ => exact SX11_isBody l G
  | 26, _ => exact SX11_kindOf l G
  | 27, _ => exact SX11_body l G
  | 28, _ => exact SX11_above l G
  | 29, _ => exact SX11_runs l G
  | 30, _ => exact SX11_weighsAs l G
  | 31, _ => exact SX11_hatesAs l G
  | q + 32, h => exact absurd h (by omega)
theorem snd_8 (l : Launch) (G : mG) : ∀ j, j < 14 → mSn l G (mM (256 + j)).1.cls (mM (256 + j)).2.1 (mM (256 + j)).2.2.1 (mM (256 + j)).2.2.2 (mM (256 + j)).1.name (mTb (256 + j)) := by
  intro j hj
  match j, hj with
  | 0, _ => exact SX11_standsAs l G
  | 1, _ => exact SX11_tellsAs l G
  | 2, _ => exact SX11_act l G
  | 3, _ => exact SX11_trace l G
  | 4, _ => exact SX11_isShelf l G
  | 5, _ => exact SX11_keep l G
  | 6, _ => exact SX11_row l G
  | 7, _ => exact SX11_refusal l G
  | 8, _ => exact SX11_asSort l G
  | 9, _ => exact SX11_put l G
  | 10, _ => exact SX11_element l G
  | 11, _ => exact SX11_shift l G
  | 12, _ => exact SX11_taken l G
  | 13, _ => exact SX11_count l G
  | q + 14, h => exact absurd h (by omega)
theorem snd_all (l : Launch) (G : mG) (y : Nat) : mSn l G (mM y).1.cls (mM y).2.1 (mM y).2.2.1 (mM y).2.2.2 (mM y).1.name (mTb y) := by
  by_cases h0 : y < 32
  · have h := snd_0 l G (y - 0) (by omega)
    rwa [show 0 + (y - 0) = y by omega] at h
  by_cases h1 : y < 64
  · have h := snd_1 l G (y - 32) (by omega)
    rwa [show 32 + (y - 32) = y by omega] at h
  by_cases h2 : y < 96
  · have h := snd_2 l G (y - 64) (by omega)
    rwa [show 64 + (y - 64) = y by omega] at h
  by_cases h3 : y < 128
  · have h := snd_3 l G (y - 96) (by omega)
    rwa [show 96 + (y - 96) = y by omega] at h
  by_cases h4 : y < 160
  · have h := snd_4 l G (y - 128) (by omega)
    rwa [show 128 + (y - 128) = y by omega] at h
  by_cases h5 : y < 192
  · have h := snd_5 l G (y - 160) (by omega)
    rwa [show 160 + (y - 160) = y by omega] at h
  by_cases h6 : y < 224
  · have h := snd_6 l G (y - 192) (by omega)
    rwa [show 192 + (y - 192) = y by omega] at h
  by_cases h7 : y < 256
  · have h := snd_7 l G (y - 224) (by omega)
    rwa [show 224 + (y - 224) = y by omega] at h
  by_cases h8 : y < 270
  · have h := snd_8 l G (y - 256) (by omega)
    rwa [show 256 + (y - 256) = y by omega] at h
  intro pc
  have hb : Nat.blt y 270 = false := by
    cases hq : Nat.blt y 270 with
    | false => rfl
    | true => exact absurd (Nat.le_of_ble_eq_true hq) (by omega)
  show mOk _ _ _ _ _ _ _ pc (cond (Nat.blt y 270) _ o_no)
  rw [hb]
  exact k_no
theorem pln_0 : ∀ j, j < 32 → plainName (mM (0 + j)).1.cls = true := by decide +kernel
theorem pln_1 : ∀ j, j < 32 → plainName (mM (32 + j)).1.cls = true := by decide +kernel
theorem pln_2 : ∀ j, j < 32 → plainName (mM (64 + j)).1.cls = true := by decide +kernel
theorem pln_3 : ∀ j, j < 32 → plainName (mM (96 + j)).1.cls = true := by decide +kernel
theorem pln_4 : ∀ j, j < 32 → plainName (mM (128 + j)).1.cls = true := by decide +kernel
theorem pln_5 : ∀ j, j < 32 → plainName (mM (160 + j)).1.cls = true := by decide +kernel
theorem pln_6 : ∀ j, j < 32 → plainName (mM (192 + j)).1.cls = true := by decide +kernel
theorem pln_7 : ∀ j, j < 32 → plainName (mM (224 + j)).1.cls = true := by decide +kernel
theorem pln_8 : ∀ j, j < 14 → plainName (mM (256 + j)).1.cls = true := by decide +kernel
theorem pln_all (y : Nat) : plainName (mM y).1.cls = true := by
  by_cases h0 : y < 32
  · have h := pln_0 (y - 0) (by omega)
    rwa [show 0 + (y - 0) = y by omega] at h
  by_cases h1 : y < 64
  · have h := pln_1 (y - 32) (by omega)
    rwa [show 32 + (y - 32) = y by omega] at h
  by_cases h2 : y < 96
  · have h := pln_2 (y - 64) (by omega)
    rwa [show 64 + (y - 64) = y by omega] at h
  by_cases h3 : y < 128
  · have h := pln_3 (y - 96) (by omega)
    rwa [show 96 + (y - 96) = y by omega] at h
  by_cases h4 : y < 160
  · have h := pln_4 (y - 128) (by omega)
    rwa [show 128 + (y - 128) = y by omega] at h
  by_cases h5 : y < 192
  · have h := pln_5 (y - 160) (by omega)
    rwa [show 160 + (y - 160) = y by omega] at h
  by_cases h6 : y < 224
  · have h := pln_6 (y - 192) (by omega)
    rwa [show 192 + (y - 192) = y by omega] at h
  by_cases h7 : y < 256
  · have h := pln_7 (y - 224) (by omega)
    rwa [show 224 + (y - 224) = y by omega] at h
  by_cases h8 : y < 270
  · have h := pln_8 (y - 256) (by omega)
    rwa [show 256 + (y - 256) = y by omega] at h
  have e : ∀ k, k ≤ 270 → Nat.blt y k = false := fun k hk => by
    cases hq : Nat.blt y k with
    | false => rfl
    | true => exact absurd (Nat.le_of_ble_eq_true hq) (by omega)
  simp only [mM, mM8, e 128 (by decide), e 192 (by decide), e 224 (by decide), e 256 (by decide), e 263 (by decide), e 266 (by decide), e 268 (by decide), e 269 (by decide), cond_false]
  decide
theorem met_all (l : Launch) (G : mG) (D y : Nat) (as : List Value) (S : mS) (v : Option Value) (S' : mS) (h : mrn D y as S v S') : mCt l G D y as S v S' ∧ S.2.1.length ≤ S'.2.1.length ∧ S.1 ≤ S'.1 := m_met (snd_all l G) pln_all D y as S v S' h
