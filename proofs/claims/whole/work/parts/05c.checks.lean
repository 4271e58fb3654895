def lw_ck (r : Row) : Bool := rwOK M_l_law.1.cls M_l_law.1.name M_l_law.2.1 M_l_law.2.2.1 r
theorem okL_0 : T_l_law_0.all lw_ck = true := by decide +kernel
theorem okL_1 : T_l_law_1.all lw_ck = true := by decide +kernel
theorem okL_2 : T_l_law_2.all lw_ck = true := by decide +kernel
theorem okL_3 : T_l_law_3.all lw_ck = true := by decide +kernel
theorem okL_4 : T_l_law_4.all lw_ck = true := by decide +kernel
theorem okL_5 : T_l_law_5.all lw_ck = true := by decide +kernel
theorem okL_6 : T_l_law_6.all lw_ck = true := by decide +kernel
theorem okL_7 : T_l_law_7.all lw_ck = true := by decide +kernel
theorem okL_8 : T_l_law_8.all lw_ck = true := by decide +kernel
theorem okL_9 : T_l_law_9.all lw_ck = true := by decide +kernel
theorem okL_10 : T_l_law_10.all lw_ck = true := by decide +kernel
theorem okL_11 : T_l_law_11.all lw_ck = true := by decide +kernel
theorem okL_12 : T_l_law_12.all lw_ck = true := by decide +kernel
theorem okL_13 : T_l_law_13.all lw_ck = true := by decide +kernel
theorem okL_14 : T_l_law_14.all lw_ck = true := by decide +kernel
theorem okL_15 : T_l_law_15.all lw_ck = true := by decide +kernel
theorem okL_16 : T_l_law_16.all lw_ck = true := by decide +kernel
theorem okL_17 : T_l_law_17.all lw_ck = true := by decide +kernel
theorem okL_18 : T_l_law_18.all lw_ck = true := by decide +kernel
theorem okL_19 : T_l_law_19.all lw_ck = true := by decide +kernel
theorem okL_20 : T_l_law_20.all lw_ck = true := by decide +kernel
theorem okL_21 : T_l_law_21.all lw_ck = true := by decide +kernel
theorem okL_rows : T_l_law.all lw_ck = true := by
  simp only [T_l_law, List.all_append, Bool.and_eq_true]
  exact ⟨okL_0, ⟨okL_1, ⟨okL_2, ⟨okL_3, ⟨okL_4, ⟨okL_5, ⟨okL_6, ⟨okL_7, ⟨okL_8, ⟨okL_9, ⟨okL_10, ⟨okL_11, ⟨okL_12, ⟨okL_13, ⟨okL_14, ⟨okL_15, ⟨okL_16, ⟨okL_17, ⟨okL_18, ⟨okL_19, ⟨okL_20, okL_21⟩⟩⟩⟩⟩⟩⟩⟩⟩⟩⟩⟩⟩⟩⟩⟩⟩⟩⟩⟩⟩
theorem okL_head : okH M_l_law = true := by decide +kernel
theorem okT_l_law : okT M_l_law = true := by
  show (T_l_law.all lw_ck && okH M_l_law) = true
  rw [okL_rows, okL_head]; rfl
theorem okT_all : ∀ M ∈ mm, okT M = true := by
  intro M hM
  simp only [mm, List.mem_cons, List.not_mem_nil, or_false] at hM
  rcases hM with rfl | rfl | rfl | rfl | rfl | rfl | rfl | rfl | rfl | rfl | rfl | rfl | rfl | rfl | rfl | rfl | rfl | rfl | rfl | rfl | rfl | rfl | rfl | rfl | rfl | rfl | rfl | rfl | rfl | rfl | rfl | rfl | rfl | rfl | rfl | rfl | rfl | rfl | rfl | rfl | rfl | rfl | rfl | rfl | rfl | rfl | rfl | rfl | rfl | rfl | rfl | rfl | rfl | rfl | rfl | rfl | rfl | rfl | rfl | rfl | rfl | rfl | rfl | rfl | rfl | rfl | rfl | rfl | rfl | rfl | rfl | rfl | rfl | rfl | rfl | rfl | rfl | rfl | rfl | rfl | rfl | rfl | rfl | rfl | rfl | rfl | rfl | rfl | rfl | rfl | rfl | rfl | rfl | rfl | rfl | rfl | rfl | rfl | rfl | rfl | rfl | rfl | rfl | rfl | rfl | rfl | rfl | rfl | rfl | rfl | rfl | rfl | rfl | rfl | rfl | rfl | rfl | rfl | rfl | rfl | rfl | rfl | rfl | rfl | rfl | rfl | rfl | rfl | rfl | rfl | rfl | rfl | rfl | rfl | rfl | rfl | rfl | rfl | rfl | rfl | rfl | rfl | rfl | rfl | rfl | rfl | rfl | rfl | rfl | rfl | rfl | rfl | rfl | rfl | rfl | rfl | rfl | rfl | rfl | rfl | rfl | rfl | rfl | rfl | rfl | rfl | rfl | rfl | rfl | rfl | rfl | rfl | rfl | rfl | rfl | rfl | rfl | rfl | rfl | rfl | rfl | rfl | rfl | rfl | rfl | rfl | rfl | rfl | rfl | rfl | rfl | rfl | rfl | rfl | rfl | rfl | rfl | rfl | rfl | rfl | rfl | rfl | rfl | rfl | rfl | rfl | rfl | rfl | rfl | rfl | rfl | rfl | rfl | rfl | rfl | rfl | rfl | rfl | rfl | rfl | rfl | rfl | rfl | rfl | rfl | rfl | rfl | rfl | rfl | rfl | rfl | rfl | rfl | rfl | rfl | rfl | rfl | rfl | rfl | rfl | rfl | rfl | rfl | rfl | rfl | rfl | rfl | rfl | rfl | rfl | rfl | rfl | rfl | rfl | rfl | rfl | rfl | rfl | rfl | rfl | rfl | rfl | rfl | rfl | rfl | rfl | rfl | rfl | rfl | rfl | rfl | rfl | rfl | rfl | rfl | rfl | rfl | rfl | rfl | rfl | rfl | rfl
  · exact okT_ac_init
  · exact okT_ac_clear
  · exact okT_ac_note
  · exact okT_ac_dropOldest
  · exact okT_ac_takeBack
  · exact okT_bn_init
  · exact okT_bn_clear
  · exact okT_bn_makeDoubled
  · exact okT_bn_makeSquares
  · exact okT_bn_has
  · exact okT_bn_hasMask
  · exact okT_bn_isSet
  · exact okT_bn_isLost
  · exact okT_bn_lostCount
  · exact okT_bn_order
  · exact okT_bn_orderSquared
  · exact okT_bn_half
  · exact okT_bn_monitor
  · exact okT_bn_shutterOf
  · exact okT_bn_setShutter
  · exact okT_bn_readOf
  · exact okT_bn_aloneOf
  · exact okT_mt_init
  · exact okT_mt_build
  · exact okT_mt_tells
  · exact okT_mt_times
  · exact okT_mt_squares
  · exact okT_mt_sumOfLooks
  · exact okT_mt_allAgree
  · exact okT_mt_load
  · exact okT_mt_firstColour
  · exact okT_mt_clearPivot
  · exact okT_mt_findTold
  · exact okT_mt_hasOnlyPivot
  · exact okT_ra_part
  · exact okT_ra_isWhole
  · exact okT_ra_commonDivisor
  · exact okT_rd_init
  · exact okT_rd_readAll
  · exact okT_rd_fail
  · exact okT_rd_next
  · exact okT_rd_runOf
  · exact okT_rd_wholeOf
  · exact okT_rd_isWord
  · exact okT_rd_takeWord
  · exact okT_rd_takeWhole
  · exact okT_rd_takeNew
  · exact okT_rd_takeLine
  · exact okT_rd_takeBench
  · exact okT_rd_isPrimeOfBench
  · exact okT_rd_takeLight
  · exact okT_rd_takeStuck
  · exact okT_rd_takeNoise
  · exact okT_rd_takeLost
  · exact okT_rd_takeMask
  · exact okT_sg_init
  · exact okT_sg_startAnew
  · exact okT_sg_forget
  · exact okT_sg_lookAt
  · exact okT_sg_keep
  · exact okT_sg_scanAll
  · exact okT_sg_findNets
  · exact okT_sg_findBacks
  · exact okT_sg_errorOf
  · exact okT_su_init
  · exact okT_su_count
  · exact okT_su_numberOf
  · exact okT_su_holds
  · exact okT_su_supposeFine
  · exact okT_su_supposeOpen
  · exact okT_su_supposeShut
  · exact okT_su_put
  · exact okT_su_sumIsRight
  · exact okT_su_logIsRight
  · exact okT_tp_init
  · exact okT_tp_hasRoom
  · exact okT_tp_put
  · exact okT_tr_init
  · exact okT_tr_find
  · exact okT_tr_findSteps
  · exact okT_tr_fewestFrom
  · exact okT_tr_movesBy
  · exact okT_tr_walk
  · exact okT_tr_nextOf
  · exact okT_w_init
  · exact okT_w_feed
  · exact okT_w_bench
  · exact okT_w_fault
  · exact okT_w_where
  · exact okT_w_about
  · exact okT_w_plate
  · exact okT_w_common
  · exact okT_w_which
  · exact okT_w_apart
  · exact okT_w_odd
  · exact okT_w_light
  · exact okT_w_shutter
  · exact okT_w_noise
  · exact okT_w_lost
  · exact okT_w_look
  · exact okT_w_logged
  · exact okT_w_scan
  · exact okT_w_blinds
  · exact okT_w_reading
  · exact okT_w_net
  · exact okT_w_back
  · exact okT_w_odds
  · exact okT_w_more
  · exact okT_w_error
  · exact okT_w_errors
  · exact okT_w_worst
  · exact okT_w_share
  · exact okT_w_grains
  · exact okT_w_better
  · exact okT_w_alone
  · exact okT_w_alones
  · exact okT_w_closer
  · exact okT_w_suspects
  · exact okT_w_suspect
  · exact okT_w_supposed
  · exact okT_w_mask
  · exact okT_w_rank
  · exact okT_w_told
  · exact okT_w_solved
  · exact okT_w_factor
  · exact okT_w_shareBy
  · exact okT_w_fewer
  · exact okT_w_agree
  · exact okT_w_tour
  · exact okT_w_tourAt
  · exact okT_w_sign
  · exact okT_w_shine
  · exact okT_w_stick
  · exact okT_w_lose
  · exact okT_w_undo
  · exact okT_w_stuck
  · exact okT_w_size
  · exact okT_w_trouble
  · exact okT_w_settle
  · exact okT_w_haveBench
  · exact okT_w_haveOne
  · exact okT_w_haveSet
  · exact okT_w_haveBacks
  · exact okT_w_haveBackOf
  · exact okT_w_haveSuspects
  · exact okT_w_haveTold
  · exact okT_r_init
  · exact okT_r_thrown
  · exact okT_r_refused
  · exact okT_r_refusedLong
  · exact okT_r_good
  · exact okT_r_in
  · exact okT_r_has
  · exact okT_r_many
  · exact okT_r_divisor
  · exact okT_r_sets
  · exact okT_r_part
  · exact okT_r_byteAt
  · exact okT_r_next
  · exact okT_r_nextWord
  · exact okT_r_nextWhole
  · exact okT_r_nextSign
  · exact okT_r_flaw
  · exact okT_r_isWord
  · exact okT_r_needs
  · exact okT_r_wholeAt
  · exact okT_r_readWhole
  · exact okT_r_readNew
  · exact okT_r_readAll
  · exact okT_r_readLine
  · exact okT_r_begins
  · exact okT_r_readBench
  · exact okT_r_readOrder
  · exact okT_r_readLight
  · exact okT_r_readStuckOne
  · exact okT_r_readNoiseOf
  · exact okT_r_readLost
  · exact okT_r_readMaskOf
  · exact okT_r_feed
  · exact okT_r_bench
  · exact okT_r_takesOver
  · exact okT_r_laysDoubled
  · exact okT_r_laysSquares
  · exact okT_r_fault
  · exact okT_r_where
  · exact okT_r_monitor
  · exact okT_r_about
  · exact okT_r_isOne
  · exact okT_r_isSet
  · exact okT_r_plate
  · exact okT_r_common
  · exact okT_r_which
  · exact okT_r_apart
  · exact okT_r_odd
  · exact okT_r_light
  · exact okT_r_shutter
  · exact okT_r_noise
  · exact okT_r_lost
  · exact okT_r_ends
  · exact okT_r_through
  · exact okT_r_looks
  · exact okT_r_look
  · exact okT_r_logged
  · exact okT_r_scan
  · exact okT_r_blinds
  · exact okT_r_refusedLow
  · exact okT_r_reading
  · exact okT_r_losses
  · exact okT_r_netSum
  · exact okT_r_netOf
  · exact okT_r_net
  · exact okT_r_refuses
  · exact okT_r_netAll
  · exact okT_r_partsOf
  · exact okT_r_errorParts
  · exact okT_r_back
  · exact okT_r_odds
  · exact okT_r_more
  · exact okT_r_error
  · exact okT_r_errors
  · exact okT_r_plain
  · exact okT_r_worst
  · exact okT_r_share
  · exact okT_r_grains
  · exact okT_r_better
  · exact okT_r_aloneOf
  · exact okT_r_offAlone
  · exact okT_r_alone
  · exact okT_r_alones
  · exact okT_r_closer
  · exact okT_r_isSuspect
  · exact okT_r_supposes
  · exact okT_r_supposesFine
  · exact okT_r_supposesOpen
  · exact okT_r_supposesShut
  · exact okT_r_areLights
  · exact okT_r_areSeen
  · exact okT_r_supposedRead
  · exact okT_r_refusesSuspects
  · exact okT_r_suspectNumber
  · exact okT_r_suspects
  · exact okT_r_suspect
  · exact okT_r_supposed
  · exact okT_r_puts
  · exact okT_r_clears
  · exact okT_r_laysRows
  · exact okT_r_laysRow
  · exact okT_r_rowOf
  · exact okT_r_mask
  · exact okT_r_rank
  · exact okT_r_told
  · exact okT_r_solved
  · exact okT_r_factor
  · exact okT_r_squaresOf
  · exact okT_r_shareBy
  · exact okT_r_fewer
  · exact okT_r_agree
  · exact okT_r_movesTo
  · exact okT_r_goes
  · exact okT_r_laysTours
  · exact okT_r_tour
  · exact okT_r_tourAt
  · exact okT_r_sign
  · exact okT_r_signAt
  · exact okT_r_remembers
  · exact okT_r_changed
  · exact okT_r_shine
  · exact okT_r_stick
  · exact okT_r_lose
  · exact okT_r_undo
  · exact okT_r_stuck
  · exact okT_r_size
  · exact okT_r_trouble
  · exact okT_ji_bitCount
  · exact okT_js_length
  · exact okT_js_charAt
  · exact okT_js_coder
  · exact okT_js_isLatin1
  · exact okT_js_checkIndex
  · exact okT_jl_charAt
  · exact okT_jp_checkIndex
  · exact okT_l_law
