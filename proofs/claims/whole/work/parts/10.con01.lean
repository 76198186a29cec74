set_option maxRecDepth 100000 in
set_option maxHeartbeats 4000000 in
theorem e_c_placeOf_0 {g : mz_G} {ex : Bool} {hT : List mz_E} {x_members : Int32} {x_collaterals : Nat → Int32} {x_hasSent : Nat → Int32} {x_isSealed : Nat → Int32} {x_metered : Nat → Int32} {x_sealedCount : Int32} {bk_counts : Nat → Int32} {bk_needs : Nat → Int64} {bk_whens : Nat → Int32} {bk_sides : Nat → Int32} {bk_quantities : Nat → Int32} {bk_limits : Nat → Int32} {ag_toldLies : Nat → Int32} {ag_passedLies : Nat → Int32} {ag_words : Nat → Int32} {ag_vectors : Nat → Int32} {ag_liarOperator : Int32} {ag_rounds : Int32} {mk_entries : Nat → Int32} {mk_slots : Nat → Int32} {mk_remainders : Nat → Int32} {mk_blocks : Nat → Int32} {mk_blockBids : Nat → Int32} {mk_blockOffers : Nat → Int32} {mk_entryCount : Int32} {mk_blockCount : Int32} {cv_limits : Nat → Nat → Int32} {cv_bids : Nat → Nat → Int32} {cv_offers : Nat → Nat → Int32} {cv_count : Nat → Int32} {cv_allBids : Nat → Int32} {cv_allOffers : Nat → Int32} {cv_meetingPrice : Nat → Int32} {cv_sureBids : Nat → Int32} {cv_sureOffers : Nat → Int32} {cv_priceBids : Nat → Int32} {cv_priceOffers : Nat → Int32} {cv_volume : Nat → Int32} {cv_worth : Nat → Int64} {oc_prices : Nat → Nat → Int32} {oc_volumes : Nat → Nat → Int32} {oc_filled : Nat → Nat → Int32} {oc_worth : Nat → Int64} {oc_takenSet : Nat → Int32} {oc_isDone : Nat → Int32} {x1 : Int32} : mz_M g M_c_placeOf 0 [.ref 19, .int x1] ex (HX x_members x_collaterals x_hasSent x_isSealed x_metered x_sealedCount bk_counts bk_needs bk_whens bk_sides bk_quantities bk_limits ag_toldLies ag_passedLies ag_words ag_vectors ag_liarOperator ag_rounds mk_entries mk_slots mk_remainders mk_blocks mk_blockBids mk_blockOffers mk_entryCount mk_blockCount cv_limits cv_bids cv_offers cv_count cv_allBids cv_allOffers cv_meetingPrice cv_sureBids cv_sureOffers cv_priceBids cv_priceOffers cv_volume cv_worth oc_prices oc_volumes oc_filled oc_worth oc_takenSet oc_isDone, hT) (f_c_placeOf (cv_limits 0) (cv_bids 0) (cv_offers 0) (cv_count 0) x1) (fun r => (0, some (.int r.1), ex, (HX x_members x_collaterals x_hasSent x_isSealed x_metered x_sealedCount bk_counts bk_needs bk_whens bk_sides bk_quantities bk_limits ag_toldLies ag_passedLies ag_words ag_vectors ag_liarOperator ag_rounds mk_entries mk_slots mk_remainders mk_blocks mk_blockBids mk_blockOffers mk_entryCount mk_blockCount (va_up cv_limits 0 r.2.1) (va_up cv_bids 0 r.2.2.1) (va_up cv_offers 0 r.2.2.2.1) (va_up cv_count 0 r.2.2.2.2) cv_allBids cv_allOffers cv_meetingPrice cv_sureBids cv_sureOffers cv_priceBids cv_priceOffers cv_volume cv_worth oc_prices oc_volumes oc_filled oc_worth oc_takenSet oc_isDone, hT), 0, 0)) := by
  have w_L63 : ∀ (n : Nat) (c_limits : Nat → Int32) (c_bids : Nat → Int32) (c_offers : Nat → Int32) (c_count : Int32) (x2 : Int32) (x3 : Int32), mz_A g M_c_placeOf (mz_rm 0) (fun r => (0, some (.int r.1), ex, (HX x_members x_collaterals x_hasSent x_isSealed x_metered x_sealedCount bk_counts bk_needs bk_whens bk_sides bk_quantities bk_limits ag_toldLies ag_passedLies ag_words ag_vectors ag_liarOperator ag_rounds mk_entries mk_slots mk_remainders mk_blocks mk_blockBids mk_blockOffers mk_entryCount mk_blockCount (va_up cv_limits 0 r.2.1) (va_up cv_bids 0 r.2.2.1) (va_up cv_offers 0 r.2.2.2.1) (va_up cv_count 0 r.2.2.2.2) cv_allBids cv_allOffers cv_meetingPrice cv_sureBids cv_sureOffers cv_priceBids cv_priceOffers cv_volume cv_worth oc_prices oc_volumes oc_filled oc_worth oc_takenSet oc_isDone, hT), 0, 0)) 63 [(0, .ref 19), (1, .int x1), (2, .int x2), (3, .int x3)] [] ex (HX x_members x_collaterals x_hasSent x_isSealed x_metered x_sealedCount bk_counts bk_needs bk_whens bk_sides bk_quantities bk_limits ag_toldLies ag_passedLies ag_words ag_vectors ag_liarOperator ag_rounds mk_entries mk_slots mk_remainders mk_blocks mk_blockBids mk_blockOffers mk_entryCount mk_blockCount (va_up cv_limits 0 c_limits) (va_up cv_bids 0 c_bids) (va_up cv_offers 0 c_offers) (va_up cv_count 0 c_count) cv_allBids cv_allOffers cv_meetingPrice cv_sureBids cv_sureOffers cv_priceBids cv_priceOffers cv_volume cv_worth oc_prices oc_volumes oc_filled oc_worth oc_takenSet oc_isDone, hT) 0 0 (f_c_placeOf_L63 x1 n c_limits c_bids c_offers c_count x2 x3) := by
    intro n
    induction n with
    | zero => intro c_limits c_bids c_offers c_count x2 x3; exact mr_none
    | succ n ih =>
      intro c_limits c_bids c_offers c_count x2 x3
      rw [f_c_placeOf_L63]
      refine mr_iload_n d_c_placeOf_63 rfl rfl ?_
      refine mr_iload_n d_c_placeOf_64 rfl rfl ?_
      refine mr_icmp_le (tgt := 116) d_c_placeOf_65 (by decide) ?_ ?_
      · refine mr_aload_n d_c_placeOf_116 rfl rfl ?_
        refine mr_get K_c 0 d_c_placeOf_117 lk_f_c_9 (by decide) rfl rfl ?_
        refine mr_iload_n d_c_placeOf_120 rfl rfl ?_
        refine mr_iload_n d_c_placeOf_121 rfl rfl ?_
        refine mr_iast (h2 := (HX x_members x_collaterals x_hasSent x_isSealed x_metered x_sealedCount bk_counts bk_needs bk_whens bk_sides bk_quantities bk_limits ag_toldLies ag_passedLies ag_words ag_vectors ag_liarOperator ag_rounds mk_entries mk_slots mk_remainders mk_blocks mk_blockBids mk_blockOffers mk_entryCount mk_blockCount (va_up cv_limits 0 (upd c_limits x2.toNatClampNeg x1)) (va_up cv_bids 0 c_bids) (va_up cv_offers 0 c_offers) (va_up cv_count 0 c_count) cv_allBids cv_allOffers cv_meetingPrice cv_sureBids cv_sureOffers cv_priceBids cv_priceOffers cv_volume cv_worth oc_prices oc_volumes oc_filled oc_worth oc_takenSet oc_isDone, hT)) d_c_placeOf_122 rfl rfl (fun hc3 => ?_)
        refine mr_aload_n d_c_placeOf_123 rfl rfl ?_
        refine mr_get K_c 1 d_c_placeOf_124 lk_f_c_15 (by decide) rfl rfl ?_
        refine mr_iload_n d_c_placeOf_127 rfl rfl ?_
        refine mr_iconst (v := 0) d_c_placeOf_128 mc_iconst_0 ?_
        refine mr_iastK (h2 := (HX x_members x_collaterals x_hasSent x_isSealed x_metered x_sealedCount bk_counts bk_needs bk_whens bk_sides bk_quantities bk_limits ag_toldLies ag_passedLies ag_words ag_vectors ag_liarOperator ag_rounds mk_entries mk_slots mk_remainders mk_blocks mk_blockBids mk_blockOffers mk_entryCount mk_blockCount (va_up cv_limits 0 (upd c_limits x2.toNatClampNeg x1)) (va_up cv_bids 0 (upd c_bids x2.toNatClampNeg 0)) (va_up cv_offers 0 c_offers) (va_up cv_count 0 c_count) cv_allBids cv_allOffers cv_meetingPrice cv_sureBids cv_sureOffers cv_priceBids cv_priceOffers cv_volume cv_worth oc_prices oc_volumes oc_filled oc_worth oc_takenSet oc_isDone, hT)) d_c_placeOf_129 rfl rfl hc3 ?_
        refine mr_aload_n d_c_placeOf_130 rfl rfl ?_
        refine mr_get K_c 2 d_c_placeOf_131 lk_f_c_18 (by decide) rfl rfl ?_
        refine mr_iload_n d_c_placeOf_134 rfl rfl ?_
        refine mr_iconst (v := 0) d_c_placeOf_135 mc_iconst_0 ?_
        refine mr_iastK (h2 := (HX x_members x_collaterals x_hasSent x_isSealed x_metered x_sealedCount bk_counts bk_needs bk_whens bk_sides bk_quantities bk_limits ag_toldLies ag_passedLies ag_words ag_vectors ag_liarOperator ag_rounds mk_entries mk_slots mk_remainders mk_blocks mk_blockBids mk_blockOffers mk_entryCount mk_blockCount (va_up cv_limits 0 (upd c_limits x2.toNatClampNeg x1)) (va_up cv_bids 0 (upd c_bids x2.toNatClampNeg 0)) (va_up cv_offers 0 (upd c_offers x2.toNatClampNeg 0)) (va_up cv_count 0 c_count) cv_allBids cv_allOffers cv_meetingPrice cv_sureBids cv_sureOffers cv_priceBids cv_priceOffers cv_volume cv_worth oc_prices oc_volumes oc_filled oc_worth oc_takenSet oc_isDone, hT)) d_c_placeOf_136 rfl rfl hc3 ?_
        refine mr_aload_n d_c_placeOf_137 rfl rfl ?_
        refine mr_dup d_c_placeOf_138 rfl ?_
        refine mr_get K_c 3 d_c_placeOf_139 lk_f_c_21 (by decide) rfl rfl ?_
        refine mr_iconst (v := 1) d_c_placeOf_142 mc_iconst_1 ?_
        refine mr_iadd d_c_placeOf_143 ?_
        refine mr_put (h2 := (HX x_members x_collaterals x_hasSent x_isSealed x_metered x_sealedCount bk_counts bk_needs bk_whens bk_sides bk_quantities bk_limits ag_toldLies ag_passedLies ag_words ag_vectors ag_liarOperator ag_rounds mk_entries mk_slots mk_remainders mk_blocks mk_blockBids mk_blockOffers mk_entryCount mk_blockCount (va_up cv_limits 0 (upd c_limits x2.toNatClampNeg x1)) (va_up cv_bids 0 (upd c_bids x2.toNatClampNeg 0)) (va_up cv_offers 0 (upd c_offers x2.toNatClampNeg 0)) (va_up cv_count 0 (c_count + 1)) cv_allBids cv_allOffers cv_meetingPrice cv_sureBids cv_sureOffers cv_priceBids cv_priceOffers cv_volume cv_worth oc_prices oc_volumes oc_filled oc_worth oc_takenSet oc_isDone, hT)) K_c 3 d_c_placeOf_144 lk_f_c_21 (by decide) rfl rfl rfl (Nat.le_of_ble_eq_true rfl) rfl rfl ?_
        refine mr_iload_n d_c_placeOf_147 rfl rfl ?_
        exact mr_iret d_c_placeOf_148 rfl rfl
      · refine mr_aload_n d_c_placeOf_68 rfl rfl ?_
        refine mr_get K_c 0 d_c_placeOf_69 lk_f_c_9 (by decide) rfl rfl ?_
        refine mr_iload_n d_c_placeOf_72 rfl rfl ?_
        refine mr_aload_n d_c_placeOf_73 rfl rfl ?_
        refine mr_get K_c 0 d_c_placeOf_74 lk_f_c_9 (by decide) rfl rfl ?_
        refine mr_iload_n d_c_placeOf_77 rfl rfl ?_
        refine mr_iconst (v := 1) d_c_placeOf_78 mc_iconst_1 ?_
        refine mr_isub d_c_placeOf_79 ?_
        refine mr_iald d_c_placeOf_80 rfl (fun hc4 => ?_)
        refine mr_iast (h2 := (HX x_members x_collaterals x_hasSent x_isSealed x_metered x_sealedCount bk_counts bk_needs bk_whens bk_sides bk_quantities bk_limits ag_toldLies ag_passedLies ag_words ag_vectors ag_liarOperator ag_rounds mk_entries mk_slots mk_remainders mk_blocks mk_blockBids mk_blockOffers mk_entryCount mk_blockCount (va_up cv_limits 0 (upd c_limits x3.toNatClampNeg (c_limits (x3 - 1).toNatClampNeg))) (va_up cv_bids 0 c_bids) (va_up cv_offers 0 c_offers) (va_up cv_count 0 c_count) cv_allBids cv_allOffers cv_meetingPrice cv_sureBids cv_sureOffers cv_priceBids cv_priceOffers cv_volume cv_worth oc_prices oc_volumes oc_filled oc_worth oc_takenSet oc_isDone, hT)) d_c_placeOf_81 rfl rfl (fun hc5 => ?_)
        refine mr_aload_n d_c_placeOf_82 rfl rfl ?_
        refine mr_get K_c 1 d_c_placeOf_83 lk_f_c_15 (by decide) rfl rfl ?_
        refine mr_iload_n d_c_placeOf_86 rfl rfl ?_
        refine mr_aload_n d_c_placeOf_87 rfl rfl ?_
        refine mr_get K_c 1 d_c_placeOf_88 lk_f_c_15 (by decide) rfl rfl ?_
        refine mr_iload_n d_c_placeOf_91 rfl rfl ?_
        refine mr_iconst (v := 1) d_c_placeOf_92 mc_iconst_1 ?_
        refine mr_isub d_c_placeOf_93 ?_
        refine mr_ialdK d_c_placeOf_94 rfl hc4 ?_
        refine mr_iastK (h2 := (HX x_members x_collaterals x_hasSent x_isSealed x_metered x_sealedCount bk_counts bk_needs bk_whens bk_sides bk_quantities bk_limits ag_toldLies ag_passedLies ag_words ag_vectors ag_liarOperator ag_rounds mk_entries mk_slots mk_remainders mk_blocks mk_blockBids mk_blockOffers mk_entryCount mk_blockCount (va_up cv_limits 0 (upd c_limits x3.toNatClampNeg (c_limits (x3 - 1).toNatClampNeg))) (va_up cv_bids 0 (upd c_bids x3.toNatClampNeg (c_bids (x3 - 1).toNatClampNeg))) (va_up cv_offers 0 c_offers) (va_up cv_count 0 c_count) cv_allBids cv_allOffers cv_meetingPrice cv_sureBids cv_sureOffers cv_priceBids cv_priceOffers cv_volume cv_worth oc_prices oc_volumes oc_filled oc_worth oc_takenSet oc_isDone, hT)) d_c_placeOf_95 rfl rfl hc5 ?_
        refine mr_aload_n d_c_placeOf_96 rfl rfl ?_
        refine mr_get K_c 2 d_c_placeOf_97 lk_f_c_18 (by decide) rfl rfl ?_
        refine mr_iload_n d_c_placeOf_100 rfl rfl ?_
        refine mr_aload_n d_c_placeOf_101 rfl rfl ?_
        refine mr_get K_c 2 d_c_placeOf_102 lk_f_c_18 (by decide) rfl rfl ?_
        refine mr_iload_n d_c_placeOf_105 rfl rfl ?_
        refine mr_iconst (v := 1) d_c_placeOf_106 mc_iconst_1 ?_
        refine mr_isub d_c_placeOf_107 ?_
        refine mr_ialdK d_c_placeOf_108 rfl hc4 ?_
        refine mr_iastK (h2 := (HX x_members x_collaterals x_hasSent x_isSealed x_metered x_sealedCount bk_counts bk_needs bk_whens bk_sides bk_quantities bk_limits ag_toldLies ag_passedLies ag_words ag_vectors ag_liarOperator ag_rounds mk_entries mk_slots mk_remainders mk_blocks mk_blockBids mk_blockOffers mk_entryCount mk_blockCount (va_up cv_limits 0 (upd c_limits x3.toNatClampNeg (c_limits (x3 - 1).toNatClampNeg))) (va_up cv_bids 0 (upd c_bids x3.toNatClampNeg (c_bids (x3 - 1).toNatClampNeg))) (va_up cv_offers 0 (upd c_offers x3.toNatClampNeg (c_offers (x3 - 1).toNatClampNeg))) (va_up cv_count 0 c_count) cv_allBids cv_allOffers cv_meetingPrice cv_sureBids cv_sureOffers cv_priceBids cv_priceOffers cv_volume cv_worth oc_prices oc_volumes oc_filled oc_worth oc_takenSet oc_isDone, hT)) d_c_placeOf_109 rfl rfl hc5 ?_
        refine mr_iinc (v := (x3 + (-1))) (lv' := [(3, .int (x3 + (-1))), (0, .ref 19), (1, .int x1), (2, .int x2)]) d_c_placeOf_110 rfl rfl (by decide) rfl ?_
        refine mr_goto (tgt := 63) d_c_placeOf_113 (by decide) ?_
        refine mr_sub (lv' := [(0, .ref 19), (1, .int x1), (2, .int x2), (3, .int (x3 + (-1)))]) [1, 2, 3, 0] rfl ?_
        exact ih _ _ _ _ _ _
  have w_b44 : ∀ (c_limits : Nat → Int32) (c_bids : Nat → Int32) (c_offers : Nat → Int32) (c_count : Int32) (x2 : Int32), mz_A g M_c_placeOf (mz_rm 0) (fun r => (0, some (.int r.1), ex, (HX x_members x_collaterals x_hasSent x_isSealed x_metered x_sealedCount bk_counts bk_needs bk_whens bk_sides bk_quantities bk_limits ag_toldLies ag_passedLies ag_words ag_vectors ag_liarOperator ag_rounds mk_entries mk_slots mk_remainders mk_blocks mk_blockBids mk_blockOffers mk_entryCount mk_blockCount (va_up cv_limits 0 r.2.1) (va_up cv_bids 0 r.2.2.1) (va_up cv_offers 0 r.2.2.2.1) (va_up cv_count 0 r.2.2.2.2) cv_allBids cv_allOffers cv_meetingPrice cv_sureBids cv_sureOffers cv_priceBids cv_priceOffers cv_volume cv_worth oc_prices oc_volumes oc_filled oc_worth oc_takenSet oc_isDone, hT), 0, 0)) 44 [(0, .ref 19), (1, .int x1), (2, .int x2)] [] ex (HX x_members x_collaterals x_hasSent x_isSealed x_metered x_sealedCount bk_counts bk_needs bk_whens bk_sides bk_quantities bk_limits ag_toldLies ag_passedLies ag_words ag_vectors ag_liarOperator ag_rounds mk_entries mk_slots mk_remainders mk_blocks mk_blockBids mk_blockOffers mk_entryCount mk_blockCount (va_up cv_limits 0 c_limits) (va_up cv_bids 0 c_bids) (va_up cv_offers 0 c_offers) (va_up cv_count 0 c_count) cv_allBids cv_allOffers cv_meetingPrice cv_sureBids cv_sureOffers cv_priceBids cv_priceOffers cv_volume cv_worth oc_prices oc_volumes oc_filled oc_worth oc_takenSet oc_isDone, hT) 0 0 (f_c_placeOf_b44 x1 c_limits c_bids c_offers c_count x2) := by
    intro  c_limits c_bids c_offers c_count x2
    rw [f_c_placeOf_b44]
    refine mr_aload_n d_c_placeOf_44 rfl rfl ?_
    refine mr_get K_c 3 d_c_placeOf_45 lk_f_c_21 (by decide) rfl rfl ?_
    refine mr_aload_n d_c_placeOf_48 rfl rfl ?_
    refine mr_get K_c 0 d_c_placeOf_49 lk_f_c_9 (by decide) rfl rfl ?_
    refine mr_alen (v0 := 60) d_c_placeOf_52 (fun _ => rfl) rfl (show Int32.ofNat 60 = 60 by decide) ?_
    refine mr_icmp_lt (tgt := 58) d_c_placeOf_53 (by decide) ?_ ?_
    · refine mr_aload_n d_c_placeOf_58 rfl rfl ?_
      refine mr_get K_c 3 d_c_placeOf_59 lk_f_c_21 (by decide) rfl rfl ?_
      refine mr_istore_n (lv' := [(3, .int c_count), (0, .ref 19), (1, .int x1), (2, .int x2)]) d_c_placeOf_62 rfl (by decide) rfl ?_
      refine mr_sub (lv' := [(0, .ref 19), (1, .int x1), (2, .int x2), (3, .int c_count)]) [1, 2, 3, 0] rfl ?_
      exact w_L63 1000 _ _ _ _ _ _
    · refine mr_iload_n d_c_placeOf_56 rfl rfl ?_
      exact mr_iret d_c_placeOf_57 rfl rfl
  have w_b26 : ∀ (c_limits : Nat → Int32) (c_bids : Nat → Int32) (c_offers : Nat → Int32) (c_count : Int32) (x2 : Int32), mz_A g M_c_placeOf (mz_rm 0) (fun r => (0, some (.int r.1), ex, (HX x_members x_collaterals x_hasSent x_isSealed x_metered x_sealedCount bk_counts bk_needs bk_whens bk_sides bk_quantities bk_limits ag_toldLies ag_passedLies ag_words ag_vectors ag_liarOperator ag_rounds mk_entries mk_slots mk_remainders mk_blocks mk_blockBids mk_blockOffers mk_entryCount mk_blockCount (va_up cv_limits 0 r.2.1) (va_up cv_bids 0 r.2.2.1) (va_up cv_offers 0 r.2.2.2.1) (va_up cv_count 0 r.2.2.2.2) cv_allBids cv_allOffers cv_meetingPrice cv_sureBids cv_sureOffers cv_priceBids cv_priceOffers cv_volume cv_worth oc_prices oc_volumes oc_filled oc_worth oc_takenSet oc_isDone, hT), 0, 0)) 26 [(0, .ref 19), (1, .int x1), (2, .int x2)] [] ex (HX x_members x_collaterals x_hasSent x_isSealed x_metered x_sealedCount bk_counts bk_needs bk_whens bk_sides bk_quantities bk_limits ag_toldLies ag_passedLies ag_words ag_vectors ag_liarOperator ag_rounds mk_entries mk_slots mk_remainders mk_blocks mk_blockBids mk_blockOffers mk_entryCount mk_blockCount (va_up cv_limits 0 c_limits) (va_up cv_bids 0 c_bids) (va_up cv_offers 0 c_offers) (va_up cv_count 0 c_count) cv_allBids cv_allOffers cv_meetingPrice cv_sureBids cv_sureOffers cv_priceBids cv_priceOffers cv_volume cv_worth oc_prices oc_volumes oc_filled oc_worth oc_takenSet oc_isDone, hT) 0 0 (f_c_placeOf_b26 x1 c_limits c_bids c_offers c_count x2) := by
    intro  c_limits c_bids c_offers c_count x2
    rw [f_c_placeOf_b26]
    refine mr_iload_n d_c_placeOf_26 rfl rfl ?_
    refine mr_aload_n d_c_placeOf_27 rfl rfl ?_
    refine mr_get K_c 3 d_c_placeOf_28 lk_f_c_21 (by decide) rfl rfl ?_
    refine mr_icmp_ge (tgt := 44) d_c_placeOf_31 (by decide) ?_ ?_
    · exact w_b44 _ _ _ _ _
    · refine mr_aload_n d_c_placeOf_34 rfl rfl ?_
      refine mr_get K_c 0 d_c_placeOf_35 lk_f_c_9 (by decide) rfl rfl ?_
      refine mr_iload_n d_c_placeOf_38 rfl rfl ?_
      refine mr_iald d_c_placeOf_39 rfl (fun hc2 => ?_)
      refine mr_iload_n d_c_placeOf_40 rfl rfl ?_
      refine mr_icmp_eq (tgt := 56) d_c_placeOf_41 (by decide) ?_ ?_
      · refine mr_iload_n d_c_placeOf_56 rfl rfl ?_
        exact mr_iret d_c_placeOf_57 rfl rfl
      · exact w_b44 _ _ _ _ _
  have w_L2 : ∀ (n : Nat) (c_limits : Nat → Int32) (c_bids : Nat → Int32) (c_offers : Nat → Int32) (c_count : Int32) (x2 : Int32), mz_A g M_c_placeOf (mz_rm 0) (fun r => (0, some (.int r.1), ex, (HX x_members x_collaterals x_hasSent x_isSealed x_metered x_sealedCount bk_counts bk_needs bk_whens bk_sides bk_quantities bk_limits ag_toldLies ag_passedLies ag_words ag_vectors ag_liarOperator ag_rounds mk_entries mk_slots mk_remainders mk_blocks mk_blockBids mk_blockOffers mk_entryCount mk_blockCount (va_up cv_limits 0 r.2.1) (va_up cv_bids 0 r.2.2.1) (va_up cv_offers 0 r.2.2.2.1) (va_up cv_count 0 r.2.2.2.2) cv_allBids cv_allOffers cv_meetingPrice cv_sureBids cv_sureOffers cv_priceBids cv_priceOffers cv_volume cv_worth oc_prices oc_volumes oc_filled oc_worth oc_takenSet oc_isDone, hT), 0, 0)) 2 [(0, .ref 19), (1, .int x1), (2, .int x2)] [] ex (HX x_members x_collaterals x_hasSent x_isSealed x_metered x_sealedCount bk_counts bk_needs bk_whens bk_sides bk_quantities bk_limits ag_toldLies ag_passedLies ag_words ag_vectors ag_liarOperator ag_rounds mk_entries mk_slots mk_remainders mk_blocks mk_blockBids mk_blockOffers mk_entryCount mk_blockCount (va_up cv_limits 0 c_limits) (va_up cv_bids 0 c_bids) (va_up cv_offers 0 c_offers) (va_up cv_count 0 c_count) cv_allBids cv_allOffers cv_meetingPrice cv_sureBids cv_sureOffers cv_priceBids cv_priceOffers cv_volume cv_worth oc_prices oc_volumes oc_filled oc_worth oc_takenSet oc_isDone, hT) 0 0 (f_c_placeOf_L2 x1 n c_limits c_bids c_offers c_count x2) := by
    intro n
    induction n with
    | zero => intro c_limits c_bids c_offers c_count x2; exact mr_none
    | succ n ih =>
      intro c_limits c_bids c_offers c_count x2
      rw [f_c_placeOf_L2]
      refine mr_iload_n d_c_placeOf_2 rfl rfl ?_
      refine mr_aload_n d_c_placeOf_3 rfl rfl ?_
      refine mr_get K_c 3 d_c_placeOf_4 lk_f_c_21 (by decide) rfl rfl ?_
      refine mr_icmp_ge (tgt := 26) d_c_placeOf_7 (by decide) ?_ ?_
      · exact w_b26 _ _ _ _ _
      · refine mr_aload_n d_c_placeOf_10 rfl rfl ?_
        refine mr_get K_c 0 d_c_placeOf_11 lk_f_c_9 (by decide) rfl rfl ?_
        refine mr_iload_n d_c_placeOf_14 rfl rfl ?_
        refine mr_iald d_c_placeOf_15 rfl (fun hc1 => ?_)
        refine mr_iload_n d_c_placeOf_16 rfl rfl ?_
        refine mr_icmp_ge (tgt := 26) d_c_placeOf_17 (by decide) ?_ ?_
        · exact w_b26 _ _ _ _ _
        · refine mr_iinc (v := (x2 + 1)) (lv' := [(2, .int (x2 + 1)), (0, .ref 19), (1, .int x1)]) d_c_placeOf_20 rfl rfl (by decide) rfl ?_
          refine mr_goto (tgt := 2) d_c_placeOf_23 (by decide) ?_
          refine mr_sub (lv' := [(0, .ref 19), (1, .int x1), (2, .int (x2 + 1))]) [1, 2, 0] rfl ?_
          exact ih _ _ _ _ _
  refine mz_of (by decide) (Nat.le_of_ble_eq_true rfl) ?_
  rw [f_c_placeOf]
  show mz_A g M_c_placeOf (mz_rm 0) _ 0 [(0, .ref 19), (1, .int x1)] [] ex (HX x_members x_collaterals x_hasSent x_isSealed x_metered x_sealedCount bk_counts bk_needs bk_whens bk_sides bk_quantities bk_limits ag_toldLies ag_passedLies ag_words ag_vectors ag_liarOperator ag_rounds mk_entries mk_slots mk_remainders mk_blocks mk_blockBids mk_blockOffers mk_entryCount mk_blockCount cv_limits cv_bids cv_offers cv_count cv_allBids cv_allOffers cv_meetingPrice cv_sureBids cv_sureOffers cv_priceBids cv_priceOffers cv_volume cv_worth oc_prices oc_volumes oc_filled oc_worth oc_takenSet oc_isDone, hT) 0 0 _
  refine mr_iconst (v := 0) d_c_placeOf_0 mc_iconst_0 ?_
  refine mr_istore_n (lv' := [(2, .int 0), (0, .ref 19), (1, .int x1)]) d_c_placeOf_1 rfl (by decide) rfl ?_
  refine mr_sub (lv' := [(0, .ref 19), (1, .int x1), (2, .int 0)]) [1, 2, 0] rfl ?_
  exact w_L2 1000 _ _ _ _ _
set_option maxRecDepth 100000 in
set_option maxHeartbeats 4000000 in
theorem e_c_placeOf_1 {g : mz_G} {ex : Bool} {hT : List mz_E} {x_members : Int32} {x_collaterals : Nat → Int32} {x_hasSent : Nat → Int32} {x_isSealed : Nat → Int32} {x_metered : Nat → Int32} {x_sealedCount : Int32} {bk_counts : Nat → Int32} {bk_needs : Nat → Int64} {bk_whens : Nat → Int32} {bk_sides : Nat → Int32} {bk_quantities : Nat → Int32} {bk_limits : Nat → Int32} {ag_toldLies : Nat → Int32} {ag_passedLies : Nat → Int32} {ag_words : Nat → Int32} {ag_vectors : Nat → Int32} {ag_liarOperator : Int32} {ag_rounds : Int32} {mk_entries : Nat → Int32} {mk_slots : Nat → Int32} {mk_remainders : Nat → Int32} {mk_blocks : Nat → Int32} {mk_blockBids : Nat → Int32} {mk_blockOffers : Nat → Int32} {mk_entryCount : Int32} {mk_blockCount : Int32} {cv_limits : Nat → Nat → Int32} {cv_bids : Nat → Nat → Int32} {cv_offers : Nat → Nat → Int32} {cv_count : Nat → Int32} {cv_allBids : Nat → Int32} {cv_allOffers : Nat → Int32} {cv_meetingPrice : Nat → Int32} {cv_sureBids : Nat → Int32} {cv_sureOffers : Nat → Int32} {cv_priceBids : Nat → Int32} {cv_priceOffers : Nat → Int32} {cv_volume : Nat → Int32} {cv_worth : Nat → Int64} {oc_prices : Nat → Nat → Int32} {oc_volumes : Nat → Nat → Int32} {oc_filled : Nat → Nat → Int32} {oc_worth : Nat → Int64} {oc_takenSet : Nat → Int32} {oc_isDone : Nat → Int32} {x1 : Int32} : mz_M g M_c_placeOf 0 [.ref 23, .int x1] ex (HX x_members x_collaterals x_hasSent x_isSealed x_metered x_sealedCount bk_counts bk_needs bk_whens bk_sides bk_quantities bk_limits ag_toldLies ag_passedLies ag_words ag_vectors ag_liarOperator ag_rounds mk_entries mk_slots mk_remainders mk_blocks mk_blockBids mk_blockOffers mk_entryCount mk_blockCount cv_limits cv_bids cv_offers cv_count cv_allBids cv_allOffers cv_meetingPrice cv_sureBids cv_sureOffers cv_priceBids cv_priceOffers cv_volume cv_worth oc_prices oc_volumes oc_filled oc_worth oc_takenSet oc_isDone, hT) (f_c_placeOf (cv_limits 1) (cv_bids 1) (cv_offers 1) (cv_count 1) x1) (fun r => (0, some (.int r.1), ex, (HX x_members x_collaterals x_hasSent x_isSealed x_metered x_sealedCount bk_counts bk_needs bk_whens bk_sides bk_quantities bk_limits ag_toldLies ag_passedLies ag_words ag_vectors ag_liarOperator ag_rounds mk_entries mk_slots mk_remainders mk_blocks mk_blockBids mk_blockOffers mk_entryCount mk_blockCount (va_up cv_limits 1 r.2.1) (va_up cv_bids 1 r.2.2.1) (va_up cv_offers 1 r.2.2.2.1) (va_up cv_count 1 r.2.2.2.2) cv_allBids cv_allOffers cv_meetingPrice cv_sureBids cv_sureOffers cv_priceBids cv_priceOffers cv_volume cv_worth oc_prices oc_volumes oc_filled oc_worth oc_takenSet oc_isDone, hT), 0, 0)) := by
  have w_L63 : ∀ (n : Nat) (c_limits : Nat → Int32) (c_bids : Nat → Int32) (c_offers : Nat → Int32) (c_count : Int32) (x2 : Int32) (x3 : Int32), mz_A g M_c_placeOf (mz_rm 0) (fun r => (0, some (.int r.1), ex, (HX x_members x_collaterals x_hasSent x_isSealed x_metered x_sealedCount bk_counts bk_needs bk_whens bk_sides bk_quantities bk_limits ag_toldLies ag_passedLies ag_words ag_vectors ag_liarOperator ag_rounds mk_entries mk_slots mk_remainders mk_blocks mk_blockBids mk_blockOffers mk_entryCount mk_blockCount (va_up cv_limits 1 r.2.1) (va_up cv_bids 1 r.2.2.1) (va_up cv_offers 1 r.2.2.2.1) (va_up cv_count 1 r.2.2.2.2) cv_allBids cv_allOffers cv_meetingPrice cv_sureBids cv_sureOffers cv_priceBids cv_priceOffers cv_volume cv_worth oc_prices oc_volumes oc_filled oc_worth oc_takenSet oc_isDone, hT), 0, 0)) 63 [(0, .ref 23), (1, .int x1), (2, .int x2), (3, .int x3)] [] ex (HX x_members x_collaterals x_hasSent x_isSealed x_metered x_sealedCount bk_counts bk_needs bk_whens bk_sides bk_quantities bk_limits ag_toldLies ag_passedLies ag_words ag_vectors ag_liarOperator ag_rounds mk_entries mk_slots mk_remainders mk_blocks mk_blockBids mk_blockOffers mk_entryCount mk_blockCount (va_up cv_limits 1 c_limits) (va_up cv_bids 1 c_bids) (va_up cv_offers 1 c_offers) (va_up cv_count 1 c_count) cv_allBids cv_allOffers cv_meetingPrice cv_sureBids cv_sureOffers cv_priceBids cv_priceOffers cv_volume cv_worth oc_prices oc_volumes oc_filled oc_worth oc_takenSet oc_isDone, hT) 0 0 (f_c_placeOf_L63 x1 n c_limits c_bids c_offers c_count x2 x3) := by
    intro n
    induction n with
    | zero => intro c_limits c_bids c_offers c_count x2 x3; exact mr_none
    | succ n ih =>
      intro c_limits c_bids c_offers c_count x2 x3
      rw [f_c_placeOf_L63]
      refine mr_iload_n d_c_placeOf_63 rfl rfl ?_
      refine mr_iload_n d_c_placeOf_64 rfl rfl ?_
      refine mr_icmp_le (tgt := 116) d_c_placeOf_65 (by decide) ?_ ?_
      · refine mr_aload_n d_c_placeOf_116 rfl rfl ?_
        refine mr_get K_c 0 d_c_placeOf_117 lk_f_c_9 (by decide) rfl rfl ?_
        refine mr_iload_n d_c_placeOf_120 rfl rfl ?_
        refine mr_iload_n d_c_placeOf_121 rfl rfl ?_
        refine mr_iast (h2 := (HX x_members x_collaterals x_hasSent x_isSealed x_metered x_sealedCount bk_counts bk_needs bk_whens bk_sides bk_quantities bk_limits ag_toldLies ag_passedLies ag_words ag_vectors ag_liarOperator ag_rounds mk_entries mk_slots mk_remainders mk_blocks mk_blockBids mk_blockOffers mk_entryCount mk_blockCount (va_up cv_limits 1 (upd c_limits x2.toNatClampNeg x1)) (va_up cv_bids 1 c_bids) (va_up cv_offers 1 c_offers) (va_up cv_count 1 c_count) cv_allBids cv_allOffers cv_meetingPrice cv_sureBids cv_sureOffers cv_priceBids cv_priceOffers cv_volume cv_worth oc_prices oc_volumes oc_filled oc_worth oc_takenSet oc_isDone, hT)) d_c_placeOf_122 rfl rfl (fun hc3 => ?_)
        refine mr_aload_n d_c_placeOf_123 rfl rfl ?_
        refine mr_get K_c 1 d_c_placeOf_124 lk_f_c_15 (by decide) rfl rfl ?_
        refine mr_iload_n d_c_placeOf_127 rfl rfl ?_
        refine mr_iconst (v := 0) d_c_placeOf_128 mc_iconst_0 ?_
        refine mr_iastK (h2 := (HX x_members x_collaterals x_hasSent x_isSealed x_metered x_sealedCount bk_counts bk_needs bk_whens bk_sides bk_quantities bk_limits ag_toldLies ag_passedLies ag_words ag_vectors ag_liarOperator ag_rounds mk_entries mk_slots mk_remainders mk_blocks mk_blockBids mk_blockOffers mk_entryCount mk_blockCount (va_up cv_limits 1 (upd c_limits x2.toNatClampNeg x1)) (va_up cv_bids 1 (upd c_bids x2.toNatClampNeg 0)) (va_up cv_offers 1 c_offers) (va_up cv_count 1 c_count) cv_allBids cv_allOffers cv_meetingPrice cv_sureBids cv_sureOffers cv_priceBids cv_priceOffers cv_volume cv_worth oc_prices oc_volumes oc_filled oc_worth oc_takenSet oc_isDone, hT)) d_c_placeOf_129 rfl rfl hc3 ?_
        refine mr_aload_n d_c_placeOf_130 rfl rfl ?_
        refine mr_get K_c 2 d_c_placeOf_131 lk_f_c_18 (by decide) rfl rfl ?_
        refine mr_iload_n d_c_placeOf_134 rfl rfl ?_
        refine mr_iconst (v := 0) d_c_placeOf_135 mc_iconst_0 ?_
        refine mr_iastK (h2 := (HX x_members x_collaterals x_hasSent x_isSealed x_metered x_sealedCount bk_counts bk_needs bk_whens bk_sides bk_quantities bk_limits ag_toldLies ag_passedLies ag_words ag_vectors ag_liarOperator ag_rounds mk_entries mk_slots mk_remainders mk_blocks mk_blockBids mk_blockOffers mk_entryCount mk_blockCount (va_up cv_limits 1 (upd c_limits x2.toNatClampNeg x1)) (va_up cv_bids 1 (upd c_bids x2.toNatClampNeg 0)) (va_up cv_offers 1 (upd c_offers x2.toNatClampNeg 0)) (va_up cv_count 1 c_count) cv_allBids cv_allOffers cv_meetingPrice cv_sureBids cv_sureOffers cv_priceBids cv_priceOffers cv_volume cv_worth oc_prices oc_volumes oc_filled oc_worth oc_takenSet oc_isDone, hT)) d_c_placeOf_136 rfl rfl hc3 ?_
        refine mr_aload_n d_c_placeOf_137 rfl rfl ?_
        refine mr_dup d_c_placeOf_138 rfl ?_
        refine mr_get K_c 3 d_c_placeOf_139 lk_f_c_21 (by decide) rfl rfl ?_
        refine mr_iconst (v := 1) d_c_placeOf_142 mc_iconst_1 ?_
        refine mr_iadd d_c_placeOf_143 ?_
        refine mr_put (h2 := (HX x_members x_collaterals x_hasSent x_isSealed x_metered x_sealedCount bk_counts bk_needs bk_whens bk_sides bk_quantities bk_limits ag_toldLies ag_passedLies ag_words ag_vectors ag_liarOperator ag_rounds mk_entries mk_slots mk_remainders mk_blocks mk_blockBids mk_blockOffers mk_entryCount mk_blockCount (va_up cv_limits 1 (upd c_limits x2.toNatClampNeg x1)) (va_up cv_bids 1 (upd c_bids x2.toNatClampNeg 0)) (va_up cv_offers 1 (upd c_offers x2.toNatClampNeg 0)) (va_up cv_count 1 (c_count + 1)) cv_allBids cv_allOffers cv_meetingPrice cv_sureBids cv_sureOffers cv_priceBids cv_priceOffers cv_volume cv_worth oc_prices oc_volumes oc_filled oc_worth oc_takenSet oc_isDone, hT)) K_c 3 d_c_placeOf_144 lk_f_c_21 (by decide) rfl rfl rfl (Nat.le_of_ble_eq_true rfl) rfl rfl ?_
        refine mr_iload_n d_c_placeOf_147 rfl rfl ?_
        exact mr_iret d_c_placeOf_148 rfl rfl
      · refine mr_aload_n d_c_placeOf_68 rfl rfl ?_
        refine mr_get K_c 0 d_c_placeOf_69 lk_f_c_9 (by decide) rfl rfl ?_
        refine mr_iload_n d_c_placeOf_72 rfl rfl ?_
        refine mr_aload_n d_c_placeOf_73 rfl rfl ?_
        refine mr_get K_c 0 d_c_placeOf_74 lk_f_c_9 (by decide) rfl rfl ?_
        refine mr_iload_n d_c_placeOf_77 rfl rfl ?_
        refine mr_iconst (v := 1) d_c_placeOf_78 mc_iconst_1 ?_
        refine mr_isub d_c_placeOf_79 ?_
        refine mr_iald d_c_placeOf_80 rfl (fun hc4 => ?_)
        refine mr_iast (h2 := (HX x_members x_collaterals x_hasSent x_isSealed x_metered x_sealedCount bk_counts bk_needs bk_whens bk_sides bk_quantities bk_limits ag_toldLies ag_passedLies ag_words ag_vectors ag_liarOperator ag_rounds mk_entries mk_slots mk_remainders mk_blocks mk_blockBids mk_blockOffers mk_entryCount mk_blockCount (va_up cv_limits 1 (upd c_limits x3.toNatClampNeg (c_limits (x3 - 1).toNatClampNeg))) (va_up cv_bids 1 c_bids) (va_up cv_offers 1 c_offers) (va_up cv_count 1 c_count) cv_allBids cv_allOffers cv_meetingPrice cv_sureBids cv_sureOffers cv_priceBids cv_priceOffers cv_volume cv_worth oc_prices oc_volumes oc_filled oc_worth oc_takenSet oc_isDone, hT)) d_c_placeOf_81 rfl rfl (fun hc5 => ?_)
        refine mr_aload_n d_c_placeOf_82 rfl rfl ?_
        refine mr_get K_c 1 d_c_placeOf_83 lk_f_c_15 (by decide) rfl rfl ?_
        refine mr_iload_n d_c_placeOf_86 rfl rfl ?_
        refine mr_aload_n d_c_placeOf_87 rfl rfl ?_
        refine mr_get K_c 1 d_c_placeOf_88 lk_f_c_15 (by decide) rfl rfl ?_
        refine mr_iload_n d_c_placeOf_91 rfl rfl ?_
        refine mr_iconst (v := 1) d_c_placeOf_92 mc_iconst_1 ?_
        refine mr_isub d_c_placeOf_93 ?_
        refine mr_ialdK d_c_placeOf_94 rfl hc4 ?_
        refine mr_iastK (h2 := (HX x_members x_collaterals x_hasSent x_isSealed x_metered x_sealedCount bk_counts bk_needs bk_whens bk_sides bk_quantities bk_limits ag_toldLies ag_passedLies ag_words ag_vectors ag_liarOperator ag_rounds mk_entries mk_slots mk_remainders mk_blocks mk_blockBids mk_blockOffers mk_entryCount mk_blockCount (va_up cv_limits 1 (upd c_limits x3.toNatClampNeg (c_limits (x3 - 1).toNatClampNeg))) (va_up cv_bids 1 (upd c_bids x3.toNatClampNeg (c_bids (x3 - 1).toNatClampNeg))) (va_up cv_offers 1 c_offers) (va_up cv_count 1 c_count) cv_allBids cv_allOffers cv_meetingPrice cv_sureBids cv_sureOffers cv_priceBids cv_priceOffers cv_volume cv_worth oc_prices oc_volumes oc_filled oc_worth oc_takenSet oc_isDone, hT)) d_c_placeOf_95 rfl rfl hc5 ?_
        refine mr_aload_n d_c_placeOf_96 rfl rfl ?_
        refine mr_get K_c 2 d_c_placeOf_97 lk_f_c_18 (by decide) rfl rfl ?_
        refine mr_iload_n d_c_placeOf_100 rfl rfl ?_
        refine mr_aload_n d_c_placeOf_101 rfl rfl ?_
        refine mr_get K_c 2 d_c_placeOf_102 lk_f_c_18 (by decide) rfl rfl ?_
        refine mr_iload_n d_c_placeOf_105 rfl rfl ?_
        refine mr_iconst (v := 1) d_c_placeOf_106 mc_iconst_1 ?_
        refine mr_isub d_c_placeOf_107 ?_
        refine mr_ialdK d_c_placeOf_108 rfl hc4 ?_
        refine mr_iastK (h2 := (HX x_members x_collaterals x_hasSent x_isSealed x_metered x_sealedCount bk_counts bk_needs bk_whens bk_sides bk_quantities bk_limits ag_toldLies ag_passedLies ag_words ag_vectors ag_liarOperator ag_rounds mk_entries mk_slots mk_remainders mk_blocks mk_blockBids mk_blockOffers mk_entryCount mk_blockCount (va_up cv_limits 1 (upd c_limits x3.toNatClampNeg (c_limits (x3 - 1).toNatClampNeg))) (va_up cv_bids 1 (upd c_bids x3.toNatClampNeg (c_bids (x3 - 1).toNatClampNeg))) (va_up cv_offers 1 (upd c_offers x3.toNatClampNeg (c_offers (x3 - 1).toNatClampNeg))) (va_up cv_count 1 c_count) cv_allBids cv_allOffers cv_meetingPrice cv_sureBids cv_sureOffers cv_priceBids cv_priceOffers cv_volume cv_worth oc_prices oc_volumes oc_filled oc_worth oc_takenSet oc_isDone, hT)) d_c_placeOf_109 rfl rfl hc5 ?_
        refine mr_iinc (v := (x3 + (-1))) (lv' := [(3, .int (x3 + (-1))), (0, .ref 23), (1, .int x1), (2, .int x2)]) d_c_placeOf_110 rfl rfl (by decide) rfl ?_
        refine mr_goto (tgt := 63) d_c_placeOf_113 (by decide) ?_
        refine mr_sub (lv' := [(0, .ref 23), (1, .int x1), (2, .int x2), (3, .int (x3 + (-1)))]) [1, 2, 3, 0] rfl ?_
        exact ih _ _ _ _ _ _
  have w_b44 : ∀ (c_limits : Nat → Int32) (c_bids : Nat → Int32) (c_offers : Nat → Int32) (c_count : Int32) (x2 : Int32), mz_A g M_c_placeOf (mz_rm 0) (fun r => (0, some (.int r.1), ex, (HX x_members x_collaterals x_hasSent x_isSealed x_metered x_sealedCount bk_counts bk_needs bk_whens bk_sides bk_quantities bk_limits ag_toldLies ag_passedLies ag_words ag_vectors ag_liarOperator ag_rounds mk_entries mk_slots mk_remainders mk_blocks mk_blockBids mk_blockOffers mk_entryCount mk_blockCount (va_up cv_limits 1 r.2.1) (va_up cv_bids 1 r.2.2.1) (va_up cv_offers 1 r.2.2.2.1) (va_up cv_count 1 r.2.2.2.2) cv_allBids cv_allOffers cv_meetingPrice cv_sureBids cv_sureOffers cv_priceBids cv_priceOffers cv_volume cv_worth oc_prices oc_volumes oc_filled oc_worth oc_takenSet oc_isDone, hT), 0, 0)) 44 [(0, .ref 23), (1, .int x1), (2, .int x2)] [] ex (HX x_members x_collaterals x_hasSent x_isSealed x_metered x_sealedCount bk_counts bk_needs bk_whens bk_sides bk_quantities bk_limits ag_toldLies ag_passedLies ag_words ag_vectors ag_liarOperator ag_rounds mk_entries mk_slots mk_remainders mk_blocks mk_blockBids mk_blockOffers mk_entryCount mk_blockCount (va_up cv_limits 1 c_limits) (va_up cv_bids 1 c_bids) (va_up cv_offers 1 c_offers) (va_up cv_count 1 c_count) cv_allBids cv_allOffers cv_meetingPrice cv_sureBids cv_sureOffers cv_priceBids cv_priceOffers cv_volume cv_worth oc_prices oc_volumes oc_filled oc_worth oc_takenSet oc_isDone, hT) 0 0 (f_c_placeOf_b44 x1 c_limits c_bids c_offers c_count x2) := by
    intro  c_limits c_bids c_offers c_count x2
    rw [f_c_placeOf_b44]
    refine mr_aload_n d_c_placeOf_44 rfl rfl ?_
    refine mr_get K_c 3 d_c_placeOf_45 lk_f_c_21 (by decide) rfl rfl ?_
    refine mr_aload_n d_c_placeOf_48 rfl rfl ?_
    refine mr_get K_c 0 d_c_placeOf_49 lk_f_c_9 (by decide) rfl rfl ?_
    refine mr_alen (v0 := 60) d_c_placeOf_52 (fun _ => rfl) rfl (show Int32.ofNat 60 = 60 by decide) ?_
    refine mr_icmp_lt (tgt := 58) d_c_placeOf_53 (by decide) ?_ ?_
    · refine mr_aload_n d_c_placeOf_58 rfl rfl ?_
      refine mr_get K_c 3 d_c_placeOf_59 lk_f_c_21 (by decide) rfl rfl ?_
      refine mr_istore_n (lv' := [(3, .int c_count), (0, .ref 23), (1, .int x1), (2, .int x2)]) d_c_placeOf_62 rfl (by decide) rfl ?_
      refine mr_sub (lv' := [(0, .ref 23), (1, .int x1), (2, .int x2), (3, .int c_count)]) [1, 2, 3, 0] rfl ?_
      exact w_L63 1000 _ _ _ _ _ _
    · refine mr_iload_n d_c_placeOf_56 rfl rfl ?_
      exact mr_iret d_c_placeOf_57 rfl rfl
  have w_b26 : ∀ (c_limits : Nat → Int32) (c_bids : Nat → Int32) (c_offers : Nat → Int32) (c_count : Int32) (x2 : Int32), mz_A g M_c_placeOf (mz_rm 0) (fun r => (0, some (.int r.1), ex, (HX x_members x_collaterals x_hasSent x_isSealed x_metered x_sealedCount bk_counts bk_needs bk_whens bk_sides bk_quantities bk_limits ag_toldLies ag_passedLies ag_words ag_vectors ag_liarOperator ag_rounds mk_entries mk_slots mk_remainders mk_blocks mk_blockBids mk_blockOffers mk_entryCount mk_blockCount (va_up cv_limits 1 r.2.1) (va_up cv_bids 1 r.2.2.1) (va_up cv_offers 1 r.2.2.2.1) (va_up cv_count 1 r.2.2.2.2) cv_allBids cv_allOffers cv_meetingPrice cv_sureBids cv_sureOffers cv_priceBids cv_priceOffers cv_volume cv_worth oc_prices oc_volumes oc_filled oc_worth oc_takenSet oc_isDone, hT), 0, 0)) 26 [(0, .ref 23), (1, .int x1), (2, .int x2)] [] ex (HX x_members x_collaterals x_hasSent x_isSealed x_metered x_sealedCount bk_counts bk_needs bk_whens bk_sides bk_quantities bk_limits ag_toldLies ag_passedLies ag_words ag_vectors ag_liarOperator ag_rounds mk_entries mk_slots mk_remainders mk_blocks mk_blockBids mk_blockOffers mk_entryCount mk_blockCount (va_up cv_limits 1 c_limits) (va_up cv_bids 1 c_bids) (va_up cv_offers 1 c_offers) (va_up cv_count 1 c_count) cv_allBids cv_allOffers cv_meetingPrice cv_sureBids cv_sureOffers cv_priceBids cv_priceOffers cv_volume cv_worth oc_prices oc_volumes oc_filled oc_worth oc_takenSet oc_isDone, hT) 0 0 (f_c_placeOf_b26 x1 c_limits c_bids c_offers c_count x2) := by
    intro  c_limits c_bids c_offers c_count x2
    rw [f_c_placeOf_b26]
    refine mr_iload_n d_c_placeOf_26 rfl rfl ?_
    refine mr_aload_n d_c_placeOf_27 rfl rfl ?_
    refine mr_get K_c 3 d_c_placeOf_28 lk_f_c_21 (by decide) rfl rfl ?_
    refine mr_icmp_ge (tgt := 44) d_c_placeOf_31 (by decide) ?_ ?_
    · exact w_b44 _ _ _ _ _
    · refine mr_aload_n d_c_placeOf_34 rfl rfl ?_
      refine mr_get K_c 0 d_c_placeOf_35 lk_f_c_9 (by decide) rfl rfl ?_
      refine mr_iload_n d_c_placeOf_38 rfl rfl ?_
      refine mr_iald d_c_placeOf_39 rfl (fun hc2 => ?_)
      refine mr_iload_n d_c_placeOf_40 rfl rfl ?_
      refine mr_icmp_eq (tgt := 56) d_c_placeOf_41 (by decide) ?_ ?_
      · refine mr_iload_n d_c_placeOf_56 rfl rfl ?_
        exact mr_iret d_c_placeOf_57 rfl rfl
      · exact w_b44 _ _ _ _ _
  have w_L2 : ∀ (n : Nat) (c_limits : Nat → Int32) (c_bids : Nat → Int32) (c_offers : Nat → Int32) (c_count : Int32) (x2 : Int32), mz_A g M_c_placeOf (mz_rm 0) (fun r => (0, some (.int r.1), ex, (HX x_members x_collaterals x_hasSent x_isSealed x_metered x_sealedCount bk_counts bk_needs bk_whens bk_sides bk_quantities bk_limits ag_toldLies ag_passedLies ag_words ag_vectors ag_liarOperator ag_rounds mk_entries mk_slots mk_remainders mk_blocks mk_blockBids mk_blockOffers mk_entryCount mk_blockCount (va_up cv_limits 1 r.2.1) (va_up cv_bids 1 r.2.2.1) (va_up cv_offers 1 r.2.2.2.1) (va_up cv_count 1 r.2.2.2.2) cv_allBids cv_allOffers cv_meetingPrice cv_sureBids cv_sureOffers cv_priceBids cv_priceOffers cv_volume cv_worth oc_prices oc_volumes oc_filled oc_worth oc_takenSet oc_isDone, hT), 0, 0)) 2 [(0, .ref 23), (1, .int x1), (2, .int x2)] [] ex (HX x_members x_collaterals x_hasSent x_isSealed x_metered x_sealedCount bk_counts bk_needs bk_whens bk_sides bk_quantities bk_limits ag_toldLies ag_passedLies ag_words ag_vectors ag_liarOperator ag_rounds mk_entries mk_slots mk_remainders mk_blocks mk_blockBids mk_blockOffers mk_entryCount mk_blockCount (va_up cv_limits 1 c_limits) (va_up cv_bids 1 c_bids) (va_up cv_offers 1 c_offers) (va_up cv_count 1 c_count) cv_allBids cv_allOffers cv_meetingPrice cv_sureBids cv_sureOffers cv_priceBids cv_priceOffers cv_volume cv_worth oc_prices oc_volumes oc_filled oc_worth oc_takenSet oc_isDone, hT) 0 0 (f_c_placeOf_L2 x1 n c_limits c_bids c_offers c_count x2) := by
    intro n
    induction n with
    | zero => intro c_limits c_bids c_offers c_count x2; exact mr_none
    | succ n ih =>
      intro c_limits c_bids c_offers c_count x2
      rw [f_c_placeOf_L2]
      refine mr_iload_n d_c_placeOf_2 rfl rfl ?_
      refine mr_aload_n d_c_placeOf_3 rfl rfl ?_
      refine mr_get K_c 3 d_c_placeOf_4 lk_f_c_21 (by decide) rfl rfl ?_
      refine mr_icmp_ge (tgt := 26) d_c_placeOf_7 (by decide) ?_ ?_
      · exact w_b26 _ _ _ _ _
      · refine mr_aload_n d_c_placeOf_10 rfl rfl ?_
        refine mr_get K_c 0 d_c_placeOf_11 lk_f_c_9 (by decide) rfl rfl ?_
        refine mr_iload_n d_c_placeOf_14 rfl rfl ?_
        refine mr_iald d_c_placeOf_15 rfl (fun hc1 => ?_)
        refine mr_iload_n d_c_placeOf_16 rfl rfl ?_
        refine mr_icmp_ge (tgt := 26) d_c_placeOf_17 (by decide) ?_ ?_
        · exact w_b26 _ _ _ _ _
        · refine mr_iinc (v := (x2 + 1)) (lv' := [(2, .int (x2 + 1)), (0, .ref 23), (1, .int x1)]) d_c_placeOf_20 rfl rfl (by decide) rfl ?_
          refine mr_goto (tgt := 2) d_c_placeOf_23 (by decide) ?_
          refine mr_sub (lv' := [(0, .ref 23), (1, .int x1), (2, .int (x2 + 1))]) [1, 2, 0] rfl ?_
          exact ih _ _ _ _ _
  refine mz_of (by decide) (Nat.le_of_ble_eq_true rfl) ?_
  rw [f_c_placeOf]
  show mz_A g M_c_placeOf (mz_rm 0) _ 0 [(0, .ref 23), (1, .int x1)] [] ex (HX x_members x_collaterals x_hasSent x_isSealed x_metered x_sealedCount bk_counts bk_needs bk_whens bk_sides bk_quantities bk_limits ag_toldLies ag_passedLies ag_words ag_vectors ag_liarOperator ag_rounds mk_entries mk_slots mk_remainders mk_blocks mk_blockBids mk_blockOffers mk_entryCount mk_blockCount cv_limits cv_bids cv_offers cv_count cv_allBids cv_allOffers cv_meetingPrice cv_sureBids cv_sureOffers cv_priceBids cv_priceOffers cv_volume cv_worth oc_prices oc_volumes oc_filled oc_worth oc_takenSet oc_isDone, hT) 0 0 _
  refine mr_iconst (v := 0) d_c_placeOf_0 mc_iconst_0 ?_
  refine mr_istore_n (lv' := [(2, .int 0), (0, .ref 23), (1, .int x1)]) d_c_placeOf_1 rfl (by decide) rfl ?_
  refine mr_sub (lv' := [(0, .ref 23), (1, .int x1), (2, .int 0)]) [1, 2, 0] rfl ?_
  exact w_L2 1000 _ _ _ _ _
set_option maxRecDepth 100000 in
set_option maxHeartbeats 4000000 in
theorem e_c_placeOf_2 {g : mz_G} {ex : Bool} {hT : List mz_E} {x_members : Int32} {x_collaterals : Nat → Int32} {x_hasSent : Nat → Int32} {x_isSealed : Nat → Int32} {x_metered : Nat → Int32} {x_sealedCount : Int32} {bk_counts : Nat → Int32} {bk_needs : Nat → Int64} {bk_whens : Nat → Int32} {bk_sides : Nat → Int32} {bk_quantities : Nat → Int32} {bk_limits : Nat → Int32} {ag_toldLies : Nat → Int32} {ag_passedLies : Nat → Int32} {ag_words : Nat → Int32} {ag_vectors : Nat → Int32} {ag_liarOperator : Int32} {ag_rounds : Int32} {mk_entries : Nat → Int32} {mk_slots : Nat → Int32} {mk_remainders : Nat → Int32} {mk_blocks : Nat → Int32} {mk_blockBids : Nat → Int32} {mk_blockOffers : Nat → Int32} {mk_entryCount : Int32} {mk_blockCount : Int32} {cv_limits : Nat → Nat → Int32} {cv_bids : Nat → Nat → Int32} {cv_offers : Nat → Nat → Int32} {cv_count : Nat → Int32} {cv_allBids : Nat → Int32} {cv_allOffers : Nat → Int32} {cv_meetingPrice : Nat → Int32} {cv_sureBids : Nat → Int32} {cv_sureOffers : Nat → Int32} {cv_priceBids : Nat → Int32} {cv_priceOffers : Nat → Int32} {cv_volume : Nat → Int32} {cv_worth : Nat → Int64} {oc_prices : Nat → Nat → Int32} {oc_volumes : Nat → Nat → Int32} {oc_filled : Nat → Nat → Int32} {oc_worth : Nat → Int64} {oc_takenSet : Nat → Int32} {oc_isDone : Nat → Int32} {x1 : Int32} : mz_M g M_c_placeOf 0 [.ref 27, .int x1] ex (HX x_members x_collaterals x_hasSent x_isSealed x_metered x_sealedCount bk_counts bk_needs bk_whens bk_sides bk_quantities bk_limits ag_toldLies ag_passedLies ag_words ag_vectors ag_liarOperator ag_rounds mk_entries mk_slots mk_remainders mk_blocks mk_blockBids mk_blockOffers mk_entryCount mk_blockCount cv_limits cv_bids cv_offers cv_count cv_allBids cv_allOffers cv_meetingPrice cv_sureBids cv_sureOffers cv_priceBids cv_priceOffers cv_volume cv_worth oc_prices oc_volumes oc_filled oc_worth oc_takenSet oc_isDone, hT) (f_c_placeOf (cv_limits 2) (cv_bids 2) (cv_offers 2) (cv_count 2) x1) (fun r => (0, some (.int r.1), ex, (HX x_members x_collaterals x_hasSent x_isSealed x_metered x_sealedCount bk_counts bk_needs bk_whens bk_sides bk_quantities bk_limits ag_toldLies ag_passedLies ag_words ag_vectors ag_liarOperator ag_rounds mk_entries mk_slots mk_remainders mk_blocks mk_blockBids mk_blockOffers mk_entryCount mk_blockCount (va_up cv_limits 2 r.2.1) (va_up cv_bids 2 r.2.2.1) (va_up cv_offers 2 r.2.2.2.1) (va_up cv_count 2 r.2.2.2.2) cv_allBids cv_allOffers cv_meetingPrice cv_sureBids cv_sureOffers cv_priceBids cv_priceOffers cv_volume cv_worth oc_prices oc_volumes oc_filled oc_worth oc_takenSet oc_isDone, hT), 0, 0)) := by
  have w_L63 : ∀ (n : Nat) (c_limits : Nat → Int32) (c_bids : Nat → Int32) (c_offers : Nat → Int32) (c_count : Int32) (x2 : Int32) (x3 : Int32), mz_A g M_c_placeOf (mz_rm 0) (fun r => (0, some (.int r.1), ex, (HX x_members x_collaterals x_hasSent x_isSealed x_metered x_sealedCount bk_counts bk_needs bk_whens bk_sides bk_quantities bk_limits ag_toldLies ag_passedLies ag_words ag_vectors ag_liarOperator ag_rounds mk_entries mk_slots mk_remainders mk_blocks mk_blockBids mk_blockOffers mk_entryCount mk_blockCount (va_up cv_limits 2 r.2.1) (va_up cv_bids 2 r.2.2.1) (va_up cv_offers 2 r.2.2.2.1) (va_up cv_count 2 r.2.2.2.2) cv_allBids cv_allOffers cv_meetingPrice cv_sureBids cv_sureOffers cv_priceBids cv_priceOffers cv_volume cv_worth oc_prices oc_volumes oc_filled oc_worth oc_takenSet oc_isDone, hT), 0, 0)) 63 [(0, .ref 27), (1, .int x1), (2, .int x2), (3, .int x3)] [] ex (HX x_members x_collaterals x_hasSent x_isSealed x_metered x_sealedCount bk_counts bk_needs bk_whens bk_sides bk_quantities bk_limits ag_toldLies ag_passedLies ag_words ag_vectors ag_liarOperator ag_rounds mk_entries mk_slots mk_remainders mk_blocks mk_blockBids mk_blockOffers mk_entryCount mk_blockCount (va_up cv_limits 2 c_limits) (va_up cv_bids 2 c_bids) (va_up cv_offers 2 c_offers) (va_up cv_count 2 c_count) cv_allBids cv_allOffers cv_meetingPrice cv_sureBids cv_sureOffers cv_priceBids cv_priceOffers cv_volume cv_worth oc_prices oc_volumes oc_filled oc_worth oc_takenSet oc_isDone, hT) 0 0 (f_c_placeOf_L63 x1 n c_limits c_bids c_offers c_count x2 x3) := by
    intro n
    induction n with
    | zero => intro c_limits c_bids c_offers c_count x2 x3; exact mr_none
    | succ n ih =>
      intro c_limits c_bids c_offers c_count x2 x3
      rw [f_c_placeOf_L63]
      refine mr_iload_n d_c_placeOf_63 rfl rfl ?_
      refine mr_iload_n d_c_placeOf_64 rfl rfl ?_
      refine mr_icmp_le (tgt := 116) d_c_placeOf_65 (by decide) ?_ ?_
      · refine mr_aload_n d_c_placeOf_116 rfl rfl ?_
        refine mr_get K_c 0 d_c_placeOf_117 lk_f_c_9 (by decide) rfl rfl ?_
        refine mr_iload_n d_c_placeOf_120 rfl rfl ?_
        refine mr_iload_n d_c_placeOf_121 rfl rfl ?_
        refine mr_iast (h2 := (HX x_members x_collaterals x_hasSent x_isSealed x_metered x_sealedCount bk_counts bk_needs bk_whens bk_sides bk_quantities bk_limits ag_toldLies ag_passedLies ag_words ag_vectors ag_liarOperator ag_rounds mk_entries mk_slots mk_remainders mk_blocks mk_blockBids mk_blockOffers mk_entryCount mk_blockCount (va_up cv_limits 2 (upd c_limits x2.toNatClampNeg x1)) (va_up cv_bids 2 c_bids) (va_up cv_offers 2 c_offers) (va_up cv_count 2 c_count) cv_allBids cv_allOffers cv_meetingPrice cv_sureBids cv_sureOffers cv_priceBids cv_priceOffers cv_volume cv_worth oc_prices oc_volumes oc_filled oc_worth oc_takenSet oc_isDone, hT)) d_c_placeOf_122 rfl rfl (fun hc3 => ?_)
        refine mr_aload_n d_c_placeOf_123 rfl rfl ?_
        refine mr_get K_c 1 d_c_placeOf_124 lk_f_c_15 (by decide) rfl rfl ?_
        refine mr_iload_n d_c_placeOf_127 rfl rfl ?_
        refine mr_iconst (v := 0) d_c_placeOf_128 mc_iconst_0 ?_
        refine mr_iastK (h2 := (HX x_members x_collaterals x_hasSent x_isSealed x_metered x_sealedCount bk_counts bk_needs bk_whens bk_sides bk_quantities bk_limits ag_toldLies ag_passedLies ag_words ag_vectors ag_liarOperator ag_rounds mk_entries mk_slots mk_remainders mk_blocks mk_blockBids mk_blockOffers mk_entryCount mk_blockCount (va_up cv_limits 2 (upd c_limits x2.toNatClampNeg x1)) (va_up cv_bids 2 (upd c_bids x2.toNatClampNeg 0)) (va_up cv_offers 2 c_offers) (va_up cv_count 2 c_count) cv_allBids cv_allOffers cv_meetingPrice cv_sureBids cv_sureOffers cv_priceBids cv_priceOffers cv_volume cv_worth oc_prices oc_volumes oc_filled oc_worth oc_takenSet oc_isDone, hT)) d_c_placeOf_129 rfl rfl hc3 ?_
        refine mr_aload_n d_c_placeOf_130 rfl rfl ?_
        refine mr_get K_c 2 d_c_placeOf_131 lk_f_c_18 (by decide) rfl rfl ?_
        refine mr_iload_n d_c_placeOf_134 rfl rfl ?_
        refine mr_iconst (v := 0) d_c_placeOf_135 mc_iconst_0 ?_
        refine mr_iastK (h2 := (HX x_members x_collaterals x_hasSent x_isSealed x_metered x_sealedCount bk_counts bk_needs bk_whens bk_sides bk_quantities bk_limits ag_toldLies ag_passedLies ag_words ag_vectors ag_liarOperator ag_rounds mk_entries mk_slots mk_remainders mk_blocks mk_blockBids mk_blockOffers mk_entryCount mk_blockCount (va_up cv_limits 2 (upd c_limits x2.toNatClampNeg x1)) (va_up cv_bids 2 (upd c_bids x2.toNatClampNeg 0)) (va_up cv_offers 2 (upd c_offers x2.toNatClampNeg 0)) (va_up cv_count 2 c_count) cv_allBids cv_allOffers cv_meetingPrice cv_sureBids cv_sureOffers cv_priceBids cv_priceOffers cv_volume cv_worth oc_prices oc_volumes oc_filled oc_worth oc_takenSet oc_isDone, hT)) d_c_placeOf_136 rfl rfl hc3 ?_
        refine mr_aload_n d_c_placeOf_137 rfl rfl ?_
        refine mr_dup d_c_placeOf_138 rfl ?_
        refine mr_get K_c 3 d_c_placeOf_139 lk_f_c_21 (by decide) rfl rfl ?_
        refine mr_iconst (v := 1) d_c_placeOf_142 mc_iconst_1 ?_
        refine mr_iadd d_c_placeOf_143 ?_
        refine mr_put (h2 := (HX x_members x_collaterals x_hasSent x_isSealed x_metered x_sealedCount bk_counts bk_needs bk_whens bk_sides bk_quantities bk_limits ag_toldLies ag_passedLies ag_words ag_vectors ag_liarOperator ag_rounds mk_entries mk_slots mk_remainders mk_blocks mk_blockBids mk_blockOffers mk_entryCount mk_blockCount (va_up cv_limits 2 (upd c_limits x2.toNatClampNeg x1)) (va_up cv_bids 2 (upd c_bids x2.toNatClampNeg 0)) (va_up cv_offers 2 (upd c_offers x2.toNatClampNeg 0)) (va_up cv_count 2 (c_count + 1)) cv_allBids cv_allOffers cv_meetingPrice cv_sureBids cv_sureOffers cv_priceBids cv_priceOffers cv_volume cv_worth oc_prices oc_volumes oc_filled oc_worth oc_takenSet oc_isDone, hT)) K_c 3 d_c_placeOf_144 lk_f_c_21 (by decide) rfl rfl rfl (Nat.le_of_ble_eq_true rfl) rfl rfl ?_
        refine mr_iload_n d_c_placeOf_147 rfl rfl ?_
        exact mr_iret d_c_placeOf_148 rfl rfl
      · refine mr_aload_n d_c_placeOf_68 rfl rfl ?_
        refine mr_get K_c 0 d_c_placeOf_69 lk_f_c_9 (by decide) rfl rfl ?_
        refine mr_iload_n d_c_placeOf_72 rfl rfl ?_
        refine mr_aload_n d_c_placeOf_73 rfl rfl ?_
        refine mr_get K_c 0 d_c_placeOf_74 lk_f_c_9 (by decide) rfl rfl ?_
        refine mr_iload_n d_c_placeOf_77 rfl rfl ?_
        refine mr_iconst (v := 1) d_c_placeOf_78 mc_iconst_1 ?_
        refine mr_isub d_c_placeOf_79 ?_
        refine mr_iald d_c_placeOf_80 rfl (fun hc4 => ?_)
        refine mr_iast (h2 := (HX x_members x_collaterals x_hasSent x_isSealed x_metered x_sealedCount bk_counts bk_needs bk_whens bk_sides bk_quantities bk_limits ag_toldLies ag_passedLies ag_words ag_vectors ag_liarOperator ag_rounds mk_entries mk_slots mk_remainders mk_blocks mk_blockBids mk_blockOffers mk_entryCount mk_blockCount (va_up cv_limits 2 (upd c_limits x3.toNatClampNeg (c_limits (x3 - 1).toNatClampNeg))) (va_up cv_bids 2 c_bids) (va_up cv_offers 2 c_offers) (va_up cv_count 2 c_count) cv_allBids cv_allOffers cv_meetingPrice cv_sureBids cv_sureOffers cv_priceBids cv_priceOffers cv_volume cv_worth oc_prices oc_volumes oc_filled oc_worth oc_takenSet oc_isDone, hT)) d_c_placeOf_81 rfl rfl (fun hc5 => ?_)
        refine mr_aload_n d_c_placeOf_82 rfl rfl ?_
        refine mr_get K_c 1 d_c_placeOf_83 lk_f_c_15 (by decide) rfl rfl ?_
        refine mr_iload_n d_c_placeOf_86 rfl rfl ?_
        refine mr_aload_n d_c_placeOf_87 rfl rfl ?_
        refine mr_get K_c 1 d_c_placeOf_88 lk_f_c_15 (by decide) rfl rfl ?_
        refine mr_iload_n d_c_placeOf_91 rfl rfl ?_
        refine mr_iconst (v := 1) d_c_placeOf_92 mc_iconst_1 ?_
        refine mr_isub d_c_placeOf_93 ?_
        refine mr_ialdK d_c_placeOf_94 rfl hc4 ?_
        refine mr_iastK (h2 := (HX x_members x_collaterals x_hasSent x_isSealed x_metered x_sealedCount bk_counts bk_needs bk_whens bk_sides bk_quantities bk_limits ag_toldLies ag_passedLies ag_words ag_vectors ag_liarOperator ag_rounds mk_entries mk_slots mk_remainders mk_blocks mk_blockBids mk_blockOffers mk_entryCount mk_blockCount (va_up cv_limits 2 (upd c_limits x3.toNatClampNeg (c_limits (x3 - 1).toNatClampNeg))) (va_up cv_bids 2 (upd c_bids x3.toNatClampNeg (c_bids (x3 - 1).toNatClampNeg))) (va_up cv_offers 2 c_offers) (va_up cv_count 2 c_count) cv_allBids cv_allOffers cv_meetingPrice cv_sureBids cv_sureOffers cv_priceBids cv_priceOffers cv_volume cv_worth oc_prices oc_volumes oc_filled oc_worth oc_takenSet oc_isDone, hT)) d_c_placeOf_95 rfl rfl hc5 ?_
        refine mr_aload_n d_c_placeOf_96 rfl rfl ?_
        refine mr_get K_c 2 d_c_placeOf_97 lk_f_c_18 (by decide) rfl rfl ?_
        refine mr_iload_n d_c_placeOf_100 rfl rfl ?_
        refine mr_aload_n d_c_placeOf_101 rfl rfl ?_
        refine mr_get K_c 2 d_c_placeOf_102 lk_f_c_18 (by decide) rfl rfl ?_
        refine mr_iload_n d_c_placeOf_105 rfl rfl ?_
        refine mr_iconst (v := 1) d_c_placeOf_106 mc_iconst_1 ?_
        refine mr_isub d_c_placeOf_107 ?_
        refine mr_ialdK d_c_placeOf_108 rfl hc4 ?_
        refine mr_iastK (h2 := (HX x_members x_collaterals x_hasSent x_isSealed x_metered x_sealedCount bk_counts bk_needs bk_whens bk_sides bk_quantities bk_limits ag_toldLies ag_passedLies ag_words ag_vectors ag_liarOperator ag_rounds mk_entries mk_slots mk_remainders mk_blocks mk_blockBids mk_blockOffers mk_entryCount mk_blockCount (va_up cv_limits 2 (upd c_limits x3.toNatClampNeg (c_limits (x3 - 1).toNatClampNeg))) (va_up cv_bids 2 (upd c_bids x3.toNatClampNeg (c_bids (x3 - 1).toNatClampNeg))) (va_up cv_offers 2 (upd c_offers x3.toNatClampNeg (c_offers (x3 - 1).toNatClampNeg))) (va_up cv_count 2 c_count) cv_allBids cv_allOffers cv_meetingPrice cv_sureBids cv_sureOffers cv_priceBids cv_priceOffers cv_volume cv_worth oc_prices oc_volumes oc_filled oc_worth oc_takenSet oc_isDone, hT)) d_c_placeOf_109 rfl rfl hc5 ?_
        refine mr_iinc (v := (x3 + (-1))) (lv' := [(3, .int (x3 + (-1))), (0, .ref 27), (1, .int x1), (2, .int x2)]) d_c_placeOf_110 rfl rfl (by decide) rfl ?_
        refine mr_goto (tgt := 63) d_c_placeOf_113 (by decide) ?_
        refine mr_sub (lv' := [(0, .ref 27), (1, .int x1), (2, .int x2), (3, .int (x3 + (-1)))]) [1, 2, 3, 0] rfl ?_
        exact ih _ _ _ _ _ _
  have w_b44 : ∀ (c_limits : Nat → Int32) (c_bids : Nat → Int32) (c_offers : Nat → Int32) (c_count : Int32) (x2 : Int32), mz_A g M_c_placeOf (mz_rm 0) (fun r => (0, some (.int r.1), ex, (HX x_members x_collaterals x_hasSent x_isSealed x_metered x_sealedCount bk_counts bk_needs bk_whens bk_sides bk_quantities bk_limits ag_toldLies ag_passedLies ag_words ag_vectors ag_liarOperator ag_rounds mk_entries mk_slots mk_remainders mk_blocks mk_blockBids mk_blockOffers mk_entryCount mk_blockCount (va_up cv_limits 2 r.2.1) (va_up cv_bids 2 r.2.2.1) (va_up cv_offers 2 r.2.2.2.1) (va_up cv_count 2 r.2.2.2.2) cv_allBids cv_allOffers cv_meetingPrice cv_sureBids cv_sureOffers cv_priceBids cv_priceOffers cv_volume cv_worth oc_prices oc_volumes oc_filled oc_worth oc_takenSet oc_isDone, hT), 0, 0)) 44 [(0, .ref 27), (1, .int x1), (2, .int x2)] [] ex (HX x_members x_collaterals x_hasSent x_isSealed x_metered x_sealedCount bk_counts bk_needs bk_whens bk_sides bk_quantities bk_limits ag_toldLies ag_passedLies ag_words ag_vectors ag_liarOperator ag_rounds mk_entries mk_slots mk_remainders mk_blocks mk_blockBids mk_blockOffers mk_entryCount mk_blockCount (va_up cv_limits 2 c_limits) (va_up cv_bids 2 c_bids) (va_up cv_offers 2 c_offers) (va_up cv_count 2 c_count) cv_allBids cv_allOffers cv_meetingPrice cv_sureBids cv_sureOffers cv_priceBids cv_priceOffers cv_volume cv_worth oc_prices oc_volumes oc_filled oc_worth oc_takenSet oc_isDone, hT) 0 0 (f_c_placeOf_b44 x1 c_limits c_bids c_offers c_count x2) := by
    intro  c_limits c_bids c_offers c_count x2
    rw [f_c_placeOf_b44]
    refine mr_aload_n d_c_placeOf_44 rfl rfl ?_
    refine mr_get K_c 3 d_c_placeOf_45 lk_f_c_21 (by decide) rfl rfl ?_
    refine mr_aload_n d_c_placeOf_48 rfl rfl ?_
    refine mr_get K_c 0 d_c_placeOf_49 lk_f_c_9 (by decide) rfl rfl ?_
    refine mr_alen (v0 := 60) d_c_placeOf_52 (fun _ => rfl) rfl (show Int32.ofNat 60 = 60 by decide) ?_
    refine mr_icmp_lt (tgt := 58) d_c_placeOf_53 (by decide) ?_ ?_
    · refine mr_aload_n d_c_placeOf_58 rfl rfl ?_
      refine mr_get K_c 3 d_c_placeOf_59 lk_f_c_21 (by decide) rfl rfl ?_
      refine mr_istore_n (lv' := [(3, .int c_count), (0, .ref 27), (1, .int x1), (2, .int x2)]) d_c_placeOf_62 rfl (by decide) rfl ?_
      refine mr_sub (lv' := [(0, .ref 27), (1, .int x1), (2, .int x2), (3, .int c_count)]) [1, 2, 3, 0] rfl ?_
      exact w_L63 1000 _ _ _ _ _ _
    · refine mr_iload_n d_c_placeOf_56 rfl rfl ?_
      exact mr_iret d_c_placeOf_57 rfl rfl
  have w_b26 : ∀ (c_limits : Nat → Int32) (c_bids : Nat → Int32) (c_offers : Nat → Int32) (c_count : Int32) (x2 : Int32), mz_A g M_c_placeOf (mz_rm 0) (fun r => (0, some (.int r.1), ex, (HX x_members x_collaterals x_hasSent x_isSealed x_metered x_sealedCount bk_counts bk_needs bk_whens bk_sides bk_quantities bk_limits ag_toldLies ag_passedLies ag_words ag_vectors ag_liarOperator ag_rounds mk_entries mk_slots mk_remainders mk_blocks mk_blockBids mk_blockOffers mk_entryCount mk_blockCount (va_up cv_limits 2 r.2.1) (va_up cv_bids 2 r.2.2.1) (va_up cv_offers 2 r.2.2.2.1) (va_up cv_count 2 r.2.2.2.2) cv_allBids cv_allOffers cv_meetingPrice cv_sureBids cv_sureOffers cv_priceBids cv_priceOffers cv_volume cv_worth oc_prices oc_volumes oc_filled oc_worth oc_takenSet oc_isDone, hT), 0, 0)) 26 [(0, .ref 27), (1, .int x1), (2, .int x2)] [] ex (HX x_members x_collaterals x_hasSent x_isSealed x_metered x_sealedCount bk_counts bk_needs bk_whens bk_sides bk_quantities bk_limits ag_toldLies ag_passedLies ag_words ag_vectors ag_liarOperator ag_rounds mk_entries mk_slots mk_remainders mk_blocks mk_blockBids mk_blockOffers mk_entryCount mk_blockCount (va_up cv_limits 2 c_limits) (va_up cv_bids 2 c_bids) (va_up cv_offers 2 c_offers) (va_up cv_count 2 c_count) cv_allBids cv_allOffers cv_meetingPrice cv_sureBids cv_sureOffers cv_priceBids cv_priceOffers cv_volume cv_worth oc_prices oc_volumes oc_filled oc_worth oc_takenSet oc_isDone, hT) 0 0 (f_c_placeOf_b26 x1 c_limits c_bids c_offers c_count x2) := by
    intro  c_limits c_bids c_offers c_count x2
    rw [f_c_placeOf_b26]
    refine mr_iload_n d_c_placeOf_26 rfl rfl ?_
    refine mr_aload_n d_c_placeOf_27 rfl rfl ?_
    refine mr_get K_c 3 d_c_placeOf_28 lk_f_c_21 (by decide) rfl rfl ?_
    refine mr_icmp_ge (tgt := 44) d_c_placeOf_31 (by decide) ?_ ?_
    · exact w_b44 _ _ _ _ _
    · refine mr_aload_n d_c_placeOf_34 rfl rfl ?_
      refine mr_get K_c 0 d_c_placeOf_35 lk_f_c_9 (by decide) rfl rfl ?_
      refine mr_iload_n d_c_placeOf_38 rfl rfl ?_
      refine mr_iald d_c_placeOf_39 rfl (fun hc2 => ?_)
      refine mr_iload_n d_c_placeOf_40 rfl rfl ?_
      refine mr_icmp_eq (tgt := 56) d_c_placeOf_41 (by decide) ?_ ?_
      · refine mr_iload_n d_c_placeOf_56 rfl rfl ?_
        exact mr_iret d_c_placeOf_57 rfl rfl
      · exact w_b44 _ _ _ _ _
  have w_L2 : ∀ (n : Nat) (c_limits : Nat → Int32) (c_bids : Nat → Int32) (c_offers : Nat → Int32) (c_count : Int32) (x2 : Int32), mz_A g M_c_placeOf (mz_rm 0) (fun r => (0, some (.int r.1), ex, (HX x_members x_collaterals x_hasSent x_isSealed x_metered x_sealedCount bk_counts bk_needs bk_whens bk_sides bk_quantities bk_limits ag_toldLies ag_passedLies ag_words ag_vectors ag_liarOperator ag_rounds mk_entries mk_slots mk_remainders mk_blocks mk_blockBids mk_blockOffers mk_entryCount mk_blockCount (va_up cv_limits 2 r.2.1) (va_up cv_bids 2 r.2.2.1) (va_up cv_offers 2 r.2.2.2.1) (va_up cv_count 2 r.2.2.2.2) cv_allBids cv_allOffers cv_meetingPrice cv_sureBids cv_sureOffers cv_priceBids cv_priceOffers cv_volume cv_worth oc_prices oc_volumes oc_filled oc_worth oc_takenSet oc_isDone, hT), 0, 0)) 2 [(0, .ref 27), (1, .int x1), (2, .int x2)] [] ex (HX x_members x_collaterals x_hasSent x_isSealed x_metered x_sealedCount bk_counts bk_needs bk_whens bk_sides bk_quantities bk_limits ag_toldLies ag_passedLies ag_words ag_vectors ag_liarOperator ag_rounds mk_entries mk_slots mk_remainders mk_blocks mk_blockBids mk_blockOffers mk_entryCount mk_blockCount (va_up cv_limits 2 c_limits) (va_up cv_bids 2 c_bids) (va_up cv_offers 2 c_offers) (va_up cv_count 2 c_count) cv_allBids cv_allOffers cv_meetingPrice cv_sureBids cv_sureOffers cv_priceBids cv_priceOffers cv_volume cv_worth oc_prices oc_volumes oc_filled oc_worth oc_takenSet oc_isDone, hT) 0 0 (f_c_placeOf_L2 x1 n c_limits c_bids c_offers c_count x2) := by
    intro n
    induction n with
    | zero => intro c_limits c_bids c_offers c_count x2; exact mr_none
    | succ n ih =>
      intro c_limits c_bids c_offers c_count x2
      rw [f_c_placeOf_L2]
      refine mr_iload_n d_c_placeOf_2 rfl rfl ?_
      refine mr_aload_n d_c_placeOf_3 rfl rfl ?_
      refine mr_get K_c 3 d_c_placeOf_4 lk_f_c_21 (by decide) rfl rfl ?_
      refine mr_icmp_ge (tgt := 26) d_c_placeOf_7 (by decide) ?_ ?_
      · exact w_b26 _ _ _ _ _
      · refine mr_aload_n d_c_placeOf_10 rfl rfl ?_
        refine mr_get K_c 0 d_c_placeOf_11 lk_f_c_9 (by decide) rfl rfl ?_
        refine mr_iload_n d_c_placeOf_14 rfl rfl ?_
        refine mr_iald d_c_placeOf_15 rfl (fun hc1 => ?_)
        refine mr_iload_n d_c_placeOf_16 rfl rfl ?_
        refine mr_icmp_ge (tgt := 26) d_c_placeOf_17 (by decide) ?_ ?_
        · exact w_b26 _ _ _ _ _
        · refine mr_iinc (v := (x2 + 1)) (lv' := [(2, .int (x2 + 1)), (0, .ref 27), (1, .int x1)]) d_c_placeOf_20 rfl rfl (by decide) rfl ?_
          refine mr_goto (tgt := 2) d_c_placeOf_23 (by decide) ?_
          refine mr_sub (lv' := [(0, .ref 27), (1, .int x1), (2, .int (x2 + 1))]) [1, 2, 0] rfl ?_
          exact ih _ _ _ _ _
  refine mz_of (by decide) (Nat.le_of_ble_eq_true rfl) ?_
  rw [f_c_placeOf]
  show mz_A g M_c_placeOf (mz_rm 0) _ 0 [(0, .ref 27), (1, .int x1)] [] ex (HX x_members x_collaterals x_hasSent x_isSealed x_metered x_sealedCount bk_counts bk_needs bk_whens bk_sides bk_quantities bk_limits ag_toldLies ag_passedLies ag_words ag_vectors ag_liarOperator ag_rounds mk_entries mk_slots mk_remainders mk_blocks mk_blockBids mk_blockOffers mk_entryCount mk_blockCount cv_limits cv_bids cv_offers cv_count cv_allBids cv_allOffers cv_meetingPrice cv_sureBids cv_sureOffers cv_priceBids cv_priceOffers cv_volume cv_worth oc_prices oc_volumes oc_filled oc_worth oc_takenSet oc_isDone, hT) 0 0 _
  refine mr_iconst (v := 0) d_c_placeOf_0 mc_iconst_0 ?_
  refine mr_istore_n (lv' := [(2, .int 0), (0, .ref 27), (1, .int x1)]) d_c_placeOf_1 rfl (by decide) rfl ?_
  refine mr_sub (lv' := [(0, .ref 27), (1, .int x1), (2, .int 0)]) [1, 2, 0] rfl ?_
  exact w_L2 1000 _ _ _ _ _
theorem e_c_placeOf {g : mz_G} {ex : Bool} {hT : List mz_E} {x_members : Int32} {x_collaterals : Nat → Int32} {x_hasSent : Nat → Int32} {x_isSealed : Nat → Int32} {x_metered : Nat → Int32} {x_sealedCount : Int32} {bk_counts : Nat → Int32} {bk_needs : Nat → Int64} {bk_whens : Nat → Int32} {bk_sides : Nat → Int32} {bk_quantities : Nat → Int32} {bk_limits : Nat → Int32} {ag_toldLies : Nat → Int32} {ag_passedLies : Nat → Int32} {ag_words : Nat → Int32} {ag_vectors : Nat → Int32} {ag_liarOperator : Int32} {ag_rounds : Int32} {mk_entries : Nat → Int32} {mk_slots : Nat → Int32} {mk_remainders : Nat → Int32} {mk_blocks : Nat → Int32} {mk_blockBids : Nat → Int32} {mk_blockOffers : Nat → Int32} {mk_entryCount : Int32} {mk_blockCount : Int32} {cv_limits : Nat → Nat → Int32} {cv_bids : Nat → Nat → Int32} {cv_offers : Nat → Nat → Int32} {cv_count : Nat → Int32} {cv_allBids : Nat → Int32} {cv_allOffers : Nat → Int32} {cv_meetingPrice : Nat → Int32} {cv_sureBids : Nat → Int32} {cv_sureOffers : Nat → Int32} {cv_priceBids : Nat → Int32} {cv_priceOffers : Nat → Int32} {cv_volume : Nat → Int32} {cv_worth : Nat → Int64} {oc_prices : Nat → Nat → Int32} {oc_volumes : Nat → Nat → Int32} {oc_filled : Nat → Nat → Int32} {oc_worth : Nat → Int64} {oc_takenSet : Nat → Int32} {oc_isDone : Nat → Int32} {x1 : Int32} {j : Nat} (hj : j < 3) : mz_M g M_c_placeOf 0 [.ref (19 + 4 * j), .int x1] ex (HX x_members x_collaterals x_hasSent x_isSealed x_metered x_sealedCount bk_counts bk_needs bk_whens bk_sides bk_quantities bk_limits ag_toldLies ag_passedLies ag_words ag_vectors ag_liarOperator ag_rounds mk_entries mk_slots mk_remainders mk_blocks mk_blockBids mk_blockOffers mk_entryCount mk_blockCount cv_limits cv_bids cv_offers cv_count cv_allBids cv_allOffers cv_meetingPrice cv_sureBids cv_sureOffers cv_priceBids cv_priceOffers cv_volume cv_worth oc_prices oc_volumes oc_filled oc_worth oc_takenSet oc_isDone, hT) (f_c_placeOf (cv_limits j) (cv_bids j) (cv_offers j) (cv_count j) x1) (fun r => (0, some (.int r.1), ex, (HX x_members x_collaterals x_hasSent x_isSealed x_metered x_sealedCount bk_counts bk_needs bk_whens bk_sides bk_quantities bk_limits ag_toldLies ag_passedLies ag_words ag_vectors ag_liarOperator ag_rounds mk_entries mk_slots mk_remainders mk_blocks mk_blockBids mk_blockOffers mk_entryCount mk_blockCount (va_up cv_limits j r.2.1) (va_up cv_bids j r.2.2.1) (va_up cv_offers j r.2.2.2.1) (va_up cv_count j r.2.2.2.2) cv_allBids cv_allOffers cv_meetingPrice cv_sureBids cv_sureOffers cv_priceBids cv_priceOffers cv_volume cv_worth oc_prices oc_volumes oc_filled oc_worth oc_takenSet oc_isDone, hT), 0, 0)) := match j, hj with | 0, _ => e_c_placeOf_0 | 1, _ => e_c_placeOf_1 | 2, _ => e_c_placeOf_2 | j + 3, h => absurd h (by omega)
set_option maxRecDepth 100000 in
set_option maxHeartbeats 4000000 in
theorem e_c_add_0 {g : mz_G} {ex : Bool} {hT : List mz_E} {x_members : Int32} {x_collaterals : Nat → Int32} {x_hasSent : Nat → Int32} {x_isSealed : Nat → Int32} {x_metered : Nat → Int32} {x_sealedCount : Int32} {bk_counts : Nat → Int32} {bk_needs : Nat → Int64} {bk_whens : Nat → Int32} {bk_sides : Nat → Int32} {bk_quantities : Nat → Int32} {bk_limits : Nat → Int32} {ag_toldLies : Nat → Int32} {ag_passedLies : Nat → Int32} {ag_words : Nat → Int32} {ag_vectors : Nat → Int32} {ag_liarOperator : Int32} {ag_rounds : Int32} {mk_entries : Nat → Int32} {mk_slots : Nat → Int32} {mk_remainders : Nat → Int32} {mk_blocks : Nat → Int32} {mk_blockBids : Nat → Int32} {mk_blockOffers : Nat → Int32} {mk_entryCount : Int32} {mk_blockCount : Int32} {cv_limits : Nat → Nat → Int32} {cv_bids : Nat → Nat → Int32} {cv_offers : Nat → Nat → Int32} {cv_count : Nat → Int32} {cv_allBids : Nat → Int32} {cv_allOffers : Nat → Int32} {cv_meetingPrice : Nat → Int32} {cv_sureBids : Nat → Int32} {cv_sureOffers : Nat → Int32} {cv_priceBids : Nat → Int32} {cv_priceOffers : Nat → Int32} {cv_volume : Nat → Int32} {cv_worth : Nat → Int64} {oc_prices : Nat → Nat → Int32} {oc_volumes : Nat → Nat → Int32} {oc_filled : Nat → Nat → Int32} {oc_worth : Nat → Int64} {oc_takenSet : Nat → Int32} {oc_isDone : Nat → Int32} {x1 : Int32} {x2 : Int32} {x3 : Int32} : mz_M g M_c_add 1 [.ref 19, .int x1, .int x2, .int x3] ex (HX x_members x_collaterals x_hasSent x_isSealed x_metered x_sealedCount bk_counts bk_needs bk_whens bk_sides bk_quantities bk_limits ag_toldLies ag_passedLies ag_words ag_vectors ag_liarOperator ag_rounds mk_entries mk_slots mk_remainders mk_blocks mk_blockBids mk_blockOffers mk_entryCount mk_blockCount cv_limits cv_bids cv_offers cv_count cv_allBids cv_allOffers cv_meetingPrice cv_sureBids cv_sureOffers cv_priceBids cv_priceOffers cv_volume cv_worth oc_prices oc_volumes oc_filled oc_worth oc_takenSet oc_isDone, hT) (f_c_add (cv_limits 0) (cv_bids 0) (cv_offers 0) (cv_count 0) (cv_allBids 0) (cv_allOffers 0) x1 x2 x3) (fun r => (0, none, ex, (HX x_members x_collaterals x_hasSent x_isSealed x_metered x_sealedCount bk_counts bk_needs bk_whens bk_sides bk_quantities bk_limits ag_toldLies ag_passedLies ag_words ag_vectors ag_liarOperator ag_rounds mk_entries mk_slots mk_remainders mk_blocks mk_blockBids mk_blockOffers mk_entryCount mk_blockCount (va_up cv_limits 0 r.1) (va_up cv_bids 0 r.2.1) (va_up cv_offers 0 r.2.2.1) (va_up cv_count 0 r.2.2.2.1) (va_up cv_allBids 0 r.2.2.2.2.1) (va_up cv_allOffers 0 r.2.2.2.2.2) cv_meetingPrice cv_sureBids cv_sureOffers cv_priceBids cv_priceOffers cv_volume cv_worth oc_prices oc_volumes oc_filled oc_worth oc_takenSet oc_isDone, hT), 0, 0)) := by
  refine mz_of (by decide) (Nat.le_of_ble_eq_true rfl) ?_
  rw [f_c_add]
  show mz_A g M_c_add (mz_rm 1) _ 0 [(0, .ref 19), (1, .int x1), (2, .int x2), (3, .int x3)] [] ex (HX x_members x_collaterals x_hasSent x_isSealed x_metered x_sealedCount bk_counts bk_needs bk_whens bk_sides bk_quantities bk_limits ag_toldLies ag_passedLies ag_words ag_vectors ag_liarOperator ag_rounds mk_entries mk_slots mk_remainders mk_blocks mk_blockBids mk_blockOffers mk_entryCount mk_blockCount cv_limits cv_bids cv_offers cv_count cv_allBids cv_allOffers cv_meetingPrice cv_sureBids cv_sureOffers cv_priceBids cv_priceOffers cv_volume cv_worth oc_prices oc_volumes oc_filled oc_worth oc_takenSet oc_isDone, hT) 0 0 _
  refine mr_aload_n d_c_add_0 rfl rfl ?_
  refine mr_iload_n d_c_add_1 rfl rfl ?_
  refine mz_go (st := []) e_c_placeOf_0 (fun _ => rfl) U_c_placeOf (mz_vV d_c_add_2 U_c_placeOf rfl lk_m_c_31 I_c_placeOf s_c_placeOf np_c_placeOf rfl rfl) (Nat.le_of_ble_eq_true rfl) (by decide) (fun r1 => ?_)
  refine mr_eq (st' := [.int r1.1]) (ex' := ex) (h2 := (HX x_members x_collaterals x_hasSent x_isSealed x_metered x_sealedCount bk_counts bk_needs bk_whens bk_sides bk_quantities bk_limits ag_toldLies ag_passedLies ag_words ag_vectors ag_liarOperator ag_rounds mk_entries mk_slots mk_remainders mk_blocks mk_blockBids mk_blockOffers mk_entryCount mk_blockCount (va_up cv_limits 0 r1.2.1) (va_up cv_bids 0 r1.2.2.1) (va_up cv_offers 0 r1.2.2.2.1) (va_up cv_count 0 r1.2.2.2.2) cv_allBids cv_allOffers cv_meetingPrice cv_sureBids cv_sureOffers cv_priceBids cv_priceOffers cv_volume cv_worth oc_prices oc_volumes oc_filled oc_worth oc_takenSet oc_isDone, hT)) (k' := 0) (n' := 0) rfl rfl rfl rfl rfl ?_
  refine mr_istore (lv' := [(4, .int r1.1), (0, .ref 19), (1, .int x1), (2, .int x2), (3, .int x3)]) d_c_add_5 (by decide) rfl ?_
  refine mr_iload d_c_add_7 rfl ?_
  refine mr_aload_n d_c_add_9 rfl rfl ?_
  refine mr_get K_c 0 d_c_add_10 lk_f_c_9 (by decide) rfl rfl ?_
  refine mr_alen (v0 := 60) d_c_add_13 (fun _ => rfl) rfl (show Int32.ofNat 60 = 60 by decide) ?_
  refine mr_icmp_lt (tgt := 18) d_c_add_14 (by decide) ?_ ?_
  · refine mr_iload_n d_c_add_18 rfl rfl ?_
    refine mr_if_ne (tgt := 46) d_c_add_19 (by decide) ?_ ?_
    · refine mr_aload_n d_c_add_46 rfl rfl ?_
      refine mr_get K_c 2 d_c_add_47 lk_f_c_18 (by decide) rfl rfl ?_
      refine mr_iload d_c_add_50 rfl ?_
      refine mr_dup2_11 d_c_add_52 rfl rfl ?_
      refine mr_iald d_c_add_53 rfl (fun hc2 => ?_)
      refine mr_iload_n d_c_add_54 rfl rfl ?_
      refine mr_iadd d_c_add_55 ?_
      refine mr_iastK (h2 := (HX x_members x_collaterals x_hasSent x_isSealed x_metered x_sealedCount bk_counts bk_needs bk_whens bk_sides bk_quantities bk_limits ag_toldLies ag_passedLies ag_words ag_vectors ag_liarOperator ag_rounds mk_entries mk_slots mk_remainders mk_blocks mk_blockBids mk_blockOffers mk_entryCount mk_blockCount (va_up cv_limits 0 r1.2.1) (va_up cv_bids 0 r1.2.2.1) (va_up cv_offers 0 (upd r1.2.2.2.1 r1.1.toNatClampNeg ((r1.2.2.2.1 r1.1.toNatClampNeg) + x2))) (va_up cv_count 0 r1.2.2.2.2) cv_allBids cv_allOffers cv_meetingPrice cv_sureBids cv_sureOffers cv_priceBids cv_priceOffers cv_volume cv_worth oc_prices oc_volumes oc_filled oc_worth oc_takenSet oc_isDone, hT)) d_c_add_56 rfl rfl hc2 ?_
      refine mr_aload_n d_c_add_57 rfl rfl ?_
      refine mr_dup d_c_add_58 rfl ?_
      refine mr_get K_c 5 d_c_add_59 lk_f_c_28 (by decide) rfl rfl ?_
      refine mr_iload_n d_c_add_62 rfl rfl ?_
      refine mr_iadd d_c_add_63 ?_
      refine mr_put (h2 := (HX x_members x_collaterals x_hasSent x_isSealed x_metered x_sealedCount bk_counts bk_needs bk_whens bk_sides bk_quantities bk_limits ag_toldLies ag_passedLies ag_words ag_vectors ag_liarOperator ag_rounds mk_entries mk_slots mk_remainders mk_blocks mk_blockBids mk_blockOffers mk_entryCount mk_blockCount (va_up cv_limits 0 r1.2.1) (va_up cv_bids 0 r1.2.2.1) (va_up cv_offers 0 (upd r1.2.2.2.1 r1.1.toNatClampNeg ((r1.2.2.2.1 r1.1.toNatClampNeg) + x2))) (va_up cv_count 0 r1.2.2.2.2) cv_allBids (va_up cv_allOffers 0 ((cv_allOffers 0) + x2)) cv_meetingPrice cv_sureBids cv_sureOffers cv_priceBids cv_priceOffers cv_volume cv_worth oc_prices oc_volumes oc_filled oc_worth oc_takenSet oc_isDone, hT)) K_c 5 d_c_add_64 lk_f_c_28 (by decide) rfl rfl rfl (Nat.le_of_ble_eq_true rfl) rfl rfl ?_
      exact mr_vret d_c_add_67 rfl rfl
    · refine mr_aload_n d_c_add_22 rfl rfl ?_
      refine mr_get K_c 1 d_c_add_23 lk_f_c_15 (by decide) rfl rfl ?_
      refine mr_iload d_c_add_26 rfl ?_
      refine mr_dup2_11 d_c_add_28 rfl rfl ?_
      refine mr_iald d_c_add_29 rfl (fun hc3 => ?_)
      refine mr_iload_n d_c_add_30 rfl rfl ?_
      refine mr_iadd d_c_add_31 ?_
      refine mr_iastK (h2 := (HX x_members x_collaterals x_hasSent x_isSealed x_metered x_sealedCount bk_counts bk_needs bk_whens bk_sides bk_quantities bk_limits ag_toldLies ag_passedLies ag_words ag_vectors ag_liarOperator ag_rounds mk_entries mk_slots mk_remainders mk_blocks mk_blockBids mk_blockOffers mk_entryCount mk_blockCount (va_up cv_limits 0 r1.2.1) (va_up cv_bids 0 (upd r1.2.2.1 r1.1.toNatClampNeg ((r1.2.2.1 r1.1.toNatClampNeg) + x2))) (va_up cv_offers 0 r1.2.2.2.1) (va_up cv_count 0 r1.2.2.2.2) cv_allBids cv_allOffers cv_meetingPrice cv_sureBids cv_sureOffers cv_priceBids cv_priceOffers cv_volume cv_worth oc_prices oc_volumes oc_filled oc_worth oc_takenSet oc_isDone, hT)) d_c_add_32 rfl rfl hc3 ?_
      refine mr_aload_n d_c_add_33 rfl rfl ?_
      refine mr_dup d_c_add_34 rfl ?_
      refine mr_get K_c 4 d_c_add_35 lk_f_c_25 (by decide) rfl rfl ?_
      refine mr_iload_n d_c_add_38 rfl rfl ?_
      refine mr_iadd d_c_add_39 ?_
      refine mr_put (h2 := (HX x_members x_collaterals x_hasSent x_isSealed x_metered x_sealedCount bk_counts bk_needs bk_whens bk_sides bk_quantities bk_limits ag_toldLies ag_passedLies ag_words ag_vectors ag_liarOperator ag_rounds mk_entries mk_slots mk_remainders mk_blocks mk_blockBids mk_blockOffers mk_entryCount mk_blockCount (va_up cv_limits 0 r1.2.1) (va_up cv_bids 0 (upd r1.2.2.1 r1.1.toNatClampNeg ((r1.2.2.1 r1.1.toNatClampNeg) + x2))) (va_up cv_offers 0 r1.2.2.2.1) (va_up cv_count 0 r1.2.2.2.2) (va_up cv_allBids 0 ((cv_allBids 0) + x2)) cv_allOffers cv_meetingPrice cv_sureBids cv_sureOffers cv_priceBids cv_priceOffers cv_volume cv_worth oc_prices oc_volumes oc_filled oc_worth oc_takenSet oc_isDone, hT)) K_c 4 d_c_add_40 lk_f_c_25 (by decide) rfl rfl rfl (Nat.le_of_ble_eq_true rfl) rfl rfl ?_
      refine mr_goto (tgt := 67) d_c_add_43 (by decide) ?_
      exact mr_vret d_c_add_67 rfl rfl
  · exact mr_vret d_c_add_17 rfl rfl
set_option maxRecDepth 100000 in
set_option maxHeartbeats 4000000 in
theorem e_c_add_1 {g : mz_G} {ex : Bool} {hT : List mz_E} {x_members : Int32} {x_collaterals : Nat → Int32} {x_hasSent : Nat → Int32} {x_isSealed : Nat → Int32} {x_metered : Nat → Int32} {x_sealedCount : Int32} {bk_counts : Nat → Int32} {bk_needs : Nat → Int64} {bk_whens : Nat → Int32} {bk_sides : Nat → Int32} {bk_quantities : Nat → Int32} {bk_limits : Nat → Int32} {ag_toldLies : Nat → Int32} {ag_passedLies : Nat → Int32} {ag_words : Nat → Int32} {ag_vectors : Nat → Int32} {ag_liarOperator : Int32} {ag_rounds : Int32} {mk_entries : Nat → Int32} {mk_slots : Nat → Int32} {mk_remainders : Nat → Int32} {mk_blocks : Nat → Int32} {mk_blockBids : Nat → Int32} {mk_blockOffers : Nat → Int32} {mk_entryCount : Int32} {mk_blockCount : Int32} {cv_limits : Nat → Nat → Int32} {cv_bids : Nat → Nat → Int32} {cv_offers : Nat → Nat → Int32} {cv_count : Nat → Int32} {cv_allBids : Nat → Int32} {cv_allOffers : Nat → Int32} {cv_meetingPrice : Nat → Int32} {cv_sureBids : Nat → Int32} {cv_sureOffers : Nat → Int32} {cv_priceBids : Nat → Int32} {cv_priceOffers : Nat → Int32} {cv_volume : Nat → Int32} {cv_worth : Nat → Int64} {oc_prices : Nat → Nat → Int32} {oc_volumes : Nat → Nat → Int32} {oc_filled : Nat → Nat → Int32} {oc_worth : Nat → Int64} {oc_takenSet : Nat → Int32} {oc_isDone : Nat → Int32} {x1 : Int32} {x2 : Int32} {x3 : Int32} : mz_M g M_c_add 1 [.ref 23, .int x1, .int x2, .int x3] ex (HX x_members x_collaterals x_hasSent x_isSealed x_metered x_sealedCount bk_counts bk_needs bk_whens bk_sides bk_quantities bk_limits ag_toldLies ag_passedLies ag_words ag_vectors ag_liarOperator ag_rounds mk_entries mk_slots mk_remainders mk_blocks mk_blockBids mk_blockOffers mk_entryCount mk_blockCount cv_limits cv_bids cv_offers cv_count cv_allBids cv_allOffers cv_meetingPrice cv_sureBids cv_sureOffers cv_priceBids cv_priceOffers cv_volume cv_worth oc_prices oc_volumes oc_filled oc_worth oc_takenSet oc_isDone, hT) (f_c_add (cv_limits 1) (cv_bids 1) (cv_offers 1) (cv_count 1) (cv_allBids 1) (cv_allOffers 1) x1 x2 x3) (fun r => (0, none, ex, (HX x_members x_collaterals x_hasSent x_isSealed x_metered x_sealedCount bk_counts bk_needs bk_whens bk_sides bk_quantities bk_limits ag_toldLies ag_passedLies ag_words ag_vectors ag_liarOperator ag_rounds mk_entries mk_slots mk_remainders mk_blocks mk_blockBids mk_blockOffers mk_entryCount mk_blockCount (va_up cv_limits 1 r.1) (va_up cv_bids 1 r.2.1) (va_up cv_offers 1 r.2.2.1) (va_up cv_count 1 r.2.2.2.1) (va_up cv_allBids 1 r.2.2.2.2.1) (va_up cv_allOffers 1 r.2.2.2.2.2) cv_meetingPrice cv_sureBids cv_sureOffers cv_priceBids cv_priceOffers cv_volume cv_worth oc_prices oc_volumes oc_filled oc_worth oc_takenSet oc_isDone, hT), 0, 0)) := by
  refine mz_of (by decide) (Nat.le_of_ble_eq_true rfl) ?_
  rw [f_c_add]
  show mz_A g M_c_add (mz_rm 1) _ 0 [(0, .ref 23), (1, .int x1), (2, .int x2), (3, .int x3)] [] ex (HX x_members x_collaterals x_hasSent x_isSealed x_metered x_sealedCount bk_counts bk_needs bk_whens bk_sides bk_quantities bk_limits ag_toldLies ag_passedLies ag_words ag_vectors ag_liarOperator ag_rounds mk_entries mk_slots mk_remainders mk_blocks mk_blockBids mk_blockOffers mk_entryCount mk_blockCount cv_limits cv_bids cv_offers cv_count cv_allBids cv_allOffers cv_meetingPrice cv_sureBids cv_sureOffers cv_priceBids cv_priceOffers cv_volume cv_worth oc_prices oc_volumes oc_filled oc_worth oc_takenSet oc_isDone, hT) 0 0 _
  refine mr_aload_n d_c_add_0 rfl rfl ?_
  refine mr_iload_n d_c_add_1 rfl rfl ?_
  refine mz_go (st := []) e_c_placeOf_1 (fun _ => rfl) U_c_placeOf (mz_vV d_c_add_2 U_c_placeOf rfl lk_m_c_31 I_c_placeOf s_c_placeOf np_c_placeOf rfl rfl) (Nat.le_of_ble_eq_true rfl) (by decide) (fun r1 => ?_)
  refine mr_eq (st' := [.int r1.1]) (ex' := ex) (h2 := (HX x_members x_collaterals x_hasSent x_isSealed x_metered x_sealedCount bk_counts bk_needs bk_whens bk_sides bk_quantities bk_limits ag_toldLies ag_passedLies ag_words ag_vectors ag_liarOperator ag_rounds mk_entries mk_slots mk_remainders mk_blocks mk_blockBids mk_blockOffers mk_entryCount mk_blockCount (va_up cv_limits 1 r1.2.1) (va_up cv_bids 1 r1.2.2.1) (va_up cv_offers 1 r1.2.2.2.1) (va_up cv_count 1 r1.2.2.2.2) cv_allBids cv_allOffers cv_meetingPrice cv_sureBids cv_sureOffers cv_priceBids cv_priceOffers cv_volume cv_worth oc_prices oc_volumes oc_filled oc_worth oc_takenSet oc_isDone, hT)) (k' := 0) (n' := 0) rfl rfl rfl rfl rfl ?_
  refine mr_istore (lv' := [(4, .int r1.1), (0, .ref 23), (1, .int x1), (2, .int x2), (3, .int x3)]) d_c_add_5 (by decide) rfl ?_
  refine mr_iload d_c_add_7 rfl ?_
  refine mr_aload_n d_c_add_9 rfl rfl ?_
  refine mr_get K_c 0 d_c_add_10 lk_f_c_9 (by decide) rfl rfl ?_
  refine mr_alen (v0 := 60) d_c_add_13 (fun _ => rfl) rfl (show Int32.ofNat 60 = 60 by decide) ?_
  refine mr_icmp_lt (tgt := 18) d_c_add_14 (by decide) ?_ ?_
  · refine mr_iload_n d_c_add_18 rfl rfl ?_
    refine mr_if_ne (tgt := 46) d_c_add_19 (by decide) ?_ ?_
    · refine mr_aload_n d_c_add_46 rfl rfl ?_
      refine mr_get K_c 2 d_c_add_47 lk_f_c_18 (by decide) rfl rfl ?_
      refine mr_iload d_c_add_50 rfl ?_
      refine mr_dup2_11 d_c_add_52 rfl rfl ?_
      refine mr_iald d_c_add_53 rfl (fun hc2 => ?_)
      refine mr_iload_n d_c_add_54 rfl rfl ?_
      refine mr_iadd d_c_add_55 ?_
      refine mr_iastK (h2 := (HX x_members x_collaterals x_hasSent x_isSealed x_metered x_sealedCount bk_counts bk_needs bk_whens bk_sides bk_quantities bk_limits ag_toldLies ag_passedLies ag_words ag_vectors ag_liarOperator ag_rounds mk_entries mk_slots mk_remainders mk_blocks mk_blockBids mk_blockOffers mk_entryCount mk_blockCount (va_up cv_limits 1 r1.2.1) (va_up cv_bids 1 r1.2.2.1) (va_up cv_offers 1 (upd r1.2.2.2.1 r1.1.toNatClampNeg ((r1.2.2.2.1 r1.1.toNatClampNeg) + x2))) (va_up cv_count 1 r1.2.2.2.2) cv_allBids cv_allOffers cv_meetingPrice cv_sureBids cv_sureOffers cv_priceBids cv_priceOffers cv_volume cv_worth oc_prices oc_volumes oc_filled oc_worth oc_takenSet oc_isDone, hT)) d_c_add_56 rfl rfl hc2 ?_
      refine mr_aload_n d_c_add_57 rfl rfl ?_
      refine mr_dup d_c_add_58 rfl ?_
      refine mr_get K_c 5 d_c_add_59 lk_f_c_28 (by decide) rfl rfl ?_
      refine mr_iload_n d_c_add_62 rfl rfl ?_
      refine mr_iadd d_c_add_63 ?_
      refine mr_put (h2 := (HX x_members x_collaterals x_hasSent x_isSealed x_metered x_sealedCount bk_counts bk_needs bk_whens bk_sides bk_quantities bk_limits ag_toldLies ag_passedLies ag_words ag_vectors ag_liarOperator ag_rounds mk_entries mk_slots mk_remainders mk_blocks mk_blockBids mk_blockOffers mk_entryCount mk_blockCount (va_up cv_limits 1 r1.2.1) (va_up cv_bids 1 r1.2.2.1) (va_up cv_offers 1 (upd r1.2.2.2.1 r1.1.toNatClampNeg ((r1.2.2.2.1 r1.1.toNatClampNeg) + x2))) (va_up cv_count 1 r1.2.2.2.2) cv_allBids (va_up cv_allOffers 1 ((cv_allOffers 1) + x2)) cv_meetingPrice cv_sureBids cv_sureOffers cv_priceBids cv_priceOffers cv_volume cv_worth oc_prices oc_volumes oc_filled oc_worth oc_takenSet oc_isDone, hT)) K_c 5 d_c_add_64 lk_f_c_28 (by decide) rfl rfl rfl (Nat.le_of_ble_eq_true rfl) rfl rfl ?_
      exact mr_vret d_c_add_67 rfl rfl
    · refine mr_aload_n d_c_add_22 rfl rfl ?_
      refine mr_get K_c 1 d_c_add_23 lk_f_c_15 (by decide) rfl rfl ?_
      refine mr_iload d_c_add_26 rfl ?_
      refine mr_dup2_11 d_c_add_28 rfl rfl ?_
      refine mr_iald d_c_add_29 rfl (fun hc3 => ?_)
      refine mr_iload_n d_c_add_30 rfl rfl ?_
      refine mr_iadd d_c_add_31 ?_
      refine mr_iastK (h2 := (HX x_members x_collaterals x_hasSent x_isSealed x_metered x_sealedCount bk_counts bk_needs bk_whens bk_sides bk_quantities bk_limits ag_toldLies ag_passedLies ag_words ag_vectors ag_liarOperator ag_rounds mk_entries mk_slots mk_remainders mk_blocks mk_blockBids mk_blockOffers mk_entryCount mk_blockCount (va_up cv_limits 1 r1.2.1) (va_up cv_bids 1 (upd r1.2.2.1 r1.1.toNatClampNeg ((r1.2.2.1 r1.1.toNatClampNeg) + x2))) (va_up cv_offers 1 r1.2.2.2.1) (va_up cv_count 1 r1.2.2.2.2) cv_allBids cv_allOffers cv_meetingPrice cv_sureBids cv_sureOffers cv_priceBids cv_priceOffers cv_volume cv_worth oc_prices oc_volumes oc_filled oc_worth oc_takenSet oc_isDone, hT)) d_c_add_32 rfl rfl hc3 ?_
      refine mr_aload_n d_c_add_33 rfl rfl ?_
      refine mr_dup d_c_add_34 rfl ?_
      refine mr_get K_c 4 d_c_add_35 lk_f_c_25 (by decide) rfl rfl ?_
      refine mr_iload_n d_c_add_38 rfl rfl ?_
      refine mr_iadd d_c_add_39 ?_
      refine mr_put (h2 := (HX x_members x_collaterals x_hasSent x_isSealed x_metered x_sealedCount bk_counts bk_needs bk_whens bk_sides bk_quantities bk_limits ag_toldLies ag_passedLies ag_words ag_vectors ag_liarOperator ag_rounds mk_entries mk_slots mk_remainders mk_blocks mk_blockBids mk_blockOffers mk_entryCount mk_blockCount (va_up cv_limits 1 r1.2.1) (va_up cv_bids 1 (upd r1.2.2.1 r1.1.toNatClampNeg ((r1.2.2.1 r1.1.toNatClampNeg) + x2))) (va_up cv_offers 1 r1.2.2.2.1) (va_up cv_count 1 r1.2.2.2.2) (va_up cv_allBids 1 ((cv_allBids 1) + x2)) cv_allOffers cv_meetingPrice cv_sureBids cv_sureOffers cv_priceBids cv_priceOffers cv_volume cv_worth oc_prices oc_volumes oc_filled oc_worth oc_takenSet oc_isDone, hT)) K_c 4 d_c_add_40 lk_f_c_25 (by decide) rfl rfl rfl (Nat.le_of_ble_eq_true rfl) rfl rfl ?_
      refine mr_goto (tgt := 67) d_c_add_43 (by decide) ?_
      exact mr_vret d_c_add_67 rfl rfl
  · exact mr_vret d_c_add_17 rfl rfl
set_option maxRecDepth 100000 in
set_option maxHeartbeats 4000000 in
theorem e_c_add_2 {g : mz_G} {ex : Bool} {hT : List mz_E} {x_members : Int32} {x_collaterals : Nat → Int32} {x_hasSent : Nat → Int32} {x_isSealed : Nat → Int32} {x_metered : Nat → Int32} {x_sealedCount : Int32} {bk_counts : Nat → Int32} {bk_needs : Nat → Int64} {bk_whens : Nat → Int32} {bk_sides : Nat → Int32} {bk_quantities : Nat → Int32} {bk_limits : Nat → Int32} {ag_toldLies : Nat → Int32} {ag_passedLies : Nat → Int32} {ag_words : Nat → Int32} {ag_vectors : Nat → Int32} {ag_liarOperator : Int32} {ag_rounds : Int32} {mk_entries : Nat → Int32} {mk_slots : Nat → Int32} {mk_remainders : Nat → Int32} {mk_blocks : Nat → Int32} {mk_blockBids : Nat → Int32} {mk_blockOffers : Nat → Int32} {mk_entryCount : Int32} {mk_blockCount : Int32} {cv_limits : Nat → Nat → Int32} {cv_bids : Nat → Nat → Int32} {cv_offers : Nat → Nat → Int32} {cv_count : Nat → Int32} {cv_allBids : Nat → Int32} {cv_allOffers : Nat → Int32} {cv_meetingPrice : Nat → Int32} {cv_sureBids : Nat → Int32} {cv_sureOffers : Nat → Int32} {cv_priceBids : Nat → Int32} {cv_priceOffers : Nat → Int32} {cv_volume : Nat → Int32} {cv_worth : Nat → Int64} {oc_prices : Nat → Nat → Int32} {oc_volumes : Nat → Nat → Int32} {oc_filled : Nat → Nat → Int32} {oc_worth : Nat → Int64} {oc_takenSet : Nat → Int32} {oc_isDone : Nat → Int32} {x1 : Int32} {x2 : Int32} {x3 : Int32} : mz_M g M_c_add 1 [.ref 27, .int x1, .int x2, .int x3] ex (HX x_members x_collaterals x_hasSent x_isSealed x_metered x_sealedCount bk_counts bk_needs bk_whens bk_sides bk_quantities bk_limits ag_toldLies ag_passedLies ag_words ag_vectors ag_liarOperator ag_rounds mk_entries mk_slots mk_remainders mk_blocks mk_blockBids mk_blockOffers mk_entryCount mk_blockCount cv_limits cv_bids cv_offers cv_count cv_allBids cv_allOffers cv_meetingPrice cv_sureBids cv_sureOffers cv_priceBids cv_priceOffers cv_volume cv_worth oc_prices oc_volumes oc_filled oc_worth oc_takenSet oc_isDone, hT) (f_c_add (cv_limits 2) (cv_bids 2) (cv_offers 2) (cv_count 2) (cv_allBids 2) (cv_allOffers 2) x1 x2 x3) (fun r => (0, none, ex, (HX x_members x_collaterals x_hasSent x_isSealed x_metered x_sealedCount bk_counts bk_needs bk_whens bk_sides bk_quantities bk_limits ag_toldLies ag_passedLies ag_words ag_vectors ag_liarOperator ag_rounds mk_entries mk_slots mk_remainders mk_blocks mk_blockBids mk_blockOffers mk_entryCount mk_blockCount (va_up cv_limits 2 r.1) (va_up cv_bids 2 r.2.1) (va_up cv_offers 2 r.2.2.1) (va_up cv_count 2 r.2.2.2.1) (va_up cv_allBids 2 r.2.2.2.2.1) (va_up cv_allOffers 2 r.2.2.2.2.2) cv_meetingPrice cv_sureBids cv_sureOffers cv_priceBids cv_priceOffers cv_volume cv_worth oc_prices oc_volumes oc_filled oc_worth oc_takenSet oc_isDone, hT), 0, 0)) := by
  refine mz_of (by decide) (Nat.le_of_ble_eq_true rfl) ?_
  rw [f_c_add]
  show mz_A g M_c_add (mz_rm 1) _ 0 [(0, .ref 27), (1, .int x1), (2, .int x2), (3, .int x3)] [] ex (HX x_members x_collaterals x_hasSent x_isSealed x_metered x_sealedCount bk_counts bk_needs bk_whens bk_sides bk_quantities bk_limits ag_toldLies ag_passedLies ag_words ag_vectors ag_liarOperator ag_rounds mk_entries mk_slots mk_remainders mk_blocks mk_blockBids mk_blockOffers mk_entryCount mk_blockCount cv_limits cv_bids cv_offers cv_count cv_allBids cv_allOffers cv_meetingPrice cv_sureBids cv_sureOffers cv_priceBids cv_priceOffers cv_volume cv_worth oc_prices oc_volumes oc_filled oc_worth oc_takenSet oc_isDone, hT) 0 0 _
  refine mr_aload_n d_c_add_0 rfl rfl ?_
  refine mr_iload_n d_c_add_1 rfl rfl ?_
  refine mz_go (st := []) e_c_placeOf_2 (fun _ => rfl) U_c_placeOf (mz_vV d_c_add_2 U_c_placeOf rfl lk_m_c_31 I_c_placeOf s_c_placeOf np_c_placeOf rfl rfl) (Nat.le_of_ble_eq_true rfl) (by decide) (fun r1 => ?_)
  refine mr_eq (st' := [.int r1.1]) (ex' := ex) (h2 := (HX x_members x_collaterals x_hasSent x_isSealed x_metered x_sealedCount bk_counts bk_needs bk_whens bk_sides bk_quantities bk_limits ag_toldLies ag_passedLies ag_words ag_vectors ag_liarOperator ag_rounds mk_entries mk_slots mk_remainders mk_blocks mk_blockBids mk_blockOffers mk_entryCount mk_blockCount (va_up cv_limits 2 r1.2.1) (va_up cv_bids 2 r1.2.2.1) (va_up cv_offers 2 r1.2.2.2.1) (va_up cv_count 2 r1.2.2.2.2) cv_allBids cv_allOffers cv_meetingPrice cv_sureBids cv_sureOffers cv_priceBids cv_priceOffers cv_volume cv_worth oc_prices oc_volumes oc_filled oc_worth oc_takenSet oc_isDone, hT)) (k' := 0) (n' := 0) rfl rfl rfl rfl rfl ?_
  refine mr_istore (lv' := [(4, .int r1.1), (0, .ref 27), (1, .int x1), (2, .int x2), (3, .int x3)]) d_c_add_5 (by decide) rfl ?_
  refine mr_iload d_c_add_7 rfl ?_
  refine mr_aload_n d_c_add_9 rfl rfl ?_
  refine mr_get K_c 0 d_c_add_10 lk_f_c_9 (by decide) rfl rfl ?_
  refine mr_alen (v0 := 60) d_c_add_13 (fun _ => rfl) rfl (show Int32.ofNat 60 = 60 by decide) ?_
  refine mr_icmp_lt (tgt := 18) d_c_add_14 (by decide) ?_ ?_
  · refine mr_iload_n d_c_add_18 rfl rfl ?_
    refine mr_if_ne (tgt := 46) d_c_add_19 (by decide) ?_ ?_
    · refine mr_aload_n d_c_add_46 rfl rfl ?_
      refine mr_get K_c 2 d_c_add_47 lk_f_c_18 (by decide) rfl rfl ?_
      refine mr_iload d_c_add_50 rfl ?_
      refine mr_dup2_11 d_c_add_52 rfl rfl ?_
      refine mr_iald d_c_add_53 rfl (fun hc2 => ?_)
      refine mr_iload_n d_c_add_54 rfl rfl ?_
      refine mr_iadd d_c_add_55 ?_
      refine mr_iastK (h2 := (HX x_members x_collaterals x_hasSent x_isSealed x_metered x_sealedCount bk_counts bk_needs bk_whens bk_sides bk_quantities bk_limits ag_toldLies ag_passedLies ag_words ag_vectors ag_liarOperator ag_rounds mk_entries mk_slots mk_remainders mk_blocks mk_blockBids mk_blockOffers mk_entryCount mk_blockCount (va_up cv_limits 2 r1.2.1) (va_up cv_bids 2 r1.2.2.1) (va_up cv_offers 2 (upd r1.2.2.2.1 r1.1.toNatClampNeg ((r1.2.2.2.1 r1.1.toNatClampNeg) + x2))) (va_up cv_count 2 r1.2.2.2.2) cv_allBids cv_allOffers cv_meetingPrice cv_sureBids cv_sureOffers cv_priceBids cv_priceOffers cv_volume cv_worth oc_prices oc_volumes oc_filled oc_worth oc_takenSet oc_isDone, hT)) d_c_add_56 rfl rfl hc2 ?_
      refine mr_aload_n d_c_add_57 rfl rfl ?_
      refine mr_dup d_c_add_58 rfl ?_
      refine mr_get K_c 5 d_c_add_59 lk_f_c_28 (by decide) rfl rfl ?_
      refine mr_iload_n d_c_add_62 rfl rfl ?_
      refine mr_iadd d_c_add_63 ?_
      refine mr_put (h2 := (HX x_members x_collaterals x_hasSent x_isSealed x_metered x_sealedCount bk_counts bk_needs bk_whens bk_sides bk_quantities bk_limits ag_toldLies ag_passedLies ag_words ag_vectors ag_liarOperator ag_rounds mk_entries mk_slots mk_remainders mk_blocks mk_blockBids mk_blockOffers mk_entryCount mk_blockCount (va_up cv_limits 2 r1.2.1) (va_up cv_bids 2 r1.2.2.1) (va_up cv_offers 2 (upd r1.2.2.2.1 r1.1.toNatClampNeg ((r1.2.2.2.1 r1.1.toNatClampNeg) + x2))) (va_up cv_count 2 r1.2.2.2.2) cv_allBids (va_up cv_allOffers 2 ((cv_allOffers 2) + x2)) cv_meetingPrice cv_sureBids cv_sureOffers cv_priceBids cv_priceOffers cv_volume cv_worth oc_prices oc_volumes oc_filled oc_worth oc_takenSet oc_isDone, hT)) K_c 5 d_c_add_64 lk_f_c_28 (by decide) rfl rfl rfl (Nat.le_of_ble_eq_true rfl) rfl rfl ?_
      exact mr_vret d_c_add_67 rfl rfl
    · refine mr_aload_n d_c_add_22 rfl rfl ?_
      refine mr_get K_c 1 d_c_add_23 lk_f_c_15 (by decide) rfl rfl ?_
      refine mr_iload d_c_add_26 rfl ?_
      refine mr_dup2_11 d_c_add_28 rfl rfl ?_
      refine mr_iald d_c_add_29 rfl (fun hc3 => ?_)
      refine mr_iload_n d_c_add_30 rfl rfl ?_
      refine mr_iadd d_c_add_31 ?_
      refine mr_iastK (h2 := (HX x_members x_collaterals x_hasSent x_isSealed x_metered x_sealedCount bk_counts bk_needs bk_whens bk_sides bk_quantities bk_limits ag_toldLies ag_passedLies ag_words ag_vectors ag_liarOperator ag_rounds mk_entries mk_slots mk_remainders mk_blocks mk_blockBids mk_blockOffers mk_entryCount mk_blockCount (va_up cv_limits 2 r1.2.1) (va_up cv_bids 2 (upd r1.2.2.1 r1.1.toNatClampNeg ((r1.2.2.1 r1.1.toNatClampNeg) + x2))) (va_up cv_offers 2 r1.2.2.2.1) (va_up cv_count 2 r1.2.2.2.2) cv_allBids cv_allOffers cv_meetingPrice cv_sureBids cv_sureOffers cv_priceBids cv_priceOffers cv_volume cv_worth oc_prices oc_volumes oc_filled oc_worth oc_takenSet oc_isDone, hT)) d_c_add_32 rfl rfl hc3 ?_
      refine mr_aload_n d_c_add_33 rfl rfl ?_
      refine mr_dup d_c_add_34 rfl ?_
      refine mr_get K_c 4 d_c_add_35 lk_f_c_25 (by decide) rfl rfl ?_
      refine mr_iload_n d_c_add_38 rfl rfl ?_
      refine mr_iadd d_c_add_39 ?_
      refine mr_put (h2 := (HX x_members x_collaterals x_hasSent x_isSealed x_metered x_sealedCount bk_counts bk_needs bk_whens bk_sides bk_quantities bk_limits ag_toldLies ag_passedLies ag_words ag_vectors ag_liarOperator ag_rounds mk_entries mk_slots mk_remainders mk_blocks mk_blockBids mk_blockOffers mk_entryCount mk_blockCount (va_up cv_limits 2 r1.2.1) (va_up cv_bids 2 (upd r1.2.2.1 r1.1.toNatClampNeg ((r1.2.2.1 r1.1.toNatClampNeg) + x2))) (va_up cv_offers 2 r1.2.2.2.1) (va_up cv_count 2 r1.2.2.2.2) (va_up cv_allBids 2 ((cv_allBids 2) + x2)) cv_allOffers cv_meetingPrice cv_sureBids cv_sureOffers cv_priceBids cv_priceOffers cv_volume cv_worth oc_prices oc_volumes oc_filled oc_worth oc_takenSet oc_isDone, hT)) K_c 4 d_c_add_40 lk_f_c_25 (by decide) rfl rfl rfl (Nat.le_of_ble_eq_true rfl) rfl rfl ?_
      refine mr_goto (tgt := 67) d_c_add_43 (by decide) ?_
      exact mr_vret d_c_add_67 rfl rfl
  · exact mr_vret d_c_add_17 rfl rfl
theorem e_c_add {g : mz_G} {ex : Bool} {hT : List mz_E} {x_members : Int32} {x_collaterals : Nat → Int32} {x_hasSent : Nat → Int32} {x_isSealed : Nat → Int32} {x_metered : Nat → Int32} {x_sealedCount : Int32} {bk_counts : Nat → Int32} {bk_needs : Nat → Int64} {bk_whens : Nat → Int32} {bk_sides : Nat → Int32} {bk_quantities : Nat → Int32} {bk_limits : Nat → Int32} {ag_toldLies : Nat → Int32} {ag_passedLies : Nat → Int32} {ag_words : Nat → Int32} {ag_vectors : Nat → Int32} {ag_liarOperator : Int32} {ag_rounds : Int32} {mk_entries : Nat → Int32} {mk_slots : Nat → Int32} {mk_remainders : Nat → Int32} {mk_blocks : Nat → Int32} {mk_blockBids : Nat → Int32} {mk_blockOffers : Nat → Int32} {mk_entryCount : Int32} {mk_blockCount : Int32} {cv_limits : Nat → Nat → Int32} {cv_bids : Nat → Nat → Int32} {cv_offers : Nat → Nat → Int32} {cv_count : Nat → Int32} {cv_allBids : Nat → Int32} {cv_allOffers : Nat → Int32} {cv_meetingPrice : Nat → Int32} {cv_sureBids : Nat → Int32} {cv_sureOffers : Nat → Int32} {cv_priceBids : Nat → Int32} {cv_priceOffers : Nat → Int32} {cv_volume : Nat → Int32} {cv_worth : Nat → Int64} {oc_prices : Nat → Nat → Int32} {oc_volumes : Nat → Nat → Int32} {oc_filled : Nat → Nat → Int32} {oc_worth : Nat → Int64} {oc_takenSet : Nat → Int32} {oc_isDone : Nat → Int32} {x1 : Int32} {x2 : Int32} {x3 : Int32} {j : Nat} (hj : j < 3) : mz_M g M_c_add 1 [.ref (19 + 4 * j), .int x1, .int x2, .int x3] ex (HX x_members x_collaterals x_hasSent x_isSealed x_metered x_sealedCount bk_counts bk_needs bk_whens bk_sides bk_quantities bk_limits ag_toldLies ag_passedLies ag_words ag_vectors ag_liarOperator ag_rounds mk_entries mk_slots mk_remainders mk_blocks mk_blockBids mk_blockOffers mk_entryCount mk_blockCount cv_limits cv_bids cv_offers cv_count cv_allBids cv_allOffers cv_meetingPrice cv_sureBids cv_sureOffers cv_priceBids cv_priceOffers cv_volume cv_worth oc_prices oc_volumes oc_filled oc_worth oc_takenSet oc_isDone, hT) (f_c_add (cv_limits j) (cv_bids j) (cv_offers j) (cv_count j) (cv_allBids j) (cv_allOffers j) x1 x2 x3) (fun r => (0, none, ex, (HX x_members x_collaterals x_hasSent x_isSealed x_metered x_sealedCount bk_counts bk_needs bk_whens bk_sides bk_quantities bk_limits ag_toldLies ag_passedLies ag_words ag_vectors ag_liarOperator ag_rounds mk_entries mk_slots mk_remainders mk_blocks mk_blockBids mk_blockOffers mk_entryCount mk_blockCount (va_up cv_limits j r.1) (va_up cv_bids j r.2.1) (va_up cv_offers j r.2.2.1) (va_up cv_count j r.2.2.2.1) (va_up cv_allBids j r.2.2.2.2.1) (va_up cv_allOffers j r.2.2.2.2.2) cv_meetingPrice cv_sureBids cv_sureOffers cv_priceBids cv_priceOffers cv_volume cv_worth oc_prices oc_volumes oc_filled oc_worth oc_takenSet oc_isDone, hT), 0, 0)) := match j, hj with | 0, _ => e_c_add_0 | 1, _ => e_c_add_1 | 2, _ => e_c_add_2 | j + 3, h => absurd h (by omega)
set_option maxRecDepth 100000 in
set_option maxHeartbeats 4000000 in
theorem e_mk_addEntry {g : mz_G} {ex : Bool} {hT : List mz_E} {x_members : Int32} {x_collaterals : Nat → Int32} {x_hasSent : Nat → Int32} {x_isSealed : Nat → Int32} {x_metered : Nat → Int32} {x_sealedCount : Int32} {bk_counts : Nat → Int32} {bk_needs : Nat → Int64} {bk_whens : Nat → Int32} {bk_sides : Nat → Int32} {bk_quantities : Nat → Int32} {bk_limits : Nat → Int32} {ag_toldLies : Nat → Int32} {ag_passedLies : Nat → Int32} {ag_words : Nat → Int32} {ag_vectors : Nat → Int32} {ag_liarOperator : Int32} {ag_rounds : Int32} {mk_entries : Nat → Int32} {mk_slots : Nat → Int32} {mk_remainders : Nat → Int32} {mk_blocks : Nat → Int32} {mk_blockBids : Nat → Int32} {mk_blockOffers : Nat → Int32} {mk_entryCount : Int32} {mk_blockCount : Int32} {cv_limits : Nat → Nat → Int32} {cv_bids : Nat → Nat → Int32} {cv_offers : Nat → Nat → Int32} {cv_count : Nat → Int32} {cv_allBids : Nat → Int32} {cv_allOffers : Nat → Int32} {cv_meetingPrice : Nat → Int32} {cv_sureBids : Nat → Int32} {cv_sureOffers : Nat → Int32} {cv_priceBids : Nat → Int32} {cv_priceOffers : Nat → Int32} {cv_volume : Nat → Int32} {cv_worth : Nat → Int64} {oc_prices : Nat → Nat → Int32} {oc_volumes : Nat → Nat → Int32} {oc_filled : Nat → Nat → Int32} {oc_worth : Nat → Int64} {oc_takenSet : Nat → Int32} {oc_isDone : Nat → Int32} {x1 : Int32} {x2 : Int32} : mz_M g M_mk_addEntry 2 [.ref 17, .int x1, .int x2] ex (HX x_members x_collaterals x_hasSent x_isSealed x_metered x_sealedCount bk_counts bk_needs bk_whens bk_sides bk_quantities bk_limits ag_toldLies ag_passedLies ag_words ag_vectors ag_liarOperator ag_rounds mk_entries mk_slots mk_remainders mk_blocks mk_blockBids mk_blockOffers mk_entryCount mk_blockCount cv_limits cv_bids cv_offers cv_count cv_allBids cv_allOffers cv_meetingPrice cv_sureBids cv_sureOffers cv_priceBids cv_priceOffers cv_volume cv_worth oc_prices oc_volumes oc_filled oc_worth oc_takenSet oc_isDone, hT) (f_mk_addEntry bk_whens bk_sides bk_quantities bk_limits mk_entries mk_slots mk_blocks mk_entryCount mk_blockCount cv_limits cv_bids cv_offers cv_count cv_allBids cv_allOffers x1 x2) (fun r => (0, none, ex, (HX x_members x_collaterals x_hasSent x_isSealed x_metered x_sealedCount bk_counts bk_needs bk_whens bk_sides bk_quantities bk_limits ag_toldLies ag_passedLies ag_words ag_vectors ag_liarOperator ag_rounds r.1 r.2.1 mk_remainders r.2.2.1 mk_blockBids mk_blockOffers r.2.2.2.1 r.2.2.2.2.1 r.2.2.2.2.2.1 r.2.2.2.2.2.2.1 r.2.2.2.2.2.2.2.1 r.2.2.2.2.2.2.2.2.1 r.2.2.2.2.2.2.2.2.2.1 r.2.2.2.2.2.2.2.2.2.2 cv_meetingPrice cv_sureBids cv_sureOffers cv_priceBids cv_priceOffers cv_volume cv_worth oc_prices oc_volumes oc_filled oc_worth oc_takenSet oc_isDone, hT), 0, 0)) := by
  refine mz_of (by decide) (Nat.le_of_ble_eq_true rfl) ?_
  rw [f_mk_addEntry]
  show mz_A g M_mk_addEntry (mz_rm 2) _ 0 [(0, .ref 17), (1, .int x1), (2, .int x2)] [] ex (HX x_members x_collaterals x_hasSent x_isSealed x_metered x_sealedCount bk_counts bk_needs bk_whens bk_sides bk_quantities bk_limits ag_toldLies ag_passedLies ag_words ag_vectors ag_liarOperator ag_rounds mk_entries mk_slots mk_remainders mk_blocks mk_blockBids mk_blockOffers mk_entryCount mk_blockCount cv_limits cv_bids cv_offers cv_count cv_allBids cv_allOffers cv_meetingPrice cv_sureBids cv_sureOffers cv_priceBids cv_priceOffers cv_volume cv_worth oc_prices oc_volumes oc_filled oc_worth oc_takenSet oc_isDone, hT) 0 0 _
  refine mr_aload_n d_mk_addEntry_0 rfl rfl ?_
  refine mr_get K_mk 8 d_mk_addEntry_1 lk_f_mk_41 (by decide) rfl rfl ?_
  refine mr_bipush (v := 60) d_mk_addEntry_4 mc_bipush_60 ?_
  refine mr_icmp_lt (tgt := 10) d_mk_addEntry_6 (by decide) ?_ ?_
  · refine mr_aload_n d_mk_addEntry_10 rfl rfl ?_
    refine mr_get K_mk 2 d_mk_addEntry_11 lk_f_mk_22 (by decide) rfl rfl ?_
    refine mr_aload_n d_mk_addEntry_14 rfl rfl ?_
    refine mr_get K_mk 8 d_mk_addEntry_15 lk_f_mk_41 (by decide) rfl rfl ?_
    refine mr_iload_n d_mk_addEntry_18 rfl rfl ?_
    refine mr_iast (h2 := (HX x_members x_collaterals x_hasSent x_isSealed x_metered x_sealedCount bk_counts bk_needs bk_whens bk_sides bk_quantities bk_limits ag_toldLies ag_passedLies ag_words ag_vectors ag_liarOperator ag_rounds (upd mk_entries mk_entryCount.toNatClampNeg x1) mk_slots mk_remainders mk_blocks mk_blockBids mk_blockOffers mk_entryCount mk_blockCount cv_limits cv_bids cv_offers cv_count cv_allBids cv_allOffers cv_meetingPrice cv_sureBids cv_sureOffers cv_priceBids cv_priceOffers cv_volume cv_worth oc_prices oc_volumes oc_filled oc_worth oc_takenSet oc_isDone, hT)) d_mk_addEntry_19 rfl rfl (fun hc1 => ?_)
    refine mr_aload_n d_mk_addEntry_20 rfl rfl ?_
    refine mr_get K_mk 3 d_mk_addEntry_21 lk_f_mk_26 (by decide) rfl rfl ?_
    refine mr_aload_n d_mk_addEntry_24 rfl rfl ?_
    refine mr_get K_mk 8 d_mk_addEntry_25 lk_f_mk_41 (by decide) rfl rfl ?_
    refine mr_iload_n d_mk_addEntry_28 rfl rfl ?_
    refine mr_iastK (h2 := (HX x_members x_collaterals x_hasSent x_isSealed x_metered x_sealedCount bk_counts bk_needs bk_whens bk_sides bk_quantities bk_limits ag_toldLies ag_passedLies ag_words ag_vectors ag_liarOperator ag_rounds (upd mk_entries mk_entryCount.toNatClampNeg x1) (upd mk_slots mk_entryCount.toNatClampNeg x2) mk_remainders mk_blocks mk_blockBids mk_blockOffers mk_entryCount mk_blockCount cv_limits cv_bids cv_offers cv_count cv_allBids cv_allOffers cv_meetingPrice cv_sureBids cv_sureOffers cv_priceBids cv_priceOffers cv_volume cv_worth oc_prices oc_volumes oc_filled oc_worth oc_takenSet oc_isDone, hT)) d_mk_addEntry_29 rfl rfl hc1 ?_
    refine mr_aload_n d_mk_addEntry_30 rfl rfl ?_
    refine mr_dup d_mk_addEntry_31 rfl ?_
    refine mr_get K_mk 8 d_mk_addEntry_32 lk_f_mk_41 (by decide) rfl rfl ?_
    refine mr_iconst (v := 1) d_mk_addEntry_35 mc_iconst_1 ?_
    refine mr_iadd d_mk_addEntry_36 ?_
    refine mr_put (h2 := (HX x_members x_collaterals x_hasSent x_isSealed x_metered x_sealedCount bk_counts bk_needs bk_whens bk_sides bk_quantities bk_limits ag_toldLies ag_passedLies ag_words ag_vectors ag_liarOperator ag_rounds (upd mk_entries mk_entryCount.toNatClampNeg x1) (upd mk_slots mk_entryCount.toNatClampNeg x2) mk_remainders mk_blocks mk_blockBids mk_blockOffers (mk_entryCount + 1) mk_blockCount cv_limits cv_bids cv_offers cv_count cv_allBids cv_allOffers cv_meetingPrice cv_sureBids cv_sureOffers cv_priceBids cv_priceOffers cv_volume cv_worth oc_prices oc_volumes oc_filled oc_worth oc_takenSet oc_isDone, hT)) K_mk 8 d_mk_addEntry_37 lk_f_mk_41 (by decide) rfl rfl rfl (Nat.le_of_ble_eq_true rfl) rfl rfl ?_
    refine mr_aload_n d_mk_addEntry_40 rfl rfl ?_
    refine mr_get K_mk 0 d_mk_addEntry_41 lk_f_mk_9 (by decide) rfl rfl ?_
    refine mr_iload_n d_mk_addEntry_44 rfl rfl ?_
    refine mz_go (st := []) e_bk_isBlock (fun _ => rfl) U_bk_isBlock (mz_vV d_mk_addEntry_45 U_bk_isBlock rfl lk_m_mk_66 I_bk_isBlock s_bk_isBlock np_bk_isBlock rfl rfl) (Nat.le_of_ble_eq_true rfl) (by decide) (fun r2 => ?_)
    refine mr_eq (st' := [.int r2]) (ex' := ex) (h2 := (HX x_members x_collaterals x_hasSent x_isSealed x_metered x_sealedCount bk_counts bk_needs bk_whens bk_sides bk_quantities bk_limits ag_toldLies ag_passedLies ag_words ag_vectors ag_liarOperator ag_rounds (upd mk_entries mk_entryCount.toNatClampNeg x1) (upd mk_slots mk_entryCount.toNatClampNeg x2) mk_remainders mk_blocks mk_blockBids mk_blockOffers (mk_entryCount + 1) mk_blockCount cv_limits cv_bids cv_offers cv_count cv_allBids cv_allOffers cv_meetingPrice cv_sureBids cv_sureOffers cv_priceBids cv_priceOffers cv_volume cv_worth oc_prices oc_volumes oc_filled oc_worth oc_takenSet oc_isDone, hT)) (k' := 0) (n' := 0) rfl rfl rfl rfl rfl ?_
    refine mr_if_ne (tgt := 98) d_mk_addEntry_48 (by decide) ?_ ?_
    · refine mr_aload_n d_mk_addEntry_98 rfl rfl ?_
      refine mr_get K_mk 9 d_mk_addEntry_99 lk_f_mk_45 (by decide) rfl rfl ?_
      refine mr_bipush (v := 8) d_mk_addEntry_102 mc_bipush_8 ?_
      refine mr_icmp_ge (tgt := 127) d_mk_addEntry_104 (by decide) ?_ ?_
      · exact mr_vret d_mk_addEntry_127 rfl rfl
      · refine mr_aload_n d_mk_addEntry_107 rfl rfl ?_
        refine mr_get K_mk 5 d_mk_addEntry_108 lk_f_mk_32 (by decide) rfl rfl ?_
        refine mr_aload_n d_mk_addEntry_111 rfl rfl ?_
        refine mr_get K_mk 9 d_mk_addEntry_112 lk_f_mk_45 (by decide) rfl rfl ?_
        refine mr_iload_n d_mk_addEntry_115 rfl rfl ?_
        refine mr_iast (h2 := (HX x_members x_collaterals x_hasSent x_isSealed x_metered x_sealedCount bk_counts bk_needs bk_whens bk_sides bk_quantities bk_limits ag_toldLies ag_passedLies ag_words ag_vectors ag_liarOperator ag_rounds (upd mk_entries mk_entryCount.toNatClampNeg x1) (upd mk_slots mk_entryCount.toNatClampNeg x2) mk_remainders (upd mk_blocks mk_blockCount.toNatClampNeg x1) mk_blockBids mk_blockOffers (mk_entryCount + 1) mk_blockCount cv_limits cv_bids cv_offers cv_count cv_allBids cv_allOffers cv_meetingPrice cv_sureBids cv_sureOffers cv_priceBids cv_priceOffers cv_volume cv_worth oc_prices oc_volumes oc_filled oc_worth oc_takenSet oc_isDone, hT)) d_mk_addEntry_116 rfl rfl (fun hc3 => ?_)
        refine mr_aload_n d_mk_addEntry_117 rfl rfl ?_
        refine mr_dup d_mk_addEntry_118 rfl ?_
        refine mr_get K_mk 9 d_mk_addEntry_119 lk_f_mk_45 (by decide) rfl rfl ?_
        refine mr_iconst (v := 1) d_mk_addEntry_122 mc_iconst_1 ?_
        refine mr_iadd d_mk_addEntry_123 ?_
        refine mr_put (h2 := (HX x_members x_collaterals x_hasSent x_isSealed x_metered x_sealedCount bk_counts bk_needs bk_whens bk_sides bk_quantities bk_limits ag_toldLies ag_passedLies ag_words ag_vectors ag_liarOperator ag_rounds (upd mk_entries mk_entryCount.toNatClampNeg x1) (upd mk_slots mk_entryCount.toNatClampNeg x2) mk_remainders (upd mk_blocks mk_blockCount.toNatClampNeg x1) mk_blockBids mk_blockOffers (mk_entryCount + 1) (mk_blockCount + 1) cv_limits cv_bids cv_offers cv_count cv_allBids cv_allOffers cv_meetingPrice cv_sureBids cv_sureOffers cv_priceBids cv_priceOffers cv_volume cv_worth oc_prices oc_volumes oc_filled oc_worth oc_takenSet oc_isDone, hT)) K_mk 9 d_mk_addEntry_124 lk_f_mk_45 (by decide) rfl rfl rfl (Nat.le_of_ble_eq_true rfl) rfl rfl ?_
        exact mr_vret d_mk_addEntry_127 rfl rfl
    · refine mr_aload_n d_mk_addEntry_51 rfl rfl ?_
      refine mr_get K_mk 1 d_mk_addEntry_52 lk_f_mk_17 (by decide) rfl rfl ?_
      refine mr_aload_n d_mk_addEntry_55 rfl rfl ?_
      refine mr_get K_mk 0 d_mk_addEntry_56 lk_f_mk_9 (by decide) rfl rfl ?_
      refine mr_getN K_bk 2 d_mk_addEntry_59 lk_f_mk_70 (by decide) rfl rfl ?_
      refine mr_iload_n d_mk_addEntry_62 rfl rfl ?_
      refine mr_iald d_mk_addEntry_63 rfl (fun hc4 => ?_)
      refine mr_aald d_mk_addEntry_64 (fun _ => rfl) rfl (fun _ => rfl) (fun hc5 => ?_)
      refine mr_aload_n d_mk_addEntry_65 rfl rfl ?_
      refine mr_get K_mk 0 d_mk_addEntry_66 lk_f_mk_9 (by decide) rfl rfl ?_
      refine mr_getN K_bk 3 d_mk_addEntry_69 lk_f_mk_73 (by decide) rfl rfl ?_
      refine mr_iload_n d_mk_addEntry_72 rfl rfl ?_
      refine mr_ialdK d_mk_addEntry_73 rfl hc4 ?_
      refine mr_aload_n d_mk_addEntry_74 rfl rfl ?_
      refine mr_get K_mk 0 d_mk_addEntry_75 lk_f_mk_9 (by decide) rfl rfl ?_
      refine mr_getN K_bk 4 d_mk_addEntry_78 lk_f_mk_76 (by decide) rfl rfl ?_
      refine mr_iload_n d_mk_addEntry_81 rfl rfl ?_
      refine mr_ialdK d_mk_addEntry_82 rfl hc4 ?_
      refine mr_aload_n d_mk_addEntry_83 rfl rfl ?_
      refine mr_get K_mk 0 d_mk_addEntry_84 lk_f_mk_9 (by decide) rfl rfl ?_
      refine mr_getN K_bk 5 d_mk_addEntry_87 lk_f_mk_79 (by decide) rfl rfl ?_
      refine mr_iload_n d_mk_addEntry_90 rfl rfl ?_
      refine mr_ialdK d_mk_addEntry_91 rfl hc4 ?_
      refine mz_go (st := []) (e_c_add (mz_lt hc5)) (fun _ => rfl) U_c_add (mz_vV d_mk_addEntry_92 U_c_add rfl lk_m_mk_82 I_c_add s_c_add np_c_add (gt_c (mz_lt hc5)) rfl) (Nat.le_of_ble_eq_true rfl) (by decide) (fun r6 => ?_)
      refine mr_eq (st' := []) (ex' := ex) (h2 := (HX x_members x_collaterals x_hasSent x_isSealed x_metered x_sealedCount bk_counts bk_needs bk_whens bk_sides bk_quantities bk_limits ag_toldLies ag_passedLies ag_words ag_vectors ag_liarOperator ag_rounds (upd mk_entries mk_entryCount.toNatClampNeg x1) (upd mk_slots mk_entryCount.toNatClampNeg x2) mk_remainders mk_blocks mk_blockBids mk_blockOffers (mk_entryCount + 1) mk_blockCount (va_up cv_limits ((bk_whens x1.toNatClampNeg).toNatClampNeg) r6.1) (va_up cv_bids ((bk_whens x1.toNatClampNeg).toNatClampNeg) r6.2.1) (va_up cv_offers ((bk_whens x1.toNatClampNeg).toNatClampNeg) r6.2.2.1) (va_up cv_count ((bk_whens x1.toNatClampNeg).toNatClampNeg) r6.2.2.2.1) (va_up cv_allBids ((bk_whens x1.toNatClampNeg).toNatClampNeg) r6.2.2.2.2.1) (va_up cv_allOffers ((bk_whens x1.toNatClampNeg).toNatClampNeg) r6.2.2.2.2.2) cv_meetingPrice cv_sureBids cv_sureOffers cv_priceBids cv_priceOffers cv_volume cv_worth oc_prices oc_volumes oc_filled oc_worth oc_takenSet oc_isDone, hT)) (k' := 0) (n' := 0) rfl rfl rfl rfl rfl ?_
      refine mr_goto (tgt := 127) d_mk_addEntry_95 (by decide) ?_
      exact mr_vret d_mk_addEntry_127 rfl rfl
  · exact mr_vret d_mk_addEntry_9 rfl rfl
