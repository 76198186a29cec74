set_option maxRecDepth 100000 in
set_option maxHeartbeats 4000000 in
theorem e_x_isMember {g : mz_G} {ex : Bool} {hT : List mz_E} {x_members : Int32} {x_collaterals : Nat → Int32} {x_hasSent : Nat → Int32} {x_isSealed : Nat → Int32} {x_metered : Nat → Int32} {x_sealedCount : Int32} {bk_counts : Nat → Int32} {bk_needs : Nat → Int64} {bk_whens : Nat → Int32} {bk_sides : Nat → Int32} {bk_quantities : Nat → Int32} {bk_limits : Nat → Int32} {ag_toldLies : Nat → Int32} {ag_passedLies : Nat → Int32} {ag_words : Nat → Int32} {ag_vectors : Nat → Int32} {ag_liarOperator : Int32} {ag_rounds : Int32} {mk_entries : Nat → Int32} {mk_slots : Nat → Int32} {mk_remainders : Nat → Int32} {mk_blocks : Nat → Int32} {mk_blockBids : Nat → Int32} {mk_blockOffers : Nat → Int32} {mk_entryCount : Int32} {mk_blockCount : Int32} {cv_limits : Nat → Nat → Int32} {cv_bids : Nat → Nat → Int32} {cv_offers : Nat → Nat → Int32} {cv_count : Nat → Int32} {cv_allBids : Nat → Int32} {cv_allOffers : Nat → Int32} {cv_meetingPrice : Nat → Int32} {cv_sureBids : Nat → Int32} {cv_sureOffers : Nat → Int32} {cv_priceBids : Nat → Int32} {cv_priceOffers : Nat → Int32} {cv_volume : Nat → Int32} {cv_worth : Nat → Int64} {oc_prices : Nat → Nat → Int32} {oc_volumes : Nat → Nat → Int32} {oc_filled : Nat → Nat → Int32} {oc_worth : Nat → Int64} {oc_takenSet : Nat → Int32} {oc_isDone : Nat → Int32} {x1 : Int32} : mz_M g M_x_isMember 0 [.ref 0, .int x1] ex (HX x_members x_collaterals x_hasSent x_isSealed x_metered x_sealedCount bk_counts bk_needs bk_whens bk_sides bk_quantities bk_limits ag_toldLies ag_passedLies ag_words ag_vectors ag_liarOperator ag_rounds mk_entries mk_slots mk_remainders mk_blocks mk_blockBids mk_blockOffers mk_entryCount mk_blockCount cv_limits cv_bids cv_offers cv_count cv_allBids cv_allOffers cv_meetingPrice cv_sureBids cv_sureOffers cv_priceBids cv_priceOffers cv_volume cv_worth oc_prices oc_volumes oc_filled oc_worth oc_takenSet oc_isDone, hT) (f_x_isMember x_members x1) (fun r => (0, some (.int r), ex, (HX x_members x_collaterals x_hasSent x_isSealed x_metered x_sealedCount bk_counts bk_needs bk_whens bk_sides bk_quantities bk_limits ag_toldLies ag_passedLies ag_words ag_vectors ag_liarOperator ag_rounds mk_entries mk_slots mk_remainders mk_blocks mk_blockBids mk_blockOffers mk_entryCount mk_blockCount cv_limits cv_bids cv_offers cv_count cv_allBids cv_allOffers cv_meetingPrice cv_sureBids cv_sureOffers cv_priceBids cv_priceOffers cv_volume cv_worth oc_prices oc_volumes oc_filled oc_worth oc_takenSet oc_isDone, hT), 0, 0)) := by
  refine mz_of (by decide) (Nat.le_of_ble_eq_true rfl) ?_
  rw [f_x_isMember]
  show mz_A g M_x_isMember (mz_rm 0) _ 0 [(0, .ref 0), (1, .int x1)] [] ex (HX x_members x_collaterals x_hasSent x_isSealed x_metered x_sealedCount bk_counts bk_needs bk_whens bk_sides bk_quantities bk_limits ag_toldLies ag_passedLies ag_words ag_vectors ag_liarOperator ag_rounds mk_entries mk_slots mk_remainders mk_blocks mk_blockBids mk_blockOffers mk_entryCount mk_blockCount cv_limits cv_bids cv_offers cv_count cv_allBids cv_allOffers cv_meetingPrice cv_sureBids cv_sureOffers cv_priceBids cv_priceOffers cv_volume cv_worth oc_prices oc_volumes oc_filled oc_worth oc_takenSet oc_isDone, hT) 0 0 _
  refine mr_iload_n d_x_isMember_0 rfl rfl ?_
  refine mr_if_lt (tgt := 16) d_x_isMember_1 (by decide) ?_ ?_
  · refine mr_iconst (v := 0) d_x_isMember_16 mc_iconst_0 ?_
    exact mr_zret d_x_isMember_17 rfl rfl
  · refine mr_iload_n d_x_isMember_4 rfl rfl ?_
    refine mr_aload_n d_x_isMember_5 rfl rfl ?_
    refine mr_get K_x 0 d_x_isMember_6 lk_f_x_9 (by decide) rfl rfl ?_
    refine mr_icmp_ge (tgt := 16) d_x_isMember_9 (by decide) ?_ ?_
    · refine mr_iconst (v := 0) d_x_isMember_16 mc_iconst_0 ?_
      exact mr_zret d_x_isMember_17 rfl rfl
    · refine mr_iconst (v := 1) d_x_isMember_12 mc_iconst_1 ?_
      refine mr_goto (tgt := 17) d_x_isMember_13 (by decide) ?_
      exact mr_zret d_x_isMember_17 rfl rfl
set_option maxRecDepth 100000 in
set_option maxHeartbeats 4000000 in
theorem e_x_collateral {g : mz_G} {ex : Bool} {hT : List mz_E} {x_members : Int32} {x_collaterals : Nat → Int32} {x_hasSent : Nat → Int32} {x_isSealed : Nat → Int32} {x_metered : Nat → Int32} {x_sealedCount : Int32} {bk_counts : Nat → Int32} {bk_needs : Nat → Int64} {bk_whens : Nat → Int32} {bk_sides : Nat → Int32} {bk_quantities : Nat → Int32} {bk_limits : Nat → Int32} {ag_toldLies : Nat → Int32} {ag_passedLies : Nat → Int32} {ag_words : Nat → Int32} {ag_vectors : Nat → Int32} {ag_liarOperator : Int32} {ag_rounds : Int32} {mk_entries : Nat → Int32} {mk_slots : Nat → Int32} {mk_remainders : Nat → Int32} {mk_blocks : Nat → Int32} {mk_blockBids : Nat → Int32} {mk_blockOffers : Nat → Int32} {mk_entryCount : Int32} {mk_blockCount : Int32} {cv_limits : Nat → Nat → Int32} {cv_bids : Nat → Nat → Int32} {cv_offers : Nat → Nat → Int32} {cv_count : Nat → Int32} {cv_allBids : Nat → Int32} {cv_allOffers : Nat → Int32} {cv_meetingPrice : Nat → Int32} {cv_sureBids : Nat → Int32} {cv_sureOffers : Nat → Int32} {cv_priceBids : Nat → Int32} {cv_priceOffers : Nat → Int32} {cv_volume : Nat → Int32} {cv_worth : Nat → Int64} {oc_prices : Nat → Nat → Int32} {oc_volumes : Nat → Nat → Int32} {oc_filled : Nat → Nat → Int32} {oc_worth : Nat → Int64} {oc_takenSet : Nat → Int32} {oc_isDone : Nat → Int32} {x1 : Int32} {x2 : Int32} : mz_M g M_x_collateral 6 [.ref 0, .int x1, .int x2] ex (HX x_members x_collaterals x_hasSent x_isSealed x_metered x_sealedCount bk_counts bk_needs bk_whens bk_sides bk_quantities bk_limits ag_toldLies ag_passedLies ag_words ag_vectors ag_liarOperator ag_rounds mk_entries mk_slots mk_remainders mk_blocks mk_blockBids mk_blockOffers mk_entryCount mk_blockCount cv_limits cv_bids cv_offers cv_count cv_allBids cv_allOffers cv_meetingPrice cv_sureBids cv_sureOffers cv_priceBids cv_priceOffers cv_volume cv_worth oc_prices oc_volumes oc_filled oc_worth oc_takenSet oc_isDone, hT) (f_x_collateral x_members x_collaterals x_hasSent x_isSealed x1 x2) (fun r => (r.1, none, mz_x ex r.1, (HX x_members r.2 x_hasSent x_isSealed x_metered x_sealedCount bk_counts bk_needs bk_whens bk_sides bk_quantities bk_limits ag_toldLies ag_passedLies ag_words ag_vectors ag_liarOperator ag_rounds mk_entries mk_slots mk_remainders mk_blocks mk_blockBids mk_blockOffers mk_entryCount mk_blockCount cv_limits cv_bids cv_offers cv_count cv_allBids cv_allOffers cv_meetingPrice cv_sureBids cv_sureOffers cv_priceBids cv_priceOffers cv_volume cv_worth oc_prices oc_volumes oc_filled oc_worth oc_takenSet oc_isDone, hT), mz_k r.1, mz_6 r.1)) := by
  have w_b46 : ∀ (x_collaterals : Nat → Int32), mz_A g M_x_collateral (mz_rm 6) (fun r => (r.1, none, mz_x ex r.1, (HX x_members r.2 x_hasSent x_isSealed x_metered x_sealedCount bk_counts bk_needs bk_whens bk_sides bk_quantities bk_limits ag_toldLies ag_passedLies ag_words ag_vectors ag_liarOperator ag_rounds mk_entries mk_slots mk_remainders mk_blocks mk_blockBids mk_blockOffers mk_entryCount mk_blockCount cv_limits cv_bids cv_offers cv_count cv_allBids cv_allOffers cv_meetingPrice cv_sureBids cv_sureOffers cv_priceBids cv_priceOffers cv_volume cv_worth oc_prices oc_volumes oc_filled oc_worth oc_takenSet oc_isDone, hT), mz_k r.1, mz_6 r.1)) 46 [] [] ex (HX x_members x_collaterals x_hasSent x_isSealed x_metered x_sealedCount bk_counts bk_needs bk_whens bk_sides bk_quantities bk_limits ag_toldLies ag_passedLies ag_words ag_vectors ag_liarOperator ag_rounds mk_entries mk_slots mk_remainders mk_blocks mk_blockBids mk_blockOffers mk_entryCount mk_blockCount cv_limits cv_bids cv_offers cv_count cv_allBids cv_allOffers cv_meetingPrice cv_sureBids cv_sureOffers cv_priceBids cv_priceOffers cv_volume cv_worth oc_prices oc_volumes oc_filled oc_worth oc_takenSet oc_isDone, hT) 0 0 (f_x_collateral_b46 x_members x_hasSent x_isSealed x_collaterals) := by
    intro  x_collaterals
    rw [f_x_collateral_b46]
    exact mr_throw d_x_collateral_46 d_x_collateral_49 d_x_collateral_50 d_x_collateral_52 d_x_collateral_55 tw_x_74_2 rfl (Nat.le_of_ble_eq_true rfl) (Nat.le_of_ble_eq_true rfl) (Nat.le_of_ble_eq_true rfl) (Nat.le_of_ble_eq_true rfl) rfl
  have w_b18 : ∀ (x_collaterals : Nat → Int32), mz_A g M_x_collateral (mz_rm 6) (fun r => (r.1, none, mz_x ex r.1, (HX x_members r.2 x_hasSent x_isSealed x_metered x_sealedCount bk_counts bk_needs bk_whens bk_sides bk_quantities bk_limits ag_toldLies ag_passedLies ag_words ag_vectors ag_liarOperator ag_rounds mk_entries mk_slots mk_remainders mk_blocks mk_blockBids mk_blockOffers mk_entryCount mk_blockCount cv_limits cv_bids cv_offers cv_count cv_allBids cv_allOffers cv_meetingPrice cv_sureBids cv_sureOffers cv_priceBids cv_priceOffers cv_volume cv_worth oc_prices oc_volumes oc_filled oc_worth oc_takenSet oc_isDone, hT), mz_k r.1, mz_6 r.1)) 18 [] [] ex (HX x_members x_collaterals x_hasSent x_isSealed x_metered x_sealedCount bk_counts bk_needs bk_whens bk_sides bk_quantities bk_limits ag_toldLies ag_passedLies ag_words ag_vectors ag_liarOperator ag_rounds mk_entries mk_slots mk_remainders mk_blocks mk_blockBids mk_blockOffers mk_entryCount mk_blockCount cv_limits cv_bids cv_offers cv_count cv_allBids cv_allOffers cv_meetingPrice cv_sureBids cv_sureOffers cv_priceBids cv_priceOffers cv_volume cv_worth oc_prices oc_volumes oc_filled oc_worth oc_takenSet oc_isDone, hT) 0 0 (f_x_collateral_b18 x_members x_hasSent x_isSealed x_collaterals) := by
    intro  x_collaterals
    rw [f_x_collateral_b18]
    exact mr_throw d_x_collateral_18 d_x_collateral_21 d_x_collateral_22 d_x_collateral_24 d_x_collateral_27 tw_x_67_1 rfl (Nat.le_of_ble_eq_true rfl) (Nat.le_of_ble_eq_true rfl) (Nat.le_of_ble_eq_true rfl) (Nat.le_of_ble_eq_true rfl) rfl
  refine mz_of (by decide) (Nat.le_of_ble_eq_true rfl) ?_
  rw [f_x_collateral]
  show mz_A g M_x_collateral (mz_rm 6) _ 0 [(0, .ref 0), (1, .int x1), (2, .int x2)] [] ex (HX x_members x_collaterals x_hasSent x_isSealed x_metered x_sealedCount bk_counts bk_needs bk_whens bk_sides bk_quantities bk_limits ag_toldLies ag_passedLies ag_words ag_vectors ag_liarOperator ag_rounds mk_entries mk_slots mk_remainders mk_blocks mk_blockBids mk_blockOffers mk_entryCount mk_blockCount cv_limits cv_bids cv_offers cv_count cv_allBids cv_allOffers cv_meetingPrice cv_sureBids cv_sureOffers cv_priceBids cv_priceOffers cv_volume cv_worth oc_prices oc_volumes oc_filled oc_worth oc_takenSet oc_isDone, hT) 0 0 _
  refine mr_aload_n d_x_collateral_0 rfl rfl ?_
  refine mr_iload_n d_x_collateral_1 rfl rfl ?_
  refine mz_go (st := []) e_x_isMember (fun _ => rfl) U_x_isMember (mz_vV d_x_collateral_2 U_x_isMember rfl lk_m_x_60 I_x_isMember s_x_isMember np_x_isMember rfl rfl) (Nat.le_of_ble_eq_true rfl) (by decide) (fun r1 => ?_)
  refine mr_eq (st' := [.int r1]) (ex' := ex) (h2 := (HX x_members x_collaterals x_hasSent x_isSealed x_metered x_sealedCount bk_counts bk_needs bk_whens bk_sides bk_quantities bk_limits ag_toldLies ag_passedLies ag_words ag_vectors ag_liarOperator ag_rounds mk_entries mk_slots mk_remainders mk_blocks mk_blockBids mk_blockOffers mk_entryCount mk_blockCount cv_limits cv_bids cv_offers cv_count cv_allBids cv_allOffers cv_meetingPrice cv_sureBids cv_sureOffers cv_priceBids cv_priceOffers cv_volume cv_worth oc_prices oc_volumes oc_filled oc_worth oc_takenSet oc_isDone, hT)) (k' := 0) (n' := 0) rfl rfl rfl rfl rfl ?_
  refine mr_if_eq (tgt := 18) d_x_collateral_5 (by decide) ?_ ?_
  · refine mr_sub (lv' := []) [] rfl ?_
    exact w_b18 _
  · refine mr_iload_n d_x_collateral_8 rfl rfl ?_
    refine mr_if_lt (tgt := 18) d_x_collateral_9 (by decide) ?_ ?_
    · refine mr_sub (lv' := []) [] rfl ?_
      exact w_b18 _
    · refine mr_iload_n d_x_collateral_12 rfl rfl ?_
      refine mr_ldc (v := 1000000000) d_x_collateral_13 lk_k_x_64 ?_
      refine mr_icmp_le (tgt := 28) d_x_collateral_15 (by decide) ?_ ?_
      · refine mr_aload_n d_x_collateral_28 rfl rfl ?_
        refine mr_get K_x 2 d_x_collateral_29 lk_f_x_17 (by decide) rfl rfl ?_
        refine mr_iload_n d_x_collateral_32 rfl rfl ?_
        refine mr_zald d_x_collateral_33 rfl (fun hc2 => ?_)
        refine mr_if_ne (tgt := 46) d_x_collateral_34 (by decide) ?_ ?_
        · refine mr_sub (lv' := []) [] rfl ?_
          exact w_b46 _
        · refine mr_aload_n d_x_collateral_37 rfl rfl ?_
          refine mr_get K_x 3 d_x_collateral_38 lk_f_x_21 (by decide) rfl rfl ?_
          refine mr_iload_n d_x_collateral_41 rfl rfl ?_
          refine mr_zaldK d_x_collateral_42 rfl hc2 ?_
          refine mr_if_eq (tgt := 56) d_x_collateral_43 (by decide) ?_ ?_
          · refine mr_aload_n d_x_collateral_56 rfl rfl ?_
            refine mr_get K_x 1 d_x_collateral_57 lk_f_x_13 (by decide) rfl rfl ?_
            refine mr_iload_n d_x_collateral_60 rfl rfl ?_
            refine mr_iload_n d_x_collateral_61 rfl rfl ?_
            refine mr_iastK (h2 := (HX x_members (upd x_collaterals x1.toNatClampNeg x2) x_hasSent x_isSealed x_metered x_sealedCount bk_counts bk_needs bk_whens bk_sides bk_quantities bk_limits ag_toldLies ag_passedLies ag_words ag_vectors ag_liarOperator ag_rounds mk_entries mk_slots mk_remainders mk_blocks mk_blockBids mk_blockOffers mk_entryCount mk_blockCount cv_limits cv_bids cv_offers cv_count cv_allBids cv_allOffers cv_meetingPrice cv_sureBids cv_sureOffers cv_priceBids cv_priceOffers cv_volume cv_worth oc_prices oc_volumes oc_filled oc_worth oc_takenSet oc_isDone, hT)) d_x_collateral_62 rfl rfl hc2 ?_
            exact mr_vret d_x_collateral_63 rfl rfl
          · refine mr_sub (lv' := []) [] rfl ?_
            exact w_b46 _
      · refine mr_sub (lv' := []) [] rfl ?_
        exact w_b18 _
set_option maxRecDepth 100000 in
set_option maxHeartbeats 4000000 in
theorem e_x_isHour {g : mz_G} {ex : Bool} {h : mz_H} {x0 : Int32} : mz_M g M_x_isHour 0 [.int x0] ex h (f_x_isHour x0) (fun r => (0, some (.int r), ex, h, 0, 0)) := by
  refine mz_of (by decide) (Nat.le_of_ble_eq_true rfl) ?_
  rw [f_x_isHour]
  show mz_A g M_x_isHour (mz_rm 0) _ 0 [(0, .int x0)] [] ex h 0 0 _
  refine mr_iload_n d_x_isHour_0 rfl rfl ?_
  refine mr_if_lt (tgt := 13) d_x_isHour_1 (by decide) ?_ ?_
  · refine mr_iconst (v := 0) d_x_isHour_13 mc_iconst_0 ?_
    exact mr_zret d_x_isHour_14 rfl rfl
  · refine mr_iload_n d_x_isHour_4 rfl rfl ?_
    refine mr_iconst (v := 3) d_x_isHour_5 mc_iconst_3 ?_
    refine mr_icmp_ge (tgt := 13) d_x_isHour_6 (by decide) ?_ ?_
    · refine mr_iconst (v := 0) d_x_isHour_13 mc_iconst_0 ?_
      exact mr_zret d_x_isHour_14 rfl rfl
    · refine mr_iconst (v := 1) d_x_isHour_9 mc_iconst_1 ?_
      refine mr_goto (tgt := 14) d_x_isHour_10 (by decide) ?_
      exact mr_zret d_x_isHour_14 rfl rfl
set_option maxRecDepth 100000 in
set_option maxHeartbeats 4000000 in
theorem e_bk_costOfOne {g : mz_G} {ex : Bool} {h : mz_H} {x0 : Int32} {x1 : Int32} : mz_M g M_bk_costOfOne 0 [.int x0, .int x1] ex h (f_bk_costOfOne x0 x1) (fun r => (0, some (.int r), ex, h, 0, 0)) := by
  have w_b10 : ∀ (s0 : Int32), mz_A g M_bk_costOfOne (mz_rm 0) (fun r => (0, some (.int r), ex, h, 0, 0)) 10 [] [.int s0] ex h 0 0 (f_bk_costOfOne_b10 s0) := by
    intro  s0
    rw [f_bk_costOfOne_b10]
    refine mr_istore_n (lv' := [(2, .int s0)]) d_bk_costOfOne_10 rfl (by decide) rfl ?_
    refine mr_iload_n d_bk_costOfOne_11 rfl rfl ?_
    refine mr_if_le (tgt := 19) d_bk_costOfOne_12 (by decide) ?_ ?_
    · refine mr_iconst (v := 0) d_bk_costOfOne_19 mc_iconst_0 ?_
      exact mr_iret d_bk_costOfOne_20 rfl rfl
    · refine mr_iload_n d_bk_costOfOne_15 rfl rfl ?_
      refine mr_goto (tgt := 20) d_bk_costOfOne_16 (by decide) ?_
      exact mr_iret d_bk_costOfOne_20 rfl rfl
  refine mz_of (by decide) (Nat.le_of_ble_eq_true rfl) ?_
  rw [f_bk_costOfOne]
  show mz_A g M_bk_costOfOne (mz_rm 0) _ 0 [(0, .int x0), (1, .int x1)] [] ex h 0 0 _
  refine mr_iload_n d_bk_costOfOne_0 rfl rfl ?_
  refine mr_if_ne (tgt := 8) d_bk_costOfOne_1 (by decide) ?_ ?_
  · refine mr_iload_n d_bk_costOfOne_8 rfl rfl ?_
    refine mr_ineg d_bk_costOfOne_9 ?_
    refine mr_sub (lv' := []) [] rfl ?_
    exact w_b10 _
  · refine mr_iload_n d_bk_costOfOne_4 rfl rfl ?_
    refine mr_goto (tgt := 10) d_bk_costOfOne_5 (by decide) ?_
    refine mr_sub (lv' := []) [] rfl ?_
    exact w_b10 _
set_option maxRecDepth 100000 in
set_option maxHeartbeats 4000000 in
theorem e_bk_firstHour {g : mz_G} {ex : Bool} {h : mz_H} {x0 : Int32} : mz_M g M_bk_firstHour 0 [.int x0] ex h (f_bk_firstHour x0) (fun r => (0, some (.int r), ex, h, 0, 0)) := by
  refine mz_of (by decide) (Nat.le_of_ble_eq_true rfl) ?_
  rw [f_bk_firstHour]
  show mz_A g M_bk_firstHour (mz_rm 0) _ 0 [(0, .int x0)] [] ex h 0 0 _
  refine mr_iload_n d_bk_firstHour_0 rfl rfl ?_
  refine mr_bipush (v := 100) d_bk_firstHour_1 mc_bipush_100 ?_
  refine mr_icmp_lt (tgt := 15) d_bk_firstHour_3 (by decide) ?_ ?_
  · refine mr_iload_n d_bk_firstHour_15 rfl rfl ?_
    exact mr_iret d_bk_firstHour_16 rfl rfl
  · refine mr_iload_n d_bk_firstHour_6 rfl rfl ?_
    refine mr_bipush (v := 100) d_bk_firstHour_7 mc_bipush_100 ?_
    refine mr_isub d_bk_firstHour_9 ?_
    refine mr_iconst (v := 4) d_bk_firstHour_10 mc_iconst_4 ?_
    refine mr_idivK d_bk_firstHour_11 (by decide) ?_
    refine mr_goto (tgt := 16) d_bk_firstHour_12 (by decide) ?_
    exact mr_iret d_bk_firstHour_16 rfl rfl
set_option maxRecDepth 100000 in
set_option maxHeartbeats 4000000 in
theorem e_bk_lastHour {g : mz_G} {ex : Bool} {h : mz_H} {x0 : Int32} : mz_M g M_bk_lastHour 0 [.int x0] ex h (f_bk_lastHour x0) (fun r => (0, some (.int r), ex, h, 0, 0)) := by
  refine mz_of (by decide) (Nat.le_of_ble_eq_true rfl) ?_
  rw [f_bk_lastHour]
  show mz_A g M_bk_lastHour (mz_rm 0) _ 0 [(0, .int x0)] [] ex h 0 0 _
  refine mr_iload_n d_bk_lastHour_0 rfl rfl ?_
  refine mr_bipush (v := 100) d_bk_lastHour_1 mc_bipush_100 ?_
  refine mr_icmp_lt (tgt := 15) d_bk_lastHour_3 (by decide) ?_ ?_
  · refine mr_iload_n d_bk_lastHour_15 rfl rfl ?_
    exact mr_iret d_bk_lastHour_16 rfl rfl
  · refine mr_iload_n d_bk_lastHour_6 rfl rfl ?_
    refine mr_bipush (v := 100) d_bk_lastHour_7 mc_bipush_100 ?_
    refine mr_isub d_bk_lastHour_9 ?_
    refine mr_iconst (v := 4) d_bk_lastHour_10 mc_iconst_4 ?_
    refine mr_iremK d_bk_lastHour_11 (by decide) ?_
    refine mr_goto (tgt := 16) d_bk_lastHour_12 (by decide) ?_
    exact mr_iret d_bk_lastHour_16 rfl rfl
set_option maxRecDepth 100000 in
set_option maxHeartbeats 4000000 in
theorem e_bk_lengthOf {g : mz_G} {ex : Bool} {h : mz_H} {x0 : Int32} : mz_M g M_bk_lengthOf 1 [.int x0] ex h (f_bk_lengthOf x0) (fun r => (0, some (.int r), ex, h, 0, 0)) := by
  refine mz_of (by decide) (Nat.le_of_ble_eq_true rfl) ?_
  rw [f_bk_lengthOf]
  show mz_A g M_bk_lengthOf (mz_rm 1) _ 0 [(0, .int x0)] [] ex h 0 0 _
  refine mr_iload_n d_bk_lengthOf_0 rfl rfl ?_
  refine mz_go (st := []) e_bk_lastHour (fun _ => rfl) U_bk_lastHour (mz_vS d_bk_lengthOf_1 U_bk_lastHour lk_m_bk_46 S_bk_lastHour np_bk_lastHour) (Nat.le_of_ble_eq_true rfl) (by decide) (fun r1 => ?_)
  refine mr_eq (st' := [.int r1]) (ex' := ex) (h2 := h) (k' := 0) (n' := 0) rfl rfl rfl rfl rfl ?_
  refine mr_iload_n d_bk_lengthOf_4 rfl rfl ?_
  refine mz_go (st := [.int r1]) e_bk_firstHour (fun _ => rfl) U_bk_firstHour (mz_vS d_bk_lengthOf_5 U_bk_firstHour lk_m_bk_43 S_bk_firstHour np_bk_firstHour) (Nat.le_of_ble_eq_true rfl) (by decide) (fun r2 => ?_)
  refine mr_eq (st' := [.int r2, .int r1]) (ex' := ex) (h2 := h) (k' := 0) (n' := 0) rfl rfl rfl rfl rfl ?_
  refine mr_isub d_bk_lengthOf_8 ?_
  refine mr_iconst (v := 1) d_bk_lengthOf_9 mc_iconst_1 ?_
  refine mr_iadd d_bk_lengthOf_10 ?_
  exact mr_iret d_bk_lengthOf_11 rfl rfl
set_option maxRecDepth 100000 in
set_option maxHeartbeats 4000000 in
theorem e_bk_take {g : mz_G} {ex : Bool} {hT : List mz_E} {x_members : Int32} {x_collaterals : Nat → Int32} {x_hasSent : Nat → Int32} {x_isSealed : Nat → Int32} {x_metered : Nat → Int32} {x_sealedCount : Int32} {bk_counts : Nat → Int32} {bk_needs : Nat → Int64} {bk_whens : Nat → Int32} {bk_sides : Nat → Int32} {bk_quantities : Nat → Int32} {bk_limits : Nat → Int32} {ag_toldLies : Nat → Int32} {ag_passedLies : Nat → Int32} {ag_words : Nat → Int32} {ag_vectors : Nat → Int32} {ag_liarOperator : Int32} {ag_rounds : Int32} {mk_entries : Nat → Int32} {mk_slots : Nat → Int32} {mk_remainders : Nat → Int32} {mk_blocks : Nat → Int32} {mk_blockBids : Nat → Int32} {mk_blockOffers : Nat → Int32} {mk_entryCount : Int32} {mk_blockCount : Int32} {cv_limits : Nat → Nat → Int32} {cv_bids : Nat → Nat → Int32} {cv_offers : Nat → Nat → Int32} {cv_count : Nat → Int32} {cv_allBids : Nat → Int32} {cv_allOffers : Nat → Int32} {cv_meetingPrice : Nat → Int32} {cv_sureBids : Nat → Int32} {cv_sureOffers : Nat → Int32} {cv_priceBids : Nat → Int32} {cv_priceOffers : Nat → Int32} {cv_volume : Nat → Int32} {cv_worth : Nat → Int64} {oc_prices : Nat → Nat → Int32} {oc_volumes : Nat → Nat → Int32} {oc_filled : Nat → Nat → Int32} {oc_worth : Nat → Int64} {oc_takenSet : Nat → Int32} {oc_isDone : Nat → Int32} {x1 : Int32} {x2 : Int32} {x3 : Int32} {x4 : Int32} {x5 : Int32} {x6 : Int32} : mz_M g M_bk_take 2 [.ref 5, .int x1, .int x2, .int x3, .int x4, .int x5, .int x6] ex (HX x_members x_collaterals x_hasSent x_isSealed x_metered x_sealedCount bk_counts bk_needs bk_whens bk_sides bk_quantities bk_limits ag_toldLies ag_passedLies ag_words ag_vectors ag_liarOperator ag_rounds mk_entries mk_slots mk_remainders mk_blocks mk_blockBids mk_blockOffers mk_entryCount mk_blockCount cv_limits cv_bids cv_offers cv_count cv_allBids cv_allOffers cv_meetingPrice cv_sureBids cv_sureOffers cv_priceBids cv_priceOffers cv_volume cv_worth oc_prices oc_volumes oc_filled oc_worth oc_takenSet oc_isDone, hT) (f_bk_take bk_counts bk_needs bk_whens bk_sides bk_quantities bk_limits x1 x2 x3 x4 x5 x6) (fun r => (0, some (.int r.1), ex, (HX x_members x_collaterals x_hasSent x_isSealed x_metered x_sealedCount r.2.1 r.2.2.1 r.2.2.2.1 r.2.2.2.2.1 r.2.2.2.2.2.1 r.2.2.2.2.2.2 ag_toldLies ag_passedLies ag_words ag_vectors ag_liarOperator ag_rounds mk_entries mk_slots mk_remainders mk_blocks mk_blockBids mk_blockOffers mk_entryCount mk_blockCount cv_limits cv_bids cv_offers cv_count cv_allBids cv_allOffers cv_meetingPrice cv_sureBids cv_sureOffers cv_priceBids cv_priceOffers cv_volume cv_worth oc_prices oc_volumes oc_filled oc_worth oc_takenSet oc_isDone, hT), 0, 0)) := by
  refine mz_of (by decide) (Nat.le_of_ble_eq_true rfl) ?_
  rw [f_bk_take]
  show mz_A g M_bk_take (mz_rm 2) _ 0 [(0, .ref 5), (1, .int x1), (2, .int x2), (3, .int x3), (4, .int x4), (5, .int x5), (6, .int x6)] [] ex (HX x_members x_collaterals x_hasSent x_isSealed x_metered x_sealedCount bk_counts bk_needs bk_whens bk_sides bk_quantities bk_limits ag_toldLies ag_passedLies ag_words ag_vectors ag_liarOperator ag_rounds mk_entries mk_slots mk_remainders mk_blocks mk_blockBids mk_blockOffers mk_entryCount mk_blockCount cv_limits cv_bids cv_offers cv_count cv_allBids cv_allOffers cv_meetingPrice cv_sureBids cv_sureOffers cv_priceBids cv_priceOffers cv_volume cv_worth oc_prices oc_volumes oc_filled oc_worth oc_takenSet oc_isDone, hT) 0 0 _
  refine mr_aload_n d_bk_take_0 rfl rfl ?_
  refine mr_get K_bk 1 d_bk_take_1 lk_f_bk_15 (by decide) rfl rfl ?_
  refine mr_iload_n d_bk_take_4 rfl rfl ?_
  refine mr_lald d_bk_take_5 rfl (fun hc1 => ?_)
  refine mr_iload d_bk_take_6 rfl ?_
  refine mr_i2l d_bk_take_8 ?_
  refine mr_iload d_bk_take_9 rfl ?_
  refine mr_iload d_bk_take_11 rfl ?_
  refine mz_go (st := [.long (Int32.toInt64 x5), .long (bk_needs x1.toNatClampNeg)]) e_bk_costOfOne (fun _ => rfl) U_bk_costOfOne (mz_vS d_bk_take_13 U_bk_costOfOne lk_m_bk_31 S_bk_costOfOne np_bk_costOfOne) (Nat.le_of_ble_eq_true rfl) (by decide) (fun r2 => ?_)
  refine mr_eq (st' := [.int r2, .long (Int32.toInt64 x5), .long (bk_needs x1.toNatClampNeg)]) (ex' := ex) (h2 := (HX x_members x_collaterals x_hasSent x_isSealed x_metered x_sealedCount bk_counts bk_needs bk_whens bk_sides bk_quantities bk_limits ag_toldLies ag_passedLies ag_words ag_vectors ag_liarOperator ag_rounds mk_entries mk_slots mk_remainders mk_blocks mk_blockBids mk_blockOffers mk_entryCount mk_blockCount cv_limits cv_bids cv_offers cv_count cv_allBids cv_allOffers cv_meetingPrice cv_sureBids cv_sureOffers cv_priceBids cv_priceOffers cv_volume cv_worth oc_prices oc_volumes oc_filled oc_worth oc_takenSet oc_isDone, hT)) (k' := 0) (n' := 0) rfl rfl rfl rfl rfl ?_
  refine mr_i2l d_bk_take_16 ?_
  refine mr_lmul d_bk_take_17 ?_
  refine mr_iload_n d_bk_take_18 rfl rfl ?_
  refine mz_go (st := [.long ((Int32.toInt64 x5) * (Int32.toInt64 r2)), .long (bk_needs x1.toNatClampNeg)]) e_bk_lengthOf (fun _ => rfl) U_bk_lengthOf (mz_vS d_bk_take_19 U_bk_lengthOf lk_m_bk_35 S_bk_lengthOf np_bk_lengthOf) (Nat.le_of_ble_eq_true rfl) (by decide) (fun r3 => ?_)
  refine mr_eq (st' := [.int r3, .long ((Int32.toInt64 x5) * (Int32.toInt64 r2)), .long (bk_needs x1.toNatClampNeg)]) (ex' := ex) (h2 := (HX x_members x_collaterals x_hasSent x_isSealed x_metered x_sealedCount bk_counts bk_needs bk_whens bk_sides bk_quantities bk_limits ag_toldLies ag_passedLies ag_words ag_vectors ag_liarOperator ag_rounds mk_entries mk_slots mk_remainders mk_blocks mk_blockBids mk_blockOffers mk_entryCount mk_blockCount cv_limits cv_bids cv_offers cv_count cv_allBids cv_allOffers cv_meetingPrice cv_sureBids cv_sureOffers cv_priceBids cv_priceOffers cv_volume cv_worth oc_prices oc_volumes oc_filled oc_worth oc_takenSet oc_isDone, hT)) (k' := 0) (n' := 0) rfl rfl rfl rfl rfl ?_
  refine mr_i2l d_bk_take_22 ?_
  refine mr_lmul d_bk_take_23 ?_
  refine mr_ladd d_bk_take_24 ?_
  refine mr_lstore (lv' := [(7, .long ((bk_needs x1.toNatClampNeg) + (((Int32.toInt64 x5) * (Int32.toInt64 r2)) * (Int32.toInt64 r3)))), (0, .ref 5), (1, .int x1), (2, .int x2), (3, .int x3), (4, .int x4), (5, .int x5), (6, .int x6)]) d_bk_take_25 (by decide) rfl ?_
  refine mr_aload_n d_bk_take_27 rfl rfl ?_
  refine mr_get K_bk 0 d_bk_take_28 lk_f_bk_9 (by decide) rfl rfl ?_
  refine mr_iload_n d_bk_take_31 rfl rfl ?_
  refine mr_ialdK d_bk_take_32 rfl hc1 ?_
  refine mr_bipush (v := 10) d_bk_take_33 mc_bipush_10 ?_
  refine mr_icmp_ge (tgt := 46) d_bk_take_35 (by decide) ?_ ?_
  · refine mr_iconst (v := 0) d_bk_take_46 mc_iconst_0 ?_
    exact mr_zret d_bk_take_47 rfl rfl
  · refine mr_lload d_bk_take_38 rfl ?_
    refine mr_iload_n d_bk_take_40 rfl rfl ?_
    refine mr_i2l d_bk_take_41 ?_
    refine mr_lcmp d_bk_take_42 ?_
    refine mr_if_le (tgt := 48) d_bk_take_43 (by decide) ?_ ?_
    · refine mr_bipush (v := 10) d_bk_take_48 mc_bipush_10 ?_
      refine mr_iload_n d_bk_take_50 rfl rfl ?_
      refine mr_imul d_bk_take_51 ?_
      refine mr_aload_n d_bk_take_52 rfl rfl ?_
      refine mr_get K_bk 0 d_bk_take_53 lk_f_bk_9 (by decide) rfl rfl ?_
      refine mr_iload_n d_bk_take_56 rfl rfl ?_
      refine mr_ialdK d_bk_take_57 rfl hc1 ?_
      refine mr_iadd d_bk_take_58 ?_
      refine mr_istore (lv' := [(9, .int ((10 * x1) + (bk_counts x1.toNatClampNeg))), (7, .long ((bk_needs x1.toNatClampNeg) + (((Int32.toInt64 x5) * (Int32.toInt64 r2)) * (Int32.toInt64 r3)))), (0, .ref 5), (1, .int x1), (2, .int x2), (3, .int x3), (4, .int x4), (5, .int x5), (6, .int x6)]) d_bk_take_59 (by decide) rfl ?_
      refine mr_aload_n d_bk_take_61 rfl rfl ?_
      refine mr_get K_bk 2 d_bk_take_62 lk_f_bk_19 (by decide) rfl rfl ?_
      refine mr_iload d_bk_take_65 rfl ?_
      refine mr_iload_n d_bk_take_67 rfl rfl ?_
      refine mr_iast (h2 := (HX x_members x_collaterals x_hasSent x_isSealed x_metered x_sealedCount bk_counts bk_needs (upd bk_whens ((10 * x1) + (bk_counts x1.toNatClampNeg)).toNatClampNeg x3) bk_sides bk_quantities bk_limits ag_toldLies ag_passedLies ag_words ag_vectors ag_liarOperator ag_rounds mk_entries mk_slots mk_remainders mk_blocks mk_blockBids mk_blockOffers mk_entryCount mk_blockCount cv_limits cv_bids cv_offers cv_count cv_allBids cv_allOffers cv_meetingPrice cv_sureBids cv_sureOffers cv_priceBids cv_priceOffers cv_volume cv_worth oc_prices oc_volumes oc_filled oc_worth oc_takenSet oc_isDone, hT)) d_bk_take_68 rfl rfl (fun hc4 => ?_)
      refine mr_aload_n d_bk_take_69 rfl rfl ?_
      refine mr_get K_bk 3 d_bk_take_70 lk_f_bk_22 (by decide) rfl rfl ?_
      refine mr_iload d_bk_take_73 rfl ?_
      refine mr_iload d_bk_take_75 rfl ?_
      refine mr_iastK (h2 := (HX x_members x_collaterals x_hasSent x_isSealed x_metered x_sealedCount bk_counts bk_needs (upd bk_whens ((10 * x1) + (bk_counts x1.toNatClampNeg)).toNatClampNeg x3) (upd bk_sides ((10 * x1) + (bk_counts x1.toNatClampNeg)).toNatClampNeg x4) bk_quantities bk_limits ag_toldLies ag_passedLies ag_words ag_vectors ag_liarOperator ag_rounds mk_entries mk_slots mk_remainders mk_blocks mk_blockBids mk_blockOffers mk_entryCount mk_blockCount cv_limits cv_bids cv_offers cv_count cv_allBids cv_allOffers cv_meetingPrice cv_sureBids cv_sureOffers cv_priceBids cv_priceOffers cv_volume cv_worth oc_prices oc_volumes oc_filled oc_worth oc_takenSet oc_isDone, hT)) d_bk_take_77 rfl rfl hc4 ?_
      refine mr_aload_n d_bk_take_78 rfl rfl ?_
      refine mr_get K_bk 4 d_bk_take_79 lk_f_bk_25 (by decide) rfl rfl ?_
      refine mr_iload d_bk_take_82 rfl ?_
      refine mr_iload d_bk_take_84 rfl ?_
      refine mr_iastK (h2 := (HX x_members x_collaterals x_hasSent x_isSealed x_metered x_sealedCount bk_counts bk_needs (upd bk_whens ((10 * x1) + (bk_counts x1.toNatClampNeg)).toNatClampNeg x3) (upd bk_sides ((10 * x1) + (bk_counts x1.toNatClampNeg)).toNatClampNeg x4) (upd bk_quantities ((10 * x1) + (bk_counts x1.toNatClampNeg)).toNatClampNeg x5) bk_limits ag_toldLies ag_passedLies ag_words ag_vectors ag_liarOperator ag_rounds mk_entries mk_slots mk_remainders mk_blocks mk_blockBids mk_blockOffers mk_entryCount mk_blockCount cv_limits cv_bids cv_offers cv_count cv_allBids cv_allOffers cv_meetingPrice cv_sureBids cv_sureOffers cv_priceBids cv_priceOffers cv_volume cv_worth oc_prices oc_volumes oc_filled oc_worth oc_takenSet oc_isDone, hT)) d_bk_take_86 rfl rfl hc4 ?_
      refine mr_aload_n d_bk_take_87 rfl rfl ?_
      refine mr_get K_bk 5 d_bk_take_88 lk_f_bk_28 (by decide) rfl rfl ?_
      refine mr_iload d_bk_take_91 rfl ?_
      refine mr_iload d_bk_take_93 rfl ?_
      refine mr_iastK (h2 := (HX x_members x_collaterals x_hasSent x_isSealed x_metered x_sealedCount bk_counts bk_needs (upd bk_whens ((10 * x1) + (bk_counts x1.toNatClampNeg)).toNatClampNeg x3) (upd bk_sides ((10 * x1) + (bk_counts x1.toNatClampNeg)).toNatClampNeg x4) (upd bk_quantities ((10 * x1) + (bk_counts x1.toNatClampNeg)).toNatClampNeg x5) (upd bk_limits ((10 * x1) + (bk_counts x1.toNatClampNeg)).toNatClampNeg x6) ag_toldLies ag_passedLies ag_words ag_vectors ag_liarOperator ag_rounds mk_entries mk_slots mk_remainders mk_blocks mk_blockBids mk_blockOffers mk_entryCount mk_blockCount cv_limits cv_bids cv_offers cv_count cv_allBids cv_allOffers cv_meetingPrice cv_sureBids cv_sureOffers cv_priceBids cv_priceOffers cv_volume cv_worth oc_prices oc_volumes oc_filled oc_worth oc_takenSet oc_isDone, hT)) d_bk_take_95 rfl rfl hc4 ?_
      refine mr_aload_n d_bk_take_96 rfl rfl ?_
      refine mr_get K_bk 0 d_bk_take_97 lk_f_bk_9 (by decide) rfl rfl ?_
      refine mr_iload_n d_bk_take_100 rfl rfl ?_
      refine mr_dup2_11 d_bk_take_101 rfl rfl ?_
      refine mr_ialdK d_bk_take_102 rfl hc1 ?_
      refine mr_iconst (v := 1) d_bk_take_103 mc_iconst_1 ?_
      refine mr_iadd d_bk_take_104 ?_
      refine mr_iastK (h2 := (HX x_members x_collaterals x_hasSent x_isSealed x_metered x_sealedCount (upd bk_counts x1.toNatClampNeg ((bk_counts x1.toNatClampNeg) + 1)) bk_needs (upd bk_whens ((10 * x1) + (bk_counts x1.toNatClampNeg)).toNatClampNeg x3) (upd bk_sides ((10 * x1) + (bk_counts x1.toNatClampNeg)).toNatClampNeg x4) (upd bk_quantities ((10 * x1) + (bk_counts x1.toNatClampNeg)).toNatClampNeg x5) (upd bk_limits ((10 * x1) + (bk_counts x1.toNatClampNeg)).toNatClampNeg x6) ag_toldLies ag_passedLies ag_words ag_vectors ag_liarOperator ag_rounds mk_entries mk_slots mk_remainders mk_blocks mk_blockBids mk_blockOffers mk_entryCount mk_blockCount cv_limits cv_bids cv_offers cv_count cv_allBids cv_allOffers cv_meetingPrice cv_sureBids cv_sureOffers cv_priceBids cv_priceOffers cv_volume cv_worth oc_prices oc_volumes oc_filled oc_worth oc_takenSet oc_isDone, hT)) d_bk_take_105 rfl rfl hc1 ?_
      refine mr_aload_n d_bk_take_106 rfl rfl ?_
      refine mr_get K_bk 1 d_bk_take_107 lk_f_bk_15 (by decide) rfl rfl ?_
      refine mr_iload_n d_bk_take_110 rfl rfl ?_
      refine mr_lload d_bk_take_111 rfl ?_
      refine mr_lastK (h2 := (HX x_members x_collaterals x_hasSent x_isSealed x_metered x_sealedCount (upd bk_counts x1.toNatClampNeg ((bk_counts x1.toNatClampNeg) + 1)) (vp_updL bk_needs x1.toNatClampNeg ((bk_needs x1.toNatClampNeg) + (((Int32.toInt64 x5) * (Int32.toInt64 r2)) * (Int32.toInt64 r3)))) (upd bk_whens ((10 * x1) + (bk_counts x1.toNatClampNeg)).toNatClampNeg x3) (upd bk_sides ((10 * x1) + (bk_counts x1.toNatClampNeg)).toNatClampNeg x4) (upd bk_quantities ((10 * x1) + (bk_counts x1.toNatClampNeg)).toNatClampNeg x5) (upd bk_limits ((10 * x1) + (bk_counts x1.toNatClampNeg)).toNatClampNeg x6) ag_toldLies ag_passedLies ag_words ag_vectors ag_liarOperator ag_rounds mk_entries mk_slots mk_remainders mk_blocks mk_blockBids mk_blockOffers mk_entryCount mk_blockCount cv_limits cv_bids cv_offers cv_count cv_allBids cv_allOffers cv_meetingPrice cv_sureBids cv_sureOffers cv_priceBids cv_priceOffers cv_volume cv_worth oc_prices oc_volumes oc_filled oc_worth oc_takenSet oc_isDone, hT)) d_bk_take_113 rfl rfl hc1 ?_
      refine mr_iconst (v := 1) d_bk_take_114 mc_iconst_1 ?_
      exact mr_zret d_bk_take_115 rfl rfl
    · refine mr_iconst (v := 0) d_bk_take_46 mc_iconst_0 ?_
      exact mr_zret d_bk_take_47 rfl rfl
set_option maxRecDepth 100000 in
set_option maxHeartbeats 4000000 in
theorem e_x_isBid {g : mz_G} {ex : Bool} {h : mz_H} {x0 : Int32} {x1 : Int32} {x2 : Int32} : mz_M g M_x_isBid 0 [.int x0, .int x1, .int x2] ex h (f_x_isBid x0 x1 x2) (fun r => (0, some (.int r), ex, h, 0, 0)) := by
  have w_b9 : mz_A g M_x_isBid (mz_rm 0) (fun r => (0, some (.int r), ex, h, 0, 0)) 9 [(1, .int x1), (2, .int x2)] [] ex h 0 0 (f_x_isBid_b9 x1 x2) := by
    rw [f_x_isBid_b9]
    refine mr_iload_n d_x_isBid_9 rfl rfl ?_
    refine mr_iconst (v := 1) d_x_isBid_10 mc_iconst_1 ?_
    refine mr_icmp_lt (tgt := 38) d_x_isBid_11 (by decide) ?_ ?_
    · refine mr_iconst (v := 0) d_x_isBid_38 mc_iconst_0 ?_
      exact mr_zret d_x_isBid_39 rfl rfl
    · refine mr_iload_n d_x_isBid_14 rfl rfl ?_
      refine mr_sipush (v := 1000) d_x_isBid_15 mc_sipush_1000 ?_
      refine mr_icmp_gt (tgt := 38) d_x_isBid_18 (by decide) ?_ ?_
      · refine mr_iconst (v := 0) d_x_isBid_38 mc_iconst_0 ?_
        exact mr_zret d_x_isBid_39 rfl rfl
      · refine mr_iload_n d_x_isBid_21 rfl rfl ?_
        refine mr_sipush (v := (-5000)) d_x_isBid_22 mc_sipush_m5000 ?_
        refine mr_icmp_lt (tgt := 38) d_x_isBid_25 (by decide) ?_ ?_
        · refine mr_iconst (v := 0) d_x_isBid_38 mc_iconst_0 ?_
          exact mr_zret d_x_isBid_39 rfl rfl
        · refine mr_iload_n d_x_isBid_28 rfl rfl ?_
          refine mr_ldc (v := 40000) d_x_isBid_29 lk_k_x_211 ?_
          refine mr_icmp_gt (tgt := 38) d_x_isBid_31 (by decide) ?_ ?_
          · refine mr_iconst (v := 0) d_x_isBid_38 mc_iconst_0 ?_
            exact mr_zret d_x_isBid_39 rfl rfl
          · refine mr_iconst (v := 1) d_x_isBid_34 mc_iconst_1 ?_
            refine mr_goto (tgt := 39) d_x_isBid_35 (by decide) ?_
            exact mr_zret d_x_isBid_39 rfl rfl
  refine mz_of (by decide) (Nat.le_of_ble_eq_true rfl) ?_
  rw [f_x_isBid]
  show mz_A g M_x_isBid (mz_rm 0) _ 0 [(0, .int x0), (1, .int x1), (2, .int x2)] [] ex h 0 0 _
  refine mr_iload_n d_x_isBid_0 rfl rfl ?_
  refine mr_if_eq (tgt := 9) d_x_isBid_1 (by decide) ?_ ?_
  · refine mr_sub (lv' := [(1, .int x1), (2, .int x2)]) [1, 2] rfl ?_
    exact w_b9
  · refine mr_iload_n d_x_isBid_4 rfl rfl ?_
    refine mr_iconst (v := 1) d_x_isBid_5 mc_iconst_1 ?_
    refine mr_icmp_ne (tgt := 38) d_x_isBid_6 (by decide) ?_ ?_
    · refine mr_iconst (v := 0) d_x_isBid_38 mc_iconst_0 ?_
      exact mr_zret d_x_isBid_39 rfl rfl
    · refine mr_sub (lv' := [(1, .int x1), (2, .int x2)]) [1, 2] rfl ?_
      exact w_b9
set_option maxRecDepth 100000 in
set_option maxHeartbeats 4000000 in
theorem e_x_isOperator {g : mz_G} {ex : Bool} {h : mz_H} {x0 : Int32} : mz_M g M_x_isOperator 0 [.int x0] ex h (f_x_isOperator x0) (fun r => (0, some (.int r), ex, h, 0, 0)) := by
  refine mz_of (by decide) (Nat.le_of_ble_eq_true rfl) ?_
  rw [f_x_isOperator]
  show mz_A g M_x_isOperator (mz_rm 0) _ 0 [(0, .int x0)] [] ex h 0 0 _
  refine mr_iload_n d_x_isOperator_0 rfl rfl ?_
  refine mr_if_lt (tgt := 13) d_x_isOperator_1 (by decide) ?_ ?_
  · refine mr_iconst (v := 0) d_x_isOperator_13 mc_iconst_0 ?_
    exact mr_zret d_x_isOperator_14 rfl rfl
  · refine mr_iload_n d_x_isOperator_4 rfl rfl ?_
    refine mr_iconst (v := 4) d_x_isOperator_5 mc_iconst_4 ?_
    refine mr_icmp_ge (tgt := 13) d_x_isOperator_6 (by decide) ?_ ?_
    · refine mr_iconst (v := 0) d_x_isOperator_13 mc_iconst_0 ?_
      exact mr_zret d_x_isOperator_14 rfl rfl
    · refine mr_iconst (v := 1) d_x_isOperator_9 mc_iconst_1 ?_
      refine mr_goto (tgt := 14) d_x_isOperator_10 (by decide) ?_
      exact mr_zret d_x_isOperator_14 rfl rfl
set_option maxRecDepth 100000 in
set_option maxHeartbeats 4000000 in
theorem e_x_send {g : mz_G} {ex : Bool} {hT : List mz_E} {x_members : Int32} {x_collaterals : Nat → Int32} {x_hasSent : Nat → Int32} {x_isSealed : Nat → Int32} {x_metered : Nat → Int32} {x_sealedCount : Int32} {bk_counts : Nat → Int32} {bk_needs : Nat → Int64} {bk_whens : Nat → Int32} {bk_sides : Nat → Int32} {bk_quantities : Nat → Int32} {bk_limits : Nat → Int32} {ag_toldLies : Nat → Int32} {ag_passedLies : Nat → Int32} {ag_words : Nat → Int32} {ag_vectors : Nat → Int32} {ag_liarOperator : Int32} {ag_rounds : Int32} {mk_entries : Nat → Int32} {mk_slots : Nat → Int32} {mk_remainders : Nat → Int32} {mk_blocks : Nat → Int32} {mk_blockBids : Nat → Int32} {mk_blockOffers : Nat → Int32} {mk_entryCount : Int32} {mk_blockCount : Int32} {cv_limits : Nat → Nat → Int32} {cv_bids : Nat → Nat → Int32} {cv_offers : Nat → Nat → Int32} {cv_count : Nat → Int32} {cv_allBids : Nat → Int32} {cv_allOffers : Nat → Int32} {cv_meetingPrice : Nat → Int32} {cv_sureBids : Nat → Int32} {cv_sureOffers : Nat → Int32} {cv_priceBids : Nat → Int32} {cv_priceOffers : Nat → Int32} {cv_volume : Nat → Int32} {cv_worth : Nat → Int64} {oc_prices : Nat → Nat → Int32} {oc_volumes : Nat → Nat → Int32} {oc_filled : Nat → Nat → Int32} {oc_worth : Nat → Int64} {oc_takenSet : Nat → Int32} {oc_isDone : Nat → Int32} {x1 : Int32} {x2 : Int32} {x3 : Int32} {x4 : Int32} {x5 : Int32} {x6 : Int32} : mz_M g M_x_send 6 [.ref 0, .int x1, .int x2, .int x3, .int x4, .int x5, .int x6] ex (HX x_members x_collaterals x_hasSent x_isSealed x_metered x_sealedCount bk_counts bk_needs bk_whens bk_sides bk_quantities bk_limits ag_toldLies ag_passedLies ag_words ag_vectors ag_liarOperator ag_rounds mk_entries mk_slots mk_remainders mk_blocks mk_blockBids mk_blockOffers mk_entryCount mk_blockCount cv_limits cv_bids cv_offers cv_count cv_allBids cv_allOffers cv_meetingPrice cv_sureBids cv_sureOffers cv_priceBids cv_priceOffers cv_volume cv_worth oc_prices oc_volumes oc_filled oc_worth oc_takenSet oc_isDone, hT) (f_x_send x_members x_collaterals x_hasSent x_isSealed bk_counts bk_needs bk_whens bk_sides bk_quantities bk_limits x1 x2 x3 x4 x5 x6) (fun r => (r.1, some (.int r.2.1), mz_x ex r.1, (HX x_members x_collaterals r.2.2.1 x_isSealed x_metered x_sealedCount r.2.2.2.1 r.2.2.2.2.1 r.2.2.2.2.2.1 r.2.2.2.2.2.2.1 r.2.2.2.2.2.2.2.1 r.2.2.2.2.2.2.2.2 ag_toldLies ag_passedLies ag_words ag_vectors ag_liarOperator ag_rounds mk_entries mk_slots mk_remainders mk_blocks mk_blockBids mk_blockOffers mk_entryCount mk_blockCount cv_limits cv_bids cv_offers cv_count cv_allBids cv_allOffers cv_meetingPrice cv_sureBids cv_sureOffers cv_priceBids cv_priceOffers cv_volume cv_worth oc_prices oc_volumes oc_filled oc_worth oc_takenSet oc_isDone, hT), mz_k r.1, mz_6 r.1)) := by
  have w_b96 : ∀ (K74 : (Nat → Int32) → (Nat → Int32) → (Nat → Int64) → (Nat → Int32) → (Nat → Int32) → (Nat → Int32) → (Nat → Int32) → Int32 → Int32 → Option (Nat × Int32 × (Nat → Int32) × (Nat → Int32) × (Nat → Int64) × (Nat → Int32) × (Nat → Int32) × (Nat → Int32) × (Nat → Int32))), (∀ (x_hasSent : Nat → Int32) (bk_counts : Nat → Int32) (bk_needs : Nat → Int64) (bk_whens : Nat → Int32) (bk_sides : Nat → Int32) (bk_quantities : Nat → Int32) (bk_limits : Nat → Int32) (x7 : Int32) (x8 : Int32), mz_A g M_x_send (mz_rm 6) (fun r => (r.1, some (.int r.2.1), mz_x ex r.1, (HX x_members x_collaterals r.2.2.1 x_isSealed x_metered x_sealedCount r.2.2.2.1 r.2.2.2.2.1 r.2.2.2.2.2.1 r.2.2.2.2.2.2.1 r.2.2.2.2.2.2.2.1 r.2.2.2.2.2.2.2.2 ag_toldLies ag_passedLies ag_words ag_vectors ag_liarOperator ag_rounds mk_entries mk_slots mk_remainders mk_blocks mk_blockBids mk_blockOffers mk_entryCount mk_blockCount cv_limits cv_bids cv_offers cv_count cv_allBids cv_allOffers cv_meetingPrice cv_sureBids cv_sureOffers cv_priceBids cv_priceOffers cv_volume cv_worth oc_prices oc_volumes oc_filled oc_worth oc_takenSet oc_isDone, hT), mz_k r.1, mz_6 r.1)) 74 [(0, .ref 0), (1, .int x1), (2, .int x2), (3, .int x3), (4, .int x4), (5, .int x5), (6, .int x6), (7, .int x7), (8, .int x8)] [] ex (HX x_members x_collaterals x_hasSent x_isSealed x_metered x_sealedCount bk_counts bk_needs bk_whens bk_sides bk_quantities bk_limits ag_toldLies ag_passedLies ag_words ag_vectors ag_liarOperator ag_rounds mk_entries mk_slots mk_remainders mk_blocks mk_blockBids mk_blockOffers mk_entryCount mk_blockCount cv_limits cv_bids cv_offers cv_count cv_allBids cv_allOffers cv_meetingPrice cv_sureBids cv_sureOffers cv_priceBids cv_priceOffers cv_volume cv_worth oc_prices oc_volumes oc_filled oc_worth oc_takenSet oc_isDone, hT) 0 0 (K74 x_hasSent bk_counts bk_needs bk_whens bk_sides bk_quantities bk_limits x7 x8)) → ∀ (x_hasSent : Nat → Int32) (bk_counts : Nat → Int32) (bk_needs : Nat → Int64) (bk_whens : Nat → Int32) (bk_sides : Nat → Int32) (bk_quantities : Nat → Int32) (bk_limits : Nat → Int32) (x7 : Int32) (x8 : Int32) (s0 : Int32), mz_A g M_x_send (mz_rm 6) (fun r => (r.1, some (.int r.2.1), mz_x ex r.1, (HX x_members x_collaterals r.2.2.1 x_isSealed x_metered x_sealedCount r.2.2.2.1 r.2.2.2.2.1 r.2.2.2.2.2.1 r.2.2.2.2.2.2.1 r.2.2.2.2.2.2.2.1 r.2.2.2.2.2.2.2.2 ag_toldLies ag_passedLies ag_words ag_vectors ag_liarOperator ag_rounds mk_entries mk_slots mk_remainders mk_blocks mk_blockBids mk_blockOffers mk_entryCount mk_blockCount cv_limits cv_bids cv_offers cv_count cv_allBids cv_allOffers cv_meetingPrice cv_sureBids cv_sureOffers cv_priceBids cv_priceOffers cv_volume cv_worth oc_prices oc_volumes oc_filled oc_worth oc_takenSet oc_isDone, hT), mz_k r.1, mz_6 r.1)) 96 [(0, .ref 0), (1, .int x1), (2, .int x2), (3, .int x3), (4, .int x4), (5, .int x5), (6, .int x6), (7, .int x7), (8, .int x8)] [.int s0] ex (HX x_members x_collaterals x_hasSent x_isSealed x_metered x_sealedCount bk_counts bk_needs bk_whens bk_sides bk_quantities bk_limits ag_toldLies ag_passedLies ag_words ag_vectors ag_liarOperator ag_rounds mk_entries mk_slots mk_remainders mk_blocks mk_blockBids mk_blockOffers mk_entryCount mk_blockCount cv_limits cv_bids cv_offers cv_count cv_allBids cv_allOffers cv_meetingPrice cv_sureBids cv_sureOffers cv_priceBids cv_priceOffers cv_volume cv_worth oc_prices oc_volumes oc_filled oc_worth oc_takenSet oc_isDone, hT) 0 0 (f_x_send_b96 x_members x_collaterals x_isSealed x1 x2 x3 x4 x5 x6 K74 x_hasSent bk_counts bk_needs bk_whens bk_sides bk_quantities bk_limits x7 x8 s0) := by
    intro K74 hK74 x_hasSent bk_counts bk_needs bk_whens bk_sides bk_quantities bk_limits x7 x8 s0
    rw [f_x_send_b96]
    refine mr_istore (lv' := [(9, .int s0), (0, .ref 0), (1, .int x1), (2, .int x2), (3, .int x3), (4, .int x4), (5, .int x5), (6, .int x6), (7, .int x7), (8, .int x8)]) d_x_send_96 (by decide) rfl ?_
    refine mr_iload d_x_send_98 rfl ?_
    refine mr_if_eq (tgt := 135) d_x_send_100 (by decide) ?_ ?_
    · refine mr_iinc (v := (x8 + 1)) (lv' := [(8, .int (x8 + 1)), (9, .int s0), (0, .ref 0), (1, .int x1), (2, .int x2), (3, .int x3), (4, .int x4), (5, .int x5), (6, .int x6), (7, .int x7)]) d_x_send_135 rfl rfl (by decide) rfl ?_
      refine mr_goto (tgt := 74) d_x_send_138 (by decide) ?_
      refine mr_sub (lv' := [(0, .ref 0), (1, .int x1), (2, .int x2), (3, .int x3), (4, .int x4), (5, .int x5), (6, .int x6), (7, .int x7), (8, .int (x8 + 1))]) [2, 3, 4, 5, 6, 7, 8, 9, 0] rfl ?_
      exact hK74 _ _ _ _ _ _ _ _ _
    · refine mr_aload_n d_x_send_103 rfl rfl ?_
      refine mr_get K_x 5 d_x_send_104 lk_f_x_30 (by decide) rfl rfl ?_
      refine mr_iconst (v := 4) d_x_send_107 mc_iconst_4 ?_
      refine mr_iload_n d_x_send_108 rfl rfl ?_
      refine mr_imul d_x_send_109 ?_
      refine mr_iload d_x_send_110 rfl ?_
      refine mr_iadd d_x_send_112 ?_
      refine mr_aload_n d_x_send_113 rfl rfl ?_
      refine mr_get K_x 1 d_x_send_114 lk_f_x_13 (by decide) rfl rfl ?_
      refine mr_iload_n d_x_send_117 rfl rfl ?_
      refine mr_iald d_x_send_118 rfl (fun hc5 => ?_)
      refine mr_iload_n d_x_send_119 rfl rfl ?_
      refine mr_iload d_x_send_120 rfl ?_
      refine mr_iload d_x_send_122 rfl ?_
      refine mr_iload d_x_send_124 rfl ?_
      refine mz_go (st := []) e_bk_take (fun _ => rfl) U_bk_take (mz_vV d_x_send_126 U_bk_take rfl lk_m_x_220 I_bk_take s_bk_take np_bk_take rfl rfl) (Nat.le_of_ble_eq_true rfl) (by decide) (fun r6 => ?_)
      refine mr_eq (st' := [.int r6.1]) (ex' := ex) (h2 := (HX x_members x_collaterals x_hasSent x_isSealed x_metered x_sealedCount r6.2.1 r6.2.2.1 r6.2.2.2.1 r6.2.2.2.2.1 r6.2.2.2.2.2.1 r6.2.2.2.2.2.2 ag_toldLies ag_passedLies ag_words ag_vectors ag_liarOperator ag_rounds mk_entries mk_slots mk_remainders mk_blocks mk_blockBids mk_blockOffers mk_entryCount mk_blockCount cv_limits cv_bids cv_offers cv_count cv_allBids cv_allOffers cv_meetingPrice cv_sureBids cv_sureOffers cv_priceBids cv_priceOffers cv_volume cv_worth oc_prices oc_volumes oc_filled oc_worth oc_takenSet oc_isDone, hT)) (k' := 0) (n' := 0) rfl rfl rfl rfl rfl ?_
      refine mr_if_eq (tgt := 135) d_x_send_129 (by decide) ?_ ?_
      · refine mr_iinc (v := (x8 + 1)) (lv' := [(8, .int (x8 + 1)), (9, .int s0), (0, .ref 0), (1, .int x1), (2, .int x2), (3, .int x3), (4, .int x4), (5, .int x5), (6, .int x6), (7, .int x7)]) d_x_send_135 rfl rfl (by decide) rfl ?_
        refine mr_goto (tgt := 74) d_x_send_138 (by decide) ?_
        refine mr_sub (lv' := [(0, .ref 0), (1, .int x1), (2, .int x2), (3, .int x3), (4, .int x4), (5, .int x5), (6, .int x6), (7, .int x7), (8, .int (x8 + 1))]) [2, 3, 4, 5, 6, 7, 8, 9, 0] rfl ?_
        exact hK74 _ _ _ _ _ _ _ _ _
      · refine mr_iinc (v := (x7 + 1)) (lv' := [(7, .int (x7 + 1)), (9, .int s0), (0, .ref 0), (1, .int x1), (2, .int x2), (3, .int x3), (4, .int x4), (5, .int x5), (6, .int x6), (8, .int x8)]) d_x_send_132 rfl rfl (by decide) rfl ?_
        refine mr_iinc (v := (x8 + 1)) (lv' := [(8, .int (x8 + 1)), (7, .int (x7 + 1)), (9, .int s0), (0, .ref 0), (1, .int x1), (2, .int x2), (3, .int x3), (4, .int x4), (5, .int x5), (6, .int x6)]) d_x_send_135 rfl rfl (by decide) rfl ?_
        refine mr_goto (tgt := 74) d_x_send_138 (by decide) ?_
        refine mr_sub (lv' := [(0, .ref 0), (1, .int x1), (2, .int x2), (3, .int x3), (4, .int x4), (5, .int x5), (6, .int x6), (7, .int (x7 + 1)), (8, .int (x8 + 1))]) [3, 4, 5, 6, 7, 8, 9, 1, 0] rfl ?_
        exact hK74 _ _ _ _ _ _ _ _ _
  have w_b91 : ∀ (K74 : (Nat → Int32) → (Nat → Int32) → (Nat → Int64) → (Nat → Int32) → (Nat → Int32) → (Nat → Int32) → (Nat → Int32) → Int32 → Int32 → Option (Nat × Int32 × (Nat → Int32) × (Nat → Int32) × (Nat → Int64) × (Nat → Int32) × (Nat → Int32) × (Nat → Int32) × (Nat → Int32))), (∀ (x_hasSent : Nat → Int32) (bk_counts : Nat → Int32) (bk_needs : Nat → Int64) (bk_whens : Nat → Int32) (bk_sides : Nat → Int32) (bk_quantities : Nat → Int32) (bk_limits : Nat → Int32) (x7 : Int32) (x8 : Int32), mz_A g M_x_send (mz_rm 6) (fun r => (r.1, some (.int r.2.1), mz_x ex r.1, (HX x_members x_collaterals r.2.2.1 x_isSealed x_metered x_sealedCount r.2.2.2.1 r.2.2.2.2.1 r.2.2.2.2.2.1 r.2.2.2.2.2.2.1 r.2.2.2.2.2.2.2.1 r.2.2.2.2.2.2.2.2 ag_toldLies ag_passedLies ag_words ag_vectors ag_liarOperator ag_rounds mk_entries mk_slots mk_remainders mk_blocks mk_blockBids mk_blockOffers mk_entryCount mk_blockCount cv_limits cv_bids cv_offers cv_count cv_allBids cv_allOffers cv_meetingPrice cv_sureBids cv_sureOffers cv_priceBids cv_priceOffers cv_volume cv_worth oc_prices oc_volumes oc_filled oc_worth oc_takenSet oc_isDone, hT), mz_k r.1, mz_6 r.1)) 74 [(0, .ref 0), (1, .int x1), (2, .int x2), (3, .int x3), (4, .int x4), (5, .int x5), (6, .int x6), (7, .int x7), (8, .int x8)] [] ex (HX x_members x_collaterals x_hasSent x_isSealed x_metered x_sealedCount bk_counts bk_needs bk_whens bk_sides bk_quantities bk_limits ag_toldLies ag_passedLies ag_words ag_vectors ag_liarOperator ag_rounds mk_entries mk_slots mk_remainders mk_blocks mk_blockBids mk_blockOffers mk_entryCount mk_blockCount cv_limits cv_bids cv_offers cv_count cv_allBids cv_allOffers cv_meetingPrice cv_sureBids cv_sureOffers cv_priceBids cv_priceOffers cv_volume cv_worth oc_prices oc_volumes oc_filled oc_worth oc_takenSet oc_isDone, hT) 0 0 (K74 x_hasSent bk_counts bk_needs bk_whens bk_sides bk_quantities bk_limits x7 x8)) → ∀ (x_hasSent : Nat → Int32) (bk_counts : Nat → Int32) (bk_needs : Nat → Int64) (bk_whens : Nat → Int32) (bk_sides : Nat → Int32) (bk_quantities : Nat → Int32) (bk_limits : Nat → Int32) (x7 : Int32) (x8 : Int32), mz_A g M_x_send (mz_rm 6) (fun r => (r.1, some (.int r.2.1), mz_x ex r.1, (HX x_members x_collaterals r.2.2.1 x_isSealed x_metered x_sealedCount r.2.2.2.1 r.2.2.2.2.1 r.2.2.2.2.2.1 r.2.2.2.2.2.2.1 r.2.2.2.2.2.2.2.1 r.2.2.2.2.2.2.2.2 ag_toldLies ag_passedLies ag_words ag_vectors ag_liarOperator ag_rounds mk_entries mk_slots mk_remainders mk_blocks mk_blockBids mk_blockOffers mk_entryCount mk_blockCount cv_limits cv_bids cv_offers cv_count cv_allBids cv_allOffers cv_meetingPrice cv_sureBids cv_sureOffers cv_priceBids cv_priceOffers cv_volume cv_worth oc_prices oc_volumes oc_filled oc_worth oc_takenSet oc_isDone, hT), mz_k r.1, mz_6 r.1)) 91 [(0, .ref 0), (1, .int x1), (2, .int x2), (3, .int x3), (4, .int x4), (5, .int x5), (6, .int x6), (7, .int x7), (8, .int x8)] [] ex (HX x_members x_collaterals x_hasSent x_isSealed x_metered x_sealedCount bk_counts bk_needs bk_whens bk_sides bk_quantities bk_limits ag_toldLies ag_passedLies ag_words ag_vectors ag_liarOperator ag_rounds mk_entries mk_slots mk_remainders mk_blocks mk_blockBids mk_blockOffers mk_entryCount mk_blockCount cv_limits cv_bids cv_offers cv_count cv_allBids cv_allOffers cv_meetingPrice cv_sureBids cv_sureOffers cv_priceBids cv_priceOffers cv_volume cv_worth oc_prices oc_volumes oc_filled oc_worth oc_takenSet oc_isDone, hT) 0 0 (f_x_send_b91 x_members x_collaterals x_isSealed x1 x2 x3 x4 x5 x6 K74 x_hasSent bk_counts bk_needs bk_whens bk_sides bk_quantities bk_limits x7 x8) := by
    intro K74 hK74 x_hasSent bk_counts bk_needs bk_whens bk_sides bk_quantities bk_limits x7 x8
    rw [f_x_send_b91]
    refine mr_iconst (v := 1) d_x_send_91 mc_iconst_1 ?_
    refine mr_goto (tgt := 96) d_x_send_92 (by decide) ?_
    exact w_b96 _ hK74 _ _ _ _ _ _ _ _ _ _
  have w_L74 : ∀ (n : Nat) (x_hasSent : Nat → Int32) (bk_counts : Nat → Int32) (bk_needs : Nat → Int64) (bk_whens : Nat → Int32) (bk_sides : Nat → Int32) (bk_quantities : Nat → Int32) (bk_limits : Nat → Int32) (x7 : Int32) (x8 : Int32), mz_A g M_x_send (mz_rm 6) (fun r => (r.1, some (.int r.2.1), mz_x ex r.1, (HX x_members x_collaterals r.2.2.1 x_isSealed x_metered x_sealedCount r.2.2.2.1 r.2.2.2.2.1 r.2.2.2.2.2.1 r.2.2.2.2.2.2.1 r.2.2.2.2.2.2.2.1 r.2.2.2.2.2.2.2.2 ag_toldLies ag_passedLies ag_words ag_vectors ag_liarOperator ag_rounds mk_entries mk_slots mk_remainders mk_blocks mk_blockBids mk_blockOffers mk_entryCount mk_blockCount cv_limits cv_bids cv_offers cv_count cv_allBids cv_allOffers cv_meetingPrice cv_sureBids cv_sureOffers cv_priceBids cv_priceOffers cv_volume cv_worth oc_prices oc_volumes oc_filled oc_worth oc_takenSet oc_isDone, hT), mz_k r.1, mz_6 r.1)) 74 [(0, .ref 0), (1, .int x1), (2, .int x2), (3, .int x3), (4, .int x4), (5, .int x5), (6, .int x6), (7, .int x7), (8, .int x8)] [] ex (HX x_members x_collaterals x_hasSent x_isSealed x_metered x_sealedCount bk_counts bk_needs bk_whens bk_sides bk_quantities bk_limits ag_toldLies ag_passedLies ag_words ag_vectors ag_liarOperator ag_rounds mk_entries mk_slots mk_remainders mk_blocks mk_blockBids mk_blockOffers mk_entryCount mk_blockCount cv_limits cv_bids cv_offers cv_count cv_allBids cv_allOffers cv_meetingPrice cv_sureBids cv_sureOffers cv_priceBids cv_priceOffers cv_volume cv_worth oc_prices oc_volumes oc_filled oc_worth oc_takenSet oc_isDone, hT) 0 0 (f_x_send_L74 x_members x_collaterals x_isSealed x1 x2 x3 x4 x5 x6 n x_hasSent bk_counts bk_needs bk_whens bk_sides bk_quantities bk_limits x7 x8) := by
    intro n
    induction n with
    | zero => intro x_hasSent bk_counts bk_needs bk_whens bk_sides bk_quantities bk_limits x7 x8; exact mr_none
    | succ n ih =>
      intro x_hasSent bk_counts bk_needs bk_whens bk_sides bk_quantities bk_limits x7 x8
      rw [f_x_send_L74]
      refine mr_iload d_x_send_74 rfl ?_
      refine mr_iconst (v := 4) d_x_send_76 mc_iconst_4 ?_
      refine mr_icmp_ge (tgt := 141) d_x_send_77 (by decide) ?_ ?_
      · refine mr_iload d_x_send_141 rfl ?_
        exact mr_iret d_x_send_143 rfl rfl
      · refine mr_iload_n d_x_send_80 rfl rfl ?_
        refine mr_iconst (v := (-1)) d_x_send_81 mc_iconst_m1 ?_
        refine mr_icmp_eq (tgt := 91) d_x_send_82 (by decide) ?_ ?_
        · exact w_b91 _ ih _ _ _ _ _ _ _ _ _
        · refine mr_iload_n d_x_send_85 rfl rfl ?_
          refine mr_iload d_x_send_86 rfl ?_
          refine mr_icmp_ne (tgt := 95) d_x_send_88 (by decide) ?_ ?_
          · refine mr_iconst (v := 0) d_x_send_95 mc_iconst_0 ?_
            exact w_b96 _ ih _ _ _ _ _ _ _ _ _ _
          · exact w_b91 _ ih _ _ _ _ _ _ _ _ _
  have w_b32 : ∀ (x_hasSent : Nat → Int32) (bk_counts : Nat → Int32) (bk_needs : Nat → Int64) (bk_whens : Nat → Int32) (bk_sides : Nat → Int32) (bk_quantities : Nat → Int32) (bk_limits : Nat → Int32), mz_A g M_x_send (mz_rm 6) (fun r => (r.1, some (.int r.2.1), mz_x ex r.1, (HX x_members x_collaterals r.2.2.1 x_isSealed x_metered x_sealedCount r.2.2.2.1 r.2.2.2.2.1 r.2.2.2.2.2.1 r.2.2.2.2.2.2.1 r.2.2.2.2.2.2.2.1 r.2.2.2.2.2.2.2.2 ag_toldLies ag_passedLies ag_words ag_vectors ag_liarOperator ag_rounds mk_entries mk_slots mk_remainders mk_blocks mk_blockBids mk_blockOffers mk_entryCount mk_blockCount cv_limits cv_bids cv_offers cv_count cv_allBids cv_allOffers cv_meetingPrice cv_sureBids cv_sureOffers cv_priceBids cv_priceOffers cv_volume cv_worth oc_prices oc_volumes oc_filled oc_worth oc_takenSet oc_isDone, hT), mz_k r.1, mz_6 r.1)) 32 [] [] ex (HX x_members x_collaterals x_hasSent x_isSealed x_metered x_sealedCount bk_counts bk_needs bk_whens bk_sides bk_quantities bk_limits ag_toldLies ag_passedLies ag_words ag_vectors ag_liarOperator ag_rounds mk_entries mk_slots mk_remainders mk_blocks mk_blockBids mk_blockOffers mk_entryCount mk_blockCount cv_limits cv_bids cv_offers cv_count cv_allBids cv_allOffers cv_meetingPrice cv_sureBids cv_sureOffers cv_priceBids cv_priceOffers cv_volume cv_worth oc_prices oc_volumes oc_filled oc_worth oc_takenSet oc_isDone, hT) 0 0 (f_x_send_b32 x_members x_collaterals x_isSealed x_hasSent bk_counts bk_needs bk_whens bk_sides bk_quantities bk_limits) := by
    intro  x_hasSent bk_counts bk_needs bk_whens bk_sides bk_quantities bk_limits
    rw [f_x_send_b32]
    exact mr_throw d_x_send_32 d_x_send_35 d_x_send_36 d_x_send_38 d_x_send_41 tw_x_216_1 rfl (Nat.le_of_ble_eq_true rfl) (Nat.le_of_ble_eq_true rfl) (Nat.le_of_ble_eq_true rfl) (Nat.le_of_ble_eq_true rfl) rfl
  have w_b20 : ∀ (x_hasSent : Nat → Int32) (bk_counts : Nat → Int32) (bk_needs : Nat → Int64) (bk_whens : Nat → Int32) (bk_sides : Nat → Int32) (bk_quantities : Nat → Int32) (bk_limits : Nat → Int32), mz_A g M_x_send (mz_rm 6) (fun r => (r.1, some (.int r.2.1), mz_x ex r.1, (HX x_members x_collaterals r.2.2.1 x_isSealed x_metered x_sealedCount r.2.2.2.1 r.2.2.2.2.1 r.2.2.2.2.2.1 r.2.2.2.2.2.2.1 r.2.2.2.2.2.2.2.1 r.2.2.2.2.2.2.2.2 ag_toldLies ag_passedLies ag_words ag_vectors ag_liarOperator ag_rounds mk_entries mk_slots mk_remainders mk_blocks mk_blockBids mk_blockOffers mk_entryCount mk_blockCount cv_limits cv_bids cv_offers cv_count cv_allBids cv_allOffers cv_meetingPrice cv_sureBids cv_sureOffers cv_priceBids cv_priceOffers cv_volume cv_worth oc_prices oc_volumes oc_filled oc_worth oc_takenSet oc_isDone, hT), mz_k r.1, mz_6 r.1)) 20 [(0, .ref 0), (1, .int x1), (2, .int x2), (3, .int x3), (4, .int x4), (5, .int x5), (6, .int x6)] [] ex (HX x_members x_collaterals x_hasSent x_isSealed x_metered x_sealedCount bk_counts bk_needs bk_whens bk_sides bk_quantities bk_limits ag_toldLies ag_passedLies ag_words ag_vectors ag_liarOperator ag_rounds mk_entries mk_slots mk_remainders mk_blocks mk_blockBids mk_blockOffers mk_entryCount mk_blockCount cv_limits cv_bids cv_offers cv_count cv_allBids cv_allOffers cv_meetingPrice cv_sureBids cv_sureOffers cv_priceBids cv_priceOffers cv_volume cv_worth oc_prices oc_volumes oc_filled oc_worth oc_takenSet oc_isDone, hT) 0 0 (f_x_send_b20 x_members x_collaterals x_isSealed x1 x2 x3 x4 x5 x6 x_hasSent bk_counts bk_needs bk_whens bk_sides bk_quantities bk_limits) := by
    intro  x_hasSent bk_counts bk_needs bk_whens bk_sides bk_quantities bk_limits
    rw [f_x_send_b20]
    refine mr_iload d_x_send_20 rfl ?_
    refine mr_iload d_x_send_22 rfl ?_
    refine mr_iload d_x_send_24 rfl ?_
    refine mz_go (st := []) e_x_isBid (fun _ => rfl) U_x_isBid (mz_vS d_x_send_26 U_x_isBid lk_m_x_212 S_x_isBid np_x_isBid) (Nat.le_of_ble_eq_true rfl) (by decide) (fun r3 => ?_)
    refine mr_eq (st' := [.int r3]) (ex' := ex) (h2 := (HX x_members x_collaterals x_hasSent x_isSealed x_metered x_sealedCount bk_counts bk_needs bk_whens bk_sides bk_quantities bk_limits ag_toldLies ag_passedLies ag_words ag_vectors ag_liarOperator ag_rounds mk_entries mk_slots mk_remainders mk_blocks mk_blockBids mk_blockOffers mk_entryCount mk_blockCount cv_limits cv_bids cv_offers cv_count cv_allBids cv_allOffers cv_meetingPrice cv_sureBids cv_sureOffers cv_priceBids cv_priceOffers cv_volume cv_worth oc_prices oc_volumes oc_filled oc_worth oc_takenSet oc_isDone, hT)) (k' := 0) (n' := 0) rfl rfl rfl rfl rfl ?_
    refine mr_if_ne (tgt := 42) d_x_send_29 (by decide) ?_ ?_
    · refine mr_aload_n d_x_send_42 rfl rfl ?_
      refine mr_get K_x 3 d_x_send_43 lk_f_x_21 (by decide) rfl rfl ?_
      refine mr_iload_n d_x_send_46 rfl rfl ?_
      refine mr_zald d_x_send_47 rfl (fun hc4 => ?_)
      refine mr_if_eq (tgt := 61) d_x_send_48 (by decide) ?_ ?_
      · refine mr_aload_n d_x_send_61 rfl rfl ?_
        refine mr_get K_x 2 d_x_send_62 lk_f_x_17 (by decide) rfl rfl ?_
        refine mr_iload_n d_x_send_65 rfl rfl ?_
        refine mr_iconst (v := 1) d_x_send_66 mc_iconst_1 ?_
        refine mr_zastK (h2 := (HX x_members x_collaterals (upd x_hasSent x1.toNatClampNeg (vp_nar .boolean 1)) x_isSealed x_metered x_sealedCount bk_counts bk_needs bk_whens bk_sides bk_quantities bk_limits ag_toldLies ag_passedLies ag_words ag_vectors ag_liarOperator ag_rounds mk_entries mk_slots mk_remainders mk_blocks mk_blockBids mk_blockOffers mk_entryCount mk_blockCount cv_limits cv_bids cv_offers cv_count cv_allBids cv_allOffers cv_meetingPrice cv_sureBids cv_sureOffers cv_priceBids cv_priceOffers cv_volume cv_worth oc_prices oc_volumes oc_filled oc_worth oc_takenSet oc_isDone, hT)) d_x_send_67 rfl rfl hc4 ?_
        refine mr_iconst (v := 0) d_x_send_68 mc_iconst_0 ?_
        refine mr_istore (lv' := [(7, .int 0), (0, .ref 0), (1, .int x1), (2, .int x2), (3, .int x3), (4, .int x4), (5, .int x5), (6, .int x6)]) d_x_send_69 (by decide) rfl ?_
        refine mr_iconst (v := 0) d_x_send_71 mc_iconst_0 ?_
        refine mr_istore (lv' := [(8, .int 0), (7, .int 0), (0, .ref 0), (1, .int x1), (2, .int x2), (3, .int x3), (4, .int x4), (5, .int x5), (6, .int x6)]) d_x_send_72 (by decide) rfl ?_
        refine mr_sub (lv' := [(0, .ref 0), (1, .int x1), (2, .int x2), (3, .int x3), (4, .int x4), (5, .int x5), (6, .int x6), (7, .int 0), (8, .int 0)]) [2, 3, 4, 5, 6, 7, 8, 1, 0] rfl ?_
        exact w_L74 1000 _ _ _ _ _ _ _ _ _
      · exact mr_throw d_x_send_51 d_x_send_54 d_x_send_55 d_x_send_57 d_x_send_60 tw_x_218_2 rfl (Nat.le_of_ble_eq_true rfl) (Nat.le_of_ble_eq_true rfl) (Nat.le_of_ble_eq_true rfl) (Nat.le_of_ble_eq_true rfl) rfl
    · refine mr_sub (lv' := []) [] rfl ?_
      exact w_b32 _ _ _ _ _ _ _
  refine mz_of (by decide) (Nat.le_of_ble_eq_true rfl) ?_
  rw [f_x_send]
  show mz_A g M_x_send (mz_rm 6) _ 0 [(0, .ref 0), (1, .int x1), (2, .int x2), (3, .int x3), (4, .int x4), (5, .int x5), (6, .int x6)] [] ex (HX x_members x_collaterals x_hasSent x_isSealed x_metered x_sealedCount bk_counts bk_needs bk_whens bk_sides bk_quantities bk_limits ag_toldLies ag_passedLies ag_words ag_vectors ag_liarOperator ag_rounds mk_entries mk_slots mk_remainders mk_blocks mk_blockBids mk_blockOffers mk_entryCount mk_blockCount cv_limits cv_bids cv_offers cv_count cv_allBids cv_allOffers cv_meetingPrice cv_sureBids cv_sureOffers cv_priceBids cv_priceOffers cv_volume cv_worth oc_prices oc_volumes oc_filled oc_worth oc_takenSet oc_isDone, hT) 0 0 _
  refine mr_aload_n d_x_send_0 rfl rfl ?_
  refine mr_iload_n d_x_send_1 rfl rfl ?_
  refine mz_go (st := []) e_x_isMember (fun _ => rfl) U_x_isMember (mz_vV d_x_send_2 U_x_isMember rfl lk_m_x_60 I_x_isMember s_x_isMember np_x_isMember rfl rfl) (Nat.le_of_ble_eq_true rfl) (by decide) (fun r1 => ?_)
  refine mr_eq (st' := [.int r1]) (ex' := ex) (h2 := (HX x_members x_collaterals x_hasSent x_isSealed x_metered x_sealedCount bk_counts bk_needs bk_whens bk_sides bk_quantities bk_limits ag_toldLies ag_passedLies ag_words ag_vectors ag_liarOperator ag_rounds mk_entries mk_slots mk_remainders mk_blocks mk_blockBids mk_blockOffers mk_entryCount mk_blockCount cv_limits cv_bids cv_offers cv_count cv_allBids cv_allOffers cv_meetingPrice cv_sureBids cv_sureOffers cv_priceBids cv_priceOffers cv_volume cv_worth oc_prices oc_volumes oc_filled oc_worth oc_takenSet oc_isDone, hT)) (k' := 0) (n' := 0) rfl rfl rfl rfl rfl ?_
  refine mr_if_eq (tgt := 32) d_x_send_5 (by decide) ?_ ?_
  · refine mr_sub (lv' := []) [] rfl ?_
    exact w_b32 _ _ _ _ _ _ _
  · refine mr_iload_n d_x_send_8 rfl rfl ?_
    refine mr_iconst (v := (-1)) d_x_send_9 mc_iconst_m1 ?_
    refine mr_icmp_eq (tgt := 20) d_x_send_10 (by decide) ?_ ?_
    · exact w_b20 _ _ _ _ _ _ _
    · refine mr_iload_n d_x_send_13 rfl rfl ?_
      refine mz_go (st := []) e_x_isOperator (fun _ => rfl) U_x_isOperator (mz_vS d_x_send_14 U_x_isOperator lk_m_x_95 S_x_isOperator np_x_isOperator) (Nat.le_of_ble_eq_true rfl) (by decide) (fun r2 => ?_)
      refine mr_eq (st' := [.int r2]) (ex' := ex) (h2 := (HX x_members x_collaterals x_hasSent x_isSealed x_metered x_sealedCount bk_counts bk_needs bk_whens bk_sides bk_quantities bk_limits ag_toldLies ag_passedLies ag_words ag_vectors ag_liarOperator ag_rounds mk_entries mk_slots mk_remainders mk_blocks mk_blockBids mk_blockOffers mk_entryCount mk_blockCount cv_limits cv_bids cv_offers cv_count cv_allBids cv_allOffers cv_meetingPrice cv_sureBids cv_sureOffers cv_priceBids cv_priceOffers cv_volume cv_worth oc_prices oc_volumes oc_filled oc_worth oc_takenSet oc_isDone, hT)) (k' := 0) (n' := 0) rfl rfl rfl rfl rfl ?_
      refine mr_if_eq (tgt := 32) d_x_send_17 (by decide) ?_ ?_
      · refine mr_sub (lv' := []) [] rfl ?_
        exact w_b32 _ _ _ _ _ _ _
      · exact w_b20 _ _ _ _ _ _ _
set_option maxRecDepth 100000 in
set_option maxHeartbeats 4000000 in
theorem e_x_order {g : mz_G} {ex : Bool} {hT : List mz_E} {x_members : Int32} {x_collaterals : Nat → Int32} {x_hasSent : Nat → Int32} {x_isSealed : Nat → Int32} {x_metered : Nat → Int32} {x_sealedCount : Int32} {bk_counts : Nat → Int32} {bk_needs : Nat → Int64} {bk_whens : Nat → Int32} {bk_sides : Nat → Int32} {bk_quantities : Nat → Int32} {bk_limits : Nat → Int32} {ag_toldLies : Nat → Int32} {ag_passedLies : Nat → Int32} {ag_words : Nat → Int32} {ag_vectors : Nat → Int32} {ag_liarOperator : Int32} {ag_rounds : Int32} {mk_entries : Nat → Int32} {mk_slots : Nat → Int32} {mk_remainders : Nat → Int32} {mk_blocks : Nat → Int32} {mk_blockBids : Nat → Int32} {mk_blockOffers : Nat → Int32} {mk_entryCount : Int32} {mk_blockCount : Int32} {cv_limits : Nat → Nat → Int32} {cv_bids : Nat → Nat → Int32} {cv_offers : Nat → Nat → Int32} {cv_count : Nat → Int32} {cv_allBids : Nat → Int32} {cv_allOffers : Nat → Int32} {cv_meetingPrice : Nat → Int32} {cv_sureBids : Nat → Int32} {cv_sureOffers : Nat → Int32} {cv_priceBids : Nat → Int32} {cv_priceOffers : Nat → Int32} {cv_volume : Nat → Int32} {cv_worth : Nat → Int64} {oc_prices : Nat → Nat → Int32} {oc_volumes : Nat → Nat → Int32} {oc_filled : Nat → Nat → Int32} {oc_worth : Nat → Int64} {oc_takenSet : Nat → Int32} {oc_isDone : Nat → Int32} {x1 : Int32} {x2 : Int32} {x3 : Int32} {x4 : Int32} {x5 : Int32} {x6 : Int32} : mz_M g M_x_order 7 [.ref 0, .int x1, .int x2, .int x3, .int x4, .int x5, .int x6] ex (HX x_members x_collaterals x_hasSent x_isSealed x_metered x_sealedCount bk_counts bk_needs bk_whens bk_sides bk_quantities bk_limits ag_toldLies ag_passedLies ag_words ag_vectors ag_liarOperator ag_rounds mk_entries mk_slots mk_remainders mk_blocks mk_blockBids mk_blockOffers mk_entryCount mk_blockCount cv_limits cv_bids cv_offers cv_count cv_allBids cv_allOffers cv_meetingPrice cv_sureBids cv_sureOffers cv_priceBids cv_priceOffers cv_volume cv_worth oc_prices oc_volumes oc_filled oc_worth oc_takenSet oc_isDone, hT) (f_x_order x_members x_collaterals x_hasSent x_isSealed bk_counts bk_needs bk_whens bk_sides bk_quantities bk_limits x1 x2 x3 x4 x5 x6) (fun r => (r.1, some (.int r.2.1), mz_x ex r.1, (HX x_members x_collaterals r.2.2.1 x_isSealed x_metered x_sealedCount r.2.2.2.1 r.2.2.2.2.1 r.2.2.2.2.2.1 r.2.2.2.2.2.2.1 r.2.2.2.2.2.2.2.1 r.2.2.2.2.2.2.2.2 ag_toldLies ag_passedLies ag_words ag_vectors ag_liarOperator ag_rounds mk_entries mk_slots mk_remainders mk_blocks mk_blockBids mk_blockOffers mk_entryCount mk_blockCount cv_limits cv_bids cv_offers cv_count cv_allBids cv_allOffers cv_meetingPrice cv_sureBids cv_sureOffers cv_priceBids cv_priceOffers cv_volume cv_worth oc_prices oc_volumes oc_filled oc_worth oc_takenSet oc_isDone, hT), mz_k r.1, mz_6 r.1)) := by
  refine mz_of (by decide) (Nat.le_of_ble_eq_true rfl) ?_
  rw [f_x_order]
  show mz_A g M_x_order (mz_rm 7) _ 0 [(0, .ref 0), (1, .int x1), (2, .int x2), (3, .int x3), (4, .int x4), (5, .int x5), (6, .int x6)] [] ex (HX x_members x_collaterals x_hasSent x_isSealed x_metered x_sealedCount bk_counts bk_needs bk_whens bk_sides bk_quantities bk_limits ag_toldLies ag_passedLies ag_words ag_vectors ag_liarOperator ag_rounds mk_entries mk_slots mk_remainders mk_blocks mk_blockBids mk_blockOffers mk_entryCount mk_blockCount cv_limits cv_bids cv_offers cv_count cv_allBids cv_allOffers cv_meetingPrice cv_sureBids cv_sureOffers cv_priceBids cv_priceOffers cv_volume cv_worth oc_prices oc_volumes oc_filled oc_worth oc_takenSet oc_isDone, hT) 0 0 _
  refine mr_iload_n d_x_order_0 rfl rfl ?_
  refine mz_go (st := []) e_x_isHour (fun _ => rfl) U_x_isHour (mz_vS d_x_order_1 U_x_isHour lk_m_x_77 S_x_isHour np_x_isHour) (Nat.le_of_ble_eq_true rfl) (by decide) (fun r1 => ?_)
  refine mr_eq (st' := [.int r1]) (ex' := ex) (h2 := (HX x_members x_collaterals x_hasSent x_isSealed x_metered x_sealedCount bk_counts bk_needs bk_whens bk_sides bk_quantities bk_limits ag_toldLies ag_passedLies ag_words ag_vectors ag_liarOperator ag_rounds mk_entries mk_slots mk_remainders mk_blocks mk_blockBids mk_blockOffers mk_entryCount mk_blockCount cv_limits cv_bids cv_offers cv_count cv_allBids cv_allOffers cv_meetingPrice cv_sureBids cv_sureOffers cv_priceBids cv_priceOffers cv_volume cv_worth oc_prices oc_volumes oc_filled oc_worth oc_takenSet oc_isDone, hT)) (k' := 0) (n' := 0) rfl rfl rfl rfl rfl ?_
  refine mr_if_ne (tgt := 17) d_x_order_4 (by decide) ?_ ?_
  · refine mr_aload_n d_x_order_17 rfl rfl ?_
    refine mr_iload_n d_x_order_18 rfl rfl ?_
    refine mr_iload_n d_x_order_19 rfl rfl ?_
    refine mr_iload_n d_x_order_20 rfl rfl ?_
    refine mr_iload d_x_order_21 rfl ?_
    refine mr_iload d_x_order_23 rfl ?_
    refine mr_iload d_x_order_25 rfl ?_
    refine mz_goT (st := []) e_x_send U_x_send (mz_vV d_x_order_27 U_x_send rfl lk_m_x_82 I_x_send s_x_send np_x_send rfl rfl) (Nat.le_of_ble_eq_true rfl) (by decide) rfl (fun r2 h0 => ?_) (fun r2 h0 r9 hr9 => ?_)
    · refine mr_eq (st' := [.int r2.2.1]) (ex' := ex) (h2 := (HX x_members x_collaterals r2.2.2.1 x_isSealed x_metered x_sealedCount r2.2.2.2.1 r2.2.2.2.2.1 r2.2.2.2.2.2.1 r2.2.2.2.2.2.2.1 r2.2.2.2.2.2.2.2.1 r2.2.2.2.2.2.2.2.2 ag_toldLies ag_passedLies ag_words ag_vectors ag_liarOperator ag_rounds mk_entries mk_slots mk_remainders mk_blocks mk_blockBids mk_blockOffers mk_entryCount mk_blockCount cv_limits cv_bids cv_offers cv_count cv_allBids cv_allOffers cv_meetingPrice cv_sureBids cv_sureOffers cv_priceBids cv_priceOffers cv_volume cv_worth oc_prices oc_volumes oc_filled oc_worth oc_takenSet oc_isDone, hT)) (k' := 0) (n' := 0) rfl (mz_x0 h0) rfl (mz_k0 h0) (mz_60 h0) ?_
      refine mr_ifp h0 ?_
      exact mr_iret d_x_order_30 rfl rfl
    · rw [if_neg h0] at hr9
      cases hr9
      exact ⟨some (.int 0), by rw [Nat.zero_add, Nat.zero_add]⟩
  · exact mr_throw d_x_order_7 d_x_order_10 d_x_order_11 d_x_order_13 d_x_order_16 tw_x_80_1 rfl (Nat.le_of_ble_eq_true rfl) (Nat.le_of_ble_eq_true rfl) (Nat.le_of_ble_eq_true rfl) (Nat.le_of_ble_eq_true rfl) rfl
set_option maxRecDepth 100000 in
set_option maxHeartbeats 4000000 in
theorem e_x_isSpan {g : mz_G} {ex : Bool} {h : mz_H} {x0 : Int32} : mz_M g M_x_isSpan 1 [.int x0] ex h (f_x_isSpan x0) (fun r => (0, some (.int r), ex, h, 0, 0)) := by
  refine mz_of (by decide) (Nat.le_of_ble_eq_true rfl) ?_
  rw [f_x_isSpan]
  show mz_A g M_x_isSpan (mz_rm 1) _ 0 [(0, .int x0)] [] ex h 0 0 _
  refine mr_iload_n d_x_isSpan_0 rfl rfl ?_
  refine mr_if_lt (tgt := 35) d_x_isSpan_1 (by decide) ?_ ?_
  · refine mr_iconst (v := 0) d_x_isSpan_35 mc_iconst_0 ?_
    exact mr_zret d_x_isSpan_36 rfl rfl
  · refine mr_iload_n d_x_isSpan_4 rfl rfl ?_
    refine mr_iconst (v := 4) d_x_isSpan_5 mc_iconst_4 ?_
    refine mr_idivK d_x_isSpan_6 (by decide) ?_
    refine mz_go (st := []) e_x_isHour (fun _ => rfl) U_x_isHour (mz_vS d_x_isSpan_7 U_x_isHour lk_m_x_77 S_x_isHour np_x_isHour) (Nat.le_of_ble_eq_true rfl) (by decide) (fun r1 => ?_)
    refine mr_eq (st' := [.int r1]) (ex' := ex) (h2 := h) (k' := 0) (n' := 0) rfl rfl rfl rfl rfl ?_
    refine mr_if_eq (tgt := 35) d_x_isSpan_10 (by decide) ?_ ?_
    · refine mr_iconst (v := 0) d_x_isSpan_35 mc_iconst_0 ?_
      exact mr_zret d_x_isSpan_36 rfl rfl
    · refine mr_iload_n d_x_isSpan_13 rfl rfl ?_
      refine mr_iconst (v := 4) d_x_isSpan_14 mc_iconst_4 ?_
      refine mr_iremK d_x_isSpan_15 (by decide) ?_
      refine mz_go (st := []) e_x_isHour (fun _ => rfl) U_x_isHour (mz_vS d_x_isSpan_16 U_x_isHour lk_m_x_77 S_x_isHour np_x_isHour) (Nat.le_of_ble_eq_true rfl) (by decide) (fun r2 => ?_)
      refine mr_eq (st' := [.int r2]) (ex' := ex) (h2 := h) (k' := 0) (n' := 0) rfl rfl rfl rfl rfl ?_
      refine mr_if_eq (tgt := 35) d_x_isSpan_19 (by decide) ?_ ?_
      · refine mr_iconst (v := 0) d_x_isSpan_35 mc_iconst_0 ?_
        exact mr_zret d_x_isSpan_36 rfl rfl
      · refine mr_iload_n d_x_isSpan_22 rfl rfl ?_
        refine mr_iconst (v := 4) d_x_isSpan_23 mc_iconst_4 ?_
        refine mr_idivK d_x_isSpan_24 (by decide) ?_
        refine mr_iload_n d_x_isSpan_25 rfl rfl ?_
        refine mr_iconst (v := 4) d_x_isSpan_26 mc_iconst_4 ?_
        refine mr_iremK d_x_isSpan_27 (by decide) ?_
        refine mr_icmp_gt (tgt := 35) d_x_isSpan_28 (by decide) ?_ ?_
        · refine mr_iconst (v := 0) d_x_isSpan_35 mc_iconst_0 ?_
          exact mr_zret d_x_isSpan_36 rfl rfl
        · refine mr_iconst (v := 1) d_x_isSpan_31 mc_iconst_1 ?_
          refine mr_goto (tgt := 36) d_x_isSpan_32 (by decide) ?_
          exact mr_zret d_x_isSpan_36 rfl rfl
set_option maxRecDepth 100000 in
set_option maxHeartbeats 4000000 in
theorem e_x_block {g : mz_G} {ex : Bool} {hT : List mz_E} {x_members : Int32} {x_collaterals : Nat → Int32} {x_hasSent : Nat → Int32} {x_isSealed : Nat → Int32} {x_metered : Nat → Int32} {x_sealedCount : Int32} {bk_counts : Nat → Int32} {bk_needs : Nat → Int64} {bk_whens : Nat → Int32} {bk_sides : Nat → Int32} {bk_quantities : Nat → Int32} {bk_limits : Nat → Int32} {ag_toldLies : Nat → Int32} {ag_passedLies : Nat → Int32} {ag_words : Nat → Int32} {ag_vectors : Nat → Int32} {ag_liarOperator : Int32} {ag_rounds : Int32} {mk_entries : Nat → Int32} {mk_slots : Nat → Int32} {mk_remainders : Nat → Int32} {mk_blocks : Nat → Int32} {mk_blockBids : Nat → Int32} {mk_blockOffers : Nat → Int32} {mk_entryCount : Int32} {mk_blockCount : Int32} {cv_limits : Nat → Nat → Int32} {cv_bids : Nat → Nat → Int32} {cv_offers : Nat → Nat → Int32} {cv_count : Nat → Int32} {cv_allBids : Nat → Int32} {cv_allOffers : Nat → Int32} {cv_meetingPrice : Nat → Int32} {cv_sureBids : Nat → Int32} {cv_sureOffers : Nat → Int32} {cv_priceBids : Nat → Int32} {cv_priceOffers : Nat → Int32} {cv_volume : Nat → Int32} {cv_worth : Nat → Int64} {oc_prices : Nat → Nat → Int32} {oc_volumes : Nat → Nat → Int32} {oc_filled : Nat → Nat → Int32} {oc_worth : Nat → Int64} {oc_takenSet : Nat → Int32} {oc_isDone : Nat → Int32} {x1 : Int32} {x2 : Int32} {x3 : Int32} {x4 : Int32} {x5 : Int32} {x6 : Int32} : mz_M g M_x_block 7 [.ref 0, .int x1, .int x2, .int x3, .int x4, .int x5, .int x6] ex (HX x_members x_collaterals x_hasSent x_isSealed x_metered x_sealedCount bk_counts bk_needs bk_whens bk_sides bk_quantities bk_limits ag_toldLies ag_passedLies ag_words ag_vectors ag_liarOperator ag_rounds mk_entries mk_slots mk_remainders mk_blocks mk_blockBids mk_blockOffers mk_entryCount mk_blockCount cv_limits cv_bids cv_offers cv_count cv_allBids cv_allOffers cv_meetingPrice cv_sureBids cv_sureOffers cv_priceBids cv_priceOffers cv_volume cv_worth oc_prices oc_volumes oc_filled oc_worth oc_takenSet oc_isDone, hT) (f_x_block x_members x_collaterals x_hasSent x_isSealed bk_counts bk_needs bk_whens bk_sides bk_quantities bk_limits x1 x2 x3 x4 x5 x6) (fun r => (r.1, some (.int r.2.1), mz_x ex r.1, (HX x_members x_collaterals r.2.2.1 x_isSealed x_metered x_sealedCount r.2.2.2.1 r.2.2.2.2.1 r.2.2.2.2.2.1 r.2.2.2.2.2.2.1 r.2.2.2.2.2.2.2.1 r.2.2.2.2.2.2.2.2 ag_toldLies ag_passedLies ag_words ag_vectors ag_liarOperator ag_rounds mk_entries mk_slots mk_remainders mk_blocks mk_blockBids mk_blockOffers mk_entryCount mk_blockCount cv_limits cv_bids cv_offers cv_count cv_allBids cv_allOffers cv_meetingPrice cv_sureBids cv_sureOffers cv_priceBids cv_priceOffers cv_volume cv_worth oc_prices oc_volumes oc_filled oc_worth oc_takenSet oc_isDone, hT), mz_k r.1, mz_6 r.1)) := by
  refine mz_of (by decide) (Nat.le_of_ble_eq_true rfl) ?_
  rw [f_x_block]
  show mz_A g M_x_block (mz_rm 7) _ 0 [(0, .ref 0), (1, .int x1), (2, .int x2), (3, .int x3), (4, .int x4), (5, .int x5), (6, .int x6)] [] ex (HX x_members x_collaterals x_hasSent x_isSealed x_metered x_sealedCount bk_counts bk_needs bk_whens bk_sides bk_quantities bk_limits ag_toldLies ag_passedLies ag_words ag_vectors ag_liarOperator ag_rounds mk_entries mk_slots mk_remainders mk_blocks mk_blockBids mk_blockOffers mk_entryCount mk_blockCount cv_limits cv_bids cv_offers cv_count cv_allBids cv_allOffers cv_meetingPrice cv_sureBids cv_sureOffers cv_priceBids cv_priceOffers cv_volume cv_worth oc_prices oc_volumes oc_filled oc_worth oc_takenSet oc_isDone, hT) 0 0 _
  refine mr_iload_n d_x_block_0 rfl rfl ?_
  refine mz_go (st := []) e_x_isSpan (fun _ => rfl) U_x_isSpan (mz_vS d_x_block_1 U_x_isSpan lk_m_x_86 S_x_isSpan np_x_isSpan) (Nat.le_of_ble_eq_true rfl) (by decide) (fun r1 => ?_)
  refine mr_eq (st' := [.int r1]) (ex' := ex) (h2 := (HX x_members x_collaterals x_hasSent x_isSealed x_metered x_sealedCount bk_counts bk_needs bk_whens bk_sides bk_quantities bk_limits ag_toldLies ag_passedLies ag_words ag_vectors ag_liarOperator ag_rounds mk_entries mk_slots mk_remainders mk_blocks mk_blockBids mk_blockOffers mk_entryCount mk_blockCount cv_limits cv_bids cv_offers cv_count cv_allBids cv_allOffers cv_meetingPrice cv_sureBids cv_sureOffers cv_priceBids cv_priceOffers cv_volume cv_worth oc_prices oc_volumes oc_filled oc_worth oc_takenSet oc_isDone, hT)) (k' := 0) (n' := 0) rfl rfl rfl rfl rfl ?_
  refine mr_if_ne (tgt := 17) d_x_block_4 (by decide) ?_ ?_
  · refine mr_aload_n d_x_block_17 rfl rfl ?_
    refine mr_iload_n d_x_block_18 rfl rfl ?_
    refine mr_iload_n d_x_block_19 rfl rfl ?_
    refine mr_bipush (v := 100) d_x_block_20 mc_bipush_100 ?_
    refine mr_iload_n d_x_block_22 rfl rfl ?_
    refine mr_iadd d_x_block_23 ?_
    refine mr_iload d_x_block_24 rfl ?_
    refine mr_iload d_x_block_26 rfl ?_
    refine mr_iload d_x_block_28 rfl ?_
    refine mz_goT (st := []) e_x_send U_x_send (mz_vV d_x_block_30 U_x_send rfl lk_m_x_82 I_x_send s_x_send np_x_send rfl rfl) (Nat.le_of_ble_eq_true rfl) (by decide) rfl (fun r2 h0 => ?_) (fun r2 h0 r9 hr9 => ?_)
    · refine mr_eq (st' := [.int r2.2.1]) (ex' := ex) (h2 := (HX x_members x_collaterals r2.2.2.1 x_isSealed x_metered x_sealedCount r2.2.2.2.1 r2.2.2.2.2.1 r2.2.2.2.2.2.1 r2.2.2.2.2.2.2.1 r2.2.2.2.2.2.2.2.1 r2.2.2.2.2.2.2.2.2 ag_toldLies ag_passedLies ag_words ag_vectors ag_liarOperator ag_rounds mk_entries mk_slots mk_remainders mk_blocks mk_blockBids mk_blockOffers mk_entryCount mk_blockCount cv_limits cv_bids cv_offers cv_count cv_allBids cv_allOffers cv_meetingPrice cv_sureBids cv_sureOffers cv_priceBids cv_priceOffers cv_volume cv_worth oc_prices oc_volumes oc_filled oc_worth oc_takenSet oc_isDone, hT)) (k' := 0) (n' := 0) rfl (mz_x0 h0) rfl (mz_k0 h0) (mz_60 h0) ?_
      refine mr_ifp h0 ?_
      exact mr_iret d_x_block_33 rfl rfl
    · rw [if_neg h0] at hr9
      cases hr9
      exact ⟨some (.int 0), by rw [Nat.zero_add, Nat.zero_add]⟩
  · exact mr_throw d_x_block_7 d_x_block_10 d_x_block_11 d_x_block_13 d_x_block_16 tw_x_89_1 rfl (Nat.le_of_ble_eq_true rfl) (Nat.le_of_ble_eq_true rfl) (Nat.le_of_ble_eq_true rfl) (Nat.le_of_ble_eq_true rfl) rfl
set_option maxRecDepth 100000 in
set_option maxHeartbeats 4000000 in
theorem e_x_seal {g : mz_G} {ex : Bool} {hT : List mz_E} {x_members : Int32} {x_collaterals : Nat → Int32} {x_hasSent : Nat → Int32} {x_isSealed : Nat → Int32} {x_metered : Nat → Int32} {x_sealedCount : Int32} {bk_counts : Nat → Int32} {bk_needs : Nat → Int64} {bk_whens : Nat → Int32} {bk_sides : Nat → Int32} {bk_quantities : Nat → Int32} {bk_limits : Nat → Int32} {ag_toldLies : Nat → Int32} {ag_passedLies : Nat → Int32} {ag_words : Nat → Int32} {ag_vectors : Nat → Int32} {ag_liarOperator : Int32} {ag_rounds : Int32} {mk_entries : Nat → Int32} {mk_slots : Nat → Int32} {mk_remainders : Nat → Int32} {mk_blocks : Nat → Int32} {mk_blockBids : Nat → Int32} {mk_blockOffers : Nat → Int32} {mk_entryCount : Int32} {mk_blockCount : Int32} {cv_limits : Nat → Nat → Int32} {cv_bids : Nat → Nat → Int32} {cv_offers : Nat → Nat → Int32} {cv_count : Nat → Int32} {cv_allBids : Nat → Int32} {cv_allOffers : Nat → Int32} {cv_meetingPrice : Nat → Int32} {cv_sureBids : Nat → Int32} {cv_sureOffers : Nat → Int32} {cv_priceBids : Nat → Int32} {cv_priceOffers : Nat → Int32} {cv_volume : Nat → Int32} {cv_worth : Nat → Int64} {oc_prices : Nat → Nat → Int32} {oc_volumes : Nat → Nat → Int32} {oc_filled : Nat → Nat → Int32} {oc_worth : Nat → Int64} {oc_takenSet : Nat → Int32} {oc_isDone : Nat → Int32} {x1 : Int32} : mz_M g M_x_seal 6 [.ref 0, .int x1] ex (HX x_members x_collaterals x_hasSent x_isSealed x_metered x_sealedCount bk_counts bk_needs bk_whens bk_sides bk_quantities bk_limits ag_toldLies ag_passedLies ag_words ag_vectors ag_liarOperator ag_rounds mk_entries mk_slots mk_remainders mk_blocks mk_blockBids mk_blockOffers mk_entryCount mk_blockCount cv_limits cv_bids cv_offers cv_count cv_allBids cv_allOffers cv_meetingPrice cv_sureBids cv_sureOffers cv_priceBids cv_priceOffers cv_volume cv_worth oc_prices oc_volumes oc_filled oc_worth oc_takenSet oc_isDone, hT) (f_x_seal x_members x_isSealed x_sealedCount x1) (fun r => (r.1, some (.int r.2.1), mz_x ex r.1, (HX x_members x_collaterals x_hasSent r.2.2.1 x_metered r.2.2.2 bk_counts bk_needs bk_whens bk_sides bk_quantities bk_limits ag_toldLies ag_passedLies ag_words ag_vectors ag_liarOperator ag_rounds mk_entries mk_slots mk_remainders mk_blocks mk_blockBids mk_blockOffers mk_entryCount mk_blockCount cv_limits cv_bids cv_offers cv_count cv_allBids cv_allOffers cv_meetingPrice cv_sureBids cv_sureOffers cv_priceBids cv_priceOffers cv_volume cv_worth oc_prices oc_volumes oc_filled oc_worth oc_takenSet oc_isDone, hT), mz_k r.1, mz_6 r.1)) := by
  refine mz_of (by decide) (Nat.le_of_ble_eq_true rfl) ?_
  rw [f_x_seal]
  show mz_A g M_x_seal (mz_rm 6) _ 0 [(0, .ref 0), (1, .int x1)] [] ex (HX x_members x_collaterals x_hasSent x_isSealed x_metered x_sealedCount bk_counts bk_needs bk_whens bk_sides bk_quantities bk_limits ag_toldLies ag_passedLies ag_words ag_vectors ag_liarOperator ag_rounds mk_entries mk_slots mk_remainders mk_blocks mk_blockBids mk_blockOffers mk_entryCount mk_blockCount cv_limits cv_bids cv_offers cv_count cv_allBids cv_allOffers cv_meetingPrice cv_sureBids cv_sureOffers cv_priceBids cv_priceOffers cv_volume cv_worth oc_prices oc_volumes oc_filled oc_worth oc_takenSet oc_isDone, hT) 0 0 _
  refine mr_aload_n d_x_seal_0 rfl rfl ?_
  refine mr_iload_n d_x_seal_1 rfl rfl ?_
  refine mz_go (st := []) e_x_isMember (fun _ => rfl) U_x_isMember (mz_vV d_x_seal_2 U_x_isMember rfl lk_m_x_60 I_x_isMember s_x_isMember np_x_isMember rfl rfl) (Nat.le_of_ble_eq_true rfl) (by decide) (fun r1 => ?_)
  refine mr_eq (st' := [.int r1]) (ex' := ex) (h2 := (HX x_members x_collaterals x_hasSent x_isSealed x_metered x_sealedCount bk_counts bk_needs bk_whens bk_sides bk_quantities bk_limits ag_toldLies ag_passedLies ag_words ag_vectors ag_liarOperator ag_rounds mk_entries mk_slots mk_remainders mk_blocks mk_blockBids mk_blockOffers mk_entryCount mk_blockCount cv_limits cv_bids cv_offers cv_count cv_allBids cv_allOffers cv_meetingPrice cv_sureBids cv_sureOffers cv_priceBids cv_priceOffers cv_volume cv_worth oc_prices oc_volumes oc_filled oc_worth oc_takenSet oc_isDone, hT)) (k' := 0) (n' := 0) rfl rfl rfl rfl rfl ?_
  refine mr_if_ne (tgt := 18) d_x_seal_5 (by decide) ?_ ?_
  · refine mr_aload_n d_x_seal_18 rfl rfl ?_
    refine mr_get K_x 3 d_x_seal_19 lk_f_x_21 (by decide) rfl rfl ?_
    refine mr_iload_n d_x_seal_22 rfl rfl ?_
    refine mr_zald d_x_seal_23 rfl (fun hc2 => ?_)
    refine mr_if_eq (tgt := 37) d_x_seal_24 (by decide) ?_ ?_
    · refine mr_aload_n d_x_seal_37 rfl rfl ?_
      refine mr_get K_x 3 d_x_seal_38 lk_f_x_21 (by decide) rfl rfl ?_
      refine mr_iload_n d_x_seal_41 rfl rfl ?_
      refine mr_iconst (v := 1) d_x_seal_42 mc_iconst_1 ?_
      refine mr_zastK (h2 := (HX x_members x_collaterals x_hasSent (upd x_isSealed x1.toNatClampNeg (vp_nar .boolean 1)) x_metered x_sealedCount bk_counts bk_needs bk_whens bk_sides bk_quantities bk_limits ag_toldLies ag_passedLies ag_words ag_vectors ag_liarOperator ag_rounds mk_entries mk_slots mk_remainders mk_blocks mk_blockBids mk_blockOffers mk_entryCount mk_blockCount cv_limits cv_bids cv_offers cv_count cv_allBids cv_allOffers cv_meetingPrice cv_sureBids cv_sureOffers cv_priceBids cv_priceOffers cv_volume cv_worth oc_prices oc_volumes oc_filled oc_worth oc_takenSet oc_isDone, hT)) d_x_seal_43 rfl rfl hc2 ?_
      refine mr_aload_n d_x_seal_44 rfl rfl ?_
      refine mr_dup d_x_seal_45 rfl ?_
      refine mr_get K_x 9 d_x_seal_46 lk_f_x_57 (by decide) rfl rfl ?_
      refine mr_iconst (v := 1) d_x_seal_49 mc_iconst_1 ?_
      refine mr_iadd d_x_seal_50 ?_
      refine mr_put (h2 := (HX x_members x_collaterals x_hasSent (upd x_isSealed x1.toNatClampNeg (vp_nar .boolean 1)) x_metered (x_sealedCount + 1) bk_counts bk_needs bk_whens bk_sides bk_quantities bk_limits ag_toldLies ag_passedLies ag_words ag_vectors ag_liarOperator ag_rounds mk_entries mk_slots mk_remainders mk_blocks mk_blockBids mk_blockOffers mk_entryCount mk_blockCount cv_limits cv_bids cv_offers cv_count cv_allBids cv_allOffers cv_meetingPrice cv_sureBids cv_sureOffers cv_priceBids cv_priceOffers cv_volume cv_worth oc_prices oc_volumes oc_filled oc_worth oc_takenSet oc_isDone, hT)) K_x 9 d_x_seal_51 lk_f_x_57 (by decide) rfl rfl rfl (Nat.le_of_ble_eq_true rfl) rfl rfl ?_
      refine mr_aload_n d_x_seal_54 rfl rfl ?_
      refine mr_get K_x 9 d_x_seal_55 lk_f_x_57 (by decide) rfl rfl ?_
      exact mr_iret d_x_seal_58 rfl rfl
    · exact mr_throw d_x_seal_27 d_x_seal_30 d_x_seal_31 d_x_seal_33 d_x_seal_36 tw_x_93_2 rfl (Nat.le_of_ble_eq_true rfl) (Nat.le_of_ble_eq_true rfl) (Nat.le_of_ble_eq_true rfl) (Nat.le_of_ble_eq_true rfl) rfl
  · exact mr_throw d_x_seal_8 d_x_seal_11 d_x_seal_12 d_x_seal_14 d_x_seal_17 tw_x_91_1 rfl (Nat.le_of_ble_eq_true rfl) (Nat.le_of_ble_eq_true rfl) (Nat.le_of_ble_eq_true rfl) (Nat.le_of_ble_eq_true rfl) rfl
set_option maxRecDepth 100000 in
set_option maxHeartbeats 4000000 in
theorem e_ag_hasLiar {g : mz_G} {ex : Bool} {hT : List mz_E} {x_members : Int32} {x_collaterals : Nat → Int32} {x_hasSent : Nat → Int32} {x_isSealed : Nat → Int32} {x_metered : Nat → Int32} {x_sealedCount : Int32} {bk_counts : Nat → Int32} {bk_needs : Nat → Int64} {bk_whens : Nat → Int32} {bk_sides : Nat → Int32} {bk_quantities : Nat → Int32} {bk_limits : Nat → Int32} {ag_toldLies : Nat → Int32} {ag_passedLies : Nat → Int32} {ag_words : Nat → Int32} {ag_vectors : Nat → Int32} {ag_liarOperator : Int32} {ag_rounds : Int32} {mk_entries : Nat → Int32} {mk_slots : Nat → Int32} {mk_remainders : Nat → Int32} {mk_blocks : Nat → Int32} {mk_blockBids : Nat → Int32} {mk_blockOffers : Nat → Int32} {mk_entryCount : Int32} {mk_blockCount : Int32} {cv_limits : Nat → Nat → Int32} {cv_bids : Nat → Nat → Int32} {cv_offers : Nat → Nat → Int32} {cv_count : Nat → Int32} {cv_allBids : Nat → Int32} {cv_allOffers : Nat → Int32} {cv_meetingPrice : Nat → Int32} {cv_sureBids : Nat → Int32} {cv_sureOffers : Nat → Int32} {cv_priceBids : Nat → Int32} {cv_priceOffers : Nat → Int32} {cv_volume : Nat → Int32} {cv_worth : Nat → Int64} {oc_prices : Nat → Nat → Int32} {oc_volumes : Nat → Nat → Int32} {oc_filled : Nat → Nat → Int32} {oc_worth : Nat → Int64} {oc_takenSet : Nat → Int32} {oc_isDone : Nat → Int32} : mz_M g M_ag_hasLiar 0 [.ref 12] ex (HX x_members x_collaterals x_hasSent x_isSealed x_metered x_sealedCount bk_counts bk_needs bk_whens bk_sides bk_quantities bk_limits ag_toldLies ag_passedLies ag_words ag_vectors ag_liarOperator ag_rounds mk_entries mk_slots mk_remainders mk_blocks mk_blockBids mk_blockOffers mk_entryCount mk_blockCount cv_limits cv_bids cv_offers cv_count cv_allBids cv_allOffers cv_meetingPrice cv_sureBids cv_sureOffers cv_priceBids cv_priceOffers cv_volume cv_worth oc_prices oc_volumes oc_filled oc_worth oc_takenSet oc_isDone, hT) (f_ag_hasLiar ag_liarOperator) (fun r => (0, some (.int r), ex, (HX x_members x_collaterals x_hasSent x_isSealed x_metered x_sealedCount bk_counts bk_needs bk_whens bk_sides bk_quantities bk_limits ag_toldLies ag_passedLies ag_words ag_vectors ag_liarOperator ag_rounds mk_entries mk_slots mk_remainders mk_blocks mk_blockBids mk_blockOffers mk_entryCount mk_blockCount cv_limits cv_bids cv_offers cv_count cv_allBids cv_allOffers cv_meetingPrice cv_sureBids cv_sureOffers cv_priceBids cv_priceOffers cv_volume cv_worth oc_prices oc_volumes oc_filled oc_worth oc_takenSet oc_isDone, hT), 0, 0)) := by
  refine mz_of (by decide) (Nat.le_of_ble_eq_true rfl) ?_
  rw [f_ag_hasLiar]
  show mz_A g M_ag_hasLiar (mz_rm 0) _ 0 [(0, .ref 12)] [] ex (HX x_members x_collaterals x_hasSent x_isSealed x_metered x_sealedCount bk_counts bk_needs bk_whens bk_sides bk_quantities bk_limits ag_toldLies ag_passedLies ag_words ag_vectors ag_liarOperator ag_rounds mk_entries mk_slots mk_remainders mk_blocks mk_blockBids mk_blockOffers mk_entryCount mk_blockCount cv_limits cv_bids cv_offers cv_count cv_allBids cv_allOffers cv_meetingPrice cv_sureBids cv_sureOffers cv_priceBids cv_priceOffers cv_volume cv_worth oc_prices oc_volumes oc_filled oc_worth oc_takenSet oc_isDone, hT) 0 0 _
  refine mr_aload_n d_ag_hasLiar_0 rfl rfl ?_
  refine mr_get K_ag 5 d_ag_hasLiar_1 lk_f_ag_31 (by decide) rfl rfl ?_
  refine mr_iconst (v := (-1)) d_ag_hasLiar_4 mc_iconst_m1 ?_
  refine mr_icmp_eq (tgt := 12) d_ag_hasLiar_5 (by decide) ?_ ?_
  · refine mr_iconst (v := 0) d_ag_hasLiar_12 mc_iconst_0 ?_
    exact mr_zret d_ag_hasLiar_13 rfl rfl
  · refine mr_iconst (v := 1) d_ag_hasLiar_8 mc_iconst_1 ?_
    refine mr_goto (tgt := 13) d_ag_hasLiar_9 (by decide) ?_
    exact mr_zret d_ag_hasLiar_13 rfl rfl
set_option maxRecDepth 100000 in
set_option maxHeartbeats 4000000 in
theorem e_x_liar {g : mz_G} {ex : Bool} {hT : List mz_E} {x_members : Int32} {x_collaterals : Nat → Int32} {x_hasSent : Nat → Int32} {x_isSealed : Nat → Int32} {x_metered : Nat → Int32} {x_sealedCount : Int32} {bk_counts : Nat → Int32} {bk_needs : Nat → Int64} {bk_whens : Nat → Int32} {bk_sides : Nat → Int32} {bk_quantities : Nat → Int32} {bk_limits : Nat → Int32} {ag_toldLies : Nat → Int32} {ag_passedLies : Nat → Int32} {ag_words : Nat → Int32} {ag_vectors : Nat → Int32} {ag_liarOperator : Int32} {ag_rounds : Int32} {mk_entries : Nat → Int32} {mk_slots : Nat → Int32} {mk_remainders : Nat → Int32} {mk_blocks : Nat → Int32} {mk_blockBids : Nat → Int32} {mk_blockOffers : Nat → Int32} {mk_entryCount : Int32} {mk_blockCount : Int32} {cv_limits : Nat → Nat → Int32} {cv_bids : Nat → Nat → Int32} {cv_offers : Nat → Nat → Int32} {cv_count : Nat → Int32} {cv_allBids : Nat → Int32} {cv_allOffers : Nat → Int32} {cv_meetingPrice : Nat → Int32} {cv_sureBids : Nat → Int32} {cv_sureOffers : Nat → Int32} {cv_priceBids : Nat → Int32} {cv_priceOffers : Nat → Int32} {cv_volume : Nat → Int32} {cv_worth : Nat → Int64} {oc_prices : Nat → Nat → Int32} {oc_volumes : Nat → Nat → Int32} {oc_filled : Nat → Nat → Int32} {oc_worth : Nat → Int64} {oc_takenSet : Nat → Int32} {oc_isDone : Nat → Int32} {x1 : Int32} : mz_M g M_x_liar 6 [.ref 0, .int x1] ex (HX x_members x_collaterals x_hasSent x_isSealed x_metered x_sealedCount bk_counts bk_needs bk_whens bk_sides bk_quantities bk_limits ag_toldLies ag_passedLies ag_words ag_vectors ag_liarOperator ag_rounds mk_entries mk_slots mk_remainders mk_blocks mk_blockBids mk_blockOffers mk_entryCount mk_blockCount cv_limits cv_bids cv_offers cv_count cv_allBids cv_allOffers cv_meetingPrice cv_sureBids cv_sureOffers cv_priceBids cv_priceOffers cv_volume cv_worth oc_prices oc_volumes oc_filled oc_worth oc_takenSet oc_isDone, hT) (f_x_liar ag_liarOperator ag_rounds x1) (fun r => (r.1, none, mz_x ex r.1, (HX x_members x_collaterals x_hasSent x_isSealed x_metered x_sealedCount bk_counts bk_needs bk_whens bk_sides bk_quantities bk_limits ag_toldLies ag_passedLies ag_words ag_vectors r.2 ag_rounds mk_entries mk_slots mk_remainders mk_blocks mk_blockBids mk_blockOffers mk_entryCount mk_blockCount cv_limits cv_bids cv_offers cv_count cv_allBids cv_allOffers cv_meetingPrice cv_sureBids cv_sureOffers cv_priceBids cv_priceOffers cv_volume cv_worth oc_prices oc_volumes oc_filled oc_worth oc_takenSet oc_isDone, hT), mz_k r.1, mz_6 r.1)) := by
  have w_b37 : ∀ (ag_liarOperator : Int32), mz_A g M_x_liar (mz_rm 6) (fun r => (r.1, none, mz_x ex r.1, (HX x_members x_collaterals x_hasSent x_isSealed x_metered x_sealedCount bk_counts bk_needs bk_whens bk_sides bk_quantities bk_limits ag_toldLies ag_passedLies ag_words ag_vectors r.2 ag_rounds mk_entries mk_slots mk_remainders mk_blocks mk_blockBids mk_blockOffers mk_entryCount mk_blockCount cv_limits cv_bids cv_offers cv_count cv_allBids cv_allOffers cv_meetingPrice cv_sureBids cv_sureOffers cv_priceBids cv_priceOffers cv_volume cv_worth oc_prices oc_volumes oc_filled oc_worth oc_takenSet oc_isDone, hT), mz_k r.1, mz_6 r.1)) 37 [] [] ex (HX x_members x_collaterals x_hasSent x_isSealed x_metered x_sealedCount bk_counts bk_needs bk_whens bk_sides bk_quantities bk_limits ag_toldLies ag_passedLies ag_words ag_vectors ag_liarOperator ag_rounds mk_entries mk_slots mk_remainders mk_blocks mk_blockBids mk_blockOffers mk_entryCount mk_blockCount cv_limits cv_bids cv_offers cv_count cv_allBids cv_allOffers cv_meetingPrice cv_sureBids cv_sureOffers cv_priceBids cv_priceOffers cv_volume cv_worth oc_prices oc_volumes oc_filled oc_worth oc_takenSet oc_isDone, hT) 0 0 (f_x_liar_b37 ag_rounds ag_liarOperator) := by
    intro  ag_liarOperator
    rw [f_x_liar_b37]
    exact mr_throw d_x_liar_37 d_x_liar_40 d_x_liar_41 d_x_liar_43 d_x_liar_46 tw_x_107_2 rfl (Nat.le_of_ble_eq_true rfl) (Nat.le_of_ble_eq_true rfl) (Nat.le_of_ble_eq_true rfl) (Nat.le_of_ble_eq_true rfl) rfl
  refine mz_of (by decide) (Nat.le_of_ble_eq_true rfl) ?_
  rw [f_x_liar]
  show mz_A g M_x_liar (mz_rm 6) _ 0 [(0, .ref 0), (1, .int x1)] [] ex (HX x_members x_collaterals x_hasSent x_isSealed x_metered x_sealedCount bk_counts bk_needs bk_whens bk_sides bk_quantities bk_limits ag_toldLies ag_passedLies ag_words ag_vectors ag_liarOperator ag_rounds mk_entries mk_slots mk_remainders mk_blocks mk_blockBids mk_blockOffers mk_entryCount mk_blockCount cv_limits cv_bids cv_offers cv_count cv_allBids cv_allOffers cv_meetingPrice cv_sureBids cv_sureOffers cv_priceBids cv_priceOffers cv_volume cv_worth oc_prices oc_volumes oc_filled oc_worth oc_takenSet oc_isDone, hT) 0 0 _
  refine mr_iload_n d_x_liar_0 rfl rfl ?_
  refine mz_go (st := []) e_x_isOperator (fun _ => rfl) U_x_isOperator (mz_vS d_x_liar_1 U_x_isOperator lk_m_x_95 S_x_isOperator np_x_isOperator) (Nat.le_of_ble_eq_true rfl) (by decide) (fun r1 => ?_)
  refine mr_eq (st' := [.int r1]) (ex' := ex) (h2 := (HX x_members x_collaterals x_hasSent x_isSealed x_metered x_sealedCount bk_counts bk_needs bk_whens bk_sides bk_quantities bk_limits ag_toldLies ag_passedLies ag_words ag_vectors ag_liarOperator ag_rounds mk_entries mk_slots mk_remainders mk_blocks mk_blockBids mk_blockOffers mk_entryCount mk_blockCount cv_limits cv_bids cv_offers cv_count cv_allBids cv_allOffers cv_meetingPrice cv_sureBids cv_sureOffers cv_priceBids cv_priceOffers cv_volume cv_worth oc_prices oc_volumes oc_filled oc_worth oc_takenSet oc_isDone, hT)) (k' := 0) (n' := 0) rfl rfl rfl rfl rfl ?_
  refine mr_if_ne (tgt := 17) d_x_liar_4 (by decide) ?_ ?_
  · refine mr_aload_n d_x_liar_17 rfl rfl ?_
    refine mr_get K_x 6 d_x_liar_18 lk_f_x_39 (by decide) rfl rfl ?_
    refine mz_go (st := []) e_ag_hasLiar (fun _ => rfl) U_ag_hasLiar (mz_vV d_x_liar_21 U_ag_hasLiar rfl lk_m_x_100 I_ag_hasLiar s_ag_hasLiar np_ag_hasLiar rfl rfl) (Nat.le_of_ble_eq_true rfl) (by decide) (fun r2 => ?_)
    refine mr_eq (st' := [.int r2]) (ex' := ex) (h2 := (HX x_members x_collaterals x_hasSent x_isSealed x_metered x_sealedCount bk_counts bk_needs bk_whens bk_sides bk_quantities bk_limits ag_toldLies ag_passedLies ag_words ag_vectors ag_liarOperator ag_rounds mk_entries mk_slots mk_remainders mk_blocks mk_blockBids mk_blockOffers mk_entryCount mk_blockCount cv_limits cv_bids cv_offers cv_count cv_allBids cv_allOffers cv_meetingPrice cv_sureBids cv_sureOffers cv_priceBids cv_priceOffers cv_volume cv_worth oc_prices oc_volumes oc_filled oc_worth oc_takenSet oc_isDone, hT)) (k' := 0) (n' := 0) rfl rfl rfl rfl rfl ?_
    refine mr_if_ne (tgt := 37) d_x_liar_24 (by decide) ?_ ?_
    · refine mr_sub (lv' := []) [] rfl ?_
      exact w_b37 _
    · refine mr_aload_n d_x_liar_27 rfl rfl ?_
      refine mr_get K_x 6 d_x_liar_28 lk_f_x_39 (by decide) rfl rfl ?_
      refine mr_getN K_ag 6 d_x_liar_31 lk_f_x_104 (by decide) rfl rfl ?_
      refine mr_if_le (tgt := 47) d_x_liar_34 (by decide) ?_ ?_
      · refine mr_aload_n d_x_liar_47 rfl rfl ?_
        refine mr_get K_x 6 d_x_liar_48 lk_f_x_39 (by decide) rfl rfl ?_
        refine mr_iload_n d_x_liar_51 rfl rfl ?_
        refine mr_putN (h2 := (HX x_members x_collaterals x_hasSent x_isSealed x_metered x_sealedCount bk_counts bk_needs bk_whens bk_sides bk_quantities bk_limits ag_toldLies ag_passedLies ag_words ag_vectors x1 ag_rounds mk_entries mk_slots mk_remainders mk_blocks mk_blockBids mk_blockOffers mk_entryCount mk_blockCount cv_limits cv_bids cv_offers cv_count cv_allBids cv_allOffers cv_meetingPrice cv_sureBids cv_sureOffers cv_priceBids cv_priceOffers cv_volume cv_worth oc_prices oc_volumes oc_filled oc_worth oc_takenSet oc_isDone, hT)) K_ag 5 d_x_liar_52 lk_f_x_109 (by decide) rfl rfl rfl (Nat.le_of_ble_eq_true rfl) rfl rfl ?_
        exact mr_vret d_x_liar_55 rfl rfl
      · refine mr_sub (lv' := []) [] rfl ?_
        exact w_b37 _
  · exact mr_throw d_x_liar_7 d_x_liar_10 d_x_liar_11 d_x_liar_13 d_x_liar_16 tw_x_98_1 rfl (Nat.le_of_ble_eq_true rfl) (Nat.le_of_ble_eq_true rfl) (Nat.le_of_ble_eq_true rfl) (Nat.le_of_ble_eq_true rfl) rfl
set_option maxRecDepth 100000 in
set_option maxHeartbeats 4000000 in
theorem e_ag_isTellingNext {g : mz_G} {ex : Bool} {hT : List mz_E} {x_members : Int32} {x_collaterals : Nat → Int32} {x_hasSent : Nat → Int32} {x_isSealed : Nat → Int32} {x_metered : Nat → Int32} {x_sealedCount : Int32} {bk_counts : Nat → Int32} {bk_needs : Nat → Int64} {bk_whens : Nat → Int32} {bk_sides : Nat → Int32} {bk_quantities : Nat → Int32} {bk_limits : Nat → Int32} {ag_toldLies : Nat → Int32} {ag_passedLies : Nat → Int32} {ag_words : Nat → Int32} {ag_vectors : Nat → Int32} {ag_liarOperator : Int32} {ag_rounds : Int32} {mk_entries : Nat → Int32} {mk_slots : Nat → Int32} {mk_remainders : Nat → Int32} {mk_blocks : Nat → Int32} {mk_blockBids : Nat → Int32} {mk_blockOffers : Nat → Int32} {mk_entryCount : Int32} {mk_blockCount : Int32} {cv_limits : Nat → Nat → Int32} {cv_bids : Nat → Nat → Int32} {cv_offers : Nat → Nat → Int32} {cv_count : Nat → Int32} {cv_allBids : Nat → Int32} {cv_allOffers : Nat → Int32} {cv_meetingPrice : Nat → Int32} {cv_sureBids : Nat → Int32} {cv_sureOffers : Nat → Int32} {cv_priceBids : Nat → Int32} {cv_priceOffers : Nat → Int32} {cv_volume : Nat → Int32} {cv_worth : Nat → Int64} {oc_prices : Nat → Nat → Int32} {oc_volumes : Nat → Nat → Int32} {oc_filled : Nat → Nat → Int32} {oc_worth : Nat → Int64} {oc_takenSet : Nat → Int32} {oc_isDone : Nat → Int32} : mz_M g M_ag_isTellingNext 0 [.ref 12] ex (HX x_members x_collaterals x_hasSent x_isSealed x_metered x_sealedCount bk_counts bk_needs bk_whens bk_sides bk_quantities bk_limits ag_toldLies ag_passedLies ag_words ag_vectors ag_liarOperator ag_rounds mk_entries mk_slots mk_remainders mk_blocks mk_blockBids mk_blockOffers mk_entryCount mk_blockCount cv_limits cv_bids cv_offers cv_count cv_allBids cv_allOffers cv_meetingPrice cv_sureBids cv_sureOffers cv_priceBids cv_priceOffers cv_volume cv_worth oc_prices oc_volumes oc_filled oc_worth oc_takenSet oc_isDone, hT) (f_ag_isTellingNext ag_rounds) (fun r => (0, some (.int r), ex, (HX x_members x_collaterals x_hasSent x_isSealed x_metered x_sealedCount bk_counts bk_needs bk_whens bk_sides bk_quantities bk_limits ag_toldLies ag_passedLies ag_words ag_vectors ag_liarOperator ag_rounds mk_entries mk_slots mk_remainders mk_blocks mk_blockBids mk_blockOffers mk_entryCount mk_blockCount cv_limits cv_bids cv_offers cv_count cv_allBids cv_allOffers cv_meetingPrice cv_sureBids cv_sureOffers cv_priceBids cv_priceOffers cv_volume cv_worth oc_prices oc_volumes oc_filled oc_worth oc_takenSet oc_isDone, hT), 0, 0)) := by
  have w_b16 : mz_A g M_ag_isTellingNext (mz_rm 0) (fun r => (0, some (.int r), ex, (HX x_members x_collaterals x_hasSent x_isSealed x_metered x_sealedCount bk_counts bk_needs bk_whens bk_sides bk_quantities bk_limits ag_toldLies ag_passedLies ag_words ag_vectors ag_liarOperator ag_rounds mk_entries mk_slots mk_remainders mk_blocks mk_blockBids mk_blockOffers mk_entryCount mk_blockCount cv_limits cv_bids cv_offers cv_count cv_allBids cv_allOffers cv_meetingPrice cv_sureBids cv_sureOffers cv_priceBids cv_priceOffers cv_volume cv_worth oc_prices oc_volumes oc_filled oc_worth oc_takenSet oc_isDone, hT), 0, 0)) 16 [] [] ex (HX x_members x_collaterals x_hasSent x_isSealed x_metered x_sealedCount bk_counts bk_needs bk_whens bk_sides bk_quantities bk_limits ag_toldLies ag_passedLies ag_words ag_vectors ag_liarOperator ag_rounds mk_entries mk_slots mk_remainders mk_blocks mk_blockBids mk_blockOffers mk_entryCount mk_blockCount cv_limits cv_bids cv_offers cv_count cv_allBids cv_allOffers cv_meetingPrice cv_sureBids cv_sureOffers cv_priceBids cv_priceOffers cv_volume cv_worth oc_prices oc_volumes oc_filled oc_worth oc_takenSet oc_isDone, hT) 0 0 (f_ag_isTellingNext_b16 ag_rounds) := by
    rw [f_ag_isTellingNext_b16]
    refine mr_iconst (v := 1) d_ag_isTellingNext_16 mc_iconst_1 ?_
    refine mr_goto (tgt := 21) d_ag_isTellingNext_17 (by decide) ?_
    exact mr_zret d_ag_isTellingNext_21 rfl rfl
  refine mz_of (by decide) (Nat.le_of_ble_eq_true rfl) ?_
  rw [f_ag_isTellingNext]
  show mz_A g M_ag_isTellingNext (mz_rm 0) _ 0 [(0, .ref 12)] [] ex (HX x_members x_collaterals x_hasSent x_isSealed x_metered x_sealedCount bk_counts bk_needs bk_whens bk_sides bk_quantities bk_limits ag_toldLies ag_passedLies ag_words ag_vectors ag_liarOperator ag_rounds mk_entries mk_slots mk_remainders mk_blocks mk_blockBids mk_blockOffers mk_entryCount mk_blockCount cv_limits cv_bids cv_offers cv_count cv_allBids cv_allOffers cv_meetingPrice cv_sureBids cv_sureOffers cv_priceBids cv_priceOffers cv_volume cv_worth oc_prices oc_volumes oc_filled oc_worth oc_takenSet oc_isDone, hT) 0 0 _
  refine mr_aload_n d_ag_isTellingNext_0 rfl rfl ?_
  refine mr_get K_ag 6 d_ag_isTellingNext_1 lk_f_ag_35 (by decide) rfl rfl ?_
  refine mr_iconst (v := 1) d_ag_isTellingNext_4 mc_iconst_1 ?_
  refine mr_icmp_eq (tgt := 16) d_ag_isTellingNext_5 (by decide) ?_ ?_
  · refine mr_sub (lv' := []) [] rfl ?_
    exact w_b16
  · refine mr_aload_n d_ag_isTellingNext_8 rfl rfl ?_
    refine mr_get K_ag 6 d_ag_isTellingNext_9 lk_f_ag_35 (by decide) rfl rfl ?_
    refine mr_iconst (v := 2) d_ag_isTellingNext_12 mc_iconst_2 ?_
    refine mr_icmp_ne (tgt := 20) d_ag_isTellingNext_13 (by decide) ?_ ?_
    · refine mr_iconst (v := 0) d_ag_isTellingNext_20 mc_iconst_0 ?_
      exact mr_zret d_ag_isTellingNext_21 rfl rfl
    · refine mr_sub (lv' := []) [] rfl ?_
      exact w_b16
set_option maxRecDepth 100000 in
set_option maxHeartbeats 4000000 in
theorem e_ag_mayLie {g : mz_G} {ex : Bool} {hT : List mz_E} {x_members : Int32} {x_collaterals : Nat → Int32} {x_hasSent : Nat → Int32} {x_isSealed : Nat → Int32} {x_metered : Nat → Int32} {x_sealedCount : Int32} {bk_counts : Nat → Int32} {bk_needs : Nat → Int64} {bk_whens : Nat → Int32} {bk_sides : Nat → Int32} {bk_quantities : Nat → Int32} {bk_limits : Nat → Int32} {ag_toldLies : Nat → Int32} {ag_passedLies : Nat → Int32} {ag_words : Nat → Int32} {ag_vectors : Nat → Int32} {ag_liarOperator : Int32} {ag_rounds : Int32} {mk_entries : Nat → Int32} {mk_slots : Nat → Int32} {mk_remainders : Nat → Int32} {mk_blocks : Nat → Int32} {mk_blockBids : Nat → Int32} {mk_blockOffers : Nat → Int32} {mk_entryCount : Int32} {mk_blockCount : Int32} {cv_limits : Nat → Nat → Int32} {cv_bids : Nat → Nat → Int32} {cv_offers : Nat → Nat → Int32} {cv_count : Nat → Int32} {cv_allBids : Nat → Int32} {cv_allOffers : Nat → Int32} {cv_meetingPrice : Nat → Int32} {cv_sureBids : Nat → Int32} {cv_sureOffers : Nat → Int32} {cv_priceBids : Nat → Int32} {cv_priceOffers : Nat → Int32} {cv_volume : Nat → Int32} {cv_worth : Nat → Int64} {oc_prices : Nat → Nat → Int32} {oc_volumes : Nat → Nat → Int32} {oc_filled : Nat → Nat → Int32} {oc_worth : Nat → Int64} {oc_takenSet : Nat → Int32} {oc_isDone : Nat → Int32} {x1 : Int32} {x2 : Int32} : mz_M g M_ag_mayLie 0 [.ref 12, .int x1, .int x2] ex (HX x_members x_collaterals x_hasSent x_isSealed x_metered x_sealedCount bk_counts bk_needs bk_whens bk_sides bk_quantities bk_limits ag_toldLies ag_passedLies ag_words ag_vectors ag_liarOperator ag_rounds mk_entries mk_slots mk_remainders mk_blocks mk_blockBids mk_blockOffers mk_entryCount mk_blockCount cv_limits cv_bids cv_offers cv_count cv_allBids cv_allOffers cv_meetingPrice cv_sureBids cv_sureOffers cv_priceBids cv_priceOffers cv_volume cv_worth oc_prices oc_volumes oc_filled oc_worth oc_takenSet oc_isDone, hT) (f_ag_mayLie ag_liarOperator ag_rounds x1 x2) (fun r => (0, some (.int r), ex, (HX x_members x_collaterals x_hasSent x_isSealed x_metered x_sealedCount bk_counts bk_needs bk_whens bk_sides bk_quantities bk_limits ag_toldLies ag_passedLies ag_words ag_vectors ag_liarOperator ag_rounds mk_entries mk_slots mk_remainders mk_blocks mk_blockBids mk_blockOffers mk_entryCount mk_blockCount cv_limits cv_bids cv_offers cv_count cv_allBids cv_allOffers cv_meetingPrice cv_sureBids cv_sureOffers cv_priceBids cv_priceOffers cv_volume cv_worth oc_prices oc_volumes oc_filled oc_worth oc_takenSet oc_isDone, hT), 0, 0)) := by
  refine mz_of (by decide) (Nat.le_of_ble_eq_true rfl) ?_
  rw [f_ag_mayLie]
  show mz_A g M_ag_mayLie (mz_rm 0) _ 0 [(0, .ref 12), (1, .int x1), (2, .int x2)] [] ex (HX x_members x_collaterals x_hasSent x_isSealed x_metered x_sealedCount bk_counts bk_needs bk_whens bk_sides bk_quantities bk_limits ag_toldLies ag_passedLies ag_words ag_vectors ag_liarOperator ag_rounds mk_entries mk_slots mk_remainders mk_blocks mk_blockBids mk_blockOffers mk_entryCount mk_blockCount cv_limits cv_bids cv_offers cv_count cv_allBids cv_allOffers cv_meetingPrice cv_sureBids cv_sureOffers cv_priceBids cv_priceOffers cv_volume cv_worth oc_prices oc_volumes oc_filled oc_worth oc_takenSet oc_isDone, hT) 0 0 _
  refine mr_iload_n d_ag_mayLie_0 rfl rfl ?_
  refine mr_aload_n d_ag_mayLie_1 rfl rfl ?_
  refine mr_get K_ag 5 d_ag_mayLie_2 lk_f_ag_31 (by decide) rfl rfl ?_
  refine mr_icmp_ne (tgt := 10) d_ag_mayLie_5 (by decide) ?_ ?_
  · refine mr_aload_n d_ag_mayLie_10 rfl rfl ?_
    refine mr_get K_ag 6 d_ag_mayLie_11 lk_f_ag_35 (by decide) rfl rfl ?_
    refine mr_iconst (v := 1) d_ag_mayLie_14 mc_iconst_1 ?_
    refine mr_icmp_ne (tgt := 34) d_ag_mayLie_15 (by decide) ?_ ?_
    · refine mr_iload_n d_ag_mayLie_34 rfl rfl ?_
      refine mr_aload_n d_ag_mayLie_35 rfl rfl ?_
      refine mr_get K_ag 5 d_ag_mayLie_36 lk_f_ag_31 (by decide) rfl rfl ?_
      refine mr_icmp_eq (tgt := 51) d_ag_mayLie_39 (by decide) ?_ ?_
      · refine mr_iconst (v := 0) d_ag_mayLie_51 mc_iconst_0 ?_
        exact mr_zret d_ag_mayLie_52 rfl rfl
      · refine mr_iload_n d_ag_mayLie_42 rfl rfl ?_
        refine mr_iload_n d_ag_mayLie_43 rfl rfl ?_
        refine mr_icmp_eq (tgt := 51) d_ag_mayLie_44 (by decide) ?_ ?_
        · refine mr_iconst (v := 0) d_ag_mayLie_51 mc_iconst_0 ?_
          exact mr_zret d_ag_mayLie_52 rfl rfl
        · refine mr_iconst (v := 1) d_ag_mayLie_47 mc_iconst_1 ?_
          refine mr_goto (tgt := 52) d_ag_mayLie_48 (by decide) ?_
          exact mr_zret d_ag_mayLie_52 rfl rfl
    · refine mr_iload_n d_ag_mayLie_18 rfl rfl ?_
      refine mr_aload_n d_ag_mayLie_19 rfl rfl ?_
      refine mr_get K_ag 5 d_ag_mayLie_20 lk_f_ag_31 (by decide) rfl rfl ?_
      refine mr_icmp_ne (tgt := 30) d_ag_mayLie_23 (by decide) ?_ ?_
      · refine mr_iconst (v := 0) d_ag_mayLie_30 mc_iconst_0 ?_
        refine mr_goto (tgt := 52) d_ag_mayLie_31 (by decide) ?_
        exact mr_zret d_ag_mayLie_52 rfl rfl
      · refine mr_iconst (v := 1) d_ag_mayLie_26 mc_iconst_1 ?_
        refine mr_goto (tgt := 52) d_ag_mayLie_27 (by decide) ?_
        exact mr_zret d_ag_mayLie_52 rfl rfl
  · refine mr_iconst (v := 0) d_ag_mayLie_8 mc_iconst_0 ?_
    exact mr_zret d_ag_mayLie_9 rfl rfl
set_option maxRecDepth 100000 in
set_option maxHeartbeats 4000000 in
theorem e_ag_passedPlace {g : mz_G} {ex : Bool} {h : mz_H} {x0 : Int32} {x1 : Int32} {x2 : Int32} : mz_M g M_ag_passedPlace 0 [.int x0, .int x1, .int x2] ex h (f_ag_passedPlace x0 x1 x2) (fun r => (0, some (.int r), ex, h, 0, 0)) := by
  refine mz_of (by decide) (Nat.le_of_ble_eq_true rfl) ?_
  rw [f_ag_passedPlace]
  show mz_A g M_ag_passedPlace (mz_rm 0) _ 0 [(0, .int x0), (1, .int x1), (2, .int x2)] [] ex h 0 0 _
  refine mr_bipush (v := 6) d_ag_passedPlace_0 mc_bipush_6 ?_
  refine mr_iconst (v := 4) d_ag_passedPlace_2 mc_iconst_4 ?_
  refine mr_iload_n d_ag_passedPlace_3 rfl rfl ?_
  refine mr_imul d_ag_passedPlace_4 ?_
  refine mr_iload_n d_ag_passedPlace_5 rfl rfl ?_
  refine mr_iadd d_ag_passedPlace_6 ?_
  refine mr_imul d_ag_passedPlace_7 ?_
  refine mr_iload_n d_ag_passedPlace_8 rfl rfl ?_
  refine mr_iadd d_ag_passedPlace_9 ?_
  exact mr_iret d_ag_passedPlace_10 rfl rfl
set_option maxRecDepth 100000 in
set_option maxHeartbeats 4000000 in
theorem e_ag_toldPlace {g : mz_G} {ex : Bool} {h : mz_H} {x0 : Int32} {x1 : Int32} : mz_M g M_ag_toldPlace 0 [.int x0, .int x1] ex h (f_ag_toldPlace x0 x1) (fun r => (0, some (.int r), ex, h, 0, 0)) := by
  refine mz_of (by decide) (Nat.le_of_ble_eq_true rfl) ?_
  rw [f_ag_toldPlace]
  show mz_A g M_ag_toldPlace (mz_rm 0) _ 0 [(0, .int x0), (1, .int x1)] [] ex h 0 0 _
  refine mr_bipush (v := 6) d_ag_toldPlace_0 mc_bipush_6 ?_
  refine mr_iload_n d_ag_toldPlace_2 rfl rfl ?_
  refine mr_imul d_ag_toldPlace_3 ?_
  refine mr_iload_n d_ag_toldPlace_4 rfl rfl ?_
  refine mr_iadd d_ag_toldPlace_5 ?_
  exact mr_iret d_ag_toldPlace_6 rfl rfl
set_option maxRecDepth 100000 in
set_option maxHeartbeats 4000000 in
theorem e_ag_setLie {g : mz_G} {ex : Bool} {hT : List mz_E} {x_members : Int32} {x_collaterals : Nat → Int32} {x_hasSent : Nat → Int32} {x_isSealed : Nat → Int32} {x_metered : Nat → Int32} {x_sealedCount : Int32} {bk_counts : Nat → Int32} {bk_needs : Nat → Int64} {bk_whens : Nat → Int32} {bk_sides : Nat → Int32} {bk_quantities : Nat → Int32} {bk_limits : Nat → Int32} {ag_toldLies : Nat → Int32} {ag_passedLies : Nat → Int32} {ag_words : Nat → Int32} {ag_vectors : Nat → Int32} {ag_liarOperator : Int32} {ag_rounds : Int32} {mk_entries : Nat → Int32} {mk_slots : Nat → Int32} {mk_remainders : Nat → Int32} {mk_blocks : Nat → Int32} {mk_blockBids : Nat → Int32} {mk_blockOffers : Nat → Int32} {mk_entryCount : Int32} {mk_blockCount : Int32} {cv_limits : Nat → Nat → Int32} {cv_bids : Nat → Nat → Int32} {cv_offers : Nat → Nat → Int32} {cv_count : Nat → Int32} {cv_allBids : Nat → Int32} {cv_allOffers : Nat → Int32} {cv_meetingPrice : Nat → Int32} {cv_sureBids : Nat → Int32} {cv_sureOffers : Nat → Int32} {cv_priceBids : Nat → Int32} {cv_priceOffers : Nat → Int32} {cv_volume : Nat → Int32} {cv_worth : Nat → Int64} {oc_prices : Nat → Nat → Int32} {oc_volumes : Nat → Nat → Int32} {oc_filled : Nat → Nat → Int32} {oc_worth : Nat → Int64} {oc_takenSet : Nat → Int32} {oc_isDone : Nat → Int32} {x1 : Int32} {x2 : Int32} {x3 : Int32} {x4 : Int32} : mz_M g M_ag_setLie 1 [.ref 12, .int x1, .int x2, .int x3, .int x4] ex (HX x_members x_collaterals x_hasSent x_isSealed x_metered x_sealedCount bk_counts bk_needs bk_whens bk_sides bk_quantities bk_limits ag_toldLies ag_passedLies ag_words ag_vectors ag_liarOperator ag_rounds mk_entries mk_slots mk_remainders mk_blocks mk_blockBids mk_blockOffers mk_entryCount mk_blockCount cv_limits cv_bids cv_offers cv_count cv_allBids cv_allOffers cv_meetingPrice cv_sureBids cv_sureOffers cv_priceBids cv_priceOffers cv_volume cv_worth oc_prices oc_volumes oc_filled oc_worth oc_takenSet oc_isDone, hT) (f_ag_setLie ag_toldLies ag_passedLies ag_rounds x1 x2 x3 x4) (fun r => (0, none, ex, (HX x_members x_collaterals x_hasSent x_isSealed x_metered x_sealedCount bk_counts bk_needs bk_whens bk_sides bk_quantities bk_limits r.1 r.2 ag_words ag_vectors ag_liarOperator ag_rounds mk_entries mk_slots mk_remainders mk_blocks mk_blockBids mk_blockOffers mk_entryCount mk_blockCount cv_limits cv_bids cv_offers cv_count cv_allBids cv_allOffers cv_meetingPrice cv_sureBids cv_sureOffers cv_priceBids cv_priceOffers cv_volume cv_worth oc_prices oc_volumes oc_filled oc_worth oc_takenSet oc_isDone, hT), 0, 0)) := by
  refine mz_of (by decide) (Nat.le_of_ble_eq_true rfl) ?_
  rw [f_ag_setLie]
  show mz_A g M_ag_setLie (mz_rm 1) _ 0 [(0, .ref 12), (1, .int x1), (2, .int x2), (3, .int x3), (4, .int x4)] [] ex (HX x_members x_collaterals x_hasSent x_isSealed x_metered x_sealedCount bk_counts bk_needs bk_whens bk_sides bk_quantities bk_limits ag_toldLies ag_passedLies ag_words ag_vectors ag_liarOperator ag_rounds mk_entries mk_slots mk_remainders mk_blocks mk_blockBids mk_blockOffers mk_entryCount mk_blockCount cv_limits cv_bids cv_offers cv_count cv_allBids cv_allOffers cv_meetingPrice cv_sureBids cv_sureOffers cv_priceBids cv_priceOffers cv_volume cv_worth oc_prices oc_volumes oc_filled oc_worth oc_takenSet oc_isDone, hT) 0 0 _
  refine mr_aload_n d_ag_setLie_0 rfl rfl ?_
  refine mr_get K_ag 6 d_ag_setLie_1 lk_f_ag_35 (by decide) rfl rfl ?_
  refine mr_iconst (v := 1) d_ag_setLie_4 mc_iconst_1 ?_
  refine mr_icmp_ne (tgt := 23) d_ag_setLie_5 (by decide) ?_ ?_
  · refine mr_aload_n d_ag_setLie_23 rfl rfl ?_
    refine mr_get K_ag 2 d_ag_setLie_24 lk_f_ag_19 (by decide) rfl rfl ?_
    refine mr_iload_n d_ag_setLie_27 rfl rfl ?_
    refine mr_iload_n d_ag_setLie_28 rfl rfl ?_
    refine mr_iload_n d_ag_setLie_29 rfl rfl ?_
    refine mz_go (st := [.ref 14]) e_ag_passedPlace (fun _ => rfl) U_ag_passedPlace (mz_vS d_ag_setLie_30 U_ag_passedPlace lk_m_ag_42 S_ag_passedPlace np_ag_passedPlace) (Nat.le_of_ble_eq_true rfl) (by decide) (fun r1 => ?_)
    refine mr_eq (st' := [.int r1, .ref 14]) (ex' := ex) (h2 := (HX x_members x_collaterals x_hasSent x_isSealed x_metered x_sealedCount bk_counts bk_needs bk_whens bk_sides bk_quantities bk_limits ag_toldLies ag_passedLies ag_words ag_vectors ag_liarOperator ag_rounds mk_entries mk_slots mk_remainders mk_blocks mk_blockBids mk_blockOffers mk_entryCount mk_blockCount cv_limits cv_bids cv_offers cv_count cv_allBids cv_allOffers cv_meetingPrice cv_sureBids cv_sureOffers cv_priceBids cv_priceOffers cv_volume cv_worth oc_prices oc_volumes oc_filled oc_worth oc_takenSet oc_isDone, hT)) (k' := 0) (n' := 0) rfl rfl rfl rfl rfl ?_
    refine mr_iload d_ag_setLie_33 rfl ?_
    refine mr_iast (h2 := (HX x_members x_collaterals x_hasSent x_isSealed x_metered x_sealedCount bk_counts bk_needs bk_whens bk_sides bk_quantities bk_limits ag_toldLies (upd ag_passedLies r1.toNatClampNeg x4) ag_words ag_vectors ag_liarOperator ag_rounds mk_entries mk_slots mk_remainders mk_blocks mk_blockBids mk_blockOffers mk_entryCount mk_blockCount cv_limits cv_bids cv_offers cv_count cv_allBids cv_allOffers cv_meetingPrice cv_sureBids cv_sureOffers cv_priceBids cv_priceOffers cv_volume cv_worth oc_prices oc_volumes oc_filled oc_worth oc_takenSet oc_isDone, hT)) d_ag_setLie_35 rfl rfl (fun hc2 => ?_)
    exact mr_vret d_ag_setLie_36 rfl rfl
  · refine mr_aload_n d_ag_setLie_8 rfl rfl ?_
    refine mr_get K_ag 1 d_ag_setLie_9 lk_f_ag_15 (by decide) rfl rfl ?_
    refine mr_iload_n d_ag_setLie_12 rfl rfl ?_
    refine mr_iload_n d_ag_setLie_13 rfl rfl ?_
    refine mz_go (st := [.ref 13]) e_ag_toldPlace (fun _ => rfl) U_ag_toldPlace (mz_vS d_ag_setLie_14 U_ag_toldPlace lk_m_ag_38 S_ag_toldPlace np_ag_toldPlace) (Nat.le_of_ble_eq_true rfl) (by decide) (fun r3 => ?_)
    refine mr_eq (st' := [.int r3, .ref 13]) (ex' := ex) (h2 := (HX x_members x_collaterals x_hasSent x_isSealed x_metered x_sealedCount bk_counts bk_needs bk_whens bk_sides bk_quantities bk_limits ag_toldLies ag_passedLies ag_words ag_vectors ag_liarOperator ag_rounds mk_entries mk_slots mk_remainders mk_blocks mk_blockBids mk_blockOffers mk_entryCount mk_blockCount cv_limits cv_bids cv_offers cv_count cv_allBids cv_allOffers cv_meetingPrice cv_sureBids cv_sureOffers cv_priceBids cv_priceOffers cv_volume cv_worth oc_prices oc_volumes oc_filled oc_worth oc_takenSet oc_isDone, hT)) (k' := 0) (n' := 0) rfl rfl rfl rfl rfl ?_
    refine mr_iload d_ag_setLie_17 rfl ?_
    refine mr_iast (h2 := (HX x_members x_collaterals x_hasSent x_isSealed x_metered x_sealedCount bk_counts bk_needs bk_whens bk_sides bk_quantities bk_limits (upd ag_toldLies r3.toNatClampNeg x4) ag_passedLies ag_words ag_vectors ag_liarOperator ag_rounds mk_entries mk_slots mk_remainders mk_blocks mk_blockBids mk_blockOffers mk_entryCount mk_blockCount cv_limits cv_bids cv_offers cv_count cv_allBids cv_allOffers cv_meetingPrice cv_sureBids cv_sureOffers cv_priceBids cv_priceOffers cv_volume cv_worth oc_prices oc_volumes oc_filled oc_worth oc_takenSet oc_isDone, hT)) d_ag_setLie_19 rfl rfl (fun hc4 => ?_)
    refine mr_goto (tgt := 36) d_ag_setLie_20 (by decide) ?_
    exact mr_vret d_ag_setLie_36 rfl rfl
set_option maxRecDepth 100000 in
set_option maxHeartbeats 4000000 in
theorem e_x_isItem {g : mz_G} {ex : Bool} {hT : List mz_E} {x_members : Int32} {x_collaterals : Nat → Int32} {x_hasSent : Nat → Int32} {x_isSealed : Nat → Int32} {x_metered : Nat → Int32} {x_sealedCount : Int32} {bk_counts : Nat → Int32} {bk_needs : Nat → Int64} {bk_whens : Nat → Int32} {bk_sides : Nat → Int32} {bk_quantities : Nat → Int32} {bk_limits : Nat → Int32} {ag_toldLies : Nat → Int32} {ag_passedLies : Nat → Int32} {ag_words : Nat → Int32} {ag_vectors : Nat → Int32} {ag_liarOperator : Int32} {ag_rounds : Int32} {mk_entries : Nat → Int32} {mk_slots : Nat → Int32} {mk_remainders : Nat → Int32} {mk_blocks : Nat → Int32} {mk_blockBids : Nat → Int32} {mk_blockOffers : Nat → Int32} {mk_entryCount : Int32} {mk_blockCount : Int32} {cv_limits : Nat → Nat → Int32} {cv_bids : Nat → Nat → Int32} {cv_offers : Nat → Nat → Int32} {cv_count : Nat → Int32} {cv_allBids : Nat → Int32} {cv_allOffers : Nat → Int32} {cv_meetingPrice : Nat → Int32} {cv_sureBids : Nat → Int32} {cv_sureOffers : Nat → Int32} {cv_priceBids : Nat → Int32} {cv_priceOffers : Nat → Int32} {cv_volume : Nat → Int32} {cv_worth : Nat → Int64} {oc_prices : Nat → Nat → Int32} {oc_volumes : Nat → Nat → Int32} {oc_filled : Nat → Nat → Int32} {oc_worth : Nat → Int64} {oc_takenSet : Nat → Int32} {oc_isDone : Nat → Int32} {x1 : Int32} : mz_M g M_x_isItem 0 [.ref 0, .int x1] ex (HX x_members x_collaterals x_hasSent x_isSealed x_metered x_sealedCount bk_counts bk_needs bk_whens bk_sides bk_quantities bk_limits ag_toldLies ag_passedLies ag_words ag_vectors ag_liarOperator ag_rounds mk_entries mk_slots mk_remainders mk_blocks mk_blockBids mk_blockOffers mk_entryCount mk_blockCount cv_limits cv_bids cv_offers cv_count cv_allBids cv_allOffers cv_meetingPrice cv_sureBids cv_sureOffers cv_priceBids cv_priceOffers cv_volume cv_worth oc_prices oc_volumes oc_filled oc_worth oc_takenSet oc_isDone, hT) (f_x_isItem x_members x1) (fun r => (0, some (.int r), ex, (HX x_members x_collaterals x_hasSent x_isSealed x_metered x_sealedCount bk_counts bk_needs bk_whens bk_sides bk_quantities bk_limits ag_toldLies ag_passedLies ag_words ag_vectors ag_liarOperator ag_rounds mk_entries mk_slots mk_remainders mk_blocks mk_blockBids mk_blockOffers mk_entryCount mk_blockCount cv_limits cv_bids cv_offers cv_count cv_allBids cv_allOffers cv_meetingPrice cv_sureBids cv_sureOffers cv_priceBids cv_priceOffers cv_volume cv_worth oc_prices oc_volumes oc_filled oc_worth oc_takenSet oc_isDone, hT), 0, 0)) := by
  refine mz_of (by decide) (Nat.le_of_ble_eq_true rfl) ?_
  rw [f_x_isItem]
  show mz_A g M_x_isItem (mz_rm 0) _ 0 [(0, .ref 0), (1, .int x1)] [] ex (HX x_members x_collaterals x_hasSent x_isSealed x_metered x_sealedCount bk_counts bk_needs bk_whens bk_sides bk_quantities bk_limits ag_toldLies ag_passedLies ag_words ag_vectors ag_liarOperator ag_rounds mk_entries mk_slots mk_remainders mk_blocks mk_blockBids mk_blockOffers mk_entryCount mk_blockCount cv_limits cv_bids cv_offers cv_count cv_allBids cv_allOffers cv_meetingPrice cv_sureBids cv_sureOffers cv_priceBids cv_priceOffers cv_volume cv_worth oc_prices oc_volumes oc_filled oc_worth oc_takenSet oc_isDone, hT) 0 0 _
  refine mr_iload_n d_x_isItem_0 rfl rfl ?_
  refine mr_iconst (v := (-1)) d_x_isItem_1 mc_iconst_m1 ?_
  refine mr_icmp_lt (tgt := 19) d_x_isItem_2 (by decide) ?_ ?_
  · refine mr_iconst (v := 0) d_x_isItem_19 mc_iconst_0 ?_
    exact mr_zret d_x_isItem_20 rfl rfl
  · refine mr_iload_n d_x_isItem_5 rfl rfl ?_
    refine mr_iconst (v := 4) d_x_isItem_6 mc_iconst_4 ?_
    refine mr_aload_n d_x_isItem_7 rfl rfl ?_
    refine mr_get K_x 0 d_x_isItem_8 lk_f_x_9 (by decide) rfl rfl ?_
    refine mr_imul d_x_isItem_11 ?_
    refine mr_icmp_ge (tgt := 19) d_x_isItem_12 (by decide) ?_ ?_
    · refine mr_iconst (v := 0) d_x_isItem_19 mc_iconst_0 ?_
      exact mr_zret d_x_isItem_20 rfl rfl
    · refine mr_iconst (v := 1) d_x_isItem_15 mc_iconst_1 ?_
      refine mr_goto (tgt := 20) d_x_isItem_16 (by decide) ?_
      exact mr_zret d_x_isItem_20 rfl rfl
set_option maxRecDepth 100000 in
set_option maxHeartbeats 4000000 in
theorem e_x_tell {g : mz_G} {ex : Bool} {hT : List mz_E} {x_members : Int32} {x_collaterals : Nat → Int32} {x_hasSent : Nat → Int32} {x_isSealed : Nat → Int32} {x_metered : Nat → Int32} {x_sealedCount : Int32} {bk_counts : Nat → Int32} {bk_needs : Nat → Int64} {bk_whens : Nat → Int32} {bk_sides : Nat → Int32} {bk_quantities : Nat → Int32} {bk_limits : Nat → Int32} {ag_toldLies : Nat → Int32} {ag_passedLies : Nat → Int32} {ag_words : Nat → Int32} {ag_vectors : Nat → Int32} {ag_liarOperator : Int32} {ag_rounds : Int32} {mk_entries : Nat → Int32} {mk_slots : Nat → Int32} {mk_remainders : Nat → Int32} {mk_blocks : Nat → Int32} {mk_blockBids : Nat → Int32} {mk_blockOffers : Nat → Int32} {mk_entryCount : Int32} {mk_blockCount : Int32} {cv_limits : Nat → Nat → Int32} {cv_bids : Nat → Nat → Int32} {cv_offers : Nat → Nat → Int32} {cv_count : Nat → Int32} {cv_allBids : Nat → Int32} {cv_allOffers : Nat → Int32} {cv_meetingPrice : Nat → Int32} {cv_sureBids : Nat → Int32} {cv_sureOffers : Nat → Int32} {cv_priceBids : Nat → Int32} {cv_priceOffers : Nat → Int32} {cv_volume : Nat → Int32} {cv_worth : Nat → Int64} {oc_prices : Nat → Nat → Int32} {oc_volumes : Nat → Nat → Int32} {oc_filled : Nat → Nat → Int32} {oc_worth : Nat → Int64} {oc_takenSet : Nat → Int32} {oc_isDone : Nat → Int32} {x1 : Int32} {x2 : Int32} {x3 : Int32} {x4 : Int32} : mz_M g M_x_tell 6 [.ref 0, .int x1, .int x2, .int x3, .int x4] ex (HX x_members x_collaterals x_hasSent x_isSealed x_metered x_sealedCount bk_counts bk_needs bk_whens bk_sides bk_quantities bk_limits ag_toldLies ag_passedLies ag_words ag_vectors ag_liarOperator ag_rounds mk_entries mk_slots mk_remainders mk_blocks mk_blockBids mk_blockOffers mk_entryCount mk_blockCount cv_limits cv_bids cv_offers cv_count cv_allBids cv_allOffers cv_meetingPrice cv_sureBids cv_sureOffers cv_priceBids cv_priceOffers cv_volume cv_worth oc_prices oc_volumes oc_filled oc_worth oc_takenSet oc_isDone, hT) (f_x_tell x_members ag_toldLies ag_passedLies ag_liarOperator ag_rounds x1 x2 x3 x4) (fun r => (r.1, none, mz_x ex r.1, (HX x_members x_collaterals x_hasSent x_isSealed x_metered x_sealedCount bk_counts bk_needs bk_whens bk_sides bk_quantities bk_limits r.2.1 r.2.2 ag_words ag_vectors ag_liarOperator ag_rounds mk_entries mk_slots mk_remainders mk_blocks mk_blockBids mk_blockOffers mk_entryCount mk_blockCount cv_limits cv_bids cv_offers cv_count cv_allBids cv_allOffers cv_meetingPrice cv_sureBids cv_sureOffers cv_priceBids cv_priceOffers cv_volume cv_worth oc_prices oc_volumes oc_filled oc_worth oc_takenSet oc_isDone, hT), mz_k r.1, mz_6 r.1)) := by
  have w_b113 : ∀ (ag_toldLies : Nat → Int32) (ag_passedLies : Nat → Int32) (s1 : Int32) (s2 : Int32) (s3 : Int32) (s4 : Int32), mz_A g M_x_tell (mz_rm 6) (fun r => (r.1, none, mz_x ex r.1, (HX x_members x_collaterals x_hasSent x_isSealed x_metered x_sealedCount bk_counts bk_needs bk_whens bk_sides bk_quantities bk_limits r.2.1 r.2.2 ag_words ag_vectors ag_liarOperator ag_rounds mk_entries mk_slots mk_remainders mk_blocks mk_blockBids mk_blockOffers mk_entryCount mk_blockCount cv_limits cv_bids cv_offers cv_count cv_allBids cv_allOffers cv_meetingPrice cv_sureBids cv_sureOffers cv_priceBids cv_priceOffers cv_volume cv_worth oc_prices oc_volumes oc_filled oc_worth oc_takenSet oc_isDone, hT), mz_k r.1, mz_6 r.1)) 113 [] [.int s4, .int s3, .int s2, .int s1, .ref 12] ex (HX x_members x_collaterals x_hasSent x_isSealed x_metered x_sealedCount bk_counts bk_needs bk_whens bk_sides bk_quantities bk_limits ag_toldLies ag_passedLies ag_words ag_vectors ag_liarOperator ag_rounds mk_entries mk_slots mk_remainders mk_blocks mk_blockBids mk_blockOffers mk_entryCount mk_blockCount cv_limits cv_bids cv_offers cv_count cv_allBids cv_allOffers cv_meetingPrice cv_sureBids cv_sureOffers cv_priceBids cv_priceOffers cv_volume cv_worth oc_prices oc_volumes oc_filled oc_worth oc_takenSet oc_isDone, hT) 0 0 (f_x_tell_b113 x_members ag_liarOperator ag_rounds ag_toldLies ag_passedLies s1 s2 s3 s4) := by
    intro  ag_toldLies ag_passedLies s1 s2 s3 s4
    rw [f_x_tell_b113]
    refine mz_go (st := []) e_ag_setLie (fun _ => rfl) U_ag_setLie (mz_vV d_x_tell_113 U_ag_setLie rfl lk_m_x_128 I_ag_setLie s_ag_setLie np_ag_setLie rfl rfl) (Nat.le_of_ble_eq_true rfl) (by decide) (fun r8 => ?_)
    refine mr_eq (st' := []) (ex' := ex) (h2 := (HX x_members x_collaterals x_hasSent x_isSealed x_metered x_sealedCount bk_counts bk_needs bk_whens bk_sides bk_quantities bk_limits r8.1 r8.2 ag_words ag_vectors ag_liarOperator ag_rounds mk_entries mk_slots mk_remainders mk_blocks mk_blockBids mk_blockOffers mk_entryCount mk_blockCount cv_limits cv_bids cv_offers cv_count cv_allBids cv_allOffers cv_meetingPrice cv_sureBids cv_sureOffers cv_priceBids cv_priceOffers cv_volume cv_worth oc_prices oc_volumes oc_filled oc_worth oc_takenSet oc_isDone, hT)) (k' := 0) (n' := 0) rfl rfl rfl rfl rfl ?_
    exact mr_vret d_x_tell_116 rfl rfl
  have w_b61 : ∀ (ag_toldLies : Nat → Int32) (ag_passedLies : Nat → Int32), mz_A g M_x_tell (mz_rm 6) (fun r => (r.1, none, mz_x ex r.1, (HX x_members x_collaterals x_hasSent x_isSealed x_metered x_sealedCount bk_counts bk_needs bk_whens bk_sides bk_quantities bk_limits r.2.1 r.2.2 ag_words ag_vectors ag_liarOperator ag_rounds mk_entries mk_slots mk_remainders mk_blocks mk_blockBids mk_blockOffers mk_entryCount mk_blockCount cv_limits cv_bids cv_offers cv_count cv_allBids cv_allOffers cv_meetingPrice cv_sureBids cv_sureOffers cv_priceBids cv_priceOffers cv_volume cv_worth oc_prices oc_volumes oc_filled oc_worth oc_takenSet oc_isDone, hT), mz_k r.1, mz_6 r.1)) 61 [] [] ex (HX x_members x_collaterals x_hasSent x_isSealed x_metered x_sealedCount bk_counts bk_needs bk_whens bk_sides bk_quantities bk_limits ag_toldLies ag_passedLies ag_words ag_vectors ag_liarOperator ag_rounds mk_entries mk_slots mk_remainders mk_blocks mk_blockBids mk_blockOffers mk_entryCount mk_blockCount cv_limits cv_bids cv_offers cv_count cv_allBids cv_allOffers cv_meetingPrice cv_sureBids cv_sureOffers cv_priceBids cv_priceOffers cv_volume cv_worth oc_prices oc_volumes oc_filled oc_worth oc_takenSet oc_isDone, hT) 0 0 (f_x_tell_b61 x_members ag_liarOperator ag_rounds ag_toldLies ag_passedLies) := by
    intro  ag_toldLies ag_passedLies
    rw [f_x_tell_b61]
    exact mr_throw d_x_tell_61 d_x_tell_64 d_x_tell_65 d_x_tell_67 d_x_tell_70 tw_x_120_2 rfl (Nat.le_of_ble_eq_true rfl) (Nat.le_of_ble_eq_true rfl) (Nat.le_of_ble_eq_true rfl) (Nat.le_of_ble_eq_true rfl) rfl
  have w_b31 : ∀ (ag_toldLies : Nat → Int32) (ag_passedLies : Nat → Int32), mz_A g M_x_tell (mz_rm 6) (fun r => (r.1, none, mz_x ex r.1, (HX x_members x_collaterals x_hasSent x_isSealed x_metered x_sealedCount bk_counts bk_needs bk_whens bk_sides bk_quantities bk_limits r.2.1 r.2.2 ag_words ag_vectors ag_liarOperator ag_rounds mk_entries mk_slots mk_remainders mk_blocks mk_blockBids mk_blockOffers mk_entryCount mk_blockCount cv_limits cv_bids cv_offers cv_count cv_allBids cv_allOffers cv_meetingPrice cv_sureBids cv_sureOffers cv_priceBids cv_priceOffers cv_volume cv_worth oc_prices oc_volumes oc_filled oc_worth oc_takenSet oc_isDone, hT), mz_k r.1, mz_6 r.1)) 31 [] [] ex (HX x_members x_collaterals x_hasSent x_isSealed x_metered x_sealedCount bk_counts bk_needs bk_whens bk_sides bk_quantities bk_limits ag_toldLies ag_passedLies ag_words ag_vectors ag_liarOperator ag_rounds mk_entries mk_slots mk_remainders mk_blocks mk_blockBids mk_blockOffers mk_entryCount mk_blockCount cv_limits cv_bids cv_offers cv_count cv_allBids cv_allOffers cv_meetingPrice cv_sureBids cv_sureOffers cv_priceBids cv_priceOffers cv_volume cv_worth oc_prices oc_volumes oc_filled oc_worth oc_takenSet oc_isDone, hT) 0 0 (f_x_tell_b31 x_members ag_liarOperator ag_rounds ag_toldLies ag_passedLies) := by
    intro  ag_toldLies ag_passedLies
    rw [f_x_tell_b31]
    exact mr_throw d_x_tell_31 d_x_tell_34 d_x_tell_35 d_x_tell_37 d_x_tell_40 tw_x_115_1 rfl (Nat.le_of_ble_eq_true rfl) (Nat.le_of_ble_eq_true rfl) (Nat.le_of_ble_eq_true rfl) (Nat.le_of_ble_eq_true rfl) rfl
  refine mz_of (by decide) (Nat.le_of_ble_eq_true rfl) ?_
  rw [f_x_tell]
  show mz_A g M_x_tell (mz_rm 6) _ 0 [(0, .ref 0), (1, .int x1), (2, .int x2), (3, .int x3), (4, .int x4)] [] ex (HX x_members x_collaterals x_hasSent x_isSealed x_metered x_sealedCount bk_counts bk_needs bk_whens bk_sides bk_quantities bk_limits ag_toldLies ag_passedLies ag_words ag_vectors ag_liarOperator ag_rounds mk_entries mk_slots mk_remainders mk_blocks mk_blockBids mk_blockOffers mk_entryCount mk_blockCount cv_limits cv_bids cv_offers cv_count cv_allBids cv_allOffers cv_meetingPrice cv_sureBids cv_sureOffers cv_priceBids cv_priceOffers cv_volume cv_worth oc_prices oc_volumes oc_filled oc_worth oc_takenSet oc_isDone, hT) 0 0 _
  refine mr_iload_n d_x_tell_0 rfl rfl ?_
  refine mz_go (st := []) e_x_isOperator (fun _ => rfl) U_x_isOperator (mz_vS d_x_tell_1 U_x_isOperator lk_m_x_95 S_x_isOperator np_x_isOperator) (Nat.le_of_ble_eq_true rfl) (by decide) (fun r1 => ?_)
  refine mr_eq (st' := [.int r1]) (ex' := ex) (h2 := (HX x_members x_collaterals x_hasSent x_isSealed x_metered x_sealedCount bk_counts bk_needs bk_whens bk_sides bk_quantities bk_limits ag_toldLies ag_passedLies ag_words ag_vectors ag_liarOperator ag_rounds mk_entries mk_slots mk_remainders mk_blocks mk_blockBids mk_blockOffers mk_entryCount mk_blockCount cv_limits cv_bids cv_offers cv_count cv_allBids cv_allOffers cv_meetingPrice cv_sureBids cv_sureOffers cv_priceBids cv_priceOffers cv_volume cv_worth oc_prices oc_volumes oc_filled oc_worth oc_takenSet oc_isDone, hT)) (k' := 0) (n' := 0) rfl rfl rfl rfl rfl ?_
  refine mr_if_eq (tgt := 31) d_x_tell_4 (by decide) ?_ ?_
  · refine mr_sub (lv' := []) [] rfl ?_
    exact w_b31 _ _
  · refine mr_iload_n d_x_tell_7 rfl rfl ?_
    refine mz_go (st := []) e_x_isOperator (fun _ => rfl) U_x_isOperator (mz_vS d_x_tell_8 U_x_isOperator lk_m_x_95 S_x_isOperator np_x_isOperator) (Nat.le_of_ble_eq_true rfl) (by decide) (fun r2 => ?_)
    refine mr_eq (st' := [.int r2]) (ex' := ex) (h2 := (HX x_members x_collaterals x_hasSent x_isSealed x_metered x_sealedCount bk_counts bk_needs bk_whens bk_sides bk_quantities bk_limits ag_toldLies ag_passedLies ag_words ag_vectors ag_liarOperator ag_rounds mk_entries mk_slots mk_remainders mk_blocks mk_blockBids mk_blockOffers mk_entryCount mk_blockCount cv_limits cv_bids cv_offers cv_count cv_allBids cv_allOffers cv_meetingPrice cv_sureBids cv_sureOffers cv_priceBids cv_priceOffers cv_volume cv_worth oc_prices oc_volumes oc_filled oc_worth oc_takenSet oc_isDone, hT)) (k' := 0) (n' := 0) rfl rfl rfl rfl rfl ?_
    refine mr_if_eq (tgt := 31) d_x_tell_11 (by decide) ?_ ?_
    · refine mr_sub (lv' := []) [] rfl ?_
      exact w_b31 _ _
    · refine mr_aload_n d_x_tell_14 rfl rfl ?_
      refine mr_iload_n d_x_tell_15 rfl rfl ?_
      refine mz_go (st := []) e_x_isMember (fun _ => rfl) U_x_isMember (mz_vV d_x_tell_16 U_x_isMember rfl lk_m_x_60 I_x_isMember s_x_isMember np_x_isMember rfl rfl) (Nat.le_of_ble_eq_true rfl) (by decide) (fun r3 => ?_)
      refine mr_eq (st' := [.int r3]) (ex' := ex) (h2 := (HX x_members x_collaterals x_hasSent x_isSealed x_metered x_sealedCount bk_counts bk_needs bk_whens bk_sides bk_quantities bk_limits ag_toldLies ag_passedLies ag_words ag_vectors ag_liarOperator ag_rounds mk_entries mk_slots mk_remainders mk_blocks mk_blockBids mk_blockOffers mk_entryCount mk_blockCount cv_limits cv_bids cv_offers cv_count cv_allBids cv_allOffers cv_meetingPrice cv_sureBids cv_sureOffers cv_priceBids cv_priceOffers cv_volume cv_worth oc_prices oc_volumes oc_filled oc_worth oc_takenSet oc_isDone, hT)) (k' := 0) (n' := 0) rfl rfl rfl rfl rfl ?_
      refine mr_if_eq (tgt := 31) d_x_tell_19 (by decide) ?_ ?_
      · refine mr_sub (lv' := []) [] rfl ?_
        exact w_b31 _ _
      · refine mr_aload_n d_x_tell_22 rfl rfl ?_
        refine mr_iload d_x_tell_23 rfl ?_
        refine mz_go (st := []) e_x_isItem (fun _ => rfl) U_x_isItem (mz_vV d_x_tell_25 U_x_isItem rfl lk_m_x_112 I_x_isItem s_x_isItem np_x_isItem rfl rfl) (Nat.le_of_ble_eq_true rfl) (by decide) (fun r4 => ?_)
        refine mr_eq (st' := [.int r4]) (ex' := ex) (h2 := (HX x_members x_collaterals x_hasSent x_isSealed x_metered x_sealedCount bk_counts bk_needs bk_whens bk_sides bk_quantities bk_limits ag_toldLies ag_passedLies ag_words ag_vectors ag_liarOperator ag_rounds mk_entries mk_slots mk_remainders mk_blocks mk_blockBids mk_blockOffers mk_entryCount mk_blockCount cv_limits cv_bids cv_offers cv_count cv_allBids cv_allOffers cv_meetingPrice cv_sureBids cv_sureOffers cv_priceBids cv_priceOffers cv_volume cv_worth oc_prices oc_volumes oc_filled oc_worth oc_takenSet oc_isDone, hT)) (k' := 0) (n' := 0) rfl rfl rfl rfl rfl ?_
        refine mr_if_ne (tgt := 41) d_x_tell_28 (by decide) ?_ ?_
        · refine mr_aload_n d_x_tell_41 rfl rfl ?_
          refine mr_get K_x 6 d_x_tell_42 lk_f_x_39 (by decide) rfl rfl ?_
          refine mz_go (st := []) e_ag_hasLiar (fun _ => rfl) U_ag_hasLiar (mz_vV d_x_tell_45 U_ag_hasLiar rfl lk_m_x_100 I_ag_hasLiar s_ag_hasLiar np_ag_hasLiar rfl rfl) (Nat.le_of_ble_eq_true rfl) (by decide) (fun r5 => ?_)
          refine mr_eq (st' := [.int r5]) (ex' := ex) (h2 := (HX x_members x_collaterals x_hasSent x_isSealed x_metered x_sealedCount bk_counts bk_needs bk_whens bk_sides bk_quantities bk_limits ag_toldLies ag_passedLies ag_words ag_vectors ag_liarOperator ag_rounds mk_entries mk_slots mk_remainders mk_blocks mk_blockBids mk_blockOffers mk_entryCount mk_blockCount cv_limits cv_bids cv_offers cv_count cv_allBids cv_allOffers cv_meetingPrice cv_sureBids cv_sureOffers cv_priceBids cv_priceOffers cv_volume cv_worth oc_prices oc_volumes oc_filled oc_worth oc_takenSet oc_isDone, hT)) (k' := 0) (n' := 0) rfl rfl rfl rfl rfl ?_
          refine mr_if_eq (tgt := 61) d_x_tell_48 (by decide) ?_ ?_
          · refine mr_sub (lv' := []) [] rfl ?_
            exact w_b61 _ _
          · refine mr_aload_n d_x_tell_51 rfl rfl ?_
            refine mr_get K_x 6 d_x_tell_52 lk_f_x_39 (by decide) rfl rfl ?_
            refine mz_go (st := []) e_ag_isTellingNext (fun _ => rfl) U_ag_isTellingNext (mz_vV d_x_tell_55 U_ag_isTellingNext rfl lk_m_x_117 I_ag_isTellingNext s_ag_isTellingNext np_ag_isTellingNext rfl rfl) (Nat.le_of_ble_eq_true rfl) (by decide) (fun r6 => ?_)
            refine mr_eq (st' := [.int r6]) (ex' := ex) (h2 := (HX x_members x_collaterals x_hasSent x_isSealed x_metered x_sealedCount bk_counts bk_needs bk_whens bk_sides bk_quantities bk_limits ag_toldLies ag_passedLies ag_words ag_vectors ag_liarOperator ag_rounds mk_entries mk_slots mk_remainders mk_blocks mk_blockBids mk_blockOffers mk_entryCount mk_blockCount cv_limits cv_bids cv_offers cv_count cv_allBids cv_allOffers cv_meetingPrice cv_sureBids cv_sureOffers cv_priceBids cv_priceOffers cv_volume cv_worth oc_prices oc_volumes oc_filled oc_worth oc_takenSet oc_isDone, hT)) (k' := 0) (n' := 0) rfl rfl rfl rfl rfl ?_
            refine mr_if_ne (tgt := 71) d_x_tell_58 (by decide) ?_ ?_
            · refine mr_aload_n d_x_tell_71 rfl rfl ?_
              refine mr_get K_x 6 d_x_tell_72 lk_f_x_39 (by decide) rfl rfl ?_
              refine mr_iload_n d_x_tell_75 rfl rfl ?_
              refine mr_iload_n d_x_tell_76 rfl rfl ?_
              refine mz_go (st := []) e_ag_mayLie (fun _ => rfl) U_ag_mayLie (mz_vV d_x_tell_77 U_ag_mayLie rfl lk_m_x_122 I_ag_mayLie s_ag_mayLie np_ag_mayLie rfl rfl) (Nat.le_of_ble_eq_true rfl) (by decide) (fun r7 => ?_)
              refine mr_eq (st' := [.int r7]) (ex' := ex) (h2 := (HX x_members x_collaterals x_hasSent x_isSealed x_metered x_sealedCount bk_counts bk_needs bk_whens bk_sides bk_quantities bk_limits ag_toldLies ag_passedLies ag_words ag_vectors ag_liarOperator ag_rounds mk_entries mk_slots mk_remainders mk_blocks mk_blockBids mk_blockOffers mk_entryCount mk_blockCount cv_limits cv_bids cv_offers cv_count cv_allBids cv_allOffers cv_meetingPrice cv_sureBids cv_sureOffers cv_priceBids cv_priceOffers cv_volume cv_worth oc_prices oc_volumes oc_filled oc_worth oc_takenSet oc_isDone, hT)) (k' := 0) (n' := 0) rfl rfl rfl rfl rfl ?_
              refine mr_if_ne (tgt := 93) d_x_tell_80 (by decide) ?_ ?_
              · refine mr_aload_n d_x_tell_93 rfl rfl ?_
                refine mr_get K_x 6 d_x_tell_94 lk_f_x_39 (by decide) rfl rfl ?_
                refine mr_iload_n d_x_tell_97 rfl rfl ?_
                refine mr_iload_n d_x_tell_98 rfl rfl ?_
                refine mr_iload_n d_x_tell_99 rfl rfl ?_
                refine mr_iload d_x_tell_100 rfl ?_
                refine mr_iconst (v := (-1)) d_x_tell_102 mc_iconst_m1 ?_
                refine mr_icmp_ne (tgt := 111) d_x_tell_103 (by decide) ?_ ?_
                · refine mr_iload d_x_tell_111 rfl ?_
                  refine mr_sub (lv' := []) [] rfl ?_
                  exact w_b113 _ _ _ _ _ _
                · refine mr_bipush (v := 24) d_x_tell_106 mc_bipush_24 ?_
                  refine mr_goto (tgt := 113) d_x_tell_108 (by decide) ?_
                  refine mr_sub (lv' := []) [] rfl ?_
                  exact w_b113 _ _ _ _ _ _
              · exact mr_throw d_x_tell_83 d_x_tell_86 d_x_tell_87 d_x_tell_89 d_x_tell_92 tw_x_126_1 rfl (Nat.le_of_ble_eq_true rfl) (Nat.le_of_ble_eq_true rfl) (Nat.le_of_ble_eq_true rfl) (Nat.le_of_ble_eq_true rfl) rfl
            · refine mr_sub (lv' := []) [] rfl ?_
              exact w_b61 _ _
        · refine mr_sub (lv' := []) [] rfl ?_
          exact w_b31 _ _
set_option maxRecDepth 100000 in
set_option maxHeartbeats 4000000 in
theorem e_ag_own {g : mz_G} {ex : Bool} {h : mz_H} {x0 : Int32} {x1 : Int32} : mz_M g M_ag_own 0 [.int x0, .int x1] ex h (f_ag_own x0 x1) (fun r => (0, some (.int r), ex, h, 0, 0)) := by
  refine mz_of (by decide) (Nat.le_of_ble_eq_true rfl) ?_
  rw [f_ag_own]
  show mz_A g M_ag_own (mz_rm 0) _ 0 [(0, .int x0), (1, .int x1)] [] ex h 0 0 _
  refine mr_iconst (v := 4) d_ag_own_0 mc_iconst_4 ?_
  refine mr_iload_n d_ag_own_1 rfl rfl ?_
  refine mr_imul d_ag_own_2 ?_
  refine mr_iload_n d_ag_own_3 rfl rfl ?_
  refine mr_iadd d_ag_own_4 ?_
  exact mr_iret d_ag_own_5 rfl rfl
set_option maxRecDepth 100000 in
set_option maxHeartbeats 4000000 in
theorem e_ag_told {g : mz_G} {ex : Bool} {hT : List mz_E} {x_members : Int32} {x_collaterals : Nat → Int32} {x_hasSent : Nat → Int32} {x_isSealed : Nat → Int32} {x_metered : Nat → Int32} {x_sealedCount : Int32} {bk_counts : Nat → Int32} {bk_needs : Nat → Int64} {bk_whens : Nat → Int32} {bk_sides : Nat → Int32} {bk_quantities : Nat → Int32} {bk_limits : Nat → Int32} {ag_toldLies : Nat → Int32} {ag_passedLies : Nat → Int32} {ag_words : Nat → Int32} {ag_vectors : Nat → Int32} {ag_liarOperator : Int32} {ag_rounds : Int32} {mk_entries : Nat → Int32} {mk_slots : Nat → Int32} {mk_remainders : Nat → Int32} {mk_blocks : Nat → Int32} {mk_blockBids : Nat → Int32} {mk_blockOffers : Nat → Int32} {mk_entryCount : Int32} {mk_blockCount : Int32} {cv_limits : Nat → Nat → Int32} {cv_bids : Nat → Nat → Int32} {cv_offers : Nat → Nat → Int32} {cv_count : Nat → Int32} {cv_allBids : Nat → Int32} {cv_allOffers : Nat → Int32} {cv_meetingPrice : Nat → Int32} {cv_sureBids : Nat → Int32} {cv_sureOffers : Nat → Int32} {cv_priceBids : Nat → Int32} {cv_priceOffers : Nat → Int32} {cv_volume : Nat → Int32} {cv_worth : Nat → Int64} {oc_prices : Nat → Nat → Int32} {oc_volumes : Nat → Nat → Int32} {oc_filled : Nat → Nat → Int32} {oc_worth : Nat → Int64} {oc_takenSet : Nat → Int32} {oc_isDone : Nat → Int32} {x1 : Int32} {x2 : Int32} {x3 : Int32} : mz_M g M_ag_told 1 [.ref 12, .int x1, .int x2, .int x3] ex (HX x_members x_collaterals x_hasSent x_isSealed x_metered x_sealedCount bk_counts bk_needs bk_whens bk_sides bk_quantities bk_limits ag_toldLies ag_passedLies ag_words ag_vectors ag_liarOperator ag_rounds mk_entries mk_slots mk_remainders mk_blocks mk_blockBids mk_blockOffers mk_entryCount mk_blockCount cv_limits cv_bids cv_offers cv_count cv_allBids cv_allOffers cv_meetingPrice cv_sureBids cv_sureOffers cv_priceBids cv_priceOffers cv_volume cv_worth oc_prices oc_volumes oc_filled oc_worth oc_takenSet oc_isDone, hT) (f_ag_told ag_toldLies ag_liarOperator x1 x2 x3) (fun r => (0, some (.int r), ex, (HX x_members x_collaterals x_hasSent x_isSealed x_metered x_sealedCount bk_counts bk_needs bk_whens bk_sides bk_quantities bk_limits ag_toldLies ag_passedLies ag_words ag_vectors ag_liarOperator ag_rounds mk_entries mk_slots mk_remainders mk_blocks mk_blockBids mk_blockOffers mk_entryCount mk_blockCount cv_limits cv_bids cv_offers cv_count cv_allBids cv_allOffers cv_meetingPrice cv_sureBids cv_sureOffers cv_priceBids cv_priceOffers cv_volume cv_worth oc_prices oc_volumes oc_filled oc_worth oc_takenSet oc_isDone, hT), 0, 0)) := by
  have w_b22 : ∀ (s0 : Int32), mz_A g M_ag_told (mz_rm 1) (fun r => (0, some (.int r), ex, (HX x_members x_collaterals x_hasSent x_isSealed x_metered x_sealedCount bk_counts bk_needs bk_whens bk_sides bk_quantities bk_limits ag_toldLies ag_passedLies ag_words ag_vectors ag_liarOperator ag_rounds mk_entries mk_slots mk_remainders mk_blocks mk_blockBids mk_blockOffers mk_entryCount mk_blockCount cv_limits cv_bids cv_offers cv_count cv_allBids cv_allOffers cv_meetingPrice cv_sureBids cv_sureOffers cv_priceBids cv_priceOffers cv_volume cv_worth oc_prices oc_volumes oc_filled oc_worth oc_takenSet oc_isDone, hT), 0, 0)) 22 [(1, .int x1), (3, .int x3)] [.int s0] ex (HX x_members x_collaterals x_hasSent x_isSealed x_metered x_sealedCount bk_counts bk_needs bk_whens bk_sides bk_quantities bk_limits ag_toldLies ag_passedLies ag_words ag_vectors ag_liarOperator ag_rounds mk_entries mk_slots mk_remainders mk_blocks mk_blockBids mk_blockOffers mk_entryCount mk_blockCount cv_limits cv_bids cv_offers cv_count cv_allBids cv_allOffers cv_meetingPrice cv_sureBids cv_sureOffers cv_priceBids cv_priceOffers cv_volume cv_worth oc_prices oc_volumes oc_filled oc_worth oc_takenSet oc_isDone, hT) 0 0 (f_ag_told_b22 ag_toldLies ag_liarOperator x1 x3 s0) := by
    intro  s0
    rw [f_ag_told_b22]
    refine mr_istore (lv' := [(4, .int s0), (1, .int x1), (3, .int x3)]) d_ag_told_22 (by decide) rfl ?_
    refine mr_iload d_ag_told_24 rfl ?_
    refine mr_iconst (v := (-1)) d_ag_told_26 mc_iconst_m1 ?_
    refine mr_icmp_eq (tgt := 35) d_ag_told_27 (by decide) ?_ ?_
    · refine mr_iload_n d_ag_told_35 rfl rfl ?_
      refine mr_iload_n d_ag_told_36 rfl rfl ?_
      refine mz_go (st := []) e_ag_own (fun _ => rfl) U_ag_own (mz_vS d_ag_told_37 U_ag_own lk_m_ag_56 S_ag_own np_ag_own) (Nat.le_of_ble_eq_true rfl) (by decide) (fun r3 => ?_)
      refine mr_eq (st' := [.int r3]) (ex' := ex) (h2 := (HX x_members x_collaterals x_hasSent x_isSealed x_metered x_sealedCount bk_counts bk_needs bk_whens bk_sides bk_quantities bk_limits ag_toldLies ag_passedLies ag_words ag_vectors ag_liarOperator ag_rounds mk_entries mk_slots mk_remainders mk_blocks mk_blockBids mk_blockOffers mk_entryCount mk_blockCount cv_limits cv_bids cv_offers cv_count cv_allBids cv_allOffers cv_meetingPrice cv_sureBids cv_sureOffers cv_priceBids cv_priceOffers cv_volume cv_worth oc_prices oc_volumes oc_filled oc_worth oc_takenSet oc_isDone, hT)) (k' := 0) (n' := 0) rfl rfl rfl rfl rfl ?_
      exact mr_iret d_ag_told_40 rfl rfl
    · refine mr_iload d_ag_told_30 rfl ?_
      refine mr_goto (tgt := 40) d_ag_told_32 (by decide) ?_
      exact mr_iret d_ag_told_40 rfl rfl
  refine mz_of (by decide) (Nat.le_of_ble_eq_true rfl) ?_
  rw [f_ag_told]
  show mz_A g M_ag_told (mz_rm 1) _ 0 [(0, .ref 12), (1, .int x1), (2, .int x2), (3, .int x3)] [] ex (HX x_members x_collaterals x_hasSent x_isSealed x_metered x_sealedCount bk_counts bk_needs bk_whens bk_sides bk_quantities bk_limits ag_toldLies ag_passedLies ag_words ag_vectors ag_liarOperator ag_rounds mk_entries mk_slots mk_remainders mk_blocks mk_blockBids mk_blockOffers mk_entryCount mk_blockCount cv_limits cv_bids cv_offers cv_count cv_allBids cv_allOffers cv_meetingPrice cv_sureBids cv_sureOffers cv_priceBids cv_priceOffers cv_volume cv_worth oc_prices oc_volumes oc_filled oc_worth oc_takenSet oc_isDone, hT) 0 0 _
  refine mr_iload_n d_ag_told_0 rfl rfl ?_
  refine mr_aload_n d_ag_told_1 rfl rfl ?_
  refine mr_get K_ag 5 d_ag_told_2 lk_f_ag_31 (by decide) rfl rfl ?_
  refine mr_icmp_ne (tgt := 21) d_ag_told_5 (by decide) ?_ ?_
  · refine mr_iconst (v := (-1)) d_ag_told_21 mc_iconst_m1 ?_
    refine mr_sub (lv' := [(1, .int x1), (3, .int x3)]) [1, 3] rfl ?_
    exact w_b22 _
  · refine mr_aload_n d_ag_told_8 rfl rfl ?_
    refine mr_get K_ag 1 d_ag_told_9 lk_f_ag_15 (by decide) rfl rfl ?_
    refine mr_iload_n d_ag_told_12 rfl rfl ?_
    refine mr_iload_n d_ag_told_13 rfl rfl ?_
    refine mz_go (st := [.ref 13]) e_ag_toldPlace (fun _ => rfl) U_ag_toldPlace (mz_vS d_ag_told_14 U_ag_toldPlace lk_m_ag_38 S_ag_toldPlace np_ag_toldPlace) (Nat.le_of_ble_eq_true rfl) (by decide) (fun r1 => ?_)
    refine mr_eq (st' := [.int r1, .ref 13]) (ex' := ex) (h2 := (HX x_members x_collaterals x_hasSent x_isSealed x_metered x_sealedCount bk_counts bk_needs bk_whens bk_sides bk_quantities bk_limits ag_toldLies ag_passedLies ag_words ag_vectors ag_liarOperator ag_rounds mk_entries mk_slots mk_remainders mk_blocks mk_blockBids mk_blockOffers mk_entryCount mk_blockCount cv_limits cv_bids cv_offers cv_count cv_allBids cv_allOffers cv_meetingPrice cv_sureBids cv_sureOffers cv_priceBids cv_priceOffers cv_volume cv_worth oc_prices oc_volumes oc_filled oc_worth oc_takenSet oc_isDone, hT)) (k' := 0) (n' := 0) rfl rfl rfl rfl rfl ?_
    refine mr_iald d_ag_told_17 rfl (fun hc2 => ?_)
    refine mr_goto (tgt := 22) d_ag_told_18 (by decide) ?_
    refine mr_sub (lv' := [(1, .int x1), (3, .int x3)]) [1, 3] rfl ?_
    exact w_b22 _
set_option maxRecDepth 100000 in
set_option maxHeartbeats 4000000 in
theorem e_ag_passed {g : mz_G} {ex : Bool} {hT : List mz_E} {x_members : Int32} {x_collaterals : Nat → Int32} {x_hasSent : Nat → Int32} {x_isSealed : Nat → Int32} {x_metered : Nat → Int32} {x_sealedCount : Int32} {bk_counts : Nat → Int32} {bk_needs : Nat → Int64} {bk_whens : Nat → Int32} {bk_sides : Nat → Int32} {bk_quantities : Nat → Int32} {bk_limits : Nat → Int32} {ag_toldLies : Nat → Int32} {ag_passedLies : Nat → Int32} {ag_words : Nat → Int32} {ag_vectors : Nat → Int32} {ag_liarOperator : Int32} {ag_rounds : Int32} {mk_entries : Nat → Int32} {mk_slots : Nat → Int32} {mk_remainders : Nat → Int32} {mk_blocks : Nat → Int32} {mk_blockBids : Nat → Int32} {mk_blockOffers : Nat → Int32} {mk_entryCount : Int32} {mk_blockCount : Int32} {cv_limits : Nat → Nat → Int32} {cv_bids : Nat → Nat → Int32} {cv_offers : Nat → Nat → Int32} {cv_count : Nat → Int32} {cv_allBids : Nat → Int32} {cv_allOffers : Nat → Int32} {cv_meetingPrice : Nat → Int32} {cv_sureBids : Nat → Int32} {cv_sureOffers : Nat → Int32} {cv_priceBids : Nat → Int32} {cv_priceOffers : Nat → Int32} {cv_volume : Nat → Int32} {cv_worth : Nat → Int64} {oc_prices : Nat → Nat → Int32} {oc_volumes : Nat → Nat → Int32} {oc_filled : Nat → Nat → Int32} {oc_worth : Nat → Int64} {oc_takenSet : Nat → Int32} {oc_isDone : Nat → Int32} {x1 : Int32} {x2 : Int32} {x3 : Int32} {x4 : Int32} : mz_M g M_ag_passed 2 [.ref 12, .int x1, .int x2, .int x3, .int x4] ex (HX x_members x_collaterals x_hasSent x_isSealed x_metered x_sealedCount bk_counts bk_needs bk_whens bk_sides bk_quantities bk_limits ag_toldLies ag_passedLies ag_words ag_vectors ag_liarOperator ag_rounds mk_entries mk_slots mk_remainders mk_blocks mk_blockBids mk_blockOffers mk_entryCount mk_blockCount cv_limits cv_bids cv_offers cv_count cv_allBids cv_allOffers cv_meetingPrice cv_sureBids cv_sureOffers cv_priceBids cv_priceOffers cv_volume cv_worth oc_prices oc_volumes oc_filled oc_worth oc_takenSet oc_isDone, hT) (f_ag_passed ag_toldLies ag_passedLies ag_liarOperator x1 x2 x3 x4) (fun r => (0, some (.int r), ex, (HX x_members x_collaterals x_hasSent x_isSealed x_metered x_sealedCount bk_counts bk_needs bk_whens bk_sides bk_quantities bk_limits ag_toldLies ag_passedLies ag_words ag_vectors ag_liarOperator ag_rounds mk_entries mk_slots mk_remainders mk_blocks mk_blockBids mk_blockOffers mk_entryCount mk_blockCount cv_limits cv_bids cv_offers cv_count cv_allBids cv_allOffers cv_meetingPrice cv_sureBids cv_sureOffers cv_priceBids cv_priceOffers cv_volume cv_worth oc_prices oc_volumes oc_filled oc_worth oc_takenSet oc_isDone, hT), 0, 0)) := by
  have w_b24 : ∀ (s0 : Int32), mz_A g M_ag_passed (mz_rm 2) (fun r => (0, some (.int r), ex, (HX x_members x_collaterals x_hasSent x_isSealed x_metered x_sealedCount bk_counts bk_needs bk_whens bk_sides bk_quantities bk_limits ag_toldLies ag_passedLies ag_words ag_vectors ag_liarOperator ag_rounds mk_entries mk_slots mk_remainders mk_blocks mk_blockBids mk_blockOffers mk_entryCount mk_blockCount cv_limits cv_bids cv_offers cv_count cv_allBids cv_allOffers cv_meetingPrice cv_sureBids cv_sureOffers cv_priceBids cv_priceOffers cv_volume cv_worth oc_prices oc_volumes oc_filled oc_worth oc_takenSet oc_isDone, hT), 0, 0)) 24 [(0, .ref 12), (1, .int x1), (2, .int x2), (4, .int x4)] [.int s0] ex (HX x_members x_collaterals x_hasSent x_isSealed x_metered x_sealedCount bk_counts bk_needs bk_whens bk_sides bk_quantities bk_limits ag_toldLies ag_passedLies ag_words ag_vectors ag_liarOperator ag_rounds mk_entries mk_slots mk_remainders mk_blocks mk_blockBids mk_blockOffers mk_entryCount mk_blockCount cv_limits cv_bids cv_offers cv_count cv_allBids cv_allOffers cv_meetingPrice cv_sureBids cv_sureOffers cv_priceBids cv_priceOffers cv_volume cv_worth oc_prices oc_volumes oc_filled oc_worth oc_takenSet oc_isDone, hT) 0 0 (f_ag_passed_b24 ag_toldLies ag_passedLies ag_liarOperator x1 x2 x4 s0) := by
    intro  s0
    rw [f_ag_passed_b24]
    refine mr_istore (lv' := [(5, .int s0), (0, .ref 12), (1, .int x1), (2, .int x2), (4, .int x4)]) d_ag_passed_24 (by decide) rfl ?_
    refine mr_iload d_ag_passed_26 rfl ?_
    refine mr_iconst (v := (-1)) d_ag_passed_28 mc_iconst_m1 ?_
    refine mr_icmp_eq (tgt := 37) d_ag_passed_29 (by decide) ?_ ?_
    · refine mr_aload_n d_ag_passed_37 rfl rfl ?_
      refine mr_iload_n d_ag_passed_38 rfl rfl ?_
      refine mr_iload_n d_ag_passed_39 rfl rfl ?_
      refine mr_iload d_ag_passed_40 rfl ?_
      refine mz_go (st := []) e_ag_told (fun _ => rfl) U_ag_told (mz_vV d_ag_passed_42 U_ag_told rfl lk_m_ag_72 I_ag_told s_ag_told np_ag_told rfl rfl) (Nat.le_of_ble_eq_true rfl) (by decide) (fun r3 => ?_)
      refine mr_eq (st' := [.int r3]) (ex' := ex) (h2 := (HX x_members x_collaterals x_hasSent x_isSealed x_metered x_sealedCount bk_counts bk_needs bk_whens bk_sides bk_quantities bk_limits ag_toldLies ag_passedLies ag_words ag_vectors ag_liarOperator ag_rounds mk_entries mk_slots mk_remainders mk_blocks mk_blockBids mk_blockOffers mk_entryCount mk_blockCount cv_limits cv_bids cv_offers cv_count cv_allBids cv_allOffers cv_meetingPrice cv_sureBids cv_sureOffers cv_priceBids cv_priceOffers cv_volume cv_worth oc_prices oc_volumes oc_filled oc_worth oc_takenSet oc_isDone, hT)) (k' := 0) (n' := 0) rfl rfl rfl rfl rfl ?_
      exact mr_iret d_ag_passed_45 rfl rfl
    · refine mr_iload d_ag_passed_32 rfl ?_
      refine mr_goto (tgt := 45) d_ag_passed_34 (by decide) ?_
      exact mr_iret d_ag_passed_45 rfl rfl
  refine mz_of (by decide) (Nat.le_of_ble_eq_true rfl) ?_
  rw [f_ag_passed]
  show mz_A g M_ag_passed (mz_rm 2) _ 0 [(0, .ref 12), (1, .int x1), (2, .int x2), (3, .int x3), (4, .int x4)] [] ex (HX x_members x_collaterals x_hasSent x_isSealed x_metered x_sealedCount bk_counts bk_needs bk_whens bk_sides bk_quantities bk_limits ag_toldLies ag_passedLies ag_words ag_vectors ag_liarOperator ag_rounds mk_entries mk_slots mk_remainders mk_blocks mk_blockBids mk_blockOffers mk_entryCount mk_blockCount cv_limits cv_bids cv_offers cv_count cv_allBids cv_allOffers cv_meetingPrice cv_sureBids cv_sureOffers cv_priceBids cv_priceOffers cv_volume cv_worth oc_prices oc_volumes oc_filled oc_worth oc_takenSet oc_isDone, hT) 0 0 _
  refine mr_iload_n d_ag_passed_0 rfl rfl ?_
  refine mr_aload_n d_ag_passed_1 rfl rfl ?_
  refine mr_get K_ag 5 d_ag_passed_2 lk_f_ag_31 (by decide) rfl rfl ?_
  refine mr_icmp_ne (tgt := 23) d_ag_passed_5 (by decide) ?_ ?_
  · refine mr_iconst (v := (-1)) d_ag_passed_23 mc_iconst_m1 ?_
    refine mr_sub (lv' := [(0, .ref 12), (1, .int x1), (2, .int x2), (4, .int x4)]) [0, 1, 2, 4] rfl ?_
    exact w_b24 _
  · refine mr_aload_n d_ag_passed_8 rfl rfl ?_
    refine mr_get K_ag 2 d_ag_passed_9 lk_f_ag_19 (by decide) rfl rfl ?_
    refine mr_iload_n d_ag_passed_12 rfl rfl ?_
    refine mr_iload_n d_ag_passed_13 rfl rfl ?_
    refine mr_iload d_ag_passed_14 rfl ?_
    refine mz_go (st := [.ref 14]) e_ag_passedPlace (fun _ => rfl) U_ag_passedPlace (mz_vS d_ag_passed_16 U_ag_passedPlace lk_m_ag_42 S_ag_passedPlace np_ag_passedPlace) (Nat.le_of_ble_eq_true rfl) (by decide) (fun r1 => ?_)
    refine mr_eq (st' := [.int r1, .ref 14]) (ex' := ex) (h2 := (HX x_members x_collaterals x_hasSent x_isSealed x_metered x_sealedCount bk_counts bk_needs bk_whens bk_sides bk_quantities bk_limits ag_toldLies ag_passedLies ag_words ag_vectors ag_liarOperator ag_rounds mk_entries mk_slots mk_remainders mk_blocks mk_blockBids mk_blockOffers mk_entryCount mk_blockCount cv_limits cv_bids cv_offers cv_count cv_allBids cv_allOffers cv_meetingPrice cv_sureBids cv_sureOffers cv_priceBids cv_priceOffers cv_volume cv_worth oc_prices oc_volumes oc_filled oc_worth oc_takenSet oc_isDone, hT)) (k' := 0) (n' := 0) rfl rfl rfl rfl rfl ?_
    refine mr_iald d_ag_passed_19 rfl (fun hc2 => ?_)
    refine mr_goto (tgt := 24) d_ag_passed_20 (by decide) ?_
    refine mr_sub (lv' := [(0, .ref 12), (1, .int x1), (2, .int x2), (4, .int x4)]) [0, 1, 2, 4] rfl ?_
    exact w_b24 _
set_option maxRecDepth 100000 in
set_option maxHeartbeats 4000000 in
theorem e_bk_areEntriesEqual {g : mz_G} {ex : Bool} {hT : List mz_E} {x_members : Int32} {x_collaterals : Nat → Int32} {x_hasSent : Nat → Int32} {x_isSealed : Nat → Int32} {x_metered : Nat → Int32} {x_sealedCount : Int32} {bk_counts : Nat → Int32} {bk_needs : Nat → Int64} {bk_whens : Nat → Int32} {bk_sides : Nat → Int32} {bk_quantities : Nat → Int32} {bk_limits : Nat → Int32} {ag_toldLies : Nat → Int32} {ag_passedLies : Nat → Int32} {ag_words : Nat → Int32} {ag_vectors : Nat → Int32} {ag_liarOperator : Int32} {ag_rounds : Int32} {mk_entries : Nat → Int32} {mk_slots : Nat → Int32} {mk_remainders : Nat → Int32} {mk_blocks : Nat → Int32} {mk_blockBids : Nat → Int32} {mk_blockOffers : Nat → Int32} {mk_entryCount : Int32} {mk_blockCount : Int32} {cv_limits : Nat → Nat → Int32} {cv_bids : Nat → Nat → Int32} {cv_offers : Nat → Nat → Int32} {cv_count : Nat → Int32} {cv_allBids : Nat → Int32} {cv_allOffers : Nat → Int32} {cv_meetingPrice : Nat → Int32} {cv_sureBids : Nat → Int32} {cv_sureOffers : Nat → Int32} {cv_priceBids : Nat → Int32} {cv_priceOffers : Nat → Int32} {cv_volume : Nat → Int32} {cv_worth : Nat → Int64} {oc_prices : Nat → Nat → Int32} {oc_volumes : Nat → Nat → Int32} {oc_filled : Nat → Nat → Int32} {oc_worth : Nat → Int64} {oc_takenSet : Nat → Int32} {oc_isDone : Nat → Int32} {x1 : Int32} {x2 : Int32} : mz_M g M_bk_areEntriesEqual 0 [.ref 5, .int x1, .int x2] ex (HX x_members x_collaterals x_hasSent x_isSealed x_metered x_sealedCount bk_counts bk_needs bk_whens bk_sides bk_quantities bk_limits ag_toldLies ag_passedLies ag_words ag_vectors ag_liarOperator ag_rounds mk_entries mk_slots mk_remainders mk_blocks mk_blockBids mk_blockOffers mk_entryCount mk_blockCount cv_limits cv_bids cv_offers cv_count cv_allBids cv_allOffers cv_meetingPrice cv_sureBids cv_sureOffers cv_priceBids cv_priceOffers cv_volume cv_worth oc_prices oc_volumes oc_filled oc_worth oc_takenSet oc_isDone, hT) (f_bk_areEntriesEqual bk_whens bk_sides bk_quantities bk_limits x1 x2) (fun r => (0, some (.int r), ex, (HX x_members x_collaterals x_hasSent x_isSealed x_metered x_sealedCount bk_counts bk_needs bk_whens bk_sides bk_quantities bk_limits ag_toldLies ag_passedLies ag_words ag_vectors ag_liarOperator ag_rounds mk_entries mk_slots mk_remainders mk_blocks mk_blockBids mk_blockOffers mk_entryCount mk_blockCount cv_limits cv_bids cv_offers cv_count cv_allBids cv_allOffers cv_meetingPrice cv_sureBids cv_sureOffers cv_priceBids cv_priceOffers cv_volume cv_worth oc_prices oc_volumes oc_filled oc_worth oc_takenSet oc_isDone, hT), 0, 0)) := by
  refine mz_of (by decide) (Nat.le_of_ble_eq_true rfl) ?_
  rw [f_bk_areEntriesEqual]
  show mz_A g M_bk_areEntriesEqual (mz_rm 0) _ 0 [(0, .ref 5), (1, .int x1), (2, .int x2)] [] ex (HX x_members x_collaterals x_hasSent x_isSealed x_metered x_sealedCount bk_counts bk_needs bk_whens bk_sides bk_quantities bk_limits ag_toldLies ag_passedLies ag_words ag_vectors ag_liarOperator ag_rounds mk_entries mk_slots mk_remainders mk_blocks mk_blockBids mk_blockOffers mk_entryCount mk_blockCount cv_limits cv_bids cv_offers cv_count cv_allBids cv_allOffers cv_meetingPrice cv_sureBids cv_sureOffers cv_priceBids cv_priceOffers cv_volume cv_worth oc_prices oc_volumes oc_filled oc_worth oc_takenSet oc_isDone, hT) 0 0 _
  refine mr_aload_n d_bk_areEntriesEqual_0 rfl rfl ?_
  refine mr_get K_bk 2 d_bk_areEntriesEqual_1 lk_f_bk_19 (by decide) rfl rfl ?_
  refine mr_iload_n d_bk_areEntriesEqual_4 rfl rfl ?_
  refine mr_iald d_bk_areEntriesEqual_5 rfl (fun hc1 => ?_)
  refine mr_aload_n d_bk_areEntriesEqual_6 rfl rfl ?_
  refine mr_get K_bk 2 d_bk_areEntriesEqual_7 lk_f_bk_19 (by decide) rfl rfl ?_
  refine mr_iload_n d_bk_areEntriesEqual_10 rfl rfl ?_
  refine mr_iald d_bk_areEntriesEqual_11 rfl (fun hc2 => ?_)
  refine mr_icmp_ne (tgt := 64) d_bk_areEntriesEqual_12 (by decide) ?_ ?_
  · refine mr_iconst (v := 0) d_bk_areEntriesEqual_64 mc_iconst_0 ?_
    exact mr_zret d_bk_areEntriesEqual_65 rfl rfl
  · refine mr_aload_n d_bk_areEntriesEqual_15 rfl rfl ?_
    refine mr_get K_bk 3 d_bk_areEntriesEqual_16 lk_f_bk_22 (by decide) rfl rfl ?_
    refine mr_iload_n d_bk_areEntriesEqual_19 rfl rfl ?_
    refine mr_ialdK d_bk_areEntriesEqual_20 rfl hc1 ?_
    refine mr_aload_n d_bk_areEntriesEqual_21 rfl rfl ?_
    refine mr_get K_bk 3 d_bk_areEntriesEqual_22 lk_f_bk_22 (by decide) rfl rfl ?_
    refine mr_iload_n d_bk_areEntriesEqual_25 rfl rfl ?_
    refine mr_ialdK d_bk_areEntriesEqual_26 rfl hc2 ?_
    refine mr_icmp_ne (tgt := 64) d_bk_areEntriesEqual_27 (by decide) ?_ ?_
    · refine mr_iconst (v := 0) d_bk_areEntriesEqual_64 mc_iconst_0 ?_
      exact mr_zret d_bk_areEntriesEqual_65 rfl rfl
    · refine mr_aload_n d_bk_areEntriesEqual_30 rfl rfl ?_
      refine mr_get K_bk 4 d_bk_areEntriesEqual_31 lk_f_bk_25 (by decide) rfl rfl ?_
      refine mr_iload_n d_bk_areEntriesEqual_34 rfl rfl ?_
      refine mr_ialdK d_bk_areEntriesEqual_35 rfl hc1 ?_
      refine mr_aload_n d_bk_areEntriesEqual_36 rfl rfl ?_
      refine mr_get K_bk 4 d_bk_areEntriesEqual_37 lk_f_bk_25 (by decide) rfl rfl ?_
      refine mr_iload_n d_bk_areEntriesEqual_40 rfl rfl ?_
      refine mr_ialdK d_bk_areEntriesEqual_41 rfl hc2 ?_
      refine mr_icmp_ne (tgt := 64) d_bk_areEntriesEqual_42 (by decide) ?_ ?_
      · refine mr_iconst (v := 0) d_bk_areEntriesEqual_64 mc_iconst_0 ?_
        exact mr_zret d_bk_areEntriesEqual_65 rfl rfl
      · refine mr_aload_n d_bk_areEntriesEqual_45 rfl rfl ?_
        refine mr_get K_bk 5 d_bk_areEntriesEqual_46 lk_f_bk_28 (by decide) rfl rfl ?_
        refine mr_iload_n d_bk_areEntriesEqual_49 rfl rfl ?_
        refine mr_ialdK d_bk_areEntriesEqual_50 rfl hc1 ?_
        refine mr_aload_n d_bk_areEntriesEqual_51 rfl rfl ?_
        refine mr_get K_bk 5 d_bk_areEntriesEqual_52 lk_f_bk_28 (by decide) rfl rfl ?_
        refine mr_iload_n d_bk_areEntriesEqual_55 rfl rfl ?_
        refine mr_ialdK d_bk_areEntriesEqual_56 rfl hc2 ?_
        refine mr_icmp_ne (tgt := 64) d_bk_areEntriesEqual_57 (by decide) ?_ ?_
        · refine mr_iconst (v := 0) d_bk_areEntriesEqual_64 mc_iconst_0 ?_
          exact mr_zret d_bk_areEntriesEqual_65 rfl rfl
        · refine mr_iconst (v := 1) d_bk_areEntriesEqual_60 mc_iconst_1 ?_
          refine mr_goto (tgt := 65) d_bk_areEntriesEqual_61 (by decide) ?_
          exact mr_zret d_bk_areEntriesEqual_65 rfl rfl
set_option maxRecDepth 100000 in
set_option maxHeartbeats 4000000 in
theorem e_bk_areEqual {g : mz_G} {ex : Bool} {hT : List mz_E} {x_members : Int32} {x_collaterals : Nat → Int32} {x_hasSent : Nat → Int32} {x_isSealed : Nat → Int32} {x_metered : Nat → Int32} {x_sealedCount : Int32} {bk_counts : Nat → Int32} {bk_needs : Nat → Int64} {bk_whens : Nat → Int32} {bk_sides : Nat → Int32} {bk_quantities : Nat → Int32} {bk_limits : Nat → Int32} {ag_toldLies : Nat → Int32} {ag_passedLies : Nat → Int32} {ag_words : Nat → Int32} {ag_vectors : Nat → Int32} {ag_liarOperator : Int32} {ag_rounds : Int32} {mk_entries : Nat → Int32} {mk_slots : Nat → Int32} {mk_remainders : Nat → Int32} {mk_blocks : Nat → Int32} {mk_blockBids : Nat → Int32} {mk_blockOffers : Nat → Int32} {mk_entryCount : Int32} {mk_blockCount : Int32} {cv_limits : Nat → Nat → Int32} {cv_bids : Nat → Nat → Int32} {cv_offers : Nat → Nat → Int32} {cv_count : Nat → Int32} {cv_allBids : Nat → Int32} {cv_allOffers : Nat → Int32} {cv_meetingPrice : Nat → Int32} {cv_sureBids : Nat → Int32} {cv_sureOffers : Nat → Int32} {cv_priceBids : Nat → Int32} {cv_priceOffers : Nat → Int32} {cv_volume : Nat → Int32} {cv_worth : Nat → Int64} {oc_prices : Nat → Nat → Int32} {oc_volumes : Nat → Nat → Int32} {oc_filled : Nat → Nat → Int32} {oc_worth : Nat → Int64} {oc_takenSet : Nat → Int32} {oc_isDone : Nat → Int32} {x1 : Int32} {x2 : Int32} : mz_M g M_bk_areEqual 1 [.ref 5, .int x1, .int x2] ex (HX x_members x_collaterals x_hasSent x_isSealed x_metered x_sealedCount bk_counts bk_needs bk_whens bk_sides bk_quantities bk_limits ag_toldLies ag_passedLies ag_words ag_vectors ag_liarOperator ag_rounds mk_entries mk_slots mk_remainders mk_blocks mk_blockBids mk_blockOffers mk_entryCount mk_blockCount cv_limits cv_bids cv_offers cv_count cv_allBids cv_allOffers cv_meetingPrice cv_sureBids cv_sureOffers cv_priceBids cv_priceOffers cv_volume cv_worth oc_prices oc_volumes oc_filled oc_worth oc_takenSet oc_isDone, hT) (f_bk_areEqual bk_counts bk_whens bk_sides bk_quantities bk_limits x1 x2) (fun r => (0, some (.int r), ex, (HX x_members x_collaterals x_hasSent x_isSealed x_metered x_sealedCount bk_counts bk_needs bk_whens bk_sides bk_quantities bk_limits ag_toldLies ag_passedLies ag_words ag_vectors ag_liarOperator ag_rounds mk_entries mk_slots mk_remainders mk_blocks mk_blockBids mk_blockOffers mk_entryCount mk_blockCount cv_limits cv_bids cv_offers cv_count cv_allBids cv_allOffers cv_meetingPrice cv_sureBids cv_sureOffers cv_priceBids cv_priceOffers cv_volume cv_worth oc_prices oc_volumes oc_filled oc_worth oc_takenSet oc_isDone, hT), 0, 0)) := by
  have w_L19 : ∀ (n : Nat) (x3 : Int32), mz_A g M_bk_areEqual (mz_rm 1) (fun r => (0, some (.int r), ex, (HX x_members x_collaterals x_hasSent x_isSealed x_metered x_sealedCount bk_counts bk_needs bk_whens bk_sides bk_quantities bk_limits ag_toldLies ag_passedLies ag_words ag_vectors ag_liarOperator ag_rounds mk_entries mk_slots mk_remainders mk_blocks mk_blockBids mk_blockOffers mk_entryCount mk_blockCount cv_limits cv_bids cv_offers cv_count cv_allBids cv_allOffers cv_meetingPrice cv_sureBids cv_sureOffers cv_priceBids cv_priceOffers cv_volume cv_worth oc_prices oc_volumes oc_filled oc_worth oc_takenSet oc_isDone, hT), 0, 0)) 19 [(0, .ref 5), (1, .int x1), (2, .int x2), (3, .int x3)] [] ex (HX x_members x_collaterals x_hasSent x_isSealed x_metered x_sealedCount bk_counts bk_needs bk_whens bk_sides bk_quantities bk_limits ag_toldLies ag_passedLies ag_words ag_vectors ag_liarOperator ag_rounds mk_entries mk_slots mk_remainders mk_blocks mk_blockBids mk_blockOffers mk_entryCount mk_blockCount cv_limits cv_bids cv_offers cv_count cv_allBids cv_allOffers cv_meetingPrice cv_sureBids cv_sureOffers cv_priceBids cv_priceOffers cv_volume cv_worth oc_prices oc_volumes oc_filled oc_worth oc_takenSet oc_isDone, hT) 0 0 (f_bk_areEqual_L19 bk_counts bk_whens bk_sides bk_quantities bk_limits x1 x2 n x3) := by
    intro n
    induction n with
    | zero => intro x3; exact mr_none
    | succ n ih =>
      intro x3
      rw [f_bk_areEqual_L19]
      refine mr_iload_n d_bk_areEqual_19 rfl rfl ?_
      refine mr_aload_n d_bk_areEqual_20 rfl rfl ?_
      refine mr_get K_bk 0 d_bk_areEqual_21 lk_f_bk_9 (by decide) rfl rfl ?_
      refine mr_iload_n d_bk_areEqual_24 rfl rfl ?_
      refine mr_iald d_bk_areEqual_25 rfl (fun hc3 => ?_)
      refine mr_icmp_ge (tgt := 56) d_bk_areEqual_26 (by decide) ?_ ?_
      · refine mr_iconst (v := 1) d_bk_areEqual_56 mc_iconst_1 ?_
        exact mr_zret d_bk_areEqual_57 rfl rfl
      · refine mr_aload_n d_bk_areEqual_29 rfl rfl ?_
        refine mr_bipush (v := 10) d_bk_areEqual_30 mc_bipush_10 ?_
        refine mr_iload_n d_bk_areEqual_32 rfl rfl ?_
        refine mr_imul d_bk_areEqual_33 ?_
        refine mr_iload_n d_bk_areEqual_34 rfl rfl ?_
        refine mr_iadd d_bk_areEqual_35 ?_
        refine mr_bipush (v := 10) d_bk_areEqual_36 mc_bipush_10 ?_
        refine mr_iload_n d_bk_areEqual_38 rfl rfl ?_
        refine mr_imul d_bk_areEqual_39 ?_
        refine mr_iload_n d_bk_areEqual_40 rfl rfl ?_
        refine mr_iadd d_bk_areEqual_41 ?_
        refine mz_go (st := []) e_bk_areEntriesEqual (fun _ => rfl) U_bk_areEntriesEqual (mz_vV d_bk_areEqual_42 U_bk_areEntriesEqual rfl lk_m_bk_39 I_bk_areEntriesEqual s_bk_areEntriesEqual np_bk_areEntriesEqual rfl rfl) (Nat.le_of_ble_eq_true rfl) (by decide) (fun r4 => ?_)
        refine mr_eq (st' := [.int r4]) (ex' := ex) (h2 := (HX x_members x_collaterals x_hasSent x_isSealed x_metered x_sealedCount bk_counts bk_needs bk_whens bk_sides bk_quantities bk_limits ag_toldLies ag_passedLies ag_words ag_vectors ag_liarOperator ag_rounds mk_entries mk_slots mk_remainders mk_blocks mk_blockBids mk_blockOffers mk_entryCount mk_blockCount cv_limits cv_bids cv_offers cv_count cv_allBids cv_allOffers cv_meetingPrice cv_sureBids cv_sureOffers cv_priceBids cv_priceOffers cv_volume cv_worth oc_prices oc_volumes oc_filled oc_worth oc_takenSet oc_isDone, hT)) (k' := 0) (n' := 0) rfl rfl rfl rfl rfl ?_
        refine mr_if_ne (tgt := 50) d_bk_areEqual_45 (by decide) ?_ ?_
        · refine mr_iinc (v := (x3 + 1)) (lv' := [(3, .int (x3 + 1)), (0, .ref 5), (1, .int x1), (2, .int x2)]) d_bk_areEqual_50 rfl rfl (by decide) rfl ?_
          refine mr_goto (tgt := 19) d_bk_areEqual_53 (by decide) ?_
          refine mr_sub (lv' := [(0, .ref 5), (1, .int x1), (2, .int x2), (3, .int (x3 + 1))]) [1, 2, 3, 0] rfl ?_
          exact ih _
        · refine mr_iconst (v := 0) d_bk_areEqual_48 mc_iconst_0 ?_
          exact mr_zret d_bk_areEqual_49 rfl rfl
  refine mz_of (by decide) (Nat.le_of_ble_eq_true rfl) ?_
  rw [f_bk_areEqual]
  show mz_A g M_bk_areEqual (mz_rm 1) _ 0 [(0, .ref 5), (1, .int x1), (2, .int x2)] [] ex (HX x_members x_collaterals x_hasSent x_isSealed x_metered x_sealedCount bk_counts bk_needs bk_whens bk_sides bk_quantities bk_limits ag_toldLies ag_passedLies ag_words ag_vectors ag_liarOperator ag_rounds mk_entries mk_slots mk_remainders mk_blocks mk_blockBids mk_blockOffers mk_entryCount mk_blockCount cv_limits cv_bids cv_offers cv_count cv_allBids cv_allOffers cv_meetingPrice cv_sureBids cv_sureOffers cv_priceBids cv_priceOffers cv_volume cv_worth oc_prices oc_volumes oc_filled oc_worth oc_takenSet oc_isDone, hT) 0 0 _
  refine mr_aload_n d_bk_areEqual_0 rfl rfl ?_
  refine mr_get K_bk 0 d_bk_areEqual_1 lk_f_bk_9 (by decide) rfl rfl ?_
  refine mr_iload_n d_bk_areEqual_4 rfl rfl ?_
  refine mr_iald d_bk_areEqual_5 rfl (fun hc1 => ?_)
  refine mr_aload_n d_bk_areEqual_6 rfl rfl ?_
  refine mr_get K_bk 0 d_bk_areEqual_7 lk_f_bk_9 (by decide) rfl rfl ?_
  refine mr_iload_n d_bk_areEqual_10 rfl rfl ?_
  refine mr_iald d_bk_areEqual_11 rfl (fun hc2 => ?_)
  refine mr_icmp_eq (tgt := 17) d_bk_areEqual_12 (by decide) ?_ ?_
  · refine mr_iconst (v := 0) d_bk_areEqual_17 mc_iconst_0 ?_
    refine mr_istore_n (lv' := [(3, .int 0), (0, .ref 5), (1, .int x1), (2, .int x2)]) d_bk_areEqual_18 rfl (by decide) rfl ?_
    refine mr_sub (lv' := [(0, .ref 5), (1, .int x1), (2, .int x2), (3, .int 0)]) [1, 2, 3, 0] rfl ?_
    exact w_L19 1000 _
  · refine mr_iconst (v := 0) d_bk_areEqual_15 mc_iconst_0 ?_
    exact mr_zret d_bk_areEqual_16 rfl rfl
set_option maxRecDepth 100000 in
set_option maxHeartbeats 4000000 in
theorem e_ag_word {g : mz_G} {ex : Bool} {hT : List mz_E} {x_members : Int32} {x_collaterals : Nat → Int32} {x_hasSent : Nat → Int32} {x_isSealed : Nat → Int32} {x_metered : Nat → Int32} {x_sealedCount : Int32} {bk_counts : Nat → Int32} {bk_needs : Nat → Int64} {bk_whens : Nat → Int32} {bk_sides : Nat → Int32} {bk_quantities : Nat → Int32} {bk_limits : Nat → Int32} {ag_toldLies : Nat → Int32} {ag_passedLies : Nat → Int32} {ag_words : Nat → Int32} {ag_vectors : Nat → Int32} {ag_liarOperator : Int32} {ag_rounds : Int32} {mk_entries : Nat → Int32} {mk_slots : Nat → Int32} {mk_remainders : Nat → Int32} {mk_blocks : Nat → Int32} {mk_blockBids : Nat → Int32} {mk_blockOffers : Nat → Int32} {mk_entryCount : Int32} {mk_blockCount : Int32} {cv_limits : Nat → Nat → Int32} {cv_bids : Nat → Nat → Int32} {cv_offers : Nat → Nat → Int32} {cv_count : Nat → Int32} {cv_allBids : Nat → Int32} {cv_allOffers : Nat → Int32} {cv_meetingPrice : Nat → Int32} {cv_sureBids : Nat → Int32} {cv_sureOffers : Nat → Int32} {cv_priceBids : Nat → Int32} {cv_priceOffers : Nat → Int32} {cv_volume : Nat → Int32} {cv_worth : Nat → Int64} {oc_prices : Nat → Nat → Int32} {oc_volumes : Nat → Nat → Int32} {oc_filled : Nat → Nat → Int32} {oc_worth : Nat → Int64} {oc_takenSet : Nat → Int32} {oc_isDone : Nat → Int32} {x1 : Int32} {x2 : Int32} {x3 : Int32} : mz_M g M_ag_word 3 [.ref 12, .int x1, .int x2, .int x3] ex (HX x_members x_collaterals x_hasSent x_isSealed x_metered x_sealedCount bk_counts bk_needs bk_whens bk_sides bk_quantities bk_limits ag_toldLies ag_passedLies ag_words ag_vectors ag_liarOperator ag_rounds mk_entries mk_slots mk_remainders mk_blocks mk_blockBids mk_blockOffers mk_entryCount mk_blockCount cv_limits cv_bids cv_offers cv_count cv_allBids cv_allOffers cv_meetingPrice cv_sureBids cv_sureOffers cv_priceBids cv_priceOffers cv_volume cv_worth oc_prices oc_volumes oc_filled oc_worth oc_takenSet oc_isDone, hT) (f_ag_word bk_counts bk_whens bk_sides bk_quantities bk_limits ag_toldLies ag_passedLies ag_liarOperator x1 x2 x3) (fun r => (0, some (.int r), ex, (HX x_members x_collaterals x_hasSent x_isSealed x_metered x_sealedCount bk_counts bk_needs bk_whens bk_sides bk_quantities bk_limits ag_toldLies ag_passedLies ag_words ag_vectors ag_liarOperator ag_rounds mk_entries mk_slots mk_remainders mk_blocks mk_blockBids mk_blockOffers mk_entryCount mk_blockCount cv_limits cv_bids cv_offers cv_count cv_allBids cv_allOffers cv_meetingPrice cv_sureBids cv_sureOffers cv_priceBids cv_priceOffers cv_volume cv_worth oc_prices oc_volumes oc_filled oc_worth oc_takenSet oc_isDone, hT), 0, 0)) := by
  have w_L15 : ∀ (n : Nat) (x4 : Int32) (x5 : Int32) (x6 : Int32), mz_A g M_ag_word (mz_rm 3) (fun r => (0, some (.int r), ex, (HX x_members x_collaterals x_hasSent x_isSealed x_metered x_sealedCount bk_counts bk_needs bk_whens bk_sides bk_quantities bk_limits ag_toldLies ag_passedLies ag_words ag_vectors ag_liarOperator ag_rounds mk_entries mk_slots mk_remainders mk_blocks mk_blockBids mk_blockOffers mk_entryCount mk_blockCount cv_limits cv_bids cv_offers cv_count cv_allBids cv_allOffers cv_meetingPrice cv_sureBids cv_sureOffers cv_priceBids cv_priceOffers cv_volume cv_worth oc_prices oc_volumes oc_filled oc_worth oc_takenSet oc_isDone, hT), 0, 0)) 15 [(0, .ref 12), (1, .int x1), (2, .int x2), (3, .int x3), (4, .int x4), (5, .int x5), (6, .int x6)] [] ex (HX x_members x_collaterals x_hasSent x_isSealed x_metered x_sealedCount bk_counts bk_needs bk_whens bk_sides bk_quantities bk_limits ag_toldLies ag_passedLies ag_words ag_vectors ag_liarOperator ag_rounds mk_entries mk_slots mk_remainders mk_blocks mk_blockBids mk_blockOffers mk_entryCount mk_blockCount cv_limits cv_bids cv_offers cv_count cv_allBids cv_allOffers cv_meetingPrice cv_sureBids cv_sureOffers cv_priceBids cv_priceOffers cv_volume cv_worth oc_prices oc_volumes oc_filled oc_worth oc_takenSet oc_isDone, hT) 0 0 (f_ag_word_L15 bk_counts bk_whens bk_sides bk_quantities bk_limits ag_toldLies ag_passedLies ag_liarOperator x1 x2 x3 n x4 x5 x6) := by
    intro n
    induction n with
    | zero => intro x4 x5 x6; exact mr_none
    | succ n ih =>
      intro x4 x5 x6
      rw [f_ag_word_L15]
      refine mr_iload d_ag_word_15 rfl ?_
      refine mr_iconst (v := 4) d_ag_word_17 mc_iconst_4 ?_
      refine mr_icmp_ge (tgt := 94) d_ag_word_18 (by decide) ?_ ?_
      · refine mr_bipush (v := 24) d_ag_word_94 mc_bipush_24 ?_
        exact mr_iret d_ag_word_96 rfl rfl
      · refine mr_iload d_ag_word_21 rfl ?_
        refine mr_iload_n d_ag_word_23 rfl rfl ?_
        refine mr_icmp_eq (tgt := 88) d_ag_word_24 (by decide) ?_ ?_
        · refine mr_iinc (v := (x6 + 1)) (lv' := [(6, .int (x6 + 1)), (0, .ref 12), (1, .int x1), (2, .int x2), (3, .int x3), (4, .int x4), (5, .int x5)]) d_ag_word_88 rfl rfl (by decide) rfl ?_
          refine mr_goto (tgt := 15) d_ag_word_91 (by decide) ?_
          refine mr_sub (lv' := [(0, .ref 12), (1, .int x1), (2, .int x2), (3, .int x3), (4, .int x4), (5, .int x5), (6, .int (x6 + 1))]) [1, 2, 3, 4, 5, 6, 0] rfl ?_
          exact ih _ _ _
        · refine mr_iload d_ag_word_27 rfl ?_
          refine mr_iload_n d_ag_word_29 rfl rfl ?_
          refine mr_icmp_eq (tgt := 88) d_ag_word_30 (by decide) ?_ ?_
          · refine mr_iinc (v := (x6 + 1)) (lv' := [(6, .int (x6 + 1)), (0, .ref 12), (1, .int x1), (2, .int x2), (3, .int x3), (4, .int x4), (5, .int x5)]) d_ag_word_88 rfl rfl (by decide) rfl ?_
            refine mr_goto (tgt := 15) d_ag_word_91 (by decide) ?_
            refine mr_sub (lv' := [(0, .ref 12), (1, .int x1), (2, .int x2), (3, .int x3), (4, .int x4), (5, .int x5), (6, .int (x6 + 1))]) [1, 2, 3, 4, 5, 6, 0] rfl ?_
            exact ih _ _ _
          · refine mr_aload_n d_ag_word_33 rfl rfl ?_
            refine mr_iload d_ag_word_34 rfl ?_
            refine mr_iload_n d_ag_word_36 rfl rfl ?_
            refine mr_iload_n d_ag_word_37 rfl rfl ?_
            refine mr_iload_n d_ag_word_38 rfl rfl ?_
            refine mz_go (st := []) e_ag_passed (fun _ => rfl) U_ag_passed (mz_vV d_ag_word_39 U_ag_passed rfl lk_m_ag_75 I_ag_passed s_ag_passed np_ag_passed rfl rfl) (Nat.le_of_ble_eq_true rfl) (by decide) (fun r2 => ?_)
            refine mr_eq (st' := [.int r2]) (ex' := ex) (h2 := (HX x_members x_collaterals x_hasSent x_isSealed x_metered x_sealedCount bk_counts bk_needs bk_whens bk_sides bk_quantities bk_limits ag_toldLies ag_passedLies ag_words ag_vectors ag_liarOperator ag_rounds mk_entries mk_slots mk_remainders mk_blocks mk_blockBids mk_blockOffers mk_entryCount mk_blockCount cv_limits cv_bids cv_offers cv_count cv_allBids cv_allOffers cv_meetingPrice cv_sureBids cv_sureOffers cv_priceBids cv_priceOffers cv_volume cv_worth oc_prices oc_volumes oc_filled oc_worth oc_takenSet oc_isDone, hT)) (k' := 0) (n' := 0) rfl rfl rfl rfl rfl ?_
            refine mr_istore (lv' := [(7, .int r2), (0, .ref 12), (1, .int x1), (2, .int x2), (3, .int x3), (4, .int x4), (5, .int x5), (6, .int x6)]) d_ag_word_42 (by decide) rfl ?_
            refine mr_aload_n d_ag_word_44 rfl rfl ?_
            refine mr_get K_ag 0 d_ag_word_45 lk_f_ag_9 (by decide) rfl rfl ?_
            refine mr_iload d_ag_word_48 rfl ?_
            refine mr_iload d_ag_word_50 rfl ?_
            refine mz_go (st := []) e_bk_areEqual (fun _ => rfl) U_bk_areEqual (mz_vV d_ag_word_52 U_bk_areEqual rfl lk_m_ag_66 I_bk_areEqual s_bk_areEqual np_bk_areEqual rfl rfl) (Nat.le_of_ble_eq_true rfl) (by decide) (fun r3 => ?_)
            refine mr_eq (st' := [.int r3]) (ex' := ex) (h2 := (HX x_members x_collaterals x_hasSent x_isSealed x_metered x_sealedCount bk_counts bk_needs bk_whens bk_sides bk_quantities bk_limits ag_toldLies ag_passedLies ag_words ag_vectors ag_liarOperator ag_rounds mk_entries mk_slots mk_remainders mk_blocks mk_blockBids mk_blockOffers mk_entryCount mk_blockCount cv_limits cv_bids cv_offers cv_count cv_allBids cv_allOffers cv_meetingPrice cv_sureBids cv_sureOffers cv_priceBids cv_priceOffers cv_volume cv_worth oc_prices oc_volumes oc_filled oc_worth oc_takenSet oc_isDone, hT)) (k' := 0) (n' := 0) rfl rfl rfl rfl rfl ?_
            refine mr_if_eq (tgt := 61) d_ag_word_55 (by decide) ?_ ?_
            · refine mr_iload d_ag_word_61 rfl ?_
              refine mr_iconst (v := (-1)) d_ag_word_63 mc_iconst_m1 ?_
              refine mr_icmp_eq (tgt := 84) d_ag_word_64 (by decide) ?_ ?_
              · refine mr_iload d_ag_word_84 rfl ?_
                refine mr_istore (lv' := [(5, .int r2), (7, .int r2), (0, .ref 12), (1, .int x1), (2, .int x2), (3, .int x3), (4, .int x4), (6, .int x6)]) d_ag_word_86 (by decide) rfl ?_
                refine mr_iinc (v := (x6 + 1)) (lv' := [(6, .int (x6 + 1)), (5, .int r2), (7, .int r2), (0, .ref 12), (1, .int x1), (2, .int x2), (3, .int x3), (4, .int x4)]) d_ag_word_88 rfl rfl (by decide) rfl ?_
                refine mr_goto (tgt := 15) d_ag_word_91 (by decide) ?_
                refine mr_sub (lv' := [(0, .ref 12), (1, .int x1), (2, .int x2), (3, .int x3), (4, .int x4), (5, .int r2), (6, .int (x6 + 1))]) [3, 4, 5, 6, 7, 1, 0] rfl ?_
                exact ih _ _ _
              · refine mr_aload_n d_ag_word_67 rfl rfl ?_
                refine mr_get K_ag 0 d_ag_word_68 lk_f_ag_9 (by decide) rfl rfl ?_
                refine mr_iload d_ag_word_71 rfl ?_
                refine mr_iload d_ag_word_73 rfl ?_
                refine mz_go (st := []) e_bk_areEqual (fun _ => rfl) U_bk_areEqual (mz_vV d_ag_word_75 U_bk_areEqual rfl lk_m_ag_66 I_bk_areEqual s_bk_areEqual np_bk_areEqual rfl rfl) (Nat.le_of_ble_eq_true rfl) (by decide) (fun r4 => ?_)
                refine mr_eq (st' := [.int r4]) (ex' := ex) (h2 := (HX x_members x_collaterals x_hasSent x_isSealed x_metered x_sealedCount bk_counts bk_needs bk_whens bk_sides bk_quantities bk_limits ag_toldLies ag_passedLies ag_words ag_vectors ag_liarOperator ag_rounds mk_entries mk_slots mk_remainders mk_blocks mk_blockBids mk_blockOffers mk_entryCount mk_blockCount cv_limits cv_bids cv_offers cv_count cv_allBids cv_allOffers cv_meetingPrice cv_sureBids cv_sureOffers cv_priceBids cv_priceOffers cv_volume cv_worth oc_prices oc_volumes oc_filled oc_worth oc_takenSet oc_isDone, hT)) (k' := 0) (n' := 0) rfl rfl rfl rfl rfl ?_
                refine mr_if_eq (tgt := 84) d_ag_word_78 (by decide) ?_ ?_
                · refine mr_iload d_ag_word_84 rfl ?_
                  refine mr_istore (lv' := [(5, .int r2), (7, .int r2), (0, .ref 12), (1, .int x1), (2, .int x2), (3, .int x3), (4, .int x4), (6, .int x6)]) d_ag_word_86 (by decide) rfl ?_
                  refine mr_iinc (v := (x6 + 1)) (lv' := [(6, .int (x6 + 1)), (5, .int r2), (7, .int r2), (0, .ref 12), (1, .int x1), (2, .int x2), (3, .int x3), (4, .int x4)]) d_ag_word_88 rfl rfl (by decide) rfl ?_
                  refine mr_goto (tgt := 15) d_ag_word_91 (by decide) ?_
                  refine mr_sub (lv' := [(0, .ref 12), (1, .int x1), (2, .int x2), (3, .int x3), (4, .int x4), (5, .int r2), (6, .int (x6 + 1))]) [3, 4, 5, 6, 7, 1, 0] rfl ?_
                  exact ih _ _ _
                · refine mr_iload d_ag_word_81 rfl ?_
                  exact mr_iret d_ag_word_83 rfl rfl
            · refine mr_iload d_ag_word_58 rfl ?_
              exact mr_iret d_ag_word_60 rfl rfl
  refine mz_of (by decide) (Nat.le_of_ble_eq_true rfl) ?_
  rw [f_ag_word]
  show mz_A g M_ag_word (mz_rm 3) _ 0 [(0, .ref 12), (1, .int x1), (2, .int x2), (3, .int x3)] [] ex (HX x_members x_collaterals x_hasSent x_isSealed x_metered x_sealedCount bk_counts bk_needs bk_whens bk_sides bk_quantities bk_limits ag_toldLies ag_passedLies ag_words ag_vectors ag_liarOperator ag_rounds mk_entries mk_slots mk_remainders mk_blocks mk_blockBids mk_blockOffers mk_entryCount mk_blockCount cv_limits cv_bids cv_offers cv_count cv_allBids cv_allOffers cv_meetingPrice cv_sureBids cv_sureOffers cv_priceBids cv_priceOffers cv_volume cv_worth oc_prices oc_volumes oc_filled oc_worth oc_takenSet oc_isDone, hT) 0 0 _
  refine mr_aload_n d_ag_word_0 rfl rfl ?_
  refine mr_iload_n d_ag_word_1 rfl rfl ?_
  refine mr_iload_n d_ag_word_2 rfl rfl ?_
  refine mr_iload_n d_ag_word_3 rfl rfl ?_
  refine mz_go (st := []) e_ag_told (fun _ => rfl) U_ag_told (mz_vV d_ag_word_4 U_ag_told rfl lk_m_ag_72 I_ag_told s_ag_told np_ag_told rfl rfl) (Nat.le_of_ble_eq_true rfl) (by decide) (fun r1 => ?_)
  refine mr_eq (st' := [.int r1]) (ex' := ex) (h2 := (HX x_members x_collaterals x_hasSent x_isSealed x_metered x_sealedCount bk_counts bk_needs bk_whens bk_sides bk_quantities bk_limits ag_toldLies ag_passedLies ag_words ag_vectors ag_liarOperator ag_rounds mk_entries mk_slots mk_remainders mk_blocks mk_blockBids mk_blockOffers mk_entryCount mk_blockCount cv_limits cv_bids cv_offers cv_count cv_allBids cv_allOffers cv_meetingPrice cv_sureBids cv_sureOffers cv_priceBids cv_priceOffers cv_volume cv_worth oc_prices oc_volumes oc_filled oc_worth oc_takenSet oc_isDone, hT)) (k' := 0) (n' := 0) rfl rfl rfl rfl rfl ?_
  refine mr_istore (lv' := [(4, .int r1), (0, .ref 12), (1, .int x1), (2, .int x2), (3, .int x3)]) d_ag_word_7 (by decide) rfl ?_
  refine mr_iconst (v := (-1)) d_ag_word_9 mc_iconst_m1 ?_
  refine mr_istore (lv' := [(5, .int (-1)), (4, .int r1), (0, .ref 12), (1, .int x1), (2, .int x2), (3, .int x3)]) d_ag_word_10 (by decide) rfl ?_
  refine mr_iconst (v := 0) d_ag_word_12 mc_iconst_0 ?_
  refine mr_istore (lv' := [(6, .int 0), (5, .int (-1)), (4, .int r1), (0, .ref 12), (1, .int x1), (2, .int x2), (3, .int x3)]) d_ag_word_13 (by decide) rfl ?_
  refine mr_sub (lv' := [(0, .ref 12), (1, .int x1), (2, .int x2), (3, .int x3), (4, .int r1), (5, .int (-1)), (6, .int 0)]) [3, 4, 5, 6, 2, 1, 0] rfl ?_
  exact w_L15 1000 _ _ _
set_option maxRecDepth 100000 in
set_option maxHeartbeats 4000000 in
theorem e_ag_wordsLike {g : mz_G} {ex : Bool} {hT : List mz_E} {x_members : Int32} {x_collaterals : Nat → Int32} {x_hasSent : Nat → Int32} {x_isSealed : Nat → Int32} {x_metered : Nat → Int32} {x_sealedCount : Int32} {bk_counts : Nat → Int32} {bk_needs : Nat → Int64} {bk_whens : Nat → Int32} {bk_sides : Nat → Int32} {bk_quantities : Nat → Int32} {bk_limits : Nat → Int32} {ag_toldLies : Nat → Int32} {ag_passedLies : Nat → Int32} {ag_words : Nat → Int32} {ag_vectors : Nat → Int32} {ag_liarOperator : Int32} {ag_rounds : Int32} {mk_entries : Nat → Int32} {mk_slots : Nat → Int32} {mk_remainders : Nat → Int32} {mk_blocks : Nat → Int32} {mk_blockBids : Nat → Int32} {mk_blockOffers : Nat → Int32} {mk_entryCount : Int32} {mk_blockCount : Int32} {cv_limits : Nat → Nat → Int32} {cv_bids : Nat → Nat → Int32} {cv_offers : Nat → Nat → Int32} {cv_count : Nat → Int32} {cv_allBids : Nat → Int32} {cv_allOffers : Nat → Int32} {cv_meetingPrice : Nat → Int32} {cv_sureBids : Nat → Int32} {cv_sureOffers : Nat → Int32} {cv_priceBids : Nat → Int32} {cv_priceOffers : Nat → Int32} {cv_volume : Nat → Int32} {cv_worth : Nat → Int64} {oc_prices : Nat → Nat → Int32} {oc_volumes : Nat → Nat → Int32} {oc_filled : Nat → Nat → Int32} {oc_worth : Nat → Int64} {oc_takenSet : Nat → Int32} {oc_isDone : Nat → Int32} {x1 : Int32} : mz_M g M_ag_wordsLike 2 [.ref 12, .int x1] ex (HX x_members x_collaterals x_hasSent x_isSealed x_metered x_sealedCount bk_counts bk_needs bk_whens bk_sides bk_quantities bk_limits ag_toldLies ag_passedLies ag_words ag_vectors ag_liarOperator ag_rounds mk_entries mk_slots mk_remainders mk_blocks mk_blockBids mk_blockOffers mk_entryCount mk_blockCount cv_limits cv_bids cv_offers cv_count cv_allBids cv_allOffers cv_meetingPrice cv_sureBids cv_sureOffers cv_priceBids cv_priceOffers cv_volume cv_worth oc_prices oc_volumes oc_filled oc_worth oc_takenSet oc_isDone, hT) (f_ag_wordsLike bk_counts bk_whens bk_sides bk_quantities bk_limits ag_words x1) (fun r => (0, some (.int r), ex, (HX x_members x_collaterals x_hasSent x_isSealed x_metered x_sealedCount bk_counts bk_needs bk_whens bk_sides bk_quantities bk_limits ag_toldLies ag_passedLies ag_words ag_vectors ag_liarOperator ag_rounds mk_entries mk_slots mk_remainders mk_blocks mk_blockBids mk_blockOffers mk_entryCount mk_blockCount cv_limits cv_bids cv_offers cv_count cv_allBids cv_allOffers cv_meetingPrice cv_sureBids cv_sureOffers cv_priceBids cv_priceOffers cv_volume cv_worth oc_prices oc_volumes oc_filled oc_worth oc_takenSet oc_isDone, hT), 0, 0)) := by
  have w_L4 : ∀ (n : Nat) (x2 : Int32) (x3 : Int32), mz_A g M_ag_wordsLike (mz_rm 2) (fun r => (0, some (.int r), ex, (HX x_members x_collaterals x_hasSent x_isSealed x_metered x_sealedCount bk_counts bk_needs bk_whens bk_sides bk_quantities bk_limits ag_toldLies ag_passedLies ag_words ag_vectors ag_liarOperator ag_rounds mk_entries mk_slots mk_remainders mk_blocks mk_blockBids mk_blockOffers mk_entryCount mk_blockCount cv_limits cv_bids cv_offers cv_count cv_allBids cv_allOffers cv_meetingPrice cv_sureBids cv_sureOffers cv_priceBids cv_priceOffers cv_volume cv_worth oc_prices oc_volumes oc_filled oc_worth oc_takenSet oc_isDone, hT), 0, 0)) 4 [(0, .ref 12), (1, .int x1), (2, .int x2), (3, .int x3)] [] ex (HX x_members x_collaterals x_hasSent x_isSealed x_metered x_sealedCount bk_counts bk_needs bk_whens bk_sides bk_quantities bk_limits ag_toldLies ag_passedLies ag_words ag_vectors ag_liarOperator ag_rounds mk_entries mk_slots mk_remainders mk_blocks mk_blockBids mk_blockOffers mk_entryCount mk_blockCount cv_limits cv_bids cv_offers cv_count cv_allBids cv_allOffers cv_meetingPrice cv_sureBids cv_sureOffers cv_priceBids cv_priceOffers cv_volume cv_worth oc_prices oc_volumes oc_filled oc_worth oc_takenSet oc_isDone, hT) 0 0 (f_ag_wordsLike_L4 bk_counts bk_whens bk_sides bk_quantities bk_limits ag_words x1 n x2 x3) := by
    intro n
    induction n with
    | zero => intro x2 x3; exact mr_none
    | succ n ih =>
      intro x2 x3
      rw [f_ag_wordsLike_L4]
      refine mr_iload_n d_ag_wordsLike_4 rfl rfl ?_
      refine mr_iconst (v := 4) d_ag_wordsLike_5 mc_iconst_4 ?_
      refine mr_icmp_ge (tgt := 35) d_ag_wordsLike_6 (by decide) ?_ ?_
      · refine mr_iload_n d_ag_wordsLike_35 rfl rfl ?_
        exact mr_iret d_ag_wordsLike_36 rfl rfl
      · refine mr_aload_n d_ag_wordsLike_9 rfl rfl ?_
        refine mr_get K_ag 0 d_ag_wordsLike_10 lk_f_ag_9 (by decide) rfl rfl ?_
        refine mr_aload_n d_ag_wordsLike_13 rfl rfl ?_
        refine mr_get K_ag 3 d_ag_wordsLike_14 lk_f_ag_22 (by decide) rfl rfl ?_
        refine mr_iload_n d_ag_wordsLike_17 rfl rfl ?_
        refine mr_iald d_ag_wordsLike_18 rfl (fun hc1 => ?_)
        refine mr_iload_n d_ag_wordsLike_19 rfl rfl ?_
        refine mz_go (st := []) e_bk_areEqual (fun _ => rfl) U_bk_areEqual (mz_vV d_ag_wordsLike_20 U_bk_areEqual rfl lk_m_ag_66 I_bk_areEqual s_bk_areEqual np_bk_areEqual rfl rfl) (Nat.le_of_ble_eq_true rfl) (by decide) (fun r2 => ?_)
        refine mr_eq (st' := [.int r2]) (ex' := ex) (h2 := (HX x_members x_collaterals x_hasSent x_isSealed x_metered x_sealedCount bk_counts bk_needs bk_whens bk_sides bk_quantities bk_limits ag_toldLies ag_passedLies ag_words ag_vectors ag_liarOperator ag_rounds mk_entries mk_slots mk_remainders mk_blocks mk_blockBids mk_blockOffers mk_entryCount mk_blockCount cv_limits cv_bids cv_offers cv_count cv_allBids cv_allOffers cv_meetingPrice cv_sureBids cv_sureOffers cv_priceBids cv_priceOffers cv_volume cv_worth oc_prices oc_volumes oc_filled oc_worth oc_takenSet oc_isDone, hT)) (k' := 0) (n' := 0) rfl rfl rfl rfl rfl ?_
        refine mr_if_eq (tgt := 29) d_ag_wordsLike_23 (by decide) ?_ ?_
        · refine mr_iinc (v := (x3 + 1)) (lv' := [(3, .int (x3 + 1)), (0, .ref 12), (1, .int x1), (2, .int x2)]) d_ag_wordsLike_29 rfl rfl (by decide) rfl ?_
          refine mr_goto (tgt := 4) d_ag_wordsLike_32 (by decide) ?_
          refine mr_sub (lv' := [(0, .ref 12), (1, .int x1), (2, .int x2), (3, .int (x3 + 1))]) [1, 2, 3, 0] rfl ?_
          exact ih _ _
        · refine mr_iinc (v := (x2 + 1)) (lv' := [(2, .int (x2 + 1)), (0, .ref 12), (1, .int x1), (3, .int x3)]) d_ag_wordsLike_26 rfl rfl (by decide) rfl ?_
          refine mr_iinc (v := (x3 + 1)) (lv' := [(3, .int (x3 + 1)), (2, .int (x2 + 1)), (0, .ref 12), (1, .int x1)]) d_ag_wordsLike_29 rfl rfl (by decide) rfl ?_
          refine mr_goto (tgt := 4) d_ag_wordsLike_32 (by decide) ?_
          refine mr_sub (lv' := [(0, .ref 12), (1, .int x1), (2, .int (x2 + 1)), (3, .int (x3 + 1))]) [2, 3, 1, 0] rfl ?_
          exact ih _ _
  refine mz_of (by decide) (Nat.le_of_ble_eq_true rfl) ?_
  rw [f_ag_wordsLike]
  show mz_A g M_ag_wordsLike (mz_rm 2) _ 0 [(0, .ref 12), (1, .int x1)] [] ex (HX x_members x_collaterals x_hasSent x_isSealed x_metered x_sealedCount bk_counts bk_needs bk_whens bk_sides bk_quantities bk_limits ag_toldLies ag_passedLies ag_words ag_vectors ag_liarOperator ag_rounds mk_entries mk_slots mk_remainders mk_blocks mk_blockBids mk_blockOffers mk_entryCount mk_blockCount cv_limits cv_bids cv_offers cv_count cv_allBids cv_allOffers cv_meetingPrice cv_sureBids cv_sureOffers cv_priceBids cv_priceOffers cv_volume cv_worth oc_prices oc_volumes oc_filled oc_worth oc_takenSet oc_isDone, hT) 0 0 _
  refine mr_iconst (v := 0) d_ag_wordsLike_0 mc_iconst_0 ?_
  refine mr_istore_n (lv' := [(2, .int 0), (0, .ref 12), (1, .int x1)]) d_ag_wordsLike_1 rfl (by decide) rfl ?_
  refine mr_iconst (v := 0) d_ag_wordsLike_2 mc_iconst_0 ?_
  refine mr_istore_n (lv' := [(3, .int 0), (2, .int 0), (0, .ref 12), (1, .int x1)]) d_ag_wordsLike_3 rfl (by decide) rfl ?_
  refine mr_sub (lv' := [(0, .ref 12), (1, .int x1), (2, .int 0), (3, .int 0)]) [2, 3, 1, 0] rfl ?_
  exact w_L4 1000 _ _
set_option maxRecDepth 100000 in
set_option maxHeartbeats 4000000 in
theorem e_ag_agreeOn {g : mz_G} {ex : Bool} {hT : List mz_E} {x_members : Int32} {x_collaterals : Nat → Int32} {x_hasSent : Nat → Int32} {x_isSealed : Nat → Int32} {x_metered : Nat → Int32} {x_sealedCount : Int32} {bk_counts : Nat → Int32} {bk_needs : Nat → Int64} {bk_whens : Nat → Int32} {bk_sides : Nat → Int32} {bk_quantities : Nat → Int32} {bk_limits : Nat → Int32} {ag_toldLies : Nat → Int32} {ag_passedLies : Nat → Int32} {ag_words : Nat → Int32} {ag_vectors : Nat → Int32} {ag_liarOperator : Int32} {ag_rounds : Int32} {mk_entries : Nat → Int32} {mk_slots : Nat → Int32} {mk_remainders : Nat → Int32} {mk_blocks : Nat → Int32} {mk_blockBids : Nat → Int32} {mk_blockOffers : Nat → Int32} {mk_entryCount : Int32} {mk_blockCount : Int32} {cv_limits : Nat → Nat → Int32} {cv_bids : Nat → Nat → Int32} {cv_offers : Nat → Nat → Int32} {cv_count : Nat → Int32} {cv_allBids : Nat → Int32} {cv_allOffers : Nat → Int32} {cv_meetingPrice : Nat → Int32} {cv_sureBids : Nat → Int32} {cv_sureOffers : Nat → Int32} {cv_priceBids : Nat → Int32} {cv_priceOffers : Nat → Int32} {cv_volume : Nat → Int32} {cv_worth : Nat → Int64} {oc_prices : Nat → Nat → Int32} {oc_volumes : Nat → Nat → Int32} {oc_filled : Nat → Nat → Int32} {oc_worth : Nat → Int64} {oc_takenSet : Nat → Int32} {oc_isDone : Nat → Int32} {x1 : Int32} {x2 : Int32} : mz_M g M_ag_agreeOn 4 [.ref 12, .int x1, .int x2] ex (HX x_members x_collaterals x_hasSent x_isSealed x_metered x_sealedCount bk_counts bk_needs bk_whens bk_sides bk_quantities bk_limits ag_toldLies ag_passedLies ag_words ag_vectors ag_liarOperator ag_rounds mk_entries mk_slots mk_remainders mk_blocks mk_blockBids mk_blockOffers mk_entryCount mk_blockCount cv_limits cv_bids cv_offers cv_count cv_allBids cv_allOffers cv_meetingPrice cv_sureBids cv_sureOffers cv_priceBids cv_priceOffers cv_volume cv_worth oc_prices oc_volumes oc_filled oc_worth oc_takenSet oc_isDone, hT) (f_ag_agreeOn bk_counts bk_whens bk_sides bk_quantities bk_limits ag_toldLies ag_passedLies ag_words ag_liarOperator x1 x2) (fun r => (0, some (.int r.1), ex, (HX x_members x_collaterals x_hasSent x_isSealed x_metered x_sealedCount bk_counts bk_needs bk_whens bk_sides bk_quantities bk_limits ag_toldLies ag_passedLies r.2 ag_vectors ag_liarOperator ag_rounds mk_entries mk_slots mk_remainders mk_blocks mk_blockBids mk_blockOffers mk_entryCount mk_blockCount cv_limits cv_bids cv_offers cv_count cv_allBids cv_allOffers cv_meetingPrice cv_sureBids cv_sureOffers cv_priceBids cv_priceOffers cv_volume cv_worth oc_prices oc_volumes oc_filled oc_worth oc_takenSet oc_isDone, hT), 0, 0)) := by
  have w_L41 : ∀ (n : Nat) (ag_words : Nat → Int32) (x3 : Int32), mz_A g M_ag_agreeOn (mz_rm 4) (fun r => (0, some (.int r.1), ex, (HX x_members x_collaterals x_hasSent x_isSealed x_metered x_sealedCount bk_counts bk_needs bk_whens bk_sides bk_quantities bk_limits ag_toldLies ag_passedLies r.2 ag_vectors ag_liarOperator ag_rounds mk_entries mk_slots mk_remainders mk_blocks mk_blockBids mk_blockOffers mk_entryCount mk_blockCount cv_limits cv_bids cv_offers cv_count cv_allBids cv_allOffers cv_meetingPrice cv_sureBids cv_sureOffers cv_priceBids cv_priceOffers cv_volume cv_worth oc_prices oc_volumes oc_filled oc_worth oc_takenSet oc_isDone, hT), 0, 0)) 41 [(0, .ref 12), (3, .int x3)] [] ex (HX x_members x_collaterals x_hasSent x_isSealed x_metered x_sealedCount bk_counts bk_needs bk_whens bk_sides bk_quantities bk_limits ag_toldLies ag_passedLies ag_words ag_vectors ag_liarOperator ag_rounds mk_entries mk_slots mk_remainders mk_blocks mk_blockBids mk_blockOffers mk_entryCount mk_blockCount cv_limits cv_bids cv_offers cv_count cv_allBids cv_allOffers cv_meetingPrice cv_sureBids cv_sureOffers cv_priceBids cv_priceOffers cv_volume cv_worth oc_prices oc_volumes oc_filled oc_worth oc_takenSet oc_isDone, hT) 0 0 (f_ag_agreeOn_L41 bk_counts bk_whens bk_sides bk_quantities bk_limits ag_toldLies ag_passedLies ag_liarOperator n ag_words x3) := by
    intro n
    induction n with
    | zero => intro ag_words x3; exact mr_none
    | succ n ih =>
      intro ag_words x3
      rw [f_ag_agreeOn_L41]
      refine mr_iload_n d_ag_agreeOn_41 rfl rfl ?_
      refine mr_iconst (v := 4) d_ag_agreeOn_42 mc_iconst_4 ?_
      refine mr_icmp_ge (tgt := 73) d_ag_agreeOn_43 (by decide) ?_ ?_
      · refine mr_bipush (v := 24) d_ag_agreeOn_73 mc_bipush_24 ?_
        exact mr_iret d_ag_agreeOn_75 rfl rfl
      · refine mr_aload_n d_ag_agreeOn_46 rfl rfl ?_
        refine mr_aload_n d_ag_agreeOn_47 rfl rfl ?_
        refine mr_get K_ag 3 d_ag_agreeOn_48 lk_f_ag_22 (by decide) rfl rfl ?_
        refine mr_iload_n d_ag_agreeOn_51 rfl rfl ?_
        refine mr_iald d_ag_agreeOn_52 rfl (fun hc5 => ?_)
        refine mz_go (st := []) e_ag_wordsLike (fun _ => rfl) U_ag_wordsLike (mz_vV d_ag_agreeOn_53 U_ag_wordsLike rfl lk_m_ag_62 I_ag_wordsLike s_ag_wordsLike np_ag_wordsLike rfl rfl) (Nat.le_of_ble_eq_true rfl) (by decide) (fun r6 => ?_)
        refine mr_eq (st' := [.int r6]) (ex' := ex) (h2 := (HX x_members x_collaterals x_hasSent x_isSealed x_metered x_sealedCount bk_counts bk_needs bk_whens bk_sides bk_quantities bk_limits ag_toldLies ag_passedLies ag_words ag_vectors ag_liarOperator ag_rounds mk_entries mk_slots mk_remainders mk_blocks mk_blockBids mk_blockOffers mk_entryCount mk_blockCount cv_limits cv_bids cv_offers cv_count cv_allBids cv_allOffers cv_meetingPrice cv_sureBids cv_sureOffers cv_priceBids cv_priceOffers cv_volume cv_worth oc_prices oc_volumes oc_filled oc_worth oc_takenSet oc_isDone, hT)) (k' := 0) (n' := 0) rfl rfl rfl rfl rfl ?_
        refine mr_iconst (v := 3) d_ag_agreeOn_56 mc_iconst_3 ?_
        refine mr_icmp_lt (tgt := 67) d_ag_agreeOn_57 (by decide) ?_ ?_
        · refine mr_iinc (v := (x3 + 1)) (lv' := [(3, .int (x3 + 1)), (0, .ref 12)]) d_ag_agreeOn_67 rfl rfl (by decide) rfl ?_
          refine mr_goto (tgt := 41) d_ag_agreeOn_70 (by decide) ?_
          refine mr_sub (lv' := [(0, .ref 12), (3, .int (x3 + 1))]) [1, 0] rfl ?_
          exact ih _ _
        · refine mr_aload_n d_ag_agreeOn_60 rfl rfl ?_
          refine mr_get K_ag 3 d_ag_agreeOn_61 lk_f_ag_22 (by decide) rfl rfl ?_
          refine mr_iload_n d_ag_agreeOn_64 rfl rfl ?_
          refine mr_ialdK d_ag_agreeOn_65 rfl hc5 ?_
          exact mr_iret d_ag_agreeOn_66 rfl rfl
  have w_L2 : ∀ (n : Nat) (ag_words : Nat → Int32) (x3 : Int32), mz_A g M_ag_agreeOn (mz_rm 4) (fun r => (0, some (.int r.1), ex, (HX x_members x_collaterals x_hasSent x_isSealed x_metered x_sealedCount bk_counts bk_needs bk_whens bk_sides bk_quantities bk_limits ag_toldLies ag_passedLies r.2 ag_vectors ag_liarOperator ag_rounds mk_entries mk_slots mk_remainders mk_blocks mk_blockBids mk_blockOffers mk_entryCount mk_blockCount cv_limits cv_bids cv_offers cv_count cv_allBids cv_allOffers cv_meetingPrice cv_sureBids cv_sureOffers cv_priceBids cv_priceOffers cv_volume cv_worth oc_prices oc_volumes oc_filled oc_worth oc_takenSet oc_isDone, hT), 0, 0)) 2 [(0, .ref 12), (1, .int x1), (2, .int x2), (3, .int x3)] [] ex (HX x_members x_collaterals x_hasSent x_isSealed x_metered x_sealedCount bk_counts bk_needs bk_whens bk_sides bk_quantities bk_limits ag_toldLies ag_passedLies ag_words ag_vectors ag_liarOperator ag_rounds mk_entries mk_slots mk_remainders mk_blocks mk_blockBids mk_blockOffers mk_entryCount mk_blockCount cv_limits cv_bids cv_offers cv_count cv_allBids cv_allOffers cv_meetingPrice cv_sureBids cv_sureOffers cv_priceBids cv_priceOffers cv_volume cv_worth oc_prices oc_volumes oc_filled oc_worth oc_takenSet oc_isDone, hT) 0 0 (f_ag_agreeOn_L2 bk_counts bk_whens bk_sides bk_quantities bk_limits ag_toldLies ag_passedLies ag_liarOperator x1 x2 n ag_words x3) := by
    intro n
    induction n with
    | zero => intro ag_words x3; exact mr_none
    | succ n ih =>
      intro ag_words x3
      rw [f_ag_agreeOn_L2]
      refine mr_iload_n d_ag_agreeOn_2 rfl rfl ?_
      refine mr_iconst (v := 4) d_ag_agreeOn_3 mc_iconst_4 ?_
      refine mr_icmp_ge (tgt := 39) d_ag_agreeOn_4 (by decide) ?_ ?_
      · refine mr_iconst (v := 0) d_ag_agreeOn_39 mc_iconst_0 ?_
        refine mr_istore_n (lv' := [(3, .int 0), (0, .ref 12), (1, .int x1), (2, .int x2)]) d_ag_agreeOn_40 rfl (by decide) rfl ?_
        refine mr_sub (lv' := [(0, .ref 12), (3, .int 0)]) [1, 0] rfl ?_
        exact w_L41 1000 _ _
      · refine mr_aload_n d_ag_agreeOn_7 rfl rfl ?_
        refine mr_get K_ag 3 d_ag_agreeOn_8 lk_f_ag_22 (by decide) rfl rfl ?_
        refine mr_iload_n d_ag_agreeOn_11 rfl rfl ?_
        refine mr_iload_n d_ag_agreeOn_12 rfl rfl ?_
        refine mr_iload_n d_ag_agreeOn_13 rfl rfl ?_
        refine mr_icmp_ne (tgt := 25) d_ag_agreeOn_14 (by decide) ?_ ?_
        · refine mr_aload_n d_ag_agreeOn_25 rfl rfl ?_
          refine mr_iload_n d_ag_agreeOn_26 rfl rfl ?_
          refine mr_iload_n d_ag_agreeOn_27 rfl rfl ?_
          refine mr_iload_n d_ag_agreeOn_28 rfl rfl ?_
          refine mz_go (st := [.int x3, .ref 15]) e_ag_word (fun _ => rfl) U_ag_word (mz_vV d_ag_agreeOn_29 U_ag_word rfl lk_m_ag_59 I_ag_word s_ag_word np_ag_word rfl rfl) (Nat.le_of_ble_eq_true rfl) (by decide) (fun r1 => ?_)
          refine mr_eq (st' := [.int r1, .int x3, .ref 15]) (ex' := ex) (h2 := (HX x_members x_collaterals x_hasSent x_isSealed x_metered x_sealedCount bk_counts bk_needs bk_whens bk_sides bk_quantities bk_limits ag_toldLies ag_passedLies ag_words ag_vectors ag_liarOperator ag_rounds mk_entries mk_slots mk_remainders mk_blocks mk_blockBids mk_blockOffers mk_entryCount mk_blockCount cv_limits cv_bids cv_offers cv_count cv_allBids cv_allOffers cv_meetingPrice cv_sureBids cv_sureOffers cv_priceBids cv_priceOffers cv_volume cv_worth oc_prices oc_volumes oc_filled oc_worth oc_takenSet oc_isDone, hT)) (k' := 0) (n' := 0) rfl rfl rfl rfl rfl ?_
          refine mr_iast (h2 := (HX x_members x_collaterals x_hasSent x_isSealed x_metered x_sealedCount bk_counts bk_needs bk_whens bk_sides bk_quantities bk_limits ag_toldLies ag_passedLies (upd ag_words x3.toNatClampNeg r1) ag_vectors ag_liarOperator ag_rounds mk_entries mk_slots mk_remainders mk_blocks mk_blockBids mk_blockOffers mk_entryCount mk_blockCount cv_limits cv_bids cv_offers cv_count cv_allBids cv_allOffers cv_meetingPrice cv_sureBids cv_sureOffers cv_priceBids cv_priceOffers cv_volume cv_worth oc_prices oc_volumes oc_filled oc_worth oc_takenSet oc_isDone, hT)) d_ag_agreeOn_32 rfl rfl (fun hc2 => ?_)
          refine mr_iinc (v := (x3 + 1)) (lv' := [(3, .int (x3 + 1)), (0, .ref 12), (1, .int x1), (2, .int x2)]) d_ag_agreeOn_33 rfl rfl (by decide) rfl ?_
          refine mr_goto (tgt := 2) d_ag_agreeOn_36 (by decide) ?_
          refine mr_sub (lv' := [(0, .ref 12), (1, .int x1), (2, .int x2), (3, .int (x3 + 1))]) [1, 2, 3, 0] rfl ?_
          exact ih _ _
        · refine mr_iload_n d_ag_agreeOn_17 rfl rfl ?_
          refine mr_iload_n d_ag_agreeOn_18 rfl rfl ?_
          refine mz_go (st := [.int x3, .ref 15]) e_ag_own (fun _ => rfl) U_ag_own (mz_vS d_ag_agreeOn_19 U_ag_own lk_m_ag_56 S_ag_own np_ag_own) (Nat.le_of_ble_eq_true rfl) (by decide) (fun r3 => ?_)
          refine mr_eq (st' := [.int r3, .int x3, .ref 15]) (ex' := ex) (h2 := (HX x_members x_collaterals x_hasSent x_isSealed x_metered x_sealedCount bk_counts bk_needs bk_whens bk_sides bk_quantities bk_limits ag_toldLies ag_passedLies ag_words ag_vectors ag_liarOperator ag_rounds mk_entries mk_slots mk_remainders mk_blocks mk_blockBids mk_blockOffers mk_entryCount mk_blockCount cv_limits cv_bids cv_offers cv_count cv_allBids cv_allOffers cv_meetingPrice cv_sureBids cv_sureOffers cv_priceBids cv_priceOffers cv_volume cv_worth oc_prices oc_volumes oc_filled oc_worth oc_takenSet oc_isDone, hT)) (k' := 0) (n' := 0) rfl rfl rfl rfl rfl ?_
          refine mr_goto (tgt := 32) d_ag_agreeOn_22 (by decide) ?_
          refine mr_iast (h2 := (HX x_members x_collaterals x_hasSent x_isSealed x_metered x_sealedCount bk_counts bk_needs bk_whens bk_sides bk_quantities bk_limits ag_toldLies ag_passedLies (upd ag_words x3.toNatClampNeg r3) ag_vectors ag_liarOperator ag_rounds mk_entries mk_slots mk_remainders mk_blocks mk_blockBids mk_blockOffers mk_entryCount mk_blockCount cv_limits cv_bids cv_offers cv_count cv_allBids cv_allOffers cv_meetingPrice cv_sureBids cv_sureOffers cv_priceBids cv_priceOffers cv_volume cv_worth oc_prices oc_volumes oc_filled oc_worth oc_takenSet oc_isDone, hT)) d_ag_agreeOn_32 rfl rfl (fun hc4 => ?_)
          refine mr_iinc (v := (x3 + 1)) (lv' := [(3, .int (x3 + 1)), (0, .ref 12), (1, .int x1), (2, .int x2)]) d_ag_agreeOn_33 rfl rfl (by decide) rfl ?_
          refine mr_goto (tgt := 2) d_ag_agreeOn_36 (by decide) ?_
          refine mr_sub (lv' := [(0, .ref 12), (1, .int x1), (2, .int x2), (3, .int (x3 + 1))]) [1, 2, 3, 0] rfl ?_
          exact ih _ _
  refine mz_of (by decide) (Nat.le_of_ble_eq_true rfl) ?_
  rw [f_ag_agreeOn]
  show mz_A g M_ag_agreeOn (mz_rm 4) _ 0 [(0, .ref 12), (1, .int x1), (2, .int x2)] [] ex (HX x_members x_collaterals x_hasSent x_isSealed x_metered x_sealedCount bk_counts bk_needs bk_whens bk_sides bk_quantities bk_limits ag_toldLies ag_passedLies ag_words ag_vectors ag_liarOperator ag_rounds mk_entries mk_slots mk_remainders mk_blocks mk_blockBids mk_blockOffers mk_entryCount mk_blockCount cv_limits cv_bids cv_offers cv_count cv_allBids cv_allOffers cv_meetingPrice cv_sureBids cv_sureOffers cv_priceBids cv_priceOffers cv_volume cv_worth oc_prices oc_volumes oc_filled oc_worth oc_takenSet oc_isDone, hT) 0 0 _
  refine mr_iconst (v := 0) d_ag_agreeOn_0 mc_iconst_0 ?_
  refine mr_istore_n (lv' := [(3, .int 0), (0, .ref 12), (1, .int x1), (2, .int x2)]) d_ag_agreeOn_1 rfl (by decide) rfl ?_
  refine mr_sub (lv' := [(0, .ref 12), (1, .int x1), (2, .int x2), (3, .int 0)]) [1, 2, 3, 0] rfl ?_
  exact w_L2 1000 _ _
set_option maxRecDepth 100000 in
set_option maxHeartbeats 4000000 in
theorem e_ag_isOver {g : mz_G} {ex : Bool} {hT : List mz_E} {x_members : Int32} {x_collaterals : Nat → Int32} {x_hasSent : Nat → Int32} {x_isSealed : Nat → Int32} {x_metered : Nat → Int32} {x_sealedCount : Int32} {bk_counts : Nat → Int32} {bk_needs : Nat → Int64} {bk_whens : Nat → Int32} {bk_sides : Nat → Int32} {bk_quantities : Nat → Int32} {bk_limits : Nat → Int32} {ag_toldLies : Nat → Int32} {ag_passedLies : Nat → Int32} {ag_words : Nat → Int32} {ag_vectors : Nat → Int32} {ag_liarOperator : Int32} {ag_rounds : Int32} {mk_entries : Nat → Int32} {mk_slots : Nat → Int32} {mk_remainders : Nat → Int32} {mk_blocks : Nat → Int32} {mk_blockBids : Nat → Int32} {mk_blockOffers : Nat → Int32} {mk_entryCount : Int32} {mk_blockCount : Int32} {cv_limits : Nat → Nat → Int32} {cv_bids : Nat → Nat → Int32} {cv_offers : Nat → Nat → Int32} {cv_count : Nat → Int32} {cv_allBids : Nat → Int32} {cv_allOffers : Nat → Int32} {cv_meetingPrice : Nat → Int32} {cv_sureBids : Nat → Int32} {cv_sureOffers : Nat → Int32} {cv_priceBids : Nat → Int32} {cv_priceOffers : Nat → Int32} {cv_volume : Nat → Int32} {cv_worth : Nat → Int64} {oc_prices : Nat → Nat → Int32} {oc_volumes : Nat → Nat → Int32} {oc_filled : Nat → Nat → Int32} {oc_worth : Nat → Int64} {oc_takenSet : Nat → Int32} {oc_isDone : Nat → Int32} : mz_M g M_ag_isOver 0 [.ref 12] ex (HX x_members x_collaterals x_hasSent x_isSealed x_metered x_sealedCount bk_counts bk_needs bk_whens bk_sides bk_quantities bk_limits ag_toldLies ag_passedLies ag_words ag_vectors ag_liarOperator ag_rounds mk_entries mk_slots mk_remainders mk_blocks mk_blockBids mk_blockOffers mk_entryCount mk_blockCount cv_limits cv_bids cv_offers cv_count cv_allBids cv_allOffers cv_meetingPrice cv_sureBids cv_sureOffers cv_priceBids cv_priceOffers cv_volume cv_worth oc_prices oc_volumes oc_filled oc_worth oc_takenSet oc_isDone, hT) (f_ag_isOver ag_rounds) (fun r => (0, some (.int r), ex, (HX x_members x_collaterals x_hasSent x_isSealed x_metered x_sealedCount bk_counts bk_needs bk_whens bk_sides bk_quantities bk_limits ag_toldLies ag_passedLies ag_words ag_vectors ag_liarOperator ag_rounds mk_entries mk_slots mk_remainders mk_blocks mk_blockBids mk_blockOffers mk_entryCount mk_blockCount cv_limits cv_bids cv_offers cv_count cv_allBids cv_allOffers cv_meetingPrice cv_sureBids cv_sureOffers cv_priceBids cv_priceOffers cv_volume cv_worth oc_prices oc_volumes oc_filled oc_worth oc_takenSet oc_isDone, hT), 0, 0)) := by
  refine mz_of (by decide) (Nat.le_of_ble_eq_true rfl) ?_
  rw [f_ag_isOver]
  show mz_A g M_ag_isOver (mz_rm 0) _ 0 [(0, .ref 12)] [] ex (HX x_members x_collaterals x_hasSent x_isSealed x_metered x_sealedCount bk_counts bk_needs bk_whens bk_sides bk_quantities bk_limits ag_toldLies ag_passedLies ag_words ag_vectors ag_liarOperator ag_rounds mk_entries mk_slots mk_remainders mk_blocks mk_blockBids mk_blockOffers mk_entryCount mk_blockCount cv_limits cv_bids cv_offers cv_count cv_allBids cv_allOffers cv_meetingPrice cv_sureBids cv_sureOffers cv_priceBids cv_priceOffers cv_volume cv_worth oc_prices oc_volumes oc_filled oc_worth oc_takenSet oc_isDone, hT) 0 0 _
  refine mr_aload_n d_ag_isOver_0 rfl rfl ?_
  refine mr_get K_ag 6 d_ag_isOver_1 lk_f_ag_35 (by decide) rfl rfl ?_
  refine mr_iconst (v := 3) d_ag_isOver_4 mc_iconst_3 ?_
  refine mr_icmp_lt (tgt := 12) d_ag_isOver_5 (by decide) ?_ ?_
  · refine mr_iconst (v := 0) d_ag_isOver_12 mc_iconst_0 ?_
    exact mr_zret d_ag_isOver_13 rfl rfl
  · refine mr_iconst (v := 1) d_ag_isOver_8 mc_iconst_1 ?_
    refine mr_goto (tgt := 13) d_ag_isOver_9 (by decide) ?_
    exact mr_zret d_ag_isOver_13 rfl rfl
set_option maxRecDepth 100000 in
set_option maxHeartbeats 4000000 in
theorem e_ag_vectorPlace {g : mz_G} {ex : Bool} {h : mz_H} {x0 : Int32} {x1 : Int32} : mz_M g M_ag_vectorPlace 0 [.int x0, .int x1] ex h (f_ag_vectorPlace x0 x1) (fun r => (0, some (.int r), ex, h, 0, 0)) := by
  refine mz_of (by decide) (Nat.le_of_ble_eq_true rfl) ?_
  rw [f_ag_vectorPlace]
  show mz_A g M_ag_vectorPlace (mz_rm 0) _ 0 [(0, .int x0), (1, .int x1)] [] ex h 0 0 _
  refine mr_bipush (v := 6) d_ag_vectorPlace_0 mc_bipush_6 ?_
  refine mr_iload_n d_ag_vectorPlace_2 rfl rfl ?_
  refine mr_imul d_ag_vectorPlace_3 ?_
  refine mr_iload_n d_ag_vectorPlace_4 rfl rfl ?_
  refine mr_iadd d_ag_vectorPlace_5 ?_
  exact mr_iret d_ag_vectorPlace_6 rfl rfl
set_option maxRecDepth 100000 in
set_option maxHeartbeats 4000000 in
theorem e_ag_goOn {g : mz_G} {ex : Bool} {hT : List mz_E} {x_members : Int32} {x_collaterals : Nat → Int32} {x_hasSent : Nat → Int32} {x_isSealed : Nat → Int32} {x_metered : Nat → Int32} {x_sealedCount : Int32} {bk_counts : Nat → Int32} {bk_needs : Nat → Int64} {bk_whens : Nat → Int32} {bk_sides : Nat → Int32} {bk_quantities : Nat → Int32} {bk_limits : Nat → Int32} {ag_toldLies : Nat → Int32} {ag_passedLies : Nat → Int32} {ag_words : Nat → Int32} {ag_vectors : Nat → Int32} {ag_liarOperator : Int32} {ag_rounds : Int32} {mk_entries : Nat → Int32} {mk_slots : Nat → Int32} {mk_remainders : Nat → Int32} {mk_blocks : Nat → Int32} {mk_blockBids : Nat → Int32} {mk_blockOffers : Nat → Int32} {mk_entryCount : Int32} {mk_blockCount : Int32} {cv_limits : Nat → Nat → Int32} {cv_bids : Nat → Nat → Int32} {cv_offers : Nat → Nat → Int32} {cv_count : Nat → Int32} {cv_allBids : Nat → Int32} {cv_allOffers : Nat → Int32} {cv_meetingPrice : Nat → Int32} {cv_sureBids : Nat → Int32} {cv_sureOffers : Nat → Int32} {cv_priceBids : Nat → Int32} {cv_priceOffers : Nat → Int32} {cv_volume : Nat → Int32} {cv_worth : Nat → Int64} {oc_prices : Nat → Nat → Int32} {oc_volumes : Nat → Nat → Int32} {oc_filled : Nat → Nat → Int32} {oc_worth : Nat → Int64} {oc_takenSet : Nat → Int32} {oc_isDone : Nat → Int32} {x1 : Int32} : mz_M g M_ag_goOn 5 [.ref 12, .int x1] ex (HX x_members x_collaterals x_hasSent x_isSealed x_metered x_sealedCount bk_counts bk_needs bk_whens bk_sides bk_quantities bk_limits ag_toldLies ag_passedLies ag_words ag_vectors ag_liarOperator ag_rounds mk_entries mk_slots mk_remainders mk_blocks mk_blockBids mk_blockOffers mk_entryCount mk_blockCount cv_limits cv_bids cv_offers cv_count cv_allBids cv_allOffers cv_meetingPrice cv_sureBids cv_sureOffers cv_priceBids cv_priceOffers cv_volume cv_worth oc_prices oc_volumes oc_filled oc_worth oc_takenSet oc_isDone, hT) (f_ag_goOn bk_counts bk_whens bk_sides bk_quantities bk_limits ag_toldLies ag_passedLies ag_words ag_vectors ag_liarOperator ag_rounds x1) (fun r => (0, some (.int r.1), ex, (HX x_members x_collaterals x_hasSent x_isSealed x_metered x_sealedCount bk_counts bk_needs bk_whens bk_sides bk_quantities bk_limits ag_toldLies ag_passedLies r.2.1 r.2.2.1 ag_liarOperator r.2.2.2 mk_entries mk_slots mk_remainders mk_blocks mk_blockBids mk_blockOffers mk_entryCount mk_blockCount cv_limits cv_bids cv_offers cv_count cv_allBids cv_allOffers cv_meetingPrice cv_sureBids cv_sureOffers cv_priceBids cv_priceOffers cv_volume cv_worth oc_prices oc_volumes oc_filled oc_worth oc_takenSet oc_isDone, hT), 0, 0)) := by
  have w_L26 : ∀ (K19 : (Nat → Int32) → (Nat → Int32) → Int32 → Int32 → Option (Int32 × (Nat → Int32) × (Nat → Int32) × Int32)), (∀ (ag_words : Nat → Int32) (ag_vectors : Nat → Int32) (ag_rounds : Int32) (x2 : Int32), mz_A g M_ag_goOn (mz_rm 5) (fun r => (0, some (.int r.1), ex, (HX x_members x_collaterals x_hasSent x_isSealed x_metered x_sealedCount bk_counts bk_needs bk_whens bk_sides bk_quantities bk_limits ag_toldLies ag_passedLies r.2.1 r.2.2.1 ag_liarOperator r.2.2.2 mk_entries mk_slots mk_remainders mk_blocks mk_blockBids mk_blockOffers mk_entryCount mk_blockCount cv_limits cv_bids cv_offers cv_count cv_allBids cv_allOffers cv_meetingPrice cv_sureBids cv_sureOffers cv_priceBids cv_priceOffers cv_volume cv_worth oc_prices oc_volumes oc_filled oc_worth oc_takenSet oc_isDone, hT), 0, 0)) 19 [(0, .ref 12), (1, .int x1), (2, .int x2)] [] ex (HX x_members x_collaterals x_hasSent x_isSealed x_metered x_sealedCount bk_counts bk_needs bk_whens bk_sides bk_quantities bk_limits ag_toldLies ag_passedLies ag_words ag_vectors ag_liarOperator ag_rounds mk_entries mk_slots mk_remainders mk_blocks mk_blockBids mk_blockOffers mk_entryCount mk_blockCount cv_limits cv_bids cv_offers cv_count cv_allBids cv_allOffers cv_meetingPrice cv_sureBids cv_sureOffers cv_priceBids cv_priceOffers cv_volume cv_worth oc_prices oc_volumes oc_filled oc_worth oc_takenSet oc_isDone, hT) 0 0 (K19 ag_words ag_vectors ag_rounds x2)) → ∀ (n : Nat) (ag_words : Nat → Int32) (ag_vectors : Nat → Int32) (ag_rounds : Int32) (x2 : Int32) (x3 : Int32), mz_A g M_ag_goOn (mz_rm 5) (fun r => (0, some (.int r.1), ex, (HX x_members x_collaterals x_hasSent x_isSealed x_metered x_sealedCount bk_counts bk_needs bk_whens bk_sides bk_quantities bk_limits ag_toldLies ag_passedLies r.2.1 r.2.2.1 ag_liarOperator r.2.2.2 mk_entries mk_slots mk_remainders mk_blocks mk_blockBids mk_blockOffers mk_entryCount mk_blockCount cv_limits cv_bids cv_offers cv_count cv_allBids cv_allOffers cv_meetingPrice cv_sureBids cv_sureOffers cv_priceBids cv_priceOffers cv_volume cv_worth oc_prices oc_volumes oc_filled oc_worth oc_takenSet oc_isDone, hT), 0, 0)) 26 [(0, .ref 12), (1, .int x1), (2, .int x2), (3, .int x3)] [] ex (HX x_members x_collaterals x_hasSent x_isSealed x_metered x_sealedCount bk_counts bk_needs bk_whens bk_sides bk_quantities bk_limits ag_toldLies ag_passedLies ag_words ag_vectors ag_liarOperator ag_rounds mk_entries mk_slots mk_remainders mk_blocks mk_blockBids mk_blockOffers mk_entryCount mk_blockCount cv_limits cv_bids cv_offers cv_count cv_allBids cv_allOffers cv_meetingPrice cv_sureBids cv_sureOffers cv_priceBids cv_priceOffers cv_volume cv_worth oc_prices oc_volumes oc_filled oc_worth oc_takenSet oc_isDone, hT) 0 0 (f_ag_goOn_L26 bk_counts bk_whens bk_sides bk_quantities bk_limits ag_toldLies ag_passedLies ag_liarOperator x1 K19 n ag_words ag_vectors ag_rounds x2 x3) := by
    intro K19 hK19
    intro n
    induction n with
    | zero => intro ag_words ag_vectors ag_rounds x2 x3; exact mr_none
    | succ n ih =>
      intro ag_words ag_vectors ag_rounds x2 x3
      rw [f_ag_goOn_L26]
      refine mr_iload_n d_ag_goOn_26 rfl rfl ?_
      refine mr_iload_n d_ag_goOn_27 rfl rfl ?_
      refine mr_icmp_ge (tgt := 53) d_ag_goOn_28 (by decide) ?_ ?_
      · refine mr_iinc (v := (x2 + 1)) (lv' := [(2, .int (x2 + 1)), (0, .ref 12), (1, .int x1), (3, .int x3)]) d_ag_goOn_53 rfl rfl (by decide) rfl ?_
        refine mr_goto (tgt := 19) d_ag_goOn_56 (by decide) ?_
        refine mr_sub (lv' := [(0, .ref 12), (1, .int x1), (2, .int (x2 + 1))]) [1, 2, 0] rfl ?_
        exact hK19 _ _ _ _
      · refine mr_aload_n d_ag_goOn_31 rfl rfl ?_
        refine mr_get K_ag 4 d_ag_goOn_32 lk_f_ag_25 (by decide) rfl rfl ?_
        refine mr_iload_n d_ag_goOn_35 rfl rfl ?_
        refine mr_iload_n d_ag_goOn_36 rfl rfl ?_
        refine mz_go (st := [.ref 16]) e_ag_vectorPlace (fun _ => rfl) U_ag_vectorPlace (mz_vS d_ag_goOn_37 U_ag_vectorPlace lk_m_ag_50 S_ag_vectorPlace np_ag_vectorPlace) (Nat.le_of_ble_eq_true rfl) (by decide) (fun r2 => ?_)
        refine mr_eq (st' := [.int r2, .ref 16]) (ex' := ex) (h2 := (HX x_members x_collaterals x_hasSent x_isSealed x_metered x_sealedCount bk_counts bk_needs bk_whens bk_sides bk_quantities bk_limits ag_toldLies ag_passedLies ag_words ag_vectors ag_liarOperator ag_rounds mk_entries mk_slots mk_remainders mk_blocks mk_blockBids mk_blockOffers mk_entryCount mk_blockCount cv_limits cv_bids cv_offers cv_count cv_allBids cv_allOffers cv_meetingPrice cv_sureBids cv_sureOffers cv_priceBids cv_priceOffers cv_volume cv_worth oc_prices oc_volumes oc_filled oc_worth oc_takenSet oc_isDone, hT)) (k' := 0) (n' := 0) rfl rfl rfl rfl rfl ?_
        refine mr_aload_n d_ag_goOn_40 rfl rfl ?_
        refine mr_iload_n d_ag_goOn_41 rfl rfl ?_
        refine mr_iload_n d_ag_goOn_42 rfl rfl ?_
        refine mz_go (st := [.int r2, .ref 16]) e_ag_agreeOn (fun _ => rfl) U_ag_agreeOn (mz_vV d_ag_goOn_43 U_ag_agreeOn rfl lk_m_ag_53 I_ag_agreeOn s_ag_agreeOn np_ag_agreeOn rfl rfl) (Nat.le_of_ble_eq_true rfl) (by decide) (fun r3 => ?_)
        refine mr_eq (st' := [.int r3.1, .int r2, .ref 16]) (ex' := ex) (h2 := (HX x_members x_collaterals x_hasSent x_isSealed x_metered x_sealedCount bk_counts bk_needs bk_whens bk_sides bk_quantities bk_limits ag_toldLies ag_passedLies r3.2 ag_vectors ag_liarOperator ag_rounds mk_entries mk_slots mk_remainders mk_blocks mk_blockBids mk_blockOffers mk_entryCount mk_blockCount cv_limits cv_bids cv_offers cv_count cv_allBids cv_allOffers cv_meetingPrice cv_sureBids cv_sureOffers cv_priceBids cv_priceOffers cv_volume cv_worth oc_prices oc_volumes oc_filled oc_worth oc_takenSet oc_isDone, hT)) (k' := 0) (n' := 0) rfl rfl rfl rfl rfl ?_
        refine mr_iast (h2 := (HX x_members x_collaterals x_hasSent x_isSealed x_metered x_sealedCount bk_counts bk_needs bk_whens bk_sides bk_quantities bk_limits ag_toldLies ag_passedLies r3.2 (upd ag_vectors r2.toNatClampNeg r3.1) ag_liarOperator ag_rounds mk_entries mk_slots mk_remainders mk_blocks mk_blockBids mk_blockOffers mk_entryCount mk_blockCount cv_limits cv_bids cv_offers cv_count cv_allBids cv_allOffers cv_meetingPrice cv_sureBids cv_sureOffers cv_priceBids cv_priceOffers cv_volume cv_worth oc_prices oc_volumes oc_filled oc_worth oc_takenSet oc_isDone, hT)) d_ag_goOn_46 rfl rfl (fun hc4 => ?_)
        refine mr_iinc (v := (x3 + 1)) (lv' := [(3, .int (x3 + 1)), (0, .ref 12), (1, .int x1), (2, .int x2)]) d_ag_goOn_47 rfl rfl (by decide) rfl ?_
        refine mr_goto (tgt := 26) d_ag_goOn_50 (by decide) ?_
        refine mr_sub (lv' := [(0, .ref 12), (1, .int x1), (2, .int x2), (3, .int (x3 + 1))]) [1, 2, 3, 0] rfl ?_
        exact ih _ _ _ _ _
  have w_L19 : ∀ (n : Nat) (ag_words : Nat → Int32) (ag_vectors : Nat → Int32) (ag_rounds : Int32) (x2 : Int32), mz_A g M_ag_goOn (mz_rm 5) (fun r => (0, some (.int r.1), ex, (HX x_members x_collaterals x_hasSent x_isSealed x_metered x_sealedCount bk_counts bk_needs bk_whens bk_sides bk_quantities bk_limits ag_toldLies ag_passedLies r.2.1 r.2.2.1 ag_liarOperator r.2.2.2 mk_entries mk_slots mk_remainders mk_blocks mk_blockBids mk_blockOffers mk_entryCount mk_blockCount cv_limits cv_bids cv_offers cv_count cv_allBids cv_allOffers cv_meetingPrice cv_sureBids cv_sureOffers cv_priceBids cv_priceOffers cv_volume cv_worth oc_prices oc_volumes oc_filled oc_worth oc_takenSet oc_isDone, hT), 0, 0)) 19 [(0, .ref 12), (1, .int x1), (2, .int x2)] [] ex (HX x_members x_collaterals x_hasSent x_isSealed x_metered x_sealedCount bk_counts bk_needs bk_whens bk_sides bk_quantities bk_limits ag_toldLies ag_passedLies ag_words ag_vectors ag_liarOperator ag_rounds mk_entries mk_slots mk_remainders mk_blocks mk_blockBids mk_blockOffers mk_entryCount mk_blockCount cv_limits cv_bids cv_offers cv_count cv_allBids cv_allOffers cv_meetingPrice cv_sureBids cv_sureOffers cv_priceBids cv_priceOffers cv_volume cv_worth oc_prices oc_volumes oc_filled oc_worth oc_takenSet oc_isDone, hT) 0 0 (f_ag_goOn_L19 bk_counts bk_whens bk_sides bk_quantities bk_limits ag_toldLies ag_passedLies ag_liarOperator x1 n ag_words ag_vectors ag_rounds x2) := by
    intro n
    induction n with
    | zero => intro ag_words ag_vectors ag_rounds x2; exact mr_none
    | succ n ih =>
      intro ag_words ag_vectors ag_rounds x2
      rw [f_ag_goOn_L19]
      refine mr_iload_n d_ag_goOn_19 rfl rfl ?_
      refine mr_iconst (v := 4) d_ag_goOn_20 mc_iconst_4 ?_
      refine mr_icmp_ge (tgt := 59) d_ag_goOn_21 (by decide) ?_ ?_
      · refine mr_aload_n d_ag_goOn_59 rfl rfl ?_
        refine mr_get K_ag 6 d_ag_goOn_60 lk_f_ag_35 (by decide) rfl rfl ?_
        exact mr_iret d_ag_goOn_63 rfl rfl
      · refine mr_iconst (v := 0) d_ag_goOn_24 mc_iconst_0 ?_
        refine mr_istore_n (lv' := [(3, .int 0), (0, .ref 12), (1, .int x1), (2, .int x2)]) d_ag_goOn_25 rfl (by decide) rfl ?_
        refine mr_sub (lv' := [(0, .ref 12), (1, .int x1), (2, .int x2), (3, .int 0)]) [1, 2, 3, 0] rfl ?_
        exact w_L26 _ ih 1000 _ _ _ _ _
  refine mz_of (by decide) (Nat.le_of_ble_eq_true rfl) ?_
  rw [f_ag_goOn]
  show mz_A g M_ag_goOn (mz_rm 5) _ 0 [(0, .ref 12), (1, .int x1)] [] ex (HX x_members x_collaterals x_hasSent x_isSealed x_metered x_sealedCount bk_counts bk_needs bk_whens bk_sides bk_quantities bk_limits ag_toldLies ag_passedLies ag_words ag_vectors ag_liarOperator ag_rounds mk_entries mk_slots mk_remainders mk_blocks mk_blockBids mk_blockOffers mk_entryCount mk_blockCount cv_limits cv_bids cv_offers cv_count cv_allBids cv_allOffers cv_meetingPrice cv_sureBids cv_sureOffers cv_priceBids cv_priceOffers cv_volume cv_worth oc_prices oc_volumes oc_filled oc_worth oc_takenSet oc_isDone, hT) 0 0 _
  refine mr_aload_n d_ag_goOn_0 rfl rfl ?_
  refine mr_dup d_ag_goOn_1 rfl ?_
  refine mr_get K_ag 6 d_ag_goOn_2 lk_f_ag_35 (by decide) rfl rfl ?_
  refine mr_iconst (v := 1) d_ag_goOn_5 mc_iconst_1 ?_
  refine mr_iadd d_ag_goOn_6 ?_
  refine mr_put (h2 := (HX x_members x_collaterals x_hasSent x_isSealed x_metered x_sealedCount bk_counts bk_needs bk_whens bk_sides bk_quantities bk_limits ag_toldLies ag_passedLies ag_words ag_vectors ag_liarOperator (ag_rounds + 1) mk_entries mk_slots mk_remainders mk_blocks mk_blockBids mk_blockOffers mk_entryCount mk_blockCount cv_limits cv_bids cv_offers cv_count cv_allBids cv_allOffers cv_meetingPrice cv_sureBids cv_sureOffers cv_priceBids cv_priceOffers cv_volume cv_worth oc_prices oc_volumes oc_filled oc_worth oc_takenSet oc_isDone, hT)) K_ag 6 d_ag_goOn_7 lk_f_ag_35 (by decide) rfl rfl rfl (Nat.le_of_ble_eq_true rfl) rfl rfl ?_
  refine mr_aload_n d_ag_goOn_10 rfl rfl ?_
  refine mz_go (st := []) e_ag_isOver (fun _ => rfl) U_ag_isOver (mz_vV d_ag_goOn_11 U_ag_isOver rfl lk_m_ag_46 I_ag_isOver s_ag_isOver np_ag_isOver rfl rfl) (Nat.le_of_ble_eq_true rfl) (by decide) (fun r1 => ?_)
  refine mr_eq (st' := [.int r1]) (ex' := ex) (h2 := (HX x_members x_collaterals x_hasSent x_isSealed x_metered x_sealedCount bk_counts bk_needs bk_whens bk_sides bk_quantities bk_limits ag_toldLies ag_passedLies ag_words ag_vectors ag_liarOperator (ag_rounds + 1) mk_entries mk_slots mk_remainders mk_blocks mk_blockBids mk_blockOffers mk_entryCount mk_blockCount cv_limits cv_bids cv_offers cv_count cv_allBids cv_allOffers cv_meetingPrice cv_sureBids cv_sureOffers cv_priceBids cv_priceOffers cv_volume cv_worth oc_prices oc_volumes oc_filled oc_worth oc_takenSet oc_isDone, hT)) (k' := 0) (n' := 0) rfl rfl rfl rfl rfl ?_
  refine mr_if_eq (tgt := 59) d_ag_goOn_14 (by decide) ?_ ?_
  · refine mr_aload_n d_ag_goOn_59 rfl rfl ?_
    refine mr_get K_ag 6 d_ag_goOn_60 lk_f_ag_35 (by decide) rfl rfl ?_
    exact mr_iret d_ag_goOn_63 rfl rfl
  · refine mr_iconst (v := 0) d_ag_goOn_17 mc_iconst_0 ?_
    refine mr_istore_n (lv' := [(2, .int 0), (0, .ref 12), (1, .int x1)]) d_ag_goOn_18 rfl (by decide) rfl ?_
    refine mr_sub (lv' := [(0, .ref 12), (1, .int x1), (2, .int 0)]) [1, 2, 0] rfl ?_
    exact w_L19 1000 _ _ _ _
set_option maxRecDepth 100000 in
set_option maxHeartbeats 4000000 in
theorem e_x_round {g : mz_G} {ex : Bool} {hT : List mz_E} {x_members : Int32} {x_collaterals : Nat → Int32} {x_hasSent : Nat → Int32} {x_isSealed : Nat → Int32} {x_metered : Nat → Int32} {x_sealedCount : Int32} {bk_counts : Nat → Int32} {bk_needs : Nat → Int64} {bk_whens : Nat → Int32} {bk_sides : Nat → Int32} {bk_quantities : Nat → Int32} {bk_limits : Nat → Int32} {ag_toldLies : Nat → Int32} {ag_passedLies : Nat → Int32} {ag_words : Nat → Int32} {ag_vectors : Nat → Int32} {ag_liarOperator : Int32} {ag_rounds : Int32} {mk_entries : Nat → Int32} {mk_slots : Nat → Int32} {mk_remainders : Nat → Int32} {mk_blocks : Nat → Int32} {mk_blockBids : Nat → Int32} {mk_blockOffers : Nat → Int32} {mk_entryCount : Int32} {mk_blockCount : Int32} {cv_limits : Nat → Nat → Int32} {cv_bids : Nat → Nat → Int32} {cv_offers : Nat → Nat → Int32} {cv_count : Nat → Int32} {cv_allBids : Nat → Int32} {cv_allOffers : Nat → Int32} {cv_meetingPrice : Nat → Int32} {cv_sureBids : Nat → Int32} {cv_sureOffers : Nat → Int32} {cv_priceBids : Nat → Int32} {cv_priceOffers : Nat → Int32} {cv_volume : Nat → Int32} {cv_worth : Nat → Int64} {oc_prices : Nat → Nat → Int32} {oc_volumes : Nat → Nat → Int32} {oc_filled : Nat → Nat → Int32} {oc_worth : Nat → Int64} {oc_takenSet : Nat → Int32} {oc_isDone : Nat → Int32} : mz_M g M_x_round 6 [.ref 0] ex (HX x_members x_collaterals x_hasSent x_isSealed x_metered x_sealedCount bk_counts bk_needs bk_whens bk_sides bk_quantities bk_limits ag_toldLies ag_passedLies ag_words ag_vectors ag_liarOperator ag_rounds mk_entries mk_slots mk_remainders mk_blocks mk_blockBids mk_blockOffers mk_entryCount mk_blockCount cv_limits cv_bids cv_offers cv_count cv_allBids cv_allOffers cv_meetingPrice cv_sureBids cv_sureOffers cv_priceBids cv_priceOffers cv_volume cv_worth oc_prices oc_volumes oc_filled oc_worth oc_takenSet oc_isDone, hT) (f_x_round x_members x_sealedCount bk_counts bk_whens bk_sides bk_quantities bk_limits ag_toldLies ag_passedLies ag_words ag_vectors ag_liarOperator ag_rounds) (fun r => (r.1, some (.int r.2.1), mz_x ex r.1, (HX x_members x_collaterals x_hasSent x_isSealed x_metered x_sealedCount bk_counts bk_needs bk_whens bk_sides bk_quantities bk_limits ag_toldLies ag_passedLies r.2.2.1 r.2.2.2.1 ag_liarOperator r.2.2.2.2 mk_entries mk_slots mk_remainders mk_blocks mk_blockBids mk_blockOffers mk_entryCount mk_blockCount cv_limits cv_bids cv_offers cv_count cv_allBids cv_allOffers cv_meetingPrice cv_sureBids cv_sureOffers cv_priceBids cv_priceOffers cv_volume cv_worth oc_prices oc_volumes oc_filled oc_worth oc_takenSet oc_isDone, hT), mz_k r.1, mz_6 r.1)) := by
  have w_b21 : ∀ (ag_words : Nat → Int32) (ag_vectors : Nat → Int32) (ag_rounds : Int32), mz_A g M_x_round (mz_rm 6) (fun r => (r.1, some (.int r.2.1), mz_x ex r.1, (HX x_members x_collaterals x_hasSent x_isSealed x_metered x_sealedCount bk_counts bk_needs bk_whens bk_sides bk_quantities bk_limits ag_toldLies ag_passedLies r.2.2.1 r.2.2.2.1 ag_liarOperator r.2.2.2.2 mk_entries mk_slots mk_remainders mk_blocks mk_blockBids mk_blockOffers mk_entryCount mk_blockCount cv_limits cv_bids cv_offers cv_count cv_allBids cv_allOffers cv_meetingPrice cv_sureBids cv_sureOffers cv_priceBids cv_priceOffers cv_volume cv_worth oc_prices oc_volumes oc_filled oc_worth oc_takenSet oc_isDone, hT), mz_k r.1, mz_6 r.1)) 21 [] [] ex (HX x_members x_collaterals x_hasSent x_isSealed x_metered x_sealedCount bk_counts bk_needs bk_whens bk_sides bk_quantities bk_limits ag_toldLies ag_passedLies ag_words ag_vectors ag_liarOperator ag_rounds mk_entries mk_slots mk_remainders mk_blocks mk_blockBids mk_blockOffers mk_entryCount mk_blockCount cv_limits cv_bids cv_offers cv_count cv_allBids cv_allOffers cv_meetingPrice cv_sureBids cv_sureOffers cv_priceBids cv_priceOffers cv_volume cv_worth oc_prices oc_volumes oc_filled oc_worth oc_takenSet oc_isDone, hT) 0 0 (f_x_round_b21 x_members x_sealedCount bk_counts bk_whens bk_sides bk_quantities bk_limits ag_toldLies ag_passedLies ag_liarOperator ag_words ag_vectors ag_rounds) := by
    intro  ag_words ag_vectors ag_rounds
    rw [f_x_round_b21]
    exact mr_throw d_x_round_21 d_x_round_24 d_x_round_25 d_x_round_27 d_x_round_30 tw_x_135_2 rfl (Nat.le_of_ble_eq_true rfl) (Nat.le_of_ble_eq_true rfl) (Nat.le_of_ble_eq_true rfl) (Nat.le_of_ble_eq_true rfl) rfl
  refine mz_of (by decide) (Nat.le_of_ble_eq_true rfl) ?_
  rw [f_x_round]
  show mz_A g M_x_round (mz_rm 6) _ 0 [(0, .ref 0)] [] ex (HX x_members x_collaterals x_hasSent x_isSealed x_metered x_sealedCount bk_counts bk_needs bk_whens bk_sides bk_quantities bk_limits ag_toldLies ag_passedLies ag_words ag_vectors ag_liarOperator ag_rounds mk_entries mk_slots mk_remainders mk_blocks mk_blockBids mk_blockOffers mk_entryCount mk_blockCount cv_limits cv_bids cv_offers cv_count cv_allBids cv_allOffers cv_meetingPrice cv_sureBids cv_sureOffers cv_priceBids cv_priceOffers cv_volume cv_worth oc_prices oc_volumes oc_filled oc_worth oc_takenSet oc_isDone, hT) 0 0 _
  refine mr_aload_n d_x_round_0 rfl rfl ?_
  refine mr_get K_x 9 d_x_round_1 lk_f_x_57 (by decide) rfl rfl ?_
  refine mr_aload_n d_x_round_4 rfl rfl ?_
  refine mr_get K_x 0 d_x_round_5 lk_f_x_9 (by decide) rfl rfl ?_
  refine mr_icmp_lt (tgt := 21) d_x_round_8 (by decide) ?_ ?_
  · refine mr_sub (lv' := []) [] rfl ?_
    exact w_b21 _ _ _
  · refine mr_aload_n d_x_round_11 rfl rfl ?_
    refine mr_get K_x 6 d_x_round_12 lk_f_x_39 (by decide) rfl rfl ?_
    refine mz_go (st := []) e_ag_isOver (fun _ => rfl) U_ag_isOver (mz_vV d_x_round_15 U_ag_isOver rfl lk_m_x_132 I_ag_isOver s_ag_isOver np_ag_isOver rfl rfl) (Nat.le_of_ble_eq_true rfl) (by decide) (fun r1 => ?_)
    refine mr_eq (st' := [.int r1]) (ex' := ex) (h2 := (HX x_members x_collaterals x_hasSent x_isSealed x_metered x_sealedCount bk_counts bk_needs bk_whens bk_sides bk_quantities bk_limits ag_toldLies ag_passedLies ag_words ag_vectors ag_liarOperator ag_rounds mk_entries mk_slots mk_remainders mk_blocks mk_blockBids mk_blockOffers mk_entryCount mk_blockCount cv_limits cv_bids cv_offers cv_count cv_allBids cv_allOffers cv_meetingPrice cv_sureBids cv_sureOffers cv_priceBids cv_priceOffers cv_volume cv_worth oc_prices oc_volumes oc_filled oc_worth oc_takenSet oc_isDone, hT)) (k' := 0) (n' := 0) rfl rfl rfl rfl rfl ?_
    refine mr_if_eq (tgt := 31) d_x_round_18 (by decide) ?_ ?_
    · refine mr_aload_n d_x_round_31 rfl rfl ?_
      refine mr_get K_x 6 d_x_round_32 lk_f_x_39 (by decide) rfl rfl ?_
      refine mr_aload_n d_x_round_35 rfl rfl ?_
      refine mr_get K_x 0 d_x_round_36 lk_f_x_9 (by decide) rfl rfl ?_
      refine mz_go (st := []) e_ag_goOn (fun _ => rfl) U_ag_goOn (mz_vV d_x_round_39 U_ag_goOn rfl lk_m_x_137 I_ag_goOn s_ag_goOn np_ag_goOn rfl rfl) (Nat.le_of_ble_eq_true rfl) (by decide) (fun r2 => ?_)
      refine mr_eq (st' := [.int r2.1]) (ex' := ex) (h2 := (HX x_members x_collaterals x_hasSent x_isSealed x_metered x_sealedCount bk_counts bk_needs bk_whens bk_sides bk_quantities bk_limits ag_toldLies ag_passedLies r2.2.1 r2.2.2.1 ag_liarOperator r2.2.2.2 mk_entries mk_slots mk_remainders mk_blocks mk_blockBids mk_blockOffers mk_entryCount mk_blockCount cv_limits cv_bids cv_offers cv_count cv_allBids cv_allOffers cv_meetingPrice cv_sureBids cv_sureOffers cv_priceBids cv_priceOffers cv_volume cv_worth oc_prices oc_volumes oc_filled oc_worth oc_takenSet oc_isDone, hT)) (k' := 0) (n' := 0) rfl rfl rfl rfl rfl ?_
      exact mr_iret d_x_round_42 rfl rfl
    · refine mr_sub (lv' := []) [] rfl ?_
      exact w_b21 _ _ _
set_option maxRecDepth 100000 in
set_option maxHeartbeats 4000000 in
theorem e_ag_agreedBook {g : mz_G} {ex : Bool} {hT : List mz_E} {x_members : Int32} {x_collaterals : Nat → Int32} {x_hasSent : Nat → Int32} {x_isSealed : Nat → Int32} {x_metered : Nat → Int32} {x_sealedCount : Int32} {bk_counts : Nat → Int32} {bk_needs : Nat → Int64} {bk_whens : Nat → Int32} {bk_sides : Nat → Int32} {bk_quantities : Nat → Int32} {bk_limits : Nat → Int32} {ag_toldLies : Nat → Int32} {ag_passedLies : Nat → Int32} {ag_words : Nat → Int32} {ag_vectors : Nat → Int32} {ag_liarOperator : Int32} {ag_rounds : Int32} {mk_entries : Nat → Int32} {mk_slots : Nat → Int32} {mk_remainders : Nat → Int32} {mk_blocks : Nat → Int32} {mk_blockBids : Nat → Int32} {mk_blockOffers : Nat → Int32} {mk_entryCount : Int32} {mk_blockCount : Int32} {cv_limits : Nat → Nat → Int32} {cv_bids : Nat → Nat → Int32} {cv_offers : Nat → Nat → Int32} {cv_count : Nat → Int32} {cv_allBids : Nat → Int32} {cv_allOffers : Nat → Int32} {cv_meetingPrice : Nat → Int32} {cv_sureBids : Nat → Int32} {cv_sureOffers : Nat → Int32} {cv_priceBids : Nat → Int32} {cv_priceOffers : Nat → Int32} {cv_volume : Nat → Int32} {cv_worth : Nat → Int64} {oc_prices : Nat → Nat → Int32} {oc_volumes : Nat → Nat → Int32} {oc_filled : Nat → Nat → Int32} {oc_worth : Nat → Int64} {oc_takenSet : Nat → Int32} {oc_isDone : Nat → Int32} {x1 : Int32} {x2 : Int32} : mz_M g M_ag_agreedBook 1 [.ref 12, .int x1, .int x2] ex (HX x_members x_collaterals x_hasSent x_isSealed x_metered x_sealedCount bk_counts bk_needs bk_whens bk_sides bk_quantities bk_limits ag_toldLies ag_passedLies ag_words ag_vectors ag_liarOperator ag_rounds mk_entries mk_slots mk_remainders mk_blocks mk_blockBids mk_blockOffers mk_entryCount mk_blockCount cv_limits cv_bids cv_offers cv_count cv_allBids cv_allOffers cv_meetingPrice cv_sureBids cv_sureOffers cv_priceBids cv_priceOffers cv_volume cv_worth oc_prices oc_volumes oc_filled oc_worth oc_takenSet oc_isDone, hT) (f_ag_agreedBook ag_vectors x1 x2) (fun r => (0, some (.int r), ex, (HX x_members x_collaterals x_hasSent x_isSealed x_metered x_sealedCount bk_counts bk_needs bk_whens bk_sides bk_quantities bk_limits ag_toldLies ag_passedLies ag_words ag_vectors ag_liarOperator ag_rounds mk_entries mk_slots mk_remainders mk_blocks mk_blockBids mk_blockOffers mk_entryCount mk_blockCount cv_limits cv_bids cv_offers cv_count cv_allBids cv_allOffers cv_meetingPrice cv_sureBids cv_sureOffers cv_priceBids cv_priceOffers cv_volume cv_worth oc_prices oc_volumes oc_filled oc_worth oc_takenSet oc_isDone, hT), 0, 0)) := by
  refine mz_of (by decide) (Nat.le_of_ble_eq_true rfl) ?_
  rw [f_ag_agreedBook]
  show mz_A g M_ag_agreedBook (mz_rm 1) _ 0 [(0, .ref 12), (1, .int x1), (2, .int x2)] [] ex (HX x_members x_collaterals x_hasSent x_isSealed x_metered x_sealedCount bk_counts bk_needs bk_whens bk_sides bk_quantities bk_limits ag_toldLies ag_passedLies ag_words ag_vectors ag_liarOperator ag_rounds mk_entries mk_slots mk_remainders mk_blocks mk_blockBids mk_blockOffers mk_entryCount mk_blockCount cv_limits cv_bids cv_offers cv_count cv_allBids cv_allOffers cv_meetingPrice cv_sureBids cv_sureOffers cv_priceBids cv_priceOffers cv_volume cv_worth oc_prices oc_volumes oc_filled oc_worth oc_takenSet oc_isDone, hT) 0 0 _
  refine mr_aload_n d_ag_agreedBook_0 rfl rfl ?_
  refine mr_get K_ag 4 d_ag_agreedBook_1 lk_f_ag_25 (by decide) rfl rfl ?_
  refine mr_iload_n d_ag_agreedBook_4 rfl rfl ?_
  refine mr_iload_n d_ag_agreedBook_5 rfl rfl ?_
  refine mz_go (st := [.ref 16]) e_ag_vectorPlace (fun _ => rfl) U_ag_vectorPlace (mz_vS d_ag_agreedBook_6 U_ag_vectorPlace lk_m_ag_50 S_ag_vectorPlace np_ag_vectorPlace) (Nat.le_of_ble_eq_true rfl) (by decide) (fun r1 => ?_)
  refine mr_eq (st' := [.int r1, .ref 16]) (ex' := ex) (h2 := (HX x_members x_collaterals x_hasSent x_isSealed x_metered x_sealedCount bk_counts bk_needs bk_whens bk_sides bk_quantities bk_limits ag_toldLies ag_passedLies ag_words ag_vectors ag_liarOperator ag_rounds mk_entries mk_slots mk_remainders mk_blocks mk_blockBids mk_blockOffers mk_entryCount mk_blockCount cv_limits cv_bids cv_offers cv_count cv_allBids cv_allOffers cv_meetingPrice cv_sureBids cv_sureOffers cv_priceBids cv_priceOffers cv_volume cv_worth oc_prices oc_volumes oc_filled oc_worth oc_takenSet oc_isDone, hT)) (k' := 0) (n' := 0) rfl rfl rfl rfl rfl ?_
  refine mr_iald d_ag_agreedBook_9 rfl (fun hc2 => ?_)
  exact mr_iret d_ag_agreedBook_10 rfl rfl
set_option maxRecDepth 100000 in
set_option maxHeartbeats 4000000 in
theorem e_bk_detail {g : mz_G} {ex : Bool} {hT : List mz_E} {x_members : Int32} {x_collaterals : Nat → Int32} {x_hasSent : Nat → Int32} {x_isSealed : Nat → Int32} {x_metered : Nat → Int32} {x_sealedCount : Int32} {bk_counts : Nat → Int32} {bk_needs : Nat → Int64} {bk_whens : Nat → Int32} {bk_sides : Nat → Int32} {bk_quantities : Nat → Int32} {bk_limits : Nat → Int32} {ag_toldLies : Nat → Int32} {ag_passedLies : Nat → Int32} {ag_words : Nat → Int32} {ag_vectors : Nat → Int32} {ag_liarOperator : Int32} {ag_rounds : Int32} {mk_entries : Nat → Int32} {mk_slots : Nat → Int32} {mk_remainders : Nat → Int32} {mk_blocks : Nat → Int32} {mk_blockBids : Nat → Int32} {mk_blockOffers : Nat → Int32} {mk_entryCount : Int32} {mk_blockCount : Int32} {cv_limits : Nat → Nat → Int32} {cv_bids : Nat → Nat → Int32} {cv_offers : Nat → Nat → Int32} {cv_count : Nat → Int32} {cv_allBids : Nat → Int32} {cv_allOffers : Nat → Int32} {cv_meetingPrice : Nat → Int32} {cv_sureBids : Nat → Int32} {cv_sureOffers : Nat → Int32} {cv_priceBids : Nat → Int32} {cv_priceOffers : Nat → Int32} {cv_volume : Nat → Int32} {cv_worth : Nat → Int64} {oc_prices : Nat → Nat → Int32} {oc_volumes : Nat → Nat → Int32} {oc_filled : Nat → Nat → Int32} {oc_worth : Nat → Int64} {oc_takenSet : Nat → Int32} {oc_isDone : Nat → Int32} {x1 : Int32} {x2 : Int32} : mz_M g M_bk_detail 0 [.ref 5, .int x1, .int x2] ex (HX x_members x_collaterals x_hasSent x_isSealed x_metered x_sealedCount bk_counts bk_needs bk_whens bk_sides bk_quantities bk_limits ag_toldLies ag_passedLies ag_words ag_vectors ag_liarOperator ag_rounds mk_entries mk_slots mk_remainders mk_blocks mk_blockBids mk_blockOffers mk_entryCount mk_blockCount cv_limits cv_bids cv_offers cv_count cv_allBids cv_allOffers cv_meetingPrice cv_sureBids cv_sureOffers cv_priceBids cv_priceOffers cv_volume cv_worth oc_prices oc_volumes oc_filled oc_worth oc_takenSet oc_isDone, hT) (f_bk_detail bk_whens bk_sides bk_quantities bk_limits x1 x2) (fun r => (0, some (.int r), ex, (HX x_members x_collaterals x_hasSent x_isSealed x_metered x_sealedCount bk_counts bk_needs bk_whens bk_sides bk_quantities bk_limits ag_toldLies ag_passedLies ag_words ag_vectors ag_liarOperator ag_rounds mk_entries mk_slots mk_remainders mk_blocks mk_blockBids mk_blockOffers mk_entryCount mk_blockCount cv_limits cv_bids cv_offers cv_count cv_allBids cv_allOffers cv_meetingPrice cv_sureBids cv_sureOffers cv_priceBids cv_priceOffers cv_volume cv_worth oc_prices oc_volumes oc_filled oc_worth oc_takenSet oc_isDone, hT), 0, 0)) := by
  refine mz_of (by decide) (Nat.le_of_ble_eq_true rfl) ?_
  rw [f_bk_detail]
  show mz_A g M_bk_detail (mz_rm 0) _ 0 [(0, .ref 5), (1, .int x1), (2, .int x2)] [] ex (HX x_members x_collaterals x_hasSent x_isSealed x_metered x_sealedCount bk_counts bk_needs bk_whens bk_sides bk_quantities bk_limits ag_toldLies ag_passedLies ag_words ag_vectors ag_liarOperator ag_rounds mk_entries mk_slots mk_remainders mk_blocks mk_blockBids mk_blockOffers mk_entryCount mk_blockCount cv_limits cv_bids cv_offers cv_count cv_allBids cv_allOffers cv_meetingPrice cv_sureBids cv_sureOffers cv_priceBids cv_priceOffers cv_volume cv_worth oc_prices oc_volumes oc_filled oc_worth oc_takenSet oc_isDone, hT) 0 0 _
  refine mr_iload_n d_bk_detail_0 rfl rfl ?_
  refine mr_byc (fun hs2 => ?_) (fun hs2 => ?_)
  · refine mr_tIn (tgt := 28) d_bk_detail_1 hs2 (by decide) (by decide) rfl (by decide) ?_
    refine mr_aload_n d_bk_detail_28 rfl rfl ?_
    refine mr_get K_bk 2 d_bk_detail_29 lk_f_bk_19 (by decide) rfl rfl ?_
    refine mr_iload_n d_bk_detail_32 rfl rfl ?_
    refine mr_iald d_bk_detail_33 rfl (fun hc1 => ?_)
    exact mr_iret d_bk_detail_34 rfl rfl
  · refine mr_byc (fun hs4 => ?_) (fun hs4 => ?_)
    · refine mr_tIn (tgt := 35) d_bk_detail_1 hs4 (by decide) (by decide) rfl (by decide) ?_
      refine mr_aload_n d_bk_detail_35 rfl rfl ?_
      refine mr_get K_bk 3 d_bk_detail_36 lk_f_bk_22 (by decide) rfl rfl ?_
      refine mr_iload_n d_bk_detail_39 rfl rfl ?_
      refine mr_iald d_bk_detail_40 rfl (fun hc3 => ?_)
      exact mr_iret d_bk_detail_41 rfl rfl
    · refine mr_byc (fun hs6 => ?_) (fun hs6 => ?_)
      · refine mr_tIn (tgt := 42) d_bk_detail_1 hs6 (by decide) (by decide) rfl (by decide) ?_
        refine mr_aload_n d_bk_detail_42 rfl rfl ?_
        refine mr_get K_bk 4 d_bk_detail_43 lk_f_bk_25 (by decide) rfl rfl ?_
        refine mr_iload_n d_bk_detail_46 rfl rfl ?_
        refine mr_iald d_bk_detail_47 rfl (fun hc5 => ?_)
        exact mr_iret d_bk_detail_48 rfl rfl
      · refine mr_tOut (tgt := 49) d_bk_detail_1 (mz_out3 hs2 hs4 hs6) (by decide) ?_
        refine mr_aload_n d_bk_detail_49 rfl rfl ?_
        refine mr_get K_bk 5 d_bk_detail_50 lk_f_bk_28 (by decide) rfl rfl ?_
        refine mr_iload_n d_bk_detail_53 rfl rfl ?_
        refine mr_iald d_bk_detail_54 rfl (fun hc7 => ?_)
        exact mr_iret d_bk_detail_55 rfl rfl
set_option maxRecDepth 100000 in
set_option maxHeartbeats 4000000 in
theorem e_x_vector {g : mz_G} {ex : Bool} {hT : List mz_E} {x_members : Int32} {x_collaterals : Nat → Int32} {x_hasSent : Nat → Int32} {x_isSealed : Nat → Int32} {x_metered : Nat → Int32} {x_sealedCount : Int32} {bk_counts : Nat → Int32} {bk_needs : Nat → Int64} {bk_whens : Nat → Int32} {bk_sides : Nat → Int32} {bk_quantities : Nat → Int32} {bk_limits : Nat → Int32} {ag_toldLies : Nat → Int32} {ag_passedLies : Nat → Int32} {ag_words : Nat → Int32} {ag_vectors : Nat → Int32} {ag_liarOperator : Int32} {ag_rounds : Int32} {mk_entries : Nat → Int32} {mk_slots : Nat → Int32} {mk_remainders : Nat → Int32} {mk_blocks : Nat → Int32} {mk_blockBids : Nat → Int32} {mk_blockOffers : Nat → Int32} {mk_entryCount : Int32} {mk_blockCount : Int32} {cv_limits : Nat → Nat → Int32} {cv_bids : Nat → Nat → Int32} {cv_offers : Nat → Nat → Int32} {cv_count : Nat → Int32} {cv_allBids : Nat → Int32} {cv_allOffers : Nat → Int32} {cv_meetingPrice : Nat → Int32} {cv_sureBids : Nat → Int32} {cv_sureOffers : Nat → Int32} {cv_priceBids : Nat → Int32} {cv_priceOffers : Nat → Int32} {cv_volume : Nat → Int32} {cv_worth : Nat → Int64} {oc_prices : Nat → Nat → Int32} {oc_volumes : Nat → Nat → Int32} {oc_filled : Nat → Nat → Int32} {oc_worth : Nat → Int64} {oc_takenSet : Nat → Int32} {oc_isDone : Nat → Int32} {x1 : Int32} {x2 : Int32} {x3 : Int32} {x4 : Int32} : mz_M g M_x_vector 6 [.ref 0, .int x1, .int x2, .int x3, .int x4] ex (HX x_members x_collaterals x_hasSent x_isSealed x_metered x_sealedCount bk_counts bk_needs bk_whens bk_sides bk_quantities bk_limits ag_toldLies ag_passedLies ag_words ag_vectors ag_liarOperator ag_rounds mk_entries mk_slots mk_remainders mk_blocks mk_blockBids mk_blockOffers mk_entryCount mk_blockCount cv_limits cv_bids cv_offers cv_count cv_allBids cv_allOffers cv_meetingPrice cv_sureBids cv_sureOffers cv_priceBids cv_priceOffers cv_volume cv_worth oc_prices oc_volumes oc_filled oc_worth oc_takenSet oc_isDone, hT) (f_x_vector x_members bk_counts bk_whens bk_sides bk_quantities bk_limits ag_vectors ag_rounds x1 x2 x3 x4) (fun r => (r.1, some (.int r.2), mz_x ex r.1, (HX x_members x_collaterals x_hasSent x_isSealed x_metered x_sealedCount bk_counts bk_needs bk_whens bk_sides bk_quantities bk_limits ag_toldLies ag_passedLies ag_words ag_vectors ag_liarOperator ag_rounds mk_entries mk_slots mk_remainders mk_blocks mk_blockBids mk_blockOffers mk_entryCount mk_blockCount cv_limits cv_bids cv_offers cv_count cv_allBids cv_allOffers cv_meetingPrice cv_sureBids cv_sureOffers cv_priceBids cv_priceOffers cv_volume cv_worth oc_prices oc_volumes oc_filled oc_worth oc_takenSet oc_isDone, hT), mz_k r.1, mz_6 r.1)) := by
  have w_b102 : mz_A g M_x_vector (mz_rm 6) (fun r => (r.1, some (.int r.2), mz_x ex r.1, (HX x_members x_collaterals x_hasSent x_isSealed x_metered x_sealedCount bk_counts bk_needs bk_whens bk_sides bk_quantities bk_limits ag_toldLies ag_passedLies ag_words ag_vectors ag_liarOperator ag_rounds mk_entries mk_slots mk_remainders mk_blocks mk_blockBids mk_blockOffers mk_entryCount mk_blockCount cv_limits cv_bids cv_offers cv_count cv_allBids cv_allOffers cv_meetingPrice cv_sureBids cv_sureOffers cv_priceBids cv_priceOffers cv_volume cv_worth oc_prices oc_volumes oc_filled oc_worth oc_takenSet oc_isDone, hT), mz_k r.1, mz_6 r.1)) 102 [] [] ex (HX x_members x_collaterals x_hasSent x_isSealed x_metered x_sealedCount bk_counts bk_needs bk_whens bk_sides bk_quantities bk_limits ag_toldLies ag_passedLies ag_words ag_vectors ag_liarOperator ag_rounds mk_entries mk_slots mk_remainders mk_blocks mk_blockBids mk_blockOffers mk_entryCount mk_blockCount cv_limits cv_bids cv_offers cv_count cv_allBids cv_allOffers cv_meetingPrice cv_sureBids cv_sureOffers cv_priceBids cv_priceOffers cv_volume cv_worth oc_prices oc_volumes oc_filled oc_worth oc_takenSet oc_isDone, hT) 0 0 (f_x_vector_b102 x_members bk_counts bk_whens bk_sides bk_quantities bk_limits ag_vectors ag_rounds) := by
    rw [f_x_vector_b102]
    exact mr_throw d_x_vector_102 d_x_vector_105 d_x_vector_106 d_x_vector_108 d_x_vector_111 tw_x_152_1 rfl (Nat.le_of_ble_eq_true rfl) (Nat.le_of_ble_eq_true rfl) (Nat.le_of_ble_eq_true rfl) (Nat.le_of_ble_eq_true rfl) rfl
  have w_b46 : mz_A g M_x_vector (mz_rm 6) (fun r => (r.1, some (.int r.2), mz_x ex r.1, (HX x_members x_collaterals x_hasSent x_isSealed x_metered x_sealedCount bk_counts bk_needs bk_whens bk_sides bk_quantities bk_limits ag_toldLies ag_passedLies ag_words ag_vectors ag_liarOperator ag_rounds mk_entries mk_slots mk_remainders mk_blocks mk_blockBids mk_blockOffers mk_entryCount mk_blockCount cv_limits cv_bids cv_offers cv_count cv_allBids cv_allOffers cv_meetingPrice cv_sureBids cv_sureOffers cv_priceBids cv_priceOffers cv_volume cv_worth oc_prices oc_volumes oc_filled oc_worth oc_takenSet oc_isDone, hT), mz_k r.1, mz_6 r.1)) 46 [] [] ex (HX x_members x_collaterals x_hasSent x_isSealed x_metered x_sealedCount bk_counts bk_needs bk_whens bk_sides bk_quantities bk_limits ag_toldLies ag_passedLies ag_words ag_vectors ag_liarOperator ag_rounds mk_entries mk_slots mk_remainders mk_blocks mk_blockBids mk_blockOffers mk_entryCount mk_blockCount cv_limits cv_bids cv_offers cv_count cv_allBids cv_allOffers cv_meetingPrice cv_sureBids cv_sureOffers cv_priceBids cv_priceOffers cv_volume cv_worth oc_prices oc_volumes oc_filled oc_worth oc_takenSet oc_isDone, hT) 0 0 (f_x_vector_b46 x_members bk_counts bk_whens bk_sides bk_quantities bk_limits ag_vectors ag_rounds) := by
    rw [f_x_vector_b46]
    exact mr_throw d_x_vector_46 d_x_vector_49 d_x_vector_50 d_x_vector_52 d_x_vector_55 tw_x_143_1 rfl (Nat.le_of_ble_eq_true rfl) (Nat.le_of_ble_eq_true rfl) (Nat.le_of_ble_eq_true rfl) (Nat.le_of_ble_eq_true rfl) rfl
  refine mz_of (by decide) (Nat.le_of_ble_eq_true rfl) ?_
  rw [f_x_vector]
  show mz_A g M_x_vector (mz_rm 6) _ 0 [(0, .ref 0), (1, .int x1), (2, .int x2), (3, .int x3), (4, .int x4)] [] ex (HX x_members x_collaterals x_hasSent x_isSealed x_metered x_sealedCount bk_counts bk_needs bk_whens bk_sides bk_quantities bk_limits ag_toldLies ag_passedLies ag_words ag_vectors ag_liarOperator ag_rounds mk_entries mk_slots mk_remainders mk_blocks mk_blockBids mk_blockOffers mk_entryCount mk_blockCount cv_limits cv_bids cv_offers cv_count cv_allBids cv_allOffers cv_meetingPrice cv_sureBids cv_sureOffers cv_priceBids cv_priceOffers cv_volume cv_worth oc_prices oc_volumes oc_filled oc_worth oc_takenSet oc_isDone, hT) 0 0 _
  refine mr_aload_n d_x_vector_0 rfl rfl ?_
  refine mr_get K_x 6 d_x_vector_1 lk_f_x_39 (by decide) rfl rfl ?_
  refine mz_go (st := []) e_ag_isOver (fun _ => rfl) U_ag_isOver (mz_vV d_x_vector_4 U_ag_isOver rfl lk_m_x_132 I_ag_isOver s_ag_isOver np_ag_isOver rfl rfl) (Nat.le_of_ble_eq_true rfl) (by decide) (fun r1 => ?_)
  refine mr_eq (st' := [.int r1]) (ex' := ex) (h2 := (HX x_members x_collaterals x_hasSent x_isSealed x_metered x_sealedCount bk_counts bk_needs bk_whens bk_sides bk_quantities bk_limits ag_toldLies ag_passedLies ag_words ag_vectors ag_liarOperator ag_rounds mk_entries mk_slots mk_remainders mk_blocks mk_blockBids mk_blockOffers mk_entryCount mk_blockCount cv_limits cv_bids cv_offers cv_count cv_allBids cv_allOffers cv_meetingPrice cv_sureBids cv_sureOffers cv_priceBids cv_priceOffers cv_volume cv_worth oc_prices oc_volumes oc_filled oc_worth oc_takenSet oc_isDone, hT)) (k' := 0) (n' := 0) rfl rfl rfl rfl rfl ?_
  refine mr_if_ne (tgt := 20) d_x_vector_7 (by decide) ?_ ?_
  · refine mr_iload_n d_x_vector_20 rfl rfl ?_
    refine mz_go (st := []) e_x_isOperator (fun _ => rfl) U_x_isOperator (mz_vS d_x_vector_21 U_x_isOperator lk_m_x_95 S_x_isOperator np_x_isOperator) (Nat.le_of_ble_eq_true rfl) (by decide) (fun r2 => ?_)
    refine mr_eq (st' := [.int r2]) (ex' := ex) (h2 := (HX x_members x_collaterals x_hasSent x_isSealed x_metered x_sealedCount bk_counts bk_needs bk_whens bk_sides bk_quantities bk_limits ag_toldLies ag_passedLies ag_words ag_vectors ag_liarOperator ag_rounds mk_entries mk_slots mk_remainders mk_blocks mk_blockBids mk_blockOffers mk_entryCount mk_blockCount cv_limits cv_bids cv_offers cv_count cv_allBids cv_allOffers cv_meetingPrice cv_sureBids cv_sureOffers cv_priceBids cv_priceOffers cv_volume cv_worth oc_prices oc_volumes oc_filled oc_worth oc_takenSet oc_isDone, hT)) (k' := 0) (n' := 0) rfl rfl rfl rfl rfl ?_
    refine mr_if_eq (tgt := 46) d_x_vector_24 (by decide) ?_ ?_
    · refine mr_sub (lv' := []) [] rfl ?_
      exact w_b46
    · refine mr_aload_n d_x_vector_27 rfl rfl ?_
      refine mr_iload_n d_x_vector_28 rfl rfl ?_
      refine mz_go (st := []) e_x_isMember (fun _ => rfl) U_x_isMember (mz_vV d_x_vector_29 U_x_isMember rfl lk_m_x_60 I_x_isMember s_x_isMember np_x_isMember rfl rfl) (Nat.le_of_ble_eq_true rfl) (by decide) (fun r3 => ?_)
      refine mr_eq (st' := [.int r3]) (ex' := ex) (h2 := (HX x_members x_collaterals x_hasSent x_isSealed x_metered x_sealedCount bk_counts bk_needs bk_whens bk_sides bk_quantities bk_limits ag_toldLies ag_passedLies ag_words ag_vectors ag_liarOperator ag_rounds mk_entries mk_slots mk_remainders mk_blocks mk_blockBids mk_blockOffers mk_entryCount mk_blockCount cv_limits cv_bids cv_offers cv_count cv_allBids cv_allOffers cv_meetingPrice cv_sureBids cv_sureOffers cv_priceBids cv_priceOffers cv_volume cv_worth oc_prices oc_volumes oc_filled oc_worth oc_takenSet oc_isDone, hT)) (k' := 0) (n' := 0) rfl rfl rfl rfl rfl ?_
      refine mr_if_eq (tgt := 46) d_x_vector_32 (by decide) ?_ ?_
      · refine mr_sub (lv' := []) [] rfl ?_
        exact w_b46
      · refine mr_iload d_x_vector_35 rfl ?_
        refine mr_if_lt (tgt := 46) d_x_vector_37 (by decide) ?_ ?_
        · refine mr_sub (lv' := []) [] rfl ?_
          exact w_b46
        · refine mr_iload d_x_vector_40 rfl ?_
          refine mr_iconst (v := 4) d_x_vector_42 mc_iconst_4 ?_
          refine mr_icmp_le (tgt := 56) d_x_vector_43 (by decide) ?_ ?_
          · refine mr_aload_n d_x_vector_56 rfl rfl ?_
            refine mr_get K_x 6 d_x_vector_57 lk_f_x_39 (by decide) rfl rfl ?_
            refine mr_iload_n d_x_vector_60 rfl rfl ?_
            refine mr_iload_n d_x_vector_61 rfl rfl ?_
            refine mz_go (st := []) e_ag_agreedBook (fun _ => rfl) U_ag_agreedBook (mz_vV d_x_vector_62 U_ag_agreedBook rfl lk_m_x_145 I_ag_agreedBook s_ag_agreedBook np_ag_agreedBook rfl rfl) (Nat.le_of_ble_eq_true rfl) (by decide) (fun r4 => ?_)
            refine mr_eq (st' := [.int r4]) (ex' := ex) (h2 := (HX x_members x_collaterals x_hasSent x_isSealed x_metered x_sealedCount bk_counts bk_needs bk_whens bk_sides bk_quantities bk_limits ag_toldLies ag_passedLies ag_words ag_vectors ag_liarOperator ag_rounds mk_entries mk_slots mk_remainders mk_blocks mk_blockBids mk_blockOffers mk_entryCount mk_blockCount cv_limits cv_bids cv_offers cv_count cv_allBids cv_allOffers cv_meetingPrice cv_sureBids cv_sureOffers cv_priceBids cv_priceOffers cv_volume cv_worth oc_prices oc_volumes oc_filled oc_worth oc_takenSet oc_isDone, hT)) (k' := 0) (n' := 0) rfl rfl rfl rfl rfl ?_
            refine mr_istore (lv' := [(5, .int r4), (0, .ref 0), (1, .int x1), (2, .int x2), (3, .int x3), (4, .int x4)]) d_x_vector_65 (by decide) rfl ?_
            refine mr_iload d_x_vector_67 rfl ?_
            refine mr_iconst (v := 4) d_x_vector_69 mc_iconst_4 ?_
            refine mr_icmp_ne (tgt := 84) d_x_vector_70 (by decide) ?_ ?_
            · refine mr_iload_n d_x_vector_84 rfl rfl ?_
              refine mr_if_lt (tgt := 102) d_x_vector_85 (by decide) ?_ ?_
              · refine mr_sub (lv' := []) [] rfl ?_
                exact w_b102
              · refine mr_iload_n d_x_vector_88 rfl rfl ?_
                refine mr_aload_n d_x_vector_89 rfl rfl ?_
                refine mr_get K_x 5 d_x_vector_90 lk_f_x_30 (by decide) rfl rfl ?_
                refine mr_getN K_bk 0 d_x_vector_93 lk_f_x_149 (by decide) rfl rfl ?_
                refine mr_iload d_x_vector_96 rfl ?_
                refine mr_iald d_x_vector_98 rfl (fun hc5 => ?_)
                refine mr_icmp_lt (tgt := 112) d_x_vector_99 (by decide) ?_ ?_
                · refine mr_aload_n d_x_vector_112 rfl rfl ?_
                  refine mr_get K_x 5 d_x_vector_113 lk_f_x_30 (by decide) rfl rfl ?_
                  refine mr_bipush (v := 10) d_x_vector_116 mc_bipush_10 ?_
                  refine mr_iload d_x_vector_118 rfl ?_
                  refine mr_imul d_x_vector_120 ?_
                  refine mr_iload_n d_x_vector_121 rfl rfl ?_
                  refine mr_iadd d_x_vector_122 ?_
                  refine mr_iload d_x_vector_123 rfl ?_
                  refine mz_go (st := []) e_bk_detail (fun _ => rfl) U_bk_detail (mz_vV d_x_vector_125 U_bk_detail rfl lk_m_x_154 I_bk_detail s_bk_detail np_bk_detail rfl rfl) (Nat.le_of_ble_eq_true rfl) (by decide) (fun r6 => ?_)
                  refine mr_eq (st' := [.int r6]) (ex' := ex) (h2 := (HX x_members x_collaterals x_hasSent x_isSealed x_metered x_sealedCount bk_counts bk_needs bk_whens bk_sides bk_quantities bk_limits ag_toldLies ag_passedLies ag_words ag_vectors ag_liarOperator ag_rounds mk_entries mk_slots mk_remainders mk_blocks mk_blockBids mk_blockOffers mk_entryCount mk_blockCount cv_limits cv_bids cv_offers cv_count cv_allBids cv_allOffers cv_meetingPrice cv_sureBids cv_sureOffers cv_priceBids cv_priceOffers cv_volume cv_worth oc_prices oc_volumes oc_filled oc_worth oc_takenSet oc_isDone, hT)) (k' := 0) (n' := 0) rfl rfl rfl rfl rfl ?_
                  exact mr_iret d_x_vector_128 rfl rfl
                · refine mr_sub (lv' := []) [] rfl ?_
                  exact w_b102
            · refine mr_aload_n d_x_vector_73 rfl rfl ?_
              refine mr_get K_x 5 d_x_vector_74 lk_f_x_30 (by decide) rfl rfl ?_
              refine mr_getN K_bk 0 d_x_vector_77 lk_f_x_149 (by decide) rfl rfl ?_
              refine mr_iload d_x_vector_80 rfl ?_
              refine mr_iald d_x_vector_82 rfl (fun hc7 => ?_)
              exact mr_iret d_x_vector_83 rfl rfl
          · refine mr_sub (lv' := []) [] rfl ?_
            exact w_b46
  · exact mr_throw d_x_vector_10 d_x_vector_13 d_x_vector_14 d_x_vector_16 d_x_vector_19 tw_x_141_2 rfl (Nat.le_of_ble_eq_true rfl) (Nat.le_of_ble_eq_true rfl) (Nat.le_of_ble_eq_true rfl) (Nat.le_of_ble_eq_true rfl) rfl
set_option maxRecDepth 100000 in
set_option maxHeartbeats 4000000 in
theorem e_c_empty_0 {g : mz_G} {ex : Bool} {hT : List mz_E} {x_members : Int32} {x_collaterals : Nat → Int32} {x_hasSent : Nat → Int32} {x_isSealed : Nat → Int32} {x_metered : Nat → Int32} {x_sealedCount : Int32} {bk_counts : Nat → Int32} {bk_needs : Nat → Int64} {bk_whens : Nat → Int32} {bk_sides : Nat → Int32} {bk_quantities : Nat → Int32} {bk_limits : Nat → Int32} {ag_toldLies : Nat → Int32} {ag_passedLies : Nat → Int32} {ag_words : Nat → Int32} {ag_vectors : Nat → Int32} {ag_liarOperator : Int32} {ag_rounds : Int32} {mk_entries : Nat → Int32} {mk_slots : Nat → Int32} {mk_remainders : Nat → Int32} {mk_blocks : Nat → Int32} {mk_blockBids : Nat → Int32} {mk_blockOffers : Nat → Int32} {mk_entryCount : Int32} {mk_blockCount : Int32} {cv_limits : Nat → Nat → Int32} {cv_bids : Nat → Nat → Int32} {cv_offers : Nat → Nat → Int32} {cv_count : Nat → Int32} {cv_allBids : Nat → Int32} {cv_allOffers : Nat → Int32} {cv_meetingPrice : Nat → Int32} {cv_sureBids : Nat → Int32} {cv_sureOffers : Nat → Int32} {cv_priceBids : Nat → Int32} {cv_priceOffers : Nat → Int32} {cv_volume : Nat → Int32} {cv_worth : Nat → Int64} {oc_prices : Nat → Nat → Int32} {oc_volumes : Nat → Nat → Int32} {oc_filled : Nat → Nat → Int32} {oc_worth : Nat → Int64} {oc_takenSet : Nat → Int32} {oc_isDone : Nat → Int32} : mz_M g M_c_empty 0 [.ref 19] ex (HX x_members x_collaterals x_hasSent x_isSealed x_metered x_sealedCount bk_counts bk_needs bk_whens bk_sides bk_quantities bk_limits ag_toldLies ag_passedLies ag_words ag_vectors ag_liarOperator ag_rounds mk_entries mk_slots mk_remainders mk_blocks mk_blockBids mk_blockOffers mk_entryCount mk_blockCount cv_limits cv_bids cv_offers cv_count cv_allBids cv_allOffers cv_meetingPrice cv_sureBids cv_sureOffers cv_priceBids cv_priceOffers cv_volume cv_worth oc_prices oc_volumes oc_filled oc_worth oc_takenSet oc_isDone, hT) (f_c_empty (cv_count 0) (cv_allBids 0) (cv_allOffers 0)) (fun r => (0, none, ex, (HX x_members x_collaterals x_hasSent x_isSealed x_metered x_sealedCount bk_counts bk_needs bk_whens bk_sides bk_quantities bk_limits ag_toldLies ag_passedLies ag_words ag_vectors ag_liarOperator ag_rounds mk_entries mk_slots mk_remainders mk_blocks mk_blockBids mk_blockOffers mk_entryCount mk_blockCount cv_limits cv_bids cv_offers (va_up cv_count 0 r.1) (va_up cv_allBids 0 r.2.1) (va_up cv_allOffers 0 r.2.2) cv_meetingPrice cv_sureBids cv_sureOffers cv_priceBids cv_priceOffers cv_volume cv_worth oc_prices oc_volumes oc_filled oc_worth oc_takenSet oc_isDone, hT), 0, 0)) := by
  refine mz_of (by decide) (Nat.le_of_ble_eq_true rfl) ?_
  rw [f_c_empty]
  show mz_A g M_c_empty (mz_rm 0) _ 0 [(0, .ref 19)] [] ex (HX x_members x_collaterals x_hasSent x_isSealed x_metered x_sealedCount bk_counts bk_needs bk_whens bk_sides bk_quantities bk_limits ag_toldLies ag_passedLies ag_words ag_vectors ag_liarOperator ag_rounds mk_entries mk_slots mk_remainders mk_blocks mk_blockBids mk_blockOffers mk_entryCount mk_blockCount cv_limits cv_bids cv_offers cv_count cv_allBids cv_allOffers cv_meetingPrice cv_sureBids cv_sureOffers cv_priceBids cv_priceOffers cv_volume cv_worth oc_prices oc_volumes oc_filled oc_worth oc_takenSet oc_isDone, hT) 0 0 _
  refine mr_aload_n d_c_empty_0 rfl rfl ?_
  refine mr_iconst (v := 0) d_c_empty_1 mc_iconst_0 ?_
  refine mr_put (h2 := (HX x_members x_collaterals x_hasSent x_isSealed x_metered x_sealedCount bk_counts bk_needs bk_whens bk_sides bk_quantities bk_limits ag_toldLies ag_passedLies ag_words ag_vectors ag_liarOperator ag_rounds mk_entries mk_slots mk_remainders mk_blocks mk_blockBids mk_blockOffers mk_entryCount mk_blockCount cv_limits cv_bids cv_offers (va_up cv_count 0 0) cv_allBids cv_allOffers cv_meetingPrice cv_sureBids cv_sureOffers cv_priceBids cv_priceOffers cv_volume cv_worth oc_prices oc_volumes oc_filled oc_worth oc_takenSet oc_isDone, hT)) K_c 3 d_c_empty_2 lk_f_c_21 (by decide) rfl rfl rfl (Nat.le_of_ble_eq_true rfl) rfl rfl ?_
  refine mr_aload_n d_c_empty_5 rfl rfl ?_
  refine mr_iconst (v := 0) d_c_empty_6 mc_iconst_0 ?_
  refine mr_put (h2 := (HX x_members x_collaterals x_hasSent x_isSealed x_metered x_sealedCount bk_counts bk_needs bk_whens bk_sides bk_quantities bk_limits ag_toldLies ag_passedLies ag_words ag_vectors ag_liarOperator ag_rounds mk_entries mk_slots mk_remainders mk_blocks mk_blockBids mk_blockOffers mk_entryCount mk_blockCount cv_limits cv_bids cv_offers (va_up cv_count 0 0) (va_up cv_allBids 0 0) cv_allOffers cv_meetingPrice cv_sureBids cv_sureOffers cv_priceBids cv_priceOffers cv_volume cv_worth oc_prices oc_volumes oc_filled oc_worth oc_takenSet oc_isDone, hT)) K_c 4 d_c_empty_7 lk_f_c_25 (by decide) rfl rfl rfl (Nat.le_of_ble_eq_true rfl) rfl rfl ?_
  refine mr_aload_n d_c_empty_10 rfl rfl ?_
  refine mr_iconst (v := 0) d_c_empty_11 mc_iconst_0 ?_
  refine mr_put (h2 := (HX x_members x_collaterals x_hasSent x_isSealed x_metered x_sealedCount bk_counts bk_needs bk_whens bk_sides bk_quantities bk_limits ag_toldLies ag_passedLies ag_words ag_vectors ag_liarOperator ag_rounds mk_entries mk_slots mk_remainders mk_blocks mk_blockBids mk_blockOffers mk_entryCount mk_blockCount cv_limits cv_bids cv_offers (va_up cv_count 0 0) (va_up cv_allBids 0 0) (va_up cv_allOffers 0 0) cv_meetingPrice cv_sureBids cv_sureOffers cv_priceBids cv_priceOffers cv_volume cv_worth oc_prices oc_volumes oc_filled oc_worth oc_takenSet oc_isDone, hT)) K_c 5 d_c_empty_12 lk_f_c_28 (by decide) rfl rfl rfl (Nat.le_of_ble_eq_true rfl) rfl rfl ?_
  exact mr_vret d_c_empty_15 rfl rfl
set_option maxRecDepth 100000 in
set_option maxHeartbeats 4000000 in
theorem e_c_empty_1 {g : mz_G} {ex : Bool} {hT : List mz_E} {x_members : Int32} {x_collaterals : Nat → Int32} {x_hasSent : Nat → Int32} {x_isSealed : Nat → Int32} {x_metered : Nat → Int32} {x_sealedCount : Int32} {bk_counts : Nat → Int32} {bk_needs : Nat → Int64} {bk_whens : Nat → Int32} {bk_sides : Nat → Int32} {bk_quantities : Nat → Int32} {bk_limits : Nat → Int32} {ag_toldLies : Nat → Int32} {ag_passedLies : Nat → Int32} {ag_words : Nat → Int32} {ag_vectors : Nat → Int32} {ag_liarOperator : Int32} {ag_rounds : Int32} {mk_entries : Nat → Int32} {mk_slots : Nat → Int32} {mk_remainders : Nat → Int32} {mk_blocks : Nat → Int32} {mk_blockBids : Nat → Int32} {mk_blockOffers : Nat → Int32} {mk_entryCount : Int32} {mk_blockCount : Int32} {cv_limits : Nat → Nat → Int32} {cv_bids : Nat → Nat → Int32} {cv_offers : Nat → Nat → Int32} {cv_count : Nat → Int32} {cv_allBids : Nat → Int32} {cv_allOffers : Nat → Int32} {cv_meetingPrice : Nat → Int32} {cv_sureBids : Nat → Int32} {cv_sureOffers : Nat → Int32} {cv_priceBids : Nat → Int32} {cv_priceOffers : Nat → Int32} {cv_volume : Nat → Int32} {cv_worth : Nat → Int64} {oc_prices : Nat → Nat → Int32} {oc_volumes : Nat → Nat → Int32} {oc_filled : Nat → Nat → Int32} {oc_worth : Nat → Int64} {oc_takenSet : Nat → Int32} {oc_isDone : Nat → Int32} : mz_M g M_c_empty 0 [.ref 23] ex (HX x_members x_collaterals x_hasSent x_isSealed x_metered x_sealedCount bk_counts bk_needs bk_whens bk_sides bk_quantities bk_limits ag_toldLies ag_passedLies ag_words ag_vectors ag_liarOperator ag_rounds mk_entries mk_slots mk_remainders mk_blocks mk_blockBids mk_blockOffers mk_entryCount mk_blockCount cv_limits cv_bids cv_offers cv_count cv_allBids cv_allOffers cv_meetingPrice cv_sureBids cv_sureOffers cv_priceBids cv_priceOffers cv_volume cv_worth oc_prices oc_volumes oc_filled oc_worth oc_takenSet oc_isDone, hT) (f_c_empty (cv_count 1) (cv_allBids 1) (cv_allOffers 1)) (fun r => (0, none, ex, (HX x_members x_collaterals x_hasSent x_isSealed x_metered x_sealedCount bk_counts bk_needs bk_whens bk_sides bk_quantities bk_limits ag_toldLies ag_passedLies ag_words ag_vectors ag_liarOperator ag_rounds mk_entries mk_slots mk_remainders mk_blocks mk_blockBids mk_blockOffers mk_entryCount mk_blockCount cv_limits cv_bids cv_offers (va_up cv_count 1 r.1) (va_up cv_allBids 1 r.2.1) (va_up cv_allOffers 1 r.2.2) cv_meetingPrice cv_sureBids cv_sureOffers cv_priceBids cv_priceOffers cv_volume cv_worth oc_prices oc_volumes oc_filled oc_worth oc_takenSet oc_isDone, hT), 0, 0)) := by
  refine mz_of (by decide) (Nat.le_of_ble_eq_true rfl) ?_
  rw [f_c_empty]
  show mz_A g M_c_empty (mz_rm 0) _ 0 [(0, .ref 23)] [] ex (HX x_members x_collaterals x_hasSent x_isSealed x_metered x_sealedCount bk_counts bk_needs bk_whens bk_sides bk_quantities bk_limits ag_toldLies ag_passedLies ag_words ag_vectors ag_liarOperator ag_rounds mk_entries mk_slots mk_remainders mk_blocks mk_blockBids mk_blockOffers mk_entryCount mk_blockCount cv_limits cv_bids cv_offers cv_count cv_allBids cv_allOffers cv_meetingPrice cv_sureBids cv_sureOffers cv_priceBids cv_priceOffers cv_volume cv_worth oc_prices oc_volumes oc_filled oc_worth oc_takenSet oc_isDone, hT) 0 0 _
  refine mr_aload_n d_c_empty_0 rfl rfl ?_
  refine mr_iconst (v := 0) d_c_empty_1 mc_iconst_0 ?_
  refine mr_put (h2 := (HX x_members x_collaterals x_hasSent x_isSealed x_metered x_sealedCount bk_counts bk_needs bk_whens bk_sides bk_quantities bk_limits ag_toldLies ag_passedLies ag_words ag_vectors ag_liarOperator ag_rounds mk_entries mk_slots mk_remainders mk_blocks mk_blockBids mk_blockOffers mk_entryCount mk_blockCount cv_limits cv_bids cv_offers (va_up cv_count 1 0) cv_allBids cv_allOffers cv_meetingPrice cv_sureBids cv_sureOffers cv_priceBids cv_priceOffers cv_volume cv_worth oc_prices oc_volumes oc_filled oc_worth oc_takenSet oc_isDone, hT)) K_c 3 d_c_empty_2 lk_f_c_21 (by decide) rfl rfl rfl (Nat.le_of_ble_eq_true rfl) rfl rfl ?_
  refine mr_aload_n d_c_empty_5 rfl rfl ?_
  refine mr_iconst (v := 0) d_c_empty_6 mc_iconst_0 ?_
  refine mr_put (h2 := (HX x_members x_collaterals x_hasSent x_isSealed x_metered x_sealedCount bk_counts bk_needs bk_whens bk_sides bk_quantities bk_limits ag_toldLies ag_passedLies ag_words ag_vectors ag_liarOperator ag_rounds mk_entries mk_slots mk_remainders mk_blocks mk_blockBids mk_blockOffers mk_entryCount mk_blockCount cv_limits cv_bids cv_offers (va_up cv_count 1 0) (va_up cv_allBids 1 0) cv_allOffers cv_meetingPrice cv_sureBids cv_sureOffers cv_priceBids cv_priceOffers cv_volume cv_worth oc_prices oc_volumes oc_filled oc_worth oc_takenSet oc_isDone, hT)) K_c 4 d_c_empty_7 lk_f_c_25 (by decide) rfl rfl rfl (Nat.le_of_ble_eq_true rfl) rfl rfl ?_
  refine mr_aload_n d_c_empty_10 rfl rfl ?_
  refine mr_iconst (v := 0) d_c_empty_11 mc_iconst_0 ?_
  refine mr_put (h2 := (HX x_members x_collaterals x_hasSent x_isSealed x_metered x_sealedCount bk_counts bk_needs bk_whens bk_sides bk_quantities bk_limits ag_toldLies ag_passedLies ag_words ag_vectors ag_liarOperator ag_rounds mk_entries mk_slots mk_remainders mk_blocks mk_blockBids mk_blockOffers mk_entryCount mk_blockCount cv_limits cv_bids cv_offers (va_up cv_count 1 0) (va_up cv_allBids 1 0) (va_up cv_allOffers 1 0) cv_meetingPrice cv_sureBids cv_sureOffers cv_priceBids cv_priceOffers cv_volume cv_worth oc_prices oc_volumes oc_filled oc_worth oc_takenSet oc_isDone, hT)) K_c 5 d_c_empty_12 lk_f_c_28 (by decide) rfl rfl rfl (Nat.le_of_ble_eq_true rfl) rfl rfl ?_
  exact mr_vret d_c_empty_15 rfl rfl
set_option maxRecDepth 100000 in
set_option maxHeartbeats 4000000 in
theorem e_c_empty_2 {g : mz_G} {ex : Bool} {hT : List mz_E} {x_members : Int32} {x_collaterals : Nat → Int32} {x_hasSent : Nat → Int32} {x_isSealed : Nat → Int32} {x_metered : Nat → Int32} {x_sealedCount : Int32} {bk_counts : Nat → Int32} {bk_needs : Nat → Int64} {bk_whens : Nat → Int32} {bk_sides : Nat → Int32} {bk_quantities : Nat → Int32} {bk_limits : Nat → Int32} {ag_toldLies : Nat → Int32} {ag_passedLies : Nat → Int32} {ag_words : Nat → Int32} {ag_vectors : Nat → Int32} {ag_liarOperator : Int32} {ag_rounds : Int32} {mk_entries : Nat → Int32} {mk_slots : Nat → Int32} {mk_remainders : Nat → Int32} {mk_blocks : Nat → Int32} {mk_blockBids : Nat → Int32} {mk_blockOffers : Nat → Int32} {mk_entryCount : Int32} {mk_blockCount : Int32} {cv_limits : Nat → Nat → Int32} {cv_bids : Nat → Nat → Int32} {cv_offers : Nat → Nat → Int32} {cv_count : Nat → Int32} {cv_allBids : Nat → Int32} {cv_allOffers : Nat → Int32} {cv_meetingPrice : Nat → Int32} {cv_sureBids : Nat → Int32} {cv_sureOffers : Nat → Int32} {cv_priceBids : Nat → Int32} {cv_priceOffers : Nat → Int32} {cv_volume : Nat → Int32} {cv_worth : Nat → Int64} {oc_prices : Nat → Nat → Int32} {oc_volumes : Nat → Nat → Int32} {oc_filled : Nat → Nat → Int32} {oc_worth : Nat → Int64} {oc_takenSet : Nat → Int32} {oc_isDone : Nat → Int32} : mz_M g M_c_empty 0 [.ref 27] ex (HX x_members x_collaterals x_hasSent x_isSealed x_metered x_sealedCount bk_counts bk_needs bk_whens bk_sides bk_quantities bk_limits ag_toldLies ag_passedLies ag_words ag_vectors ag_liarOperator ag_rounds mk_entries mk_slots mk_remainders mk_blocks mk_blockBids mk_blockOffers mk_entryCount mk_blockCount cv_limits cv_bids cv_offers cv_count cv_allBids cv_allOffers cv_meetingPrice cv_sureBids cv_sureOffers cv_priceBids cv_priceOffers cv_volume cv_worth oc_prices oc_volumes oc_filled oc_worth oc_takenSet oc_isDone, hT) (f_c_empty (cv_count 2) (cv_allBids 2) (cv_allOffers 2)) (fun r => (0, none, ex, (HX x_members x_collaterals x_hasSent x_isSealed x_metered x_sealedCount bk_counts bk_needs bk_whens bk_sides bk_quantities bk_limits ag_toldLies ag_passedLies ag_words ag_vectors ag_liarOperator ag_rounds mk_entries mk_slots mk_remainders mk_blocks mk_blockBids mk_blockOffers mk_entryCount mk_blockCount cv_limits cv_bids cv_offers (va_up cv_count 2 r.1) (va_up cv_allBids 2 r.2.1) (va_up cv_allOffers 2 r.2.2) cv_meetingPrice cv_sureBids cv_sureOffers cv_priceBids cv_priceOffers cv_volume cv_worth oc_prices oc_volumes oc_filled oc_worth oc_takenSet oc_isDone, hT), 0, 0)) := by
  refine mz_of (by decide) (Nat.le_of_ble_eq_true rfl) ?_
  rw [f_c_empty]
  show mz_A g M_c_empty (mz_rm 0) _ 0 [(0, .ref 27)] [] ex (HX x_members x_collaterals x_hasSent x_isSealed x_metered x_sealedCount bk_counts bk_needs bk_whens bk_sides bk_quantities bk_limits ag_toldLies ag_passedLies ag_words ag_vectors ag_liarOperator ag_rounds mk_entries mk_slots mk_remainders mk_blocks mk_blockBids mk_blockOffers mk_entryCount mk_blockCount cv_limits cv_bids cv_offers cv_count cv_allBids cv_allOffers cv_meetingPrice cv_sureBids cv_sureOffers cv_priceBids cv_priceOffers cv_volume cv_worth oc_prices oc_volumes oc_filled oc_worth oc_takenSet oc_isDone, hT) 0 0 _
  refine mr_aload_n d_c_empty_0 rfl rfl ?_
  refine mr_iconst (v := 0) d_c_empty_1 mc_iconst_0 ?_
  refine mr_put (h2 := (HX x_members x_collaterals x_hasSent x_isSealed x_metered x_sealedCount bk_counts bk_needs bk_whens bk_sides bk_quantities bk_limits ag_toldLies ag_passedLies ag_words ag_vectors ag_liarOperator ag_rounds mk_entries mk_slots mk_remainders mk_blocks mk_blockBids mk_blockOffers mk_entryCount mk_blockCount cv_limits cv_bids cv_offers (va_up cv_count 2 0) cv_allBids cv_allOffers cv_meetingPrice cv_sureBids cv_sureOffers cv_priceBids cv_priceOffers cv_volume cv_worth oc_prices oc_volumes oc_filled oc_worth oc_takenSet oc_isDone, hT)) K_c 3 d_c_empty_2 lk_f_c_21 (by decide) rfl rfl rfl (Nat.le_of_ble_eq_true rfl) rfl rfl ?_
  refine mr_aload_n d_c_empty_5 rfl rfl ?_
  refine mr_iconst (v := 0) d_c_empty_6 mc_iconst_0 ?_
  refine mr_put (h2 := (HX x_members x_collaterals x_hasSent x_isSealed x_metered x_sealedCount bk_counts bk_needs bk_whens bk_sides bk_quantities bk_limits ag_toldLies ag_passedLies ag_words ag_vectors ag_liarOperator ag_rounds mk_entries mk_slots mk_remainders mk_blocks mk_blockBids mk_blockOffers mk_entryCount mk_blockCount cv_limits cv_bids cv_offers (va_up cv_count 2 0) (va_up cv_allBids 2 0) cv_allOffers cv_meetingPrice cv_sureBids cv_sureOffers cv_priceBids cv_priceOffers cv_volume cv_worth oc_prices oc_volumes oc_filled oc_worth oc_takenSet oc_isDone, hT)) K_c 4 d_c_empty_7 lk_f_c_25 (by decide) rfl rfl rfl (Nat.le_of_ble_eq_true rfl) rfl rfl ?_
  refine mr_aload_n d_c_empty_10 rfl rfl ?_
  refine mr_iconst (v := 0) d_c_empty_11 mc_iconst_0 ?_
  refine mr_put (h2 := (HX x_members x_collaterals x_hasSent x_isSealed x_metered x_sealedCount bk_counts bk_needs bk_whens bk_sides bk_quantities bk_limits ag_toldLies ag_passedLies ag_words ag_vectors ag_liarOperator ag_rounds mk_entries mk_slots mk_remainders mk_blocks mk_blockBids mk_blockOffers mk_entryCount mk_blockCount cv_limits cv_bids cv_offers (va_up cv_count 2 0) (va_up cv_allBids 2 0) (va_up cv_allOffers 2 0) cv_meetingPrice cv_sureBids cv_sureOffers cv_priceBids cv_priceOffers cv_volume cv_worth oc_prices oc_volumes oc_filled oc_worth oc_takenSet oc_isDone, hT)) K_c 5 d_c_empty_12 lk_f_c_28 (by decide) rfl rfl rfl (Nat.le_of_ble_eq_true rfl) rfl rfl ?_
  exact mr_vret d_c_empty_15 rfl rfl
theorem e_c_empty {g : mz_G} {ex : Bool} {hT : List mz_E} {x_members : Int32} {x_collaterals : Nat → Int32} {x_hasSent : Nat → Int32} {x_isSealed : Nat → Int32} {x_metered : Nat → Int32} {x_sealedCount : Int32} {bk_counts : Nat → Int32} {bk_needs : Nat → Int64} {bk_whens : Nat → Int32} {bk_sides : Nat → Int32} {bk_quantities : Nat → Int32} {bk_limits : Nat → Int32} {ag_toldLies : Nat → Int32} {ag_passedLies : Nat → Int32} {ag_words : Nat → Int32} {ag_vectors : Nat → Int32} {ag_liarOperator : Int32} {ag_rounds : Int32} {mk_entries : Nat → Int32} {mk_slots : Nat → Int32} {mk_remainders : Nat → Int32} {mk_blocks : Nat → Int32} {mk_blockBids : Nat → Int32} {mk_blockOffers : Nat → Int32} {mk_entryCount : Int32} {mk_blockCount : Int32} {cv_limits : Nat → Nat → Int32} {cv_bids : Nat → Nat → Int32} {cv_offers : Nat → Nat → Int32} {cv_count : Nat → Int32} {cv_allBids : Nat → Int32} {cv_allOffers : Nat → Int32} {cv_meetingPrice : Nat → Int32} {cv_sureBids : Nat → Int32} {cv_sureOffers : Nat → Int32} {cv_priceBids : Nat → Int32} {cv_priceOffers : Nat → Int32} {cv_volume : Nat → Int32} {cv_worth : Nat → Int64} {oc_prices : Nat → Nat → Int32} {oc_volumes : Nat → Nat → Int32} {oc_filled : Nat → Nat → Int32} {oc_worth : Nat → Int64} {oc_takenSet : Nat → Int32} {oc_isDone : Nat → Int32} {j : Nat} (hj : j < 3) : mz_M g M_c_empty 0 [.ref (19 + 4 * j)] ex (HX x_members x_collaterals x_hasSent x_isSealed x_metered x_sealedCount bk_counts bk_needs bk_whens bk_sides bk_quantities bk_limits ag_toldLies ag_passedLies ag_words ag_vectors ag_liarOperator ag_rounds mk_entries mk_slots mk_remainders mk_blocks mk_blockBids mk_blockOffers mk_entryCount mk_blockCount cv_limits cv_bids cv_offers cv_count cv_allBids cv_allOffers cv_meetingPrice cv_sureBids cv_sureOffers cv_priceBids cv_priceOffers cv_volume cv_worth oc_prices oc_volumes oc_filled oc_worth oc_takenSet oc_isDone, hT) (f_c_empty (cv_count j) (cv_allBids j) (cv_allOffers j)) (fun r => (0, none, ex, (HX x_members x_collaterals x_hasSent x_isSealed x_metered x_sealedCount bk_counts bk_needs bk_whens bk_sides bk_quantities bk_limits ag_toldLies ag_passedLies ag_words ag_vectors ag_liarOperator ag_rounds mk_entries mk_slots mk_remainders mk_blocks mk_blockBids mk_blockOffers mk_entryCount mk_blockCount cv_limits cv_bids cv_offers (va_up cv_count j r.1) (va_up cv_allBids j r.2.1) (va_up cv_allOffers j r.2.2) cv_meetingPrice cv_sureBids cv_sureOffers cv_priceBids cv_priceOffers cv_volume cv_worth oc_prices oc_volumes oc_filled oc_worth oc_takenSet oc_isDone, hT), 0, 0)) := match j, hj with | 0, _ => e_c_empty_0 | 1, _ => e_c_empty_1 | 2, _ => e_c_empty_2 | j + 3, h => absurd h (by omega)
set_option maxRecDepth 100000 in
set_option maxHeartbeats 4000000 in
theorem e_bk_isBlock {g : mz_G} {ex : Bool} {hT : List mz_E} {x_members : Int32} {x_collaterals : Nat → Int32} {x_hasSent : Nat → Int32} {x_isSealed : Nat → Int32} {x_metered : Nat → Int32} {x_sealedCount : Int32} {bk_counts : Nat → Int32} {bk_needs : Nat → Int64} {bk_whens : Nat → Int32} {bk_sides : Nat → Int32} {bk_quantities : Nat → Int32} {bk_limits : Nat → Int32} {ag_toldLies : Nat → Int32} {ag_passedLies : Nat → Int32} {ag_words : Nat → Int32} {ag_vectors : Nat → Int32} {ag_liarOperator : Int32} {ag_rounds : Int32} {mk_entries : Nat → Int32} {mk_slots : Nat → Int32} {mk_remainders : Nat → Int32} {mk_blocks : Nat → Int32} {mk_blockBids : Nat → Int32} {mk_blockOffers : Nat → Int32} {mk_entryCount : Int32} {mk_blockCount : Int32} {cv_limits : Nat → Nat → Int32} {cv_bids : Nat → Nat → Int32} {cv_offers : Nat → Nat → Int32} {cv_count : Nat → Int32} {cv_allBids : Nat → Int32} {cv_allOffers : Nat → Int32} {cv_meetingPrice : Nat → Int32} {cv_sureBids : Nat → Int32} {cv_sureOffers : Nat → Int32} {cv_priceBids : Nat → Int32} {cv_priceOffers : Nat → Int32} {cv_volume : Nat → Int32} {cv_worth : Nat → Int64} {oc_prices : Nat → Nat → Int32} {oc_volumes : Nat → Nat → Int32} {oc_filled : Nat → Nat → Int32} {oc_worth : Nat → Int64} {oc_takenSet : Nat → Int32} {oc_isDone : Nat → Int32} {x1 : Int32} : mz_M g M_bk_isBlock 0 [.ref 5, .int x1] ex (HX x_members x_collaterals x_hasSent x_isSealed x_metered x_sealedCount bk_counts bk_needs bk_whens bk_sides bk_quantities bk_limits ag_toldLies ag_passedLies ag_words ag_vectors ag_liarOperator ag_rounds mk_entries mk_slots mk_remainders mk_blocks mk_blockBids mk_blockOffers mk_entryCount mk_blockCount cv_limits cv_bids cv_offers cv_count cv_allBids cv_allOffers cv_meetingPrice cv_sureBids cv_sureOffers cv_priceBids cv_priceOffers cv_volume cv_worth oc_prices oc_volumes oc_filled oc_worth oc_takenSet oc_isDone, hT) (f_bk_isBlock bk_whens x1) (fun r => (0, some (.int r), ex, (HX x_members x_collaterals x_hasSent x_isSealed x_metered x_sealedCount bk_counts bk_needs bk_whens bk_sides bk_quantities bk_limits ag_toldLies ag_passedLies ag_words ag_vectors ag_liarOperator ag_rounds mk_entries mk_slots mk_remainders mk_blocks mk_blockBids mk_blockOffers mk_entryCount mk_blockCount cv_limits cv_bids cv_offers cv_count cv_allBids cv_allOffers cv_meetingPrice cv_sureBids cv_sureOffers cv_priceBids cv_priceOffers cv_volume cv_worth oc_prices oc_volumes oc_filled oc_worth oc_takenSet oc_isDone, hT), 0, 0)) := by
  refine mz_of (by decide) (Nat.le_of_ble_eq_true rfl) ?_
  rw [f_bk_isBlock]
  show mz_A g M_bk_isBlock (mz_rm 0) _ 0 [(0, .ref 5), (1, .int x1)] [] ex (HX x_members x_collaterals x_hasSent x_isSealed x_metered x_sealedCount bk_counts bk_needs bk_whens bk_sides bk_quantities bk_limits ag_toldLies ag_passedLies ag_words ag_vectors ag_liarOperator ag_rounds mk_entries mk_slots mk_remainders mk_blocks mk_blockBids mk_blockOffers mk_entryCount mk_blockCount cv_limits cv_bids cv_offers cv_count cv_allBids cv_allOffers cv_meetingPrice cv_sureBids cv_sureOffers cv_priceBids cv_priceOffers cv_volume cv_worth oc_prices oc_volumes oc_filled oc_worth oc_takenSet oc_isDone, hT) 0 0 _
  refine mr_aload_n d_bk_isBlock_0 rfl rfl ?_
  refine mr_get K_bk 2 d_bk_isBlock_1 lk_f_bk_19 (by decide) rfl rfl ?_
  refine mr_iload_n d_bk_isBlock_4 rfl rfl ?_
  refine mr_iald d_bk_isBlock_5 rfl (fun hc1 => ?_)
  refine mr_bipush (v := 100) d_bk_isBlock_6 mc_bipush_100 ?_
  refine mr_icmp_lt (tgt := 15) d_bk_isBlock_8 (by decide) ?_ ?_
  · refine mr_iconst (v := 0) d_bk_isBlock_15 mc_iconst_0 ?_
    exact mr_zret d_bk_isBlock_16 rfl rfl
  · refine mr_iconst (v := 1) d_bk_isBlock_11 mc_iconst_1 ?_
    refine mr_goto (tgt := 16) d_bk_isBlock_12 (by decide) ?_
    exact mr_zret d_bk_isBlock_16 rfl rfl
