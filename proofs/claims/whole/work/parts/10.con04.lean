set_option maxRecDepth 100000 in
set_option maxHeartbeats 4000000 in
theorem e_x_clearedBy {g : mz_G} {ex : Bool} {hT : List mz_E} {x_members : Int32} {x_collaterals : Nat → Int32} {x_hasSent : Nat → Int32} {x_isSealed : Nat → Int32} {x_metered : Nat → Int32} {x_sealedCount : Int32} {bk_counts : Nat → Int32} {bk_needs : Nat → Int64} {bk_whens : Nat → Int32} {bk_sides : Nat → Int32} {bk_quantities : Nat → Int32} {bk_limits : Nat → Int32} {ag_toldLies : Nat → Int32} {ag_passedLies : Nat → Int32} {ag_words : Nat → Int32} {ag_vectors : Nat → Int32} {ag_liarOperator : Int32} {ag_rounds : Int32} {mk_entries : Nat → Int32} {mk_slots : Nat → Int32} {mk_remainders : Nat → Int32} {mk_blocks : Nat → Int32} {mk_blockBids : Nat → Int32} {mk_blockOffers : Nat → Int32} {mk_entryCount : Int32} {mk_blockCount : Int32} {cv_limits : Nat → Nat → Int32} {cv_bids : Nat → Nat → Int32} {cv_offers : Nat → Nat → Int32} {cv_count : Nat → Int32} {cv_allBids : Nat → Int32} {cv_allOffers : Nat → Int32} {cv_meetingPrice : Nat → Int32} {cv_sureBids : Nat → Int32} {cv_sureOffers : Nat → Int32} {cv_priceBids : Nat → Int32} {cv_priceOffers : Nat → Int32} {cv_volume : Nat → Int32} {cv_worth : Nat → Int64} {oc_prices : Nat → Nat → Int32} {oc_volumes : Nat → Nat → Int32} {oc_filled : Nat → Nat → Int32} {oc_worth : Nat → Int64} {oc_takenSet : Nat → Int32} {oc_isDone : Nat → Int32} {x1 : Int32} : mz_M g M_x_clearedBy 6 [.ref 0, .int x1] ex (HX x_members x_collaterals x_hasSent x_isSealed x_metered x_sealedCount bk_counts bk_needs bk_whens bk_sides bk_quantities bk_limits ag_toldLies ag_passedLies ag_words ag_vectors ag_liarOperator ag_rounds mk_entries mk_slots mk_remainders mk_blocks mk_blockBids mk_blockOffers mk_entryCount mk_blockCount cv_limits cv_bids cv_offers cv_count cv_allBids cv_allOffers cv_meetingPrice cv_sureBids cv_sureOffers cv_priceBids cv_priceOffers cv_volume cv_worth oc_prices oc_volumes oc_filled oc_worth oc_takenSet oc_isDone, hT) (f_x_clearedBy oc_isDone x1) (fun r => (r, some (.ref (38 + 4 * x1.toNatClampNeg)), mz_x ex r, (HX x_members x_collaterals x_hasSent x_isSealed x_metered x_sealedCount bk_counts bk_needs bk_whens bk_sides bk_quantities bk_limits ag_toldLies ag_passedLies ag_words ag_vectors ag_liarOperator ag_rounds mk_entries mk_slots mk_remainders mk_blocks mk_blockBids mk_blockOffers mk_entryCount mk_blockCount cv_limits cv_bids cv_offers cv_count cv_allBids cv_allOffers cv_meetingPrice cv_sureBids cv_sureOffers cv_priceBids cv_priceOffers cv_volume cv_worth oc_prices oc_volumes oc_filled oc_worth oc_takenSet oc_isDone, hT), mz_k r, mz_6 r)) := by
  refine mz_of (by decide) (Nat.le_of_ble_eq_true rfl) ?_
  rw [f_x_clearedBy]
  show mz_A g M_x_clearedBy (mz_rm 6) _ 0 [(0, .ref 0), (1, .int x1)] [] ex (HX x_members x_collaterals x_hasSent x_isSealed x_metered x_sealedCount bk_counts bk_needs bk_whens bk_sides bk_quantities bk_limits ag_toldLies ag_passedLies ag_words ag_vectors ag_liarOperator ag_rounds mk_entries mk_slots mk_remainders mk_blocks mk_blockBids mk_blockOffers mk_entryCount mk_blockCount cv_limits cv_bids cv_offers cv_count cv_allBids cv_allOffers cv_meetingPrice cv_sureBids cv_sureOffers cv_priceBids cv_priceOffers cv_volume cv_worth oc_prices oc_volumes oc_filled oc_worth oc_takenSet oc_isDone, hT) 0 0 _
  refine mr_aload_n d_x_clearedBy_0 rfl rfl ?_
  refine mr_get K_x 8 d_x_clearedBy_1 lk_f_x_52 (by decide) rfl rfl ?_
  refine mr_iload_n d_x_clearedBy_4 rfl rfl ?_
  refine mr_aald d_x_clearedBy_5 (fun _ => rfl) rfl (fun _ => rfl) (fun hc1 => ?_)
  refine mr_getN K_o 5 d_x_clearedBy_6 lk_f_x_157 (by decide) (gt_o (mz_lt hc1)) rfl ?_
  refine mr_if_ne (tgt := 22) d_x_clearedBy_9 (by decide) ?_ ?_
  · refine mr_aload_n d_x_clearedBy_22 rfl rfl ?_
    refine mr_get K_x 8 d_x_clearedBy_23 lk_f_x_52 (by decide) rfl rfl ?_
    refine mr_iload_n d_x_clearedBy_26 rfl rfl ?_
    refine mr_aaldK d_x_clearedBy_27 (fun _ => rfl) rfl hc1 rfl ?_
    exact mr_aret d_x_clearedBy_28 rfl rfl
  · exact mr_throw d_x_clearedBy_12 d_x_clearedBy_15 d_x_clearedBy_16 d_x_clearedBy_18 d_x_clearedBy_21 tw_x_224_2 rfl (Nat.le_of_ble_eq_true rfl) (Nat.le_of_ble_eq_true rfl) (Nat.le_of_ble_eq_true rfl) (Nat.le_of_ble_eq_true rfl) rfl
set_option maxRecDepth 100000 in
set_option maxHeartbeats 4000000 in
theorem e_x_price {g : mz_G} {ex : Bool} {hT : List mz_E} {x_members : Int32} {x_collaterals : Nat → Int32} {x_hasSent : Nat → Int32} {x_isSealed : Nat → Int32} {x_metered : Nat → Int32} {x_sealedCount : Int32} {bk_counts : Nat → Int32} {bk_needs : Nat → Int64} {bk_whens : Nat → Int32} {bk_sides : Nat → Int32} {bk_quantities : Nat → Int32} {bk_limits : Nat → Int32} {ag_toldLies : Nat → Int32} {ag_passedLies : Nat → Int32} {ag_words : Nat → Int32} {ag_vectors : Nat → Int32} {ag_liarOperator : Int32} {ag_rounds : Int32} {mk_entries : Nat → Int32} {mk_slots : Nat → Int32} {mk_remainders : Nat → Int32} {mk_blocks : Nat → Int32} {mk_blockBids : Nat → Int32} {mk_blockOffers : Nat → Int32} {mk_entryCount : Int32} {mk_blockCount : Int32} {cv_limits : Nat → Nat → Int32} {cv_bids : Nat → Nat → Int32} {cv_offers : Nat → Nat → Int32} {cv_count : Nat → Int32} {cv_allBids : Nat → Int32} {cv_allOffers : Nat → Int32} {cv_meetingPrice : Nat → Int32} {cv_sureBids : Nat → Int32} {cv_sureOffers : Nat → Int32} {cv_priceBids : Nat → Int32} {cv_priceOffers : Nat → Int32} {cv_volume : Nat → Int32} {cv_worth : Nat → Int64} {oc_prices : Nat → Nat → Int32} {oc_volumes : Nat → Nat → Int32} {oc_filled : Nat → Nat → Int32} {oc_worth : Nat → Int64} {oc_takenSet : Nat → Int32} {oc_isDone : Nat → Int32} {x1 : Int32} {x2 : Int32} : mz_M g M_x_price 7 [.ref 0, .int x1, .int x2] ex (HX x_members x_collaterals x_hasSent x_isSealed x_metered x_sealedCount bk_counts bk_needs bk_whens bk_sides bk_quantities bk_limits ag_toldLies ag_passedLies ag_words ag_vectors ag_liarOperator ag_rounds mk_entries mk_slots mk_remainders mk_blocks mk_blockBids mk_blockOffers mk_entryCount mk_blockCount cv_limits cv_bids cv_offers cv_count cv_allBids cv_allOffers cv_meetingPrice cv_sureBids cv_sureOffers cv_priceBids cv_priceOffers cv_volume cv_worth oc_prices oc_volumes oc_filled oc_worth oc_takenSet oc_isDone, hT) (f_x_price oc_prices oc_isDone x1 x2) (fun r => (r.1, some (.int r.2), mz_x ex r.1, (HX x_members x_collaterals x_hasSent x_isSealed x_metered x_sealedCount bk_counts bk_needs bk_whens bk_sides bk_quantities bk_limits ag_toldLies ag_passedLies ag_words ag_vectors ag_liarOperator ag_rounds mk_entries mk_slots mk_remainders mk_blocks mk_blockBids mk_blockOffers mk_entryCount mk_blockCount cv_limits cv_bids cv_offers cv_count cv_allBids cv_allOffers cv_meetingPrice cv_sureBids cv_sureOffers cv_priceBids cv_priceOffers cv_volume cv_worth oc_prices oc_volumes oc_filled oc_worth oc_takenSet oc_isDone, hT), mz_k r.1, mz_6 r.1)) := by
  have w_b14 : mz_A g M_x_price (mz_rm 7) (fun r => (r.1, some (.int r.2), mz_x ex r.1, (HX x_members x_collaterals x_hasSent x_isSealed x_metered x_sealedCount bk_counts bk_needs bk_whens bk_sides bk_quantities bk_limits ag_toldLies ag_passedLies ag_words ag_vectors ag_liarOperator ag_rounds mk_entries mk_slots mk_remainders mk_blocks mk_blockBids mk_blockOffers mk_entryCount mk_blockCount cv_limits cv_bids cv_offers cv_count cv_allBids cv_allOffers cv_meetingPrice cv_sureBids cv_sureOffers cv_priceBids cv_priceOffers cv_volume cv_worth oc_prices oc_volumes oc_filled oc_worth oc_takenSet oc_isDone, hT), mz_k r.1, mz_6 r.1)) 14 [] [] ex (HX x_members x_collaterals x_hasSent x_isSealed x_metered x_sealedCount bk_counts bk_needs bk_whens bk_sides bk_quantities bk_limits ag_toldLies ag_passedLies ag_words ag_vectors ag_liarOperator ag_rounds mk_entries mk_slots mk_remainders mk_blocks mk_blockBids mk_blockOffers mk_entryCount mk_blockCount cv_limits cv_bids cv_offers cv_count cv_allBids cv_allOffers cv_meetingPrice cv_sureBids cv_sureOffers cv_priceBids cv_priceOffers cv_volume cv_worth oc_prices oc_volumes oc_filled oc_worth oc_takenSet oc_isDone, hT) 0 0 (f_x_price_b14 oc_prices oc_isDone) := by
    rw [f_x_price_b14]
    exact mr_throw d_x_price_14 d_x_price_17 d_x_price_18 d_x_price_20 d_x_price_23 tw_x_172_1 rfl (Nat.le_of_ble_eq_true rfl) (Nat.le_of_ble_eq_true rfl) (Nat.le_of_ble_eq_true rfl) (Nat.le_of_ble_eq_true rfl) rfl
  refine mz_of (by decide) (Nat.le_of_ble_eq_true rfl) ?_
  rw [f_x_price]
  show mz_A g M_x_price (mz_rm 7) _ 0 [(0, .ref 0), (1, .int x1), (2, .int x2)] [] ex (HX x_members x_collaterals x_hasSent x_isSealed x_metered x_sealedCount bk_counts bk_needs bk_whens bk_sides bk_quantities bk_limits ag_toldLies ag_passedLies ag_words ag_vectors ag_liarOperator ag_rounds mk_entries mk_slots mk_remainders mk_blocks mk_blockBids mk_blockOffers mk_entryCount mk_blockCount cv_limits cv_bids cv_offers cv_count cv_allBids cv_allOffers cv_meetingPrice cv_sureBids cv_sureOffers cv_priceBids cv_priceOffers cv_volume cv_worth oc_prices oc_volumes oc_filled oc_worth oc_takenSet oc_isDone, hT) 0 0 _
  refine mr_iload_n d_x_price_0 rfl rfl ?_
  refine mz_go (st := []) e_x_isOperator (fun _ => rfl) U_x_isOperator (mz_vS d_x_price_1 U_x_isOperator lk_m_x_95 S_x_isOperator np_x_isOperator) (Nat.le_of_ble_eq_true rfl) (by decide) (fun r1 => ?_)
  refine mr_eq (st' := [.int r1]) (ex' := ex) (h2 := (HX x_members x_collaterals x_hasSent x_isSealed x_metered x_sealedCount bk_counts bk_needs bk_whens bk_sides bk_quantities bk_limits ag_toldLies ag_passedLies ag_words ag_vectors ag_liarOperator ag_rounds mk_entries mk_slots mk_remainders mk_blocks mk_blockBids mk_blockOffers mk_entryCount mk_blockCount cv_limits cv_bids cv_offers cv_count cv_allBids cv_allOffers cv_meetingPrice cv_sureBids cv_sureOffers cv_priceBids cv_priceOffers cv_volume cv_worth oc_prices oc_volumes oc_filled oc_worth oc_takenSet oc_isDone, hT)) (k' := 0) (n' := 0) rfl rfl rfl rfl rfl ?_
  refine mr_if_eq (tgt := 14) d_x_price_4 (by decide) ?_ ?_
  · refine mr_sub (lv' := []) [] rfl ?_
    exact w_b14
  · refine mr_iload_n d_x_price_7 rfl rfl ?_
    refine mz_go (st := []) e_x_isHour (fun _ => rfl) U_x_isHour (mz_vS d_x_price_8 U_x_isHour lk_m_x_77 S_x_isHour np_x_isHour) (Nat.le_of_ble_eq_true rfl) (by decide) (fun r2 => ?_)
    refine mr_eq (st' := [.int r2]) (ex' := ex) (h2 := (HX x_members x_collaterals x_hasSent x_isSealed x_metered x_sealedCount bk_counts bk_needs bk_whens bk_sides bk_quantities bk_limits ag_toldLies ag_passedLies ag_words ag_vectors ag_liarOperator ag_rounds mk_entries mk_slots mk_remainders mk_blocks mk_blockBids mk_blockOffers mk_entryCount mk_blockCount cv_limits cv_bids cv_offers cv_count cv_allBids cv_allOffers cv_meetingPrice cv_sureBids cv_sureOffers cv_priceBids cv_priceOffers cv_volume cv_worth oc_prices oc_volumes oc_filled oc_worth oc_takenSet oc_isDone, hT)) (k' := 0) (n' := 0) rfl rfl rfl rfl rfl ?_
    refine mr_if_ne (tgt := 24) d_x_price_11 (by decide) ?_ ?_
    · refine mr_aload_n d_x_price_24 rfl rfl ?_
      refine mr_iload_n d_x_price_25 rfl rfl ?_
      refine mz_goT (st := []) e_x_clearedBy U_x_clearedBy (mz_vV d_x_price_26 U_x_clearedBy rfl lk_m_x_174 I_x_clearedBy s_x_clearedBy np_x_clearedBy rfl rfl) (Nat.le_of_ble_eq_true rfl) (by decide) rfl (fun r3 h0 => ?_) (fun r3 h0 r9 hr9 => ?_)
      · refine mr_eq (st' := [.ref (38 + 4 * x1.toNatClampNeg)]) (ex' := ex) (h2 := (HX x_members x_collaterals x_hasSent x_isSealed x_metered x_sealedCount bk_counts bk_needs bk_whens bk_sides bk_quantities bk_limits ag_toldLies ag_passedLies ag_words ag_vectors ag_liarOperator ag_rounds mk_entries mk_slots mk_remainders mk_blocks mk_blockBids mk_blockOffers mk_entryCount mk_blockCount cv_limits cv_bids cv_offers cv_count cv_allBids cv_allOffers cv_meetingPrice cv_sureBids cv_sureOffers cv_priceBids cv_priceOffers cv_volume cv_worth oc_prices oc_volumes oc_filled oc_worth oc_takenSet oc_isDone, hT)) (k' := 0) (n' := 0) rfl (mz_x0 h0) rfl (mz_k0 h0) (mz_60 h0) ?_
        refine mr_ifp h0 ?_
        refine mr_ghost (fun hg4 => ?_)
        refine mr_getN K_o 0 d_x_price_29 lk_f_x_178 (by decide) (gt_o (Nat.not_le.mp hg4)) rfl ?_
        refine mr_iload_n d_x_price_32 rfl rfl ?_
        refine mr_iald d_x_price_33 (gt_o_prices (Nat.not_le.mp hg4)) (fun hc5 => ?_)
        exact mr_iret d_x_price_34 rfl rfl
      · rw [if_neg h0] at hr9
        cases hr9
        exact ⟨some (.int 0), by rw [Nat.zero_add, Nat.zero_add]⟩
    · refine mr_sub (lv' := []) [] rfl ?_
      exact w_b14
set_option maxRecDepth 100000 in
set_option maxHeartbeats 4000000 in
theorem e_x_traded {g : mz_G} {ex : Bool} {hT : List mz_E} {x_members : Int32} {x_collaterals : Nat → Int32} {x_hasSent : Nat → Int32} {x_isSealed : Nat → Int32} {x_metered : Nat → Int32} {x_sealedCount : Int32} {bk_counts : Nat → Int32} {bk_needs : Nat → Int64} {bk_whens : Nat → Int32} {bk_sides : Nat → Int32} {bk_quantities : Nat → Int32} {bk_limits : Nat → Int32} {ag_toldLies : Nat → Int32} {ag_passedLies : Nat → Int32} {ag_words : Nat → Int32} {ag_vectors : Nat → Int32} {ag_liarOperator : Int32} {ag_rounds : Int32} {mk_entries : Nat → Int32} {mk_slots : Nat → Int32} {mk_remainders : Nat → Int32} {mk_blocks : Nat → Int32} {mk_blockBids : Nat → Int32} {mk_blockOffers : Nat → Int32} {mk_entryCount : Int32} {mk_blockCount : Int32} {cv_limits : Nat → Nat → Int32} {cv_bids : Nat → Nat → Int32} {cv_offers : Nat → Nat → Int32} {cv_count : Nat → Int32} {cv_allBids : Nat → Int32} {cv_allOffers : Nat → Int32} {cv_meetingPrice : Nat → Int32} {cv_sureBids : Nat → Int32} {cv_sureOffers : Nat → Int32} {cv_priceBids : Nat → Int32} {cv_priceOffers : Nat → Int32} {cv_volume : Nat → Int32} {cv_worth : Nat → Int64} {oc_prices : Nat → Nat → Int32} {oc_volumes : Nat → Nat → Int32} {oc_filled : Nat → Nat → Int32} {oc_worth : Nat → Int64} {oc_takenSet : Nat → Int32} {oc_isDone : Nat → Int32} {x1 : Int32} {x2 : Int32} : mz_M g M_x_traded 7 [.ref 0, .int x1, .int x2] ex (HX x_members x_collaterals x_hasSent x_isSealed x_metered x_sealedCount bk_counts bk_needs bk_whens bk_sides bk_quantities bk_limits ag_toldLies ag_passedLies ag_words ag_vectors ag_liarOperator ag_rounds mk_entries mk_slots mk_remainders mk_blocks mk_blockBids mk_blockOffers mk_entryCount mk_blockCount cv_limits cv_bids cv_offers cv_count cv_allBids cv_allOffers cv_meetingPrice cv_sureBids cv_sureOffers cv_priceBids cv_priceOffers cv_volume cv_worth oc_prices oc_volumes oc_filled oc_worth oc_takenSet oc_isDone, hT) (f_x_traded oc_volumes oc_isDone x1 x2) (fun r => (r.1, some (.int r.2), mz_x ex r.1, (HX x_members x_collaterals x_hasSent x_isSealed x_metered x_sealedCount bk_counts bk_needs bk_whens bk_sides bk_quantities bk_limits ag_toldLies ag_passedLies ag_words ag_vectors ag_liarOperator ag_rounds mk_entries mk_slots mk_remainders mk_blocks mk_blockBids mk_blockOffers mk_entryCount mk_blockCount cv_limits cv_bids cv_offers cv_count cv_allBids cv_allOffers cv_meetingPrice cv_sureBids cv_sureOffers cv_priceBids cv_priceOffers cv_volume cv_worth oc_prices oc_volumes oc_filled oc_worth oc_takenSet oc_isDone, hT), mz_k r.1, mz_6 r.1)) := by
  have w_b14 : mz_A g M_x_traded (mz_rm 7) (fun r => (r.1, some (.int r.2), mz_x ex r.1, (HX x_members x_collaterals x_hasSent x_isSealed x_metered x_sealedCount bk_counts bk_needs bk_whens bk_sides bk_quantities bk_limits ag_toldLies ag_passedLies ag_words ag_vectors ag_liarOperator ag_rounds mk_entries mk_slots mk_remainders mk_blocks mk_blockBids mk_blockOffers mk_entryCount mk_blockCount cv_limits cv_bids cv_offers cv_count cv_allBids cv_allOffers cv_meetingPrice cv_sureBids cv_sureOffers cv_priceBids cv_priceOffers cv_volume cv_worth oc_prices oc_volumes oc_filled oc_worth oc_takenSet oc_isDone, hT), mz_k r.1, mz_6 r.1)) 14 [] [] ex (HX x_members x_collaterals x_hasSent x_isSealed x_metered x_sealedCount bk_counts bk_needs bk_whens bk_sides bk_quantities bk_limits ag_toldLies ag_passedLies ag_words ag_vectors ag_liarOperator ag_rounds mk_entries mk_slots mk_remainders mk_blocks mk_blockBids mk_blockOffers mk_entryCount mk_blockCount cv_limits cv_bids cv_offers cv_count cv_allBids cv_allOffers cv_meetingPrice cv_sureBids cv_sureOffers cv_priceBids cv_priceOffers cv_volume cv_worth oc_prices oc_volumes oc_filled oc_worth oc_takenSet oc_isDone, hT) 0 0 (f_x_traded_b14 oc_volumes oc_isDone) := by
    rw [f_x_traded_b14]
    exact mr_throw d_x_traded_14 d_x_traded_17 d_x_traded_18 d_x_traded_20 d_x_traded_23 tw_x_172_1 rfl (Nat.le_of_ble_eq_true rfl) (Nat.le_of_ble_eq_true rfl) (Nat.le_of_ble_eq_true rfl) (Nat.le_of_ble_eq_true rfl) rfl
  refine mz_of (by decide) (Nat.le_of_ble_eq_true rfl) ?_
  rw [f_x_traded]
  show mz_A g M_x_traded (mz_rm 7) _ 0 [(0, .ref 0), (1, .int x1), (2, .int x2)] [] ex (HX x_members x_collaterals x_hasSent x_isSealed x_metered x_sealedCount bk_counts bk_needs bk_whens bk_sides bk_quantities bk_limits ag_toldLies ag_passedLies ag_words ag_vectors ag_liarOperator ag_rounds mk_entries mk_slots mk_remainders mk_blocks mk_blockBids mk_blockOffers mk_entryCount mk_blockCount cv_limits cv_bids cv_offers cv_count cv_allBids cv_allOffers cv_meetingPrice cv_sureBids cv_sureOffers cv_priceBids cv_priceOffers cv_volume cv_worth oc_prices oc_volumes oc_filled oc_worth oc_takenSet oc_isDone, hT) 0 0 _
  refine mr_iload_n d_x_traded_0 rfl rfl ?_
  refine mz_go (st := []) e_x_isOperator (fun _ => rfl) U_x_isOperator (mz_vS d_x_traded_1 U_x_isOperator lk_m_x_95 S_x_isOperator np_x_isOperator) (Nat.le_of_ble_eq_true rfl) (by decide) (fun r1 => ?_)
  refine mr_eq (st' := [.int r1]) (ex' := ex) (h2 := (HX x_members x_collaterals x_hasSent x_isSealed x_metered x_sealedCount bk_counts bk_needs bk_whens bk_sides bk_quantities bk_limits ag_toldLies ag_passedLies ag_words ag_vectors ag_liarOperator ag_rounds mk_entries mk_slots mk_remainders mk_blocks mk_blockBids mk_blockOffers mk_entryCount mk_blockCount cv_limits cv_bids cv_offers cv_count cv_allBids cv_allOffers cv_meetingPrice cv_sureBids cv_sureOffers cv_priceBids cv_priceOffers cv_volume cv_worth oc_prices oc_volumes oc_filled oc_worth oc_takenSet oc_isDone, hT)) (k' := 0) (n' := 0) rfl rfl rfl rfl rfl ?_
  refine mr_if_eq (tgt := 14) d_x_traded_4 (by decide) ?_ ?_
  · refine mr_sub (lv' := []) [] rfl ?_
    exact w_b14
  · refine mr_iload_n d_x_traded_7 rfl rfl ?_
    refine mz_go (st := []) e_x_isHour (fun _ => rfl) U_x_isHour (mz_vS d_x_traded_8 U_x_isHour lk_m_x_77 S_x_isHour np_x_isHour) (Nat.le_of_ble_eq_true rfl) (by decide) (fun r2 => ?_)
    refine mr_eq (st' := [.int r2]) (ex' := ex) (h2 := (HX x_members x_collaterals x_hasSent x_isSealed x_metered x_sealedCount bk_counts bk_needs bk_whens bk_sides bk_quantities bk_limits ag_toldLies ag_passedLies ag_words ag_vectors ag_liarOperator ag_rounds mk_entries mk_slots mk_remainders mk_blocks mk_blockBids mk_blockOffers mk_entryCount mk_blockCount cv_limits cv_bids cv_offers cv_count cv_allBids cv_allOffers cv_meetingPrice cv_sureBids cv_sureOffers cv_priceBids cv_priceOffers cv_volume cv_worth oc_prices oc_volumes oc_filled oc_worth oc_takenSet oc_isDone, hT)) (k' := 0) (n' := 0) rfl rfl rfl rfl rfl ?_
    refine mr_if_ne (tgt := 24) d_x_traded_11 (by decide) ?_ ?_
    · refine mr_aload_n d_x_traded_24 rfl rfl ?_
      refine mr_iload_n d_x_traded_25 rfl rfl ?_
      refine mz_goT (st := []) e_x_clearedBy U_x_clearedBy (mz_vV d_x_traded_26 U_x_clearedBy rfl lk_m_x_174 I_x_clearedBy s_x_clearedBy np_x_clearedBy rfl rfl) (Nat.le_of_ble_eq_true rfl) (by decide) rfl (fun r3 h0 => ?_) (fun r3 h0 r9 hr9 => ?_)
      · refine mr_eq (st' := [.ref (38 + 4 * x1.toNatClampNeg)]) (ex' := ex) (h2 := (HX x_members x_collaterals x_hasSent x_isSealed x_metered x_sealedCount bk_counts bk_needs bk_whens bk_sides bk_quantities bk_limits ag_toldLies ag_passedLies ag_words ag_vectors ag_liarOperator ag_rounds mk_entries mk_slots mk_remainders mk_blocks mk_blockBids mk_blockOffers mk_entryCount mk_blockCount cv_limits cv_bids cv_offers cv_count cv_allBids cv_allOffers cv_meetingPrice cv_sureBids cv_sureOffers cv_priceBids cv_priceOffers cv_volume cv_worth oc_prices oc_volumes oc_filled oc_worth oc_takenSet oc_isDone, hT)) (k' := 0) (n' := 0) rfl (mz_x0 h0) rfl (mz_k0 h0) (mz_60 h0) ?_
        refine mr_ifp h0 ?_
        refine mr_ghost (fun hg4 => ?_)
        refine mr_getN K_o 1 d_x_traded_29 lk_f_x_181 (by decide) (gt_o (Nat.not_le.mp hg4)) rfl ?_
        refine mr_iload_n d_x_traded_32 rfl rfl ?_
        refine mr_iald d_x_traded_33 (gt_o_volumes (Nat.not_le.mp hg4)) (fun hc5 => ?_)
        exact mr_iret d_x_traded_34 rfl rfl
      · rw [if_neg h0] at hr9
        cases hr9
        exact ⟨some (.int 0), by rw [Nat.zero_add, Nat.zero_add]⟩
    · refine mr_sub (lv' := []) [] rfl ?_
      exact w_b14
set_option maxRecDepth 100000 in
set_option maxHeartbeats 4000000 in
theorem e_x_fill {g : mz_G} {ex : Bool} {hT : List mz_E} {x_members : Int32} {x_collaterals : Nat → Int32} {x_hasSent : Nat → Int32} {x_isSealed : Nat → Int32} {x_metered : Nat → Int32} {x_sealedCount : Int32} {bk_counts : Nat → Int32} {bk_needs : Nat → Int64} {bk_whens : Nat → Int32} {bk_sides : Nat → Int32} {bk_quantities : Nat → Int32} {bk_limits : Nat → Int32} {ag_toldLies : Nat → Int32} {ag_passedLies : Nat → Int32} {ag_words : Nat → Int32} {ag_vectors : Nat → Int32} {ag_liarOperator : Int32} {ag_rounds : Int32} {mk_entries : Nat → Int32} {mk_slots : Nat → Int32} {mk_remainders : Nat → Int32} {mk_blocks : Nat → Int32} {mk_blockBids : Nat → Int32} {mk_blockOffers : Nat → Int32} {mk_entryCount : Int32} {mk_blockCount : Int32} {cv_limits : Nat → Nat → Int32} {cv_bids : Nat → Nat → Int32} {cv_offers : Nat → Nat → Int32} {cv_count : Nat → Int32} {cv_allBids : Nat → Int32} {cv_allOffers : Nat → Int32} {cv_meetingPrice : Nat → Int32} {cv_sureBids : Nat → Int32} {cv_sureOffers : Nat → Int32} {cv_priceBids : Nat → Int32} {cv_priceOffers : Nat → Int32} {cv_volume : Nat → Int32} {cv_worth : Nat → Int64} {oc_prices : Nat → Nat → Int32} {oc_volumes : Nat → Nat → Int32} {oc_filled : Nat → Nat → Int32} {oc_worth : Nat → Int64} {oc_takenSet : Nat → Int32} {oc_isDone : Nat → Int32} {x1 : Int32} {x2 : Int32} {x3 : Int32} : mz_M g M_x_fill 7 [.ref 0, .int x1, .int x2, .int x3] ex (HX x_members x_collaterals x_hasSent x_isSealed x_metered x_sealedCount bk_counts bk_needs bk_whens bk_sides bk_quantities bk_limits ag_toldLies ag_passedLies ag_words ag_vectors ag_liarOperator ag_rounds mk_entries mk_slots mk_remainders mk_blocks mk_blockBids mk_blockOffers mk_entryCount mk_blockCount cv_limits cv_bids cv_offers cv_count cv_allBids cv_allOffers cv_meetingPrice cv_sureBids cv_sureOffers cv_priceBids cv_priceOffers cv_volume cv_worth oc_prices oc_volumes oc_filled oc_worth oc_takenSet oc_isDone, hT) (f_x_fill x_members bk_counts ag_vectors oc_filled oc_isDone x1 x2 x3) (fun r => (r.1, some (.int r.2), mz_x ex r.1, (HX x_members x_collaterals x_hasSent x_isSealed x_metered x_sealedCount bk_counts bk_needs bk_whens bk_sides bk_quantities bk_limits ag_toldLies ag_passedLies ag_words ag_vectors ag_liarOperator ag_rounds mk_entries mk_slots mk_remainders mk_blocks mk_blockBids mk_blockOffers mk_entryCount mk_blockCount cv_limits cv_bids cv_offers cv_count cv_allBids cv_allOffers cv_meetingPrice cv_sureBids cv_sureOffers cv_priceBids cv_priceOffers cv_volume cv_worth oc_prices oc_volumes oc_filled oc_worth oc_takenSet oc_isDone, hT), mz_k r.1, mz_6 r.1)) := by
  have w_b25 : mz_A g M_x_fill (mz_rm 7) (fun r => (r.1, some (.int r.2), mz_x ex r.1, (HX x_members x_collaterals x_hasSent x_isSealed x_metered x_sealedCount bk_counts bk_needs bk_whens bk_sides bk_quantities bk_limits ag_toldLies ag_passedLies ag_words ag_vectors ag_liarOperator ag_rounds mk_entries mk_slots mk_remainders mk_blocks mk_blockBids mk_blockOffers mk_entryCount mk_blockCount cv_limits cv_bids cv_offers cv_count cv_allBids cv_allOffers cv_meetingPrice cv_sureBids cv_sureOffers cv_priceBids cv_priceOffers cv_volume cv_worth oc_prices oc_volumes oc_filled oc_worth oc_takenSet oc_isDone, hT), mz_k r.1, mz_6 r.1)) 25 [] [] ex (HX x_members x_collaterals x_hasSent x_isSealed x_metered x_sealedCount bk_counts bk_needs bk_whens bk_sides bk_quantities bk_limits ag_toldLies ag_passedLies ag_words ag_vectors ag_liarOperator ag_rounds mk_entries mk_slots mk_remainders mk_blocks mk_blockBids mk_blockOffers mk_entryCount mk_blockCount cv_limits cv_bids cv_offers cv_count cv_allBids cv_allOffers cv_meetingPrice cv_sureBids cv_sureOffers cv_priceBids cv_priceOffers cv_volume cv_worth oc_prices oc_volumes oc_filled oc_worth oc_takenSet oc_isDone, hT) 0 0 (f_x_fill_b25 x_members bk_counts ag_vectors oc_filled oc_isDone) := by
    rw [f_x_fill_b25]
    exact mr_throw d_x_fill_25 d_x_fill_28 d_x_fill_29 d_x_fill_31 d_x_fill_34 tw_x_184_1 rfl (Nat.le_of_ble_eq_true rfl) (Nat.le_of_ble_eq_true rfl) (Nat.le_of_ble_eq_true rfl) (Nat.le_of_ble_eq_true rfl) rfl
  refine mz_of (by decide) (Nat.le_of_ble_eq_true rfl) ?_
  rw [f_x_fill]
  show mz_A g M_x_fill (mz_rm 7) _ 0 [(0, .ref 0), (1, .int x1), (2, .int x2), (3, .int x3)] [] ex (HX x_members x_collaterals x_hasSent x_isSealed x_metered x_sealedCount bk_counts bk_needs bk_whens bk_sides bk_quantities bk_limits ag_toldLies ag_passedLies ag_words ag_vectors ag_liarOperator ag_rounds mk_entries mk_slots mk_remainders mk_blocks mk_blockBids mk_blockOffers mk_entryCount mk_blockCount cv_limits cv_bids cv_offers cv_count cv_allBids cv_allOffers cv_meetingPrice cv_sureBids cv_sureOffers cv_priceBids cv_priceOffers cv_volume cv_worth oc_prices oc_volumes oc_filled oc_worth oc_takenSet oc_isDone, hT) 0 0 _
  refine mr_iload_n d_x_fill_0 rfl rfl ?_
  refine mz_go (st := []) e_x_isOperator (fun _ => rfl) U_x_isOperator (mz_vS d_x_fill_1 U_x_isOperator lk_m_x_95 S_x_isOperator np_x_isOperator) (Nat.le_of_ble_eq_true rfl) (by decide) (fun r1 => ?_)
  refine mr_eq (st' := [.int r1]) (ex' := ex) (h2 := (HX x_members x_collaterals x_hasSent x_isSealed x_metered x_sealedCount bk_counts bk_needs bk_whens bk_sides bk_quantities bk_limits ag_toldLies ag_passedLies ag_words ag_vectors ag_liarOperator ag_rounds mk_entries mk_slots mk_remainders mk_blocks mk_blockBids mk_blockOffers mk_entryCount mk_blockCount cv_limits cv_bids cv_offers cv_count cv_allBids cv_allOffers cv_meetingPrice cv_sureBids cv_sureOffers cv_priceBids cv_priceOffers cv_volume cv_worth oc_prices oc_volumes oc_filled oc_worth oc_takenSet oc_isDone, hT)) (k' := 0) (n' := 0) rfl rfl rfl rfl rfl ?_
  refine mr_if_eq (tgt := 25) d_x_fill_4 (by decide) ?_ ?_
  · refine mr_sub (lv' := []) [] rfl ?_
    exact w_b25
  · refine mr_aload_n d_x_fill_7 rfl rfl ?_
    refine mr_iload_n d_x_fill_8 rfl rfl ?_
    refine mz_go (st := []) e_x_isMember (fun _ => rfl) U_x_isMember (mz_vV d_x_fill_9 U_x_isMember rfl lk_m_x_60 I_x_isMember s_x_isMember np_x_isMember rfl rfl) (Nat.le_of_ble_eq_true rfl) (by decide) (fun r2 => ?_)
    refine mr_eq (st' := [.int r2]) (ex' := ex) (h2 := (HX x_members x_collaterals x_hasSent x_isSealed x_metered x_sealedCount bk_counts bk_needs bk_whens bk_sides bk_quantities bk_limits ag_toldLies ag_passedLies ag_words ag_vectors ag_liarOperator ag_rounds mk_entries mk_slots mk_remainders mk_blocks mk_blockBids mk_blockOffers mk_entryCount mk_blockCount cv_limits cv_bids cv_offers cv_count cv_allBids cv_allOffers cv_meetingPrice cv_sureBids cv_sureOffers cv_priceBids cv_priceOffers cv_volume cv_worth oc_prices oc_volumes oc_filled oc_worth oc_takenSet oc_isDone, hT)) (k' := 0) (n' := 0) rfl rfl rfl rfl rfl ?_
    refine mr_if_eq (tgt := 25) d_x_fill_12 (by decide) ?_ ?_
    · refine mr_sub (lv' := []) [] rfl ?_
      exact w_b25
    · refine mr_iload_n d_x_fill_15 rfl rfl ?_
      refine mr_if_lt (tgt := 25) d_x_fill_16 (by decide) ?_ ?_
      · refine mr_sub (lv' := []) [] rfl ?_
        exact w_b25
      · refine mr_iload_n d_x_fill_19 rfl rfl ?_
        refine mr_bipush (v := 10) d_x_fill_20 mc_bipush_10 ?_
        refine mr_icmp_lt (tgt := 35) d_x_fill_22 (by decide) ?_ ?_
        · refine mr_aload_n d_x_fill_35 rfl rfl ?_
          refine mr_iload_n d_x_fill_36 rfl rfl ?_
          refine mz_goT (st := []) e_x_clearedBy U_x_clearedBy (mz_vV d_x_fill_37 U_x_clearedBy rfl lk_m_x_174 I_x_clearedBy s_x_clearedBy np_x_clearedBy rfl rfl) (Nat.le_of_ble_eq_true rfl) (by decide) rfl (fun r3 h0 => ?_) (fun r3 h0 r9 hr9 => ?_)
          · refine mr_eq (st' := [.ref (38 + 4 * x1.toNatClampNeg)]) (ex' := ex) (h2 := (HX x_members x_collaterals x_hasSent x_isSealed x_metered x_sealedCount bk_counts bk_needs bk_whens bk_sides bk_quantities bk_limits ag_toldLies ag_passedLies ag_words ag_vectors ag_liarOperator ag_rounds mk_entries mk_slots mk_remainders mk_blocks mk_blockBids mk_blockOffers mk_entryCount mk_blockCount cv_limits cv_bids cv_offers cv_count cv_allBids cv_allOffers cv_meetingPrice cv_sureBids cv_sureOffers cv_priceBids cv_priceOffers cv_volume cv_worth oc_prices oc_volumes oc_filled oc_worth oc_takenSet oc_isDone, hT)) (k' := 0) (n' := 0) rfl (mz_x0 h0) rfl (mz_k0 h0) (mz_60 h0) ?_
            refine mr_ifp h0 ?_
            refine mr_ghost (fun hg4 => ?_)
            refine mr_astore (lv' := [(4, .ref (38 + 4 * x1.toNatClampNeg)), (0, .ref 0), (1, .int x1), (2, .int x2), (3, .int x3)]) d_x_fill_40 (by decide) rfl ?_
            refine mr_iload_n d_x_fill_42 rfl rfl ?_
            refine mr_aload_n d_x_fill_43 rfl rfl ?_
            refine mr_get K_x 5 d_x_fill_44 lk_f_x_30 (by decide) rfl rfl ?_
            refine mr_getN K_bk 0 d_x_fill_47 lk_f_x_149 (by decide) rfl rfl ?_
            refine mr_aload_n d_x_fill_50 rfl rfl ?_
            refine mr_get K_x 6 d_x_fill_51 lk_f_x_39 (by decide) rfl rfl ?_
            refine mr_iload_n d_x_fill_54 rfl rfl ?_
            refine mr_iload_n d_x_fill_55 rfl rfl ?_
            refine mz_go (st := [.ref 6, .int x3]) e_ag_agreedBook (fun _ => rfl) U_ag_agreedBook (mz_vV d_x_fill_56 U_ag_agreedBook rfl lk_m_x_145 I_ag_agreedBook s_ag_agreedBook np_ag_agreedBook rfl rfl) (Nat.le_of_ble_eq_true rfl) (by decide) (fun r5 => ?_)
            refine mr_eq (st' := [.int r5, .ref 6, .int x3]) (ex' := ex) (h2 := (HX x_members x_collaterals x_hasSent x_isSealed x_metered x_sealedCount bk_counts bk_needs bk_whens bk_sides bk_quantities bk_limits ag_toldLies ag_passedLies ag_words ag_vectors ag_liarOperator ag_rounds mk_entries mk_slots mk_remainders mk_blocks mk_blockBids mk_blockOffers mk_entryCount mk_blockCount cv_limits cv_bids cv_offers cv_count cv_allBids cv_allOffers cv_meetingPrice cv_sureBids cv_sureOffers cv_priceBids cv_priceOffers cv_volume cv_worth oc_prices oc_volumes oc_filled oc_worth oc_takenSet oc_isDone, hT)) (k' := 0) (n' := 0) rfl rfl rfl rfl rfl ?_
            refine mr_iald d_x_fill_59 rfl (fun hc6 => ?_)
            refine mr_icmp_lt (tgt := 73) d_x_fill_60 (by decide) ?_ ?_
            · refine mr_aload d_x_fill_73 rfl ?_
              refine mr_getN K_o 2 d_x_fill_75 lk_f_x_188 (by decide) (gt_o (Nat.not_le.mp hg4)) rfl ?_
              refine mr_bipush (v := 10) d_x_fill_78 mc_bipush_10 ?_
              refine mr_iload_n d_x_fill_80 rfl rfl ?_
              refine mr_imul d_x_fill_81 ?_
              refine mr_iload_n d_x_fill_82 rfl rfl ?_
              refine mr_iadd d_x_fill_83 ?_
              refine mr_iald d_x_fill_84 (gt_o_filled (Nat.not_le.mp hg4)) (fun hc7 => ?_)
              exact mr_iret d_x_fill_85 rfl rfl
            · exact mr_throw d_x_fill_63 d_x_fill_66 d_x_fill_67 d_x_fill_69 d_x_fill_72 tw_x_186_1 rfl (Nat.le_of_ble_eq_true rfl) (Nat.le_of_ble_eq_true rfl) (Nat.le_of_ble_eq_true rfl) (Nat.le_of_ble_eq_true rfl) rfl
          · rw [if_neg h0] at hr9
            cases hr9
            exact ⟨some (.int 0), by rw [Nat.zero_add, Nat.zero_add]⟩
        · refine mr_sub (lv' := []) [] rfl ?_
          exact w_b25
set_option maxRecDepth 100000 in
set_option maxHeartbeats 4000000 in
theorem e_x_welfare {g : mz_G} {ex : Bool} {hT : List mz_E} {x_members : Int32} {x_collaterals : Nat → Int32} {x_hasSent : Nat → Int32} {x_isSealed : Nat → Int32} {x_metered : Nat → Int32} {x_sealedCount : Int32} {bk_counts : Nat → Int32} {bk_needs : Nat → Int64} {bk_whens : Nat → Int32} {bk_sides : Nat → Int32} {bk_quantities : Nat → Int32} {bk_limits : Nat → Int32} {ag_toldLies : Nat → Int32} {ag_passedLies : Nat → Int32} {ag_words : Nat → Int32} {ag_vectors : Nat → Int32} {ag_liarOperator : Int32} {ag_rounds : Int32} {mk_entries : Nat → Int32} {mk_slots : Nat → Int32} {mk_remainders : Nat → Int32} {mk_blocks : Nat → Int32} {mk_blockBids : Nat → Int32} {mk_blockOffers : Nat → Int32} {mk_entryCount : Int32} {mk_blockCount : Int32} {cv_limits : Nat → Nat → Int32} {cv_bids : Nat → Nat → Int32} {cv_offers : Nat → Nat → Int32} {cv_count : Nat → Int32} {cv_allBids : Nat → Int32} {cv_allOffers : Nat → Int32} {cv_meetingPrice : Nat → Int32} {cv_sureBids : Nat → Int32} {cv_sureOffers : Nat → Int32} {cv_priceBids : Nat → Int32} {cv_priceOffers : Nat → Int32} {cv_volume : Nat → Int32} {cv_worth : Nat → Int64} {oc_prices : Nat → Nat → Int32} {oc_volumes : Nat → Nat → Int32} {oc_filled : Nat → Nat → Int32} {oc_worth : Nat → Int64} {oc_takenSet : Nat → Int32} {oc_isDone : Nat → Int32} {x1 : Int32} : mz_M g M_x_welfare 7 [.ref 0, .int x1] ex (HX x_members x_collaterals x_hasSent x_isSealed x_metered x_sealedCount bk_counts bk_needs bk_whens bk_sides bk_quantities bk_limits ag_toldLies ag_passedLies ag_words ag_vectors ag_liarOperator ag_rounds mk_entries mk_slots mk_remainders mk_blocks mk_blockBids mk_blockOffers mk_entryCount mk_blockCount cv_limits cv_bids cv_offers cv_count cv_allBids cv_allOffers cv_meetingPrice cv_sureBids cv_sureOffers cv_priceBids cv_priceOffers cv_volume cv_worth oc_prices oc_volumes oc_filled oc_worth oc_takenSet oc_isDone, hT) (f_x_welfare oc_worth oc_isDone x1) (fun r => (r.1, some (.long r.2), mz_x ex r.1, (HX x_members x_collaterals x_hasSent x_isSealed x_metered x_sealedCount bk_counts bk_needs bk_whens bk_sides bk_quantities bk_limits ag_toldLies ag_passedLies ag_words ag_vectors ag_liarOperator ag_rounds mk_entries mk_slots mk_remainders mk_blocks mk_blockBids mk_blockOffers mk_entryCount mk_blockCount cv_limits cv_bids cv_offers cv_count cv_allBids cv_allOffers cv_meetingPrice cv_sureBids cv_sureOffers cv_priceBids cv_priceOffers cv_volume cv_worth oc_prices oc_volumes oc_filled oc_worth oc_takenSet oc_isDone, hT), mz_k r.1, mz_6 r.1)) := by
  refine mz_of (by decide) (Nat.le_of_ble_eq_true rfl) ?_
  rw [f_x_welfare]
  show mz_A g M_x_welfare (mz_rm 7) _ 0 [(0, .ref 0), (1, .int x1)] [] ex (HX x_members x_collaterals x_hasSent x_isSealed x_metered x_sealedCount bk_counts bk_needs bk_whens bk_sides bk_quantities bk_limits ag_toldLies ag_passedLies ag_words ag_vectors ag_liarOperator ag_rounds mk_entries mk_slots mk_remainders mk_blocks mk_blockBids mk_blockOffers mk_entryCount mk_blockCount cv_limits cv_bids cv_offers cv_count cv_allBids cv_allOffers cv_meetingPrice cv_sureBids cv_sureOffers cv_priceBids cv_priceOffers cv_volume cv_worth oc_prices oc_volumes oc_filled oc_worth oc_takenSet oc_isDone, hT) 0 0 _
  refine mr_iload_n d_x_welfare_0 rfl rfl ?_
  refine mz_go (st := []) e_x_isOperator (fun _ => rfl) U_x_isOperator (mz_vS d_x_welfare_1 U_x_isOperator lk_m_x_95 S_x_isOperator np_x_isOperator) (Nat.le_of_ble_eq_true rfl) (by decide) (fun r1 => ?_)
  refine mr_eq (st' := [.int r1]) (ex' := ex) (h2 := (HX x_members x_collaterals x_hasSent x_isSealed x_metered x_sealedCount bk_counts bk_needs bk_whens bk_sides bk_quantities bk_limits ag_toldLies ag_passedLies ag_words ag_vectors ag_liarOperator ag_rounds mk_entries mk_slots mk_remainders mk_blocks mk_blockBids mk_blockOffers mk_entryCount mk_blockCount cv_limits cv_bids cv_offers cv_count cv_allBids cv_allOffers cv_meetingPrice cv_sureBids cv_sureOffers cv_priceBids cv_priceOffers cv_volume cv_worth oc_prices oc_volumes oc_filled oc_worth oc_takenSet oc_isDone, hT)) (k' := 0) (n' := 0) rfl rfl rfl rfl rfl ?_
  refine mr_if_ne (tgt := 17) d_x_welfare_4 (by decide) ?_ ?_
  · refine mr_aload_n d_x_welfare_17 rfl rfl ?_
    refine mr_iload_n d_x_welfare_18 rfl rfl ?_
    refine mz_goT (st := []) e_x_clearedBy U_x_clearedBy (mz_vV d_x_welfare_19 U_x_clearedBy rfl lk_m_x_174 I_x_clearedBy s_x_clearedBy np_x_clearedBy rfl rfl) (Nat.le_of_ble_eq_true rfl) (by decide) rfl (fun r2 h0 => ?_) (fun r2 h0 r9 hr9 => ?_)
    · refine mr_eq (st' := [.ref (38 + 4 * x1.toNatClampNeg)]) (ex' := ex) (h2 := (HX x_members x_collaterals x_hasSent x_isSealed x_metered x_sealedCount bk_counts bk_needs bk_whens bk_sides bk_quantities bk_limits ag_toldLies ag_passedLies ag_words ag_vectors ag_liarOperator ag_rounds mk_entries mk_slots mk_remainders mk_blocks mk_blockBids mk_blockOffers mk_entryCount mk_blockCount cv_limits cv_bids cv_offers cv_count cv_allBids cv_allOffers cv_meetingPrice cv_sureBids cv_sureOffers cv_priceBids cv_priceOffers cv_volume cv_worth oc_prices oc_volumes oc_filled oc_worth oc_takenSet oc_isDone, hT)) (k' := 0) (n' := 0) rfl (mz_x0 h0) rfl (mz_k0 h0) (mz_60 h0) ?_
      refine mr_ifp h0 ?_
      refine mr_ghost (fun hg3 => ?_)
      refine mr_getN K_o 3 d_x_welfare_22 lk_f_x_191 (by decide) (gt_o (Nat.not_le.mp hg3)) rfl ?_
      exact mr_lret d_x_welfare_25 rfl rfl
    · rw [if_neg h0] at hr9
      cases hr9
      exact ⟨some (.long 0), by rw [Nat.zero_add, Nat.zero_add]⟩
  · exact mr_throw d_x_welfare_7 d_x_welfare_10 d_x_welfare_11 d_x_welfare_13 d_x_welfare_16 tw_x_98_1 rfl (Nat.le_of_ble_eq_true rfl) (Nat.le_of_ble_eq_true rfl) (Nat.le_of_ble_eq_true rfl) (Nat.le_of_ble_eq_true rfl) rfl
set_option maxRecDepth 100000 in
set_option maxHeartbeats 4000000 in
theorem e_x_meter {g : mz_G} {ex : Bool} {hT : List mz_E} {x_members : Int32} {x_collaterals : Nat → Int32} {x_hasSent : Nat → Int32} {x_isSealed : Nat → Int32} {x_metered : Nat → Int32} {x_sealedCount : Int32} {bk_counts : Nat → Int32} {bk_needs : Nat → Int64} {bk_whens : Nat → Int32} {bk_sides : Nat → Int32} {bk_quantities : Nat → Int32} {bk_limits : Nat → Int32} {ag_toldLies : Nat → Int32} {ag_passedLies : Nat → Int32} {ag_words : Nat → Int32} {ag_vectors : Nat → Int32} {ag_liarOperator : Int32} {ag_rounds : Int32} {mk_entries : Nat → Int32} {mk_slots : Nat → Int32} {mk_remainders : Nat → Int32} {mk_blocks : Nat → Int32} {mk_blockBids : Nat → Int32} {mk_blockOffers : Nat → Int32} {mk_entryCount : Int32} {mk_blockCount : Int32} {cv_limits : Nat → Nat → Int32} {cv_bids : Nat → Nat → Int32} {cv_offers : Nat → Nat → Int32} {cv_count : Nat → Int32} {cv_allBids : Nat → Int32} {cv_allOffers : Nat → Int32} {cv_meetingPrice : Nat → Int32} {cv_sureBids : Nat → Int32} {cv_sureOffers : Nat → Int32} {cv_priceBids : Nat → Int32} {cv_priceOffers : Nat → Int32} {cv_volume : Nat → Int32} {cv_worth : Nat → Int64} {oc_prices : Nat → Nat → Int32} {oc_volumes : Nat → Nat → Int32} {oc_filled : Nat → Nat → Int32} {oc_worth : Nat → Int64} {oc_takenSet : Nat → Int32} {oc_isDone : Nat → Int32} {x1 : Int32} {x2 : Int32} {x3 : Int32} : mz_M g M_x_meter 6 [.ref 0, .int x1, .int x2, .int x3] ex (HX x_members x_collaterals x_hasSent x_isSealed x_metered x_sealedCount bk_counts bk_needs bk_whens bk_sides bk_quantities bk_limits ag_toldLies ag_passedLies ag_words ag_vectors ag_liarOperator ag_rounds mk_entries mk_slots mk_remainders mk_blocks mk_blockBids mk_blockOffers mk_entryCount mk_blockCount cv_limits cv_bids cv_offers cv_count cv_allBids cv_allOffers cv_meetingPrice cv_sureBids cv_sureOffers cv_priceBids cv_priceOffers cv_volume cv_worth oc_prices oc_volumes oc_filled oc_worth oc_takenSet oc_isDone, hT) (f_x_meter x_members x_metered x1 x2 x3) (fun r => (r.1, none, mz_x ex r.1, (HX x_members x_collaterals x_hasSent x_isSealed r.2 x_sealedCount bk_counts bk_needs bk_whens bk_sides bk_quantities bk_limits ag_toldLies ag_passedLies ag_words ag_vectors ag_liarOperator ag_rounds mk_entries mk_slots mk_remainders mk_blocks mk_blockBids mk_blockOffers mk_entryCount mk_blockCount cv_limits cv_bids cv_offers cv_count cv_allBids cv_allOffers cv_meetingPrice cv_sureBids cv_sureOffers cv_priceBids cv_priceOffers cv_volume cv_worth oc_prices oc_volumes oc_filled oc_worth oc_takenSet oc_isDone, hT), mz_k r.1, mz_6 r.1)) := by
  have w_b27 : ∀ (x_metered : Nat → Int32), mz_A g M_x_meter (mz_rm 6) (fun r => (r.1, none, mz_x ex r.1, (HX x_members x_collaterals x_hasSent x_isSealed r.2 x_sealedCount bk_counts bk_needs bk_whens bk_sides bk_quantities bk_limits ag_toldLies ag_passedLies ag_words ag_vectors ag_liarOperator ag_rounds mk_entries mk_slots mk_remainders mk_blocks mk_blockBids mk_blockOffers mk_entryCount mk_blockCount cv_limits cv_bids cv_offers cv_count cv_allBids cv_allOffers cv_meetingPrice cv_sureBids cv_sureOffers cv_priceBids cv_priceOffers cv_volume cv_worth oc_prices oc_volumes oc_filled oc_worth oc_takenSet oc_isDone, hT), mz_k r.1, mz_6 r.1)) 27 [] [] ex (HX x_members x_collaterals x_hasSent x_isSealed x_metered x_sealedCount bk_counts bk_needs bk_whens bk_sides bk_quantities bk_limits ag_toldLies ag_passedLies ag_words ag_vectors ag_liarOperator ag_rounds mk_entries mk_slots mk_remainders mk_blocks mk_blockBids mk_blockOffers mk_entryCount mk_blockCount cv_limits cv_bids cv_offers cv_count cv_allBids cv_allOffers cv_meetingPrice cv_sureBids cv_sureOffers cv_priceBids cv_priceOffers cv_volume cv_worth oc_prices oc_volumes oc_filled oc_worth oc_takenSet oc_isDone, hT) 0 0 (f_x_meter_b27 x_members x_metered) := by
    intro  x_metered
    rw [f_x_meter_b27]
    exact mr_throw d_x_meter_27 d_x_meter_30 d_x_meter_31 d_x_meter_33 d_x_meter_36 tw_x_197_1 rfl (Nat.le_of_ble_eq_true rfl) (Nat.le_of_ble_eq_true rfl) (Nat.le_of_ble_eq_true rfl) (Nat.le_of_ble_eq_true rfl) rfl
  refine mz_of (by decide) (Nat.le_of_ble_eq_true rfl) ?_
  rw [f_x_meter]
  show mz_A g M_x_meter (mz_rm 6) _ 0 [(0, .ref 0), (1, .int x1), (2, .int x2), (3, .int x3)] [] ex (HX x_members x_collaterals x_hasSent x_isSealed x_metered x_sealedCount bk_counts bk_needs bk_whens bk_sides bk_quantities bk_limits ag_toldLies ag_passedLies ag_words ag_vectors ag_liarOperator ag_rounds mk_entries mk_slots mk_remainders mk_blocks mk_blockBids mk_blockOffers mk_entryCount mk_blockCount cv_limits cv_bids cv_offers cv_count cv_allBids cv_allOffers cv_meetingPrice cv_sureBids cv_sureOffers cv_priceBids cv_priceOffers cv_volume cv_worth oc_prices oc_volumes oc_filled oc_worth oc_takenSet oc_isDone, hT) 0 0 _
  refine mr_aload_n d_x_meter_0 rfl rfl ?_
  refine mr_iload_n d_x_meter_1 rfl rfl ?_
  refine mz_go (st := []) e_x_isMember (fun _ => rfl) U_x_isMember (mz_vV d_x_meter_2 U_x_isMember rfl lk_m_x_60 I_x_isMember s_x_isMember np_x_isMember rfl rfl) (Nat.le_of_ble_eq_true rfl) (by decide) (fun r1 => ?_)
  refine mr_eq (st' := [.int r1]) (ex' := ex) (h2 := (HX x_members x_collaterals x_hasSent x_isSealed x_metered x_sealedCount bk_counts bk_needs bk_whens bk_sides bk_quantities bk_limits ag_toldLies ag_passedLies ag_words ag_vectors ag_liarOperator ag_rounds mk_entries mk_slots mk_remainders mk_blocks mk_blockBids mk_blockOffers mk_entryCount mk_blockCount cv_limits cv_bids cv_offers cv_count cv_allBids cv_allOffers cv_meetingPrice cv_sureBids cv_sureOffers cv_priceBids cv_priceOffers cv_volume cv_worth oc_prices oc_volumes oc_filled oc_worth oc_takenSet oc_isDone, hT)) (k' := 0) (n' := 0) rfl rfl rfl rfl rfl ?_
  refine mr_if_eq (tgt := 27) d_x_meter_5 (by decide) ?_ ?_
  · refine mr_sub (lv' := []) [] rfl ?_
    exact w_b27 _
  · refine mr_iload_n d_x_meter_8 rfl rfl ?_
    refine mz_go (st := []) e_x_isHour (fun _ => rfl) U_x_isHour (mz_vS d_x_meter_9 U_x_isHour lk_m_x_77 S_x_isHour np_x_isHour) (Nat.le_of_ble_eq_true rfl) (by decide) (fun r2 => ?_)
    refine mr_eq (st' := [.int r2]) (ex' := ex) (h2 := (HX x_members x_collaterals x_hasSent x_isSealed x_metered x_sealedCount bk_counts bk_needs bk_whens bk_sides bk_quantities bk_limits ag_toldLies ag_passedLies ag_words ag_vectors ag_liarOperator ag_rounds mk_entries mk_slots mk_remainders mk_blocks mk_blockBids mk_blockOffers mk_entryCount mk_blockCount cv_limits cv_bids cv_offers cv_count cv_allBids cv_allOffers cv_meetingPrice cv_sureBids cv_sureOffers cv_priceBids cv_priceOffers cv_volume cv_worth oc_prices oc_volumes oc_filled oc_worth oc_takenSet oc_isDone, hT)) (k' := 0) (n' := 0) rfl rfl rfl rfl rfl ?_
    refine mr_if_eq (tgt := 27) d_x_meter_12 (by decide) ?_ ?_
    · refine mr_sub (lv' := []) [] rfl ?_
      exact w_b27 _
    · refine mr_iload_n d_x_meter_15 rfl rfl ?_
      refine mr_ldc (v := (-1000000)) d_x_meter_16 lk_k_x_195 ?_
      refine mr_icmp_lt (tgt := 27) d_x_meter_18 (by decide) ?_ ?_
      · refine mr_sub (lv' := []) [] rfl ?_
        exact w_b27 _
      · refine mr_iload_n d_x_meter_21 rfl rfl ?_
        refine mr_ldc (v := 1000000) d_x_meter_22 lk_k_x_196 ?_
        refine mr_icmp_le (tgt := 37) d_x_meter_24 (by decide) ?_ ?_
        · refine mr_aload_n d_x_meter_37 rfl rfl ?_
          refine mr_get K_x 4 d_x_meter_38 lk_f_x_24 (by decide) rfl rfl ?_
          refine mr_iconst (v := 3) d_x_meter_41 mc_iconst_3 ?_
          refine mr_iload_n d_x_meter_42 rfl rfl ?_
          refine mr_imul d_x_meter_43 ?_
          refine mr_iload_n d_x_meter_44 rfl rfl ?_
          refine mr_iadd d_x_meter_45 ?_
          refine mr_iload_n d_x_meter_46 rfl rfl ?_
          refine mr_iast (h2 := (HX x_members x_collaterals x_hasSent x_isSealed (upd x_metered ((3 * x1) + x2).toNatClampNeg x3) x_sealedCount bk_counts bk_needs bk_whens bk_sides bk_quantities bk_limits ag_toldLies ag_passedLies ag_words ag_vectors ag_liarOperator ag_rounds mk_entries mk_slots mk_remainders mk_blocks mk_blockBids mk_blockOffers mk_entryCount mk_blockCount cv_limits cv_bids cv_offers cv_count cv_allBids cv_allOffers cv_meetingPrice cv_sureBids cv_sureOffers cv_priceBids cv_priceOffers cv_volume cv_worth oc_prices oc_volumes oc_filled oc_worth oc_takenSet oc_isDone, hT)) d_x_meter_47 rfl rfl (fun hc3 => ?_)
          exact mr_vret d_x_meter_48 rfl rfl
        · refine mr_sub (lv' := []) [] rfl ?_
          exact w_b27 _
set_option maxRecDepth 100000 in
set_option maxHeartbeats 4000000 in
theorem e_x_soldLessBought_0 {g : mz_G} {ex : Bool} {hT : List mz_E} {x_members : Int32} {x_collaterals : Nat → Int32} {x_hasSent : Nat → Int32} {x_isSealed : Nat → Int32} {x_metered : Nat → Int32} {x_sealedCount : Int32} {bk_counts : Nat → Int32} {bk_needs : Nat → Int64} {bk_whens : Nat → Int32} {bk_sides : Nat → Int32} {bk_quantities : Nat → Int32} {bk_limits : Nat → Int32} {ag_toldLies : Nat → Int32} {ag_passedLies : Nat → Int32} {ag_words : Nat → Int32} {ag_vectors : Nat → Int32} {ag_liarOperator : Int32} {ag_rounds : Int32} {mk_entries : Nat → Int32} {mk_slots : Nat → Int32} {mk_remainders : Nat → Int32} {mk_blocks : Nat → Int32} {mk_blockBids : Nat → Int32} {mk_blockOffers : Nat → Int32} {mk_entryCount : Int32} {mk_blockCount : Int32} {cv_limits : Nat → Nat → Int32} {cv_bids : Nat → Nat → Int32} {cv_offers : Nat → Nat → Int32} {cv_count : Nat → Int32} {cv_allBids : Nat → Int32} {cv_allOffers : Nat → Int32} {cv_meetingPrice : Nat → Int32} {cv_sureBids : Nat → Int32} {cv_sureOffers : Nat → Int32} {cv_priceBids : Nat → Int32} {cv_priceOffers : Nat → Int32} {cv_volume : Nat → Int32} {cv_worth : Nat → Int64} {oc_prices : Nat → Nat → Int32} {oc_volumes : Nat → Nat → Int32} {oc_filled : Nat → Nat → Int32} {oc_worth : Nat → Int64} {oc_takenSet : Nat → Int32} {oc_isDone : Nat → Int32} {x2 : Int32} {x3 : Int32} {x4 : Int32} : mz_M g M_x_soldLessBought 2 [.ref 0, .ref 38, .int x2, .int x3, .int x4] ex (HX x_members x_collaterals x_hasSent x_isSealed x_metered x_sealedCount bk_counts bk_needs bk_whens bk_sides bk_quantities bk_limits ag_toldLies ag_passedLies ag_words ag_vectors ag_liarOperator ag_rounds mk_entries mk_slots mk_remainders mk_blocks mk_blockBids mk_blockOffers mk_entryCount mk_blockCount cv_limits cv_bids cv_offers cv_count cv_allBids cv_allOffers cv_meetingPrice cv_sureBids cv_sureOffers cv_priceBids cv_priceOffers cv_volume cv_worth oc_prices oc_volumes oc_filled oc_worth oc_takenSet oc_isDone, hT) (f_x_soldLessBought bk_counts bk_whens bk_sides (oc_filled 0) x2 x3 x4) (fun r => (0, some (.long r), ex, (HX x_members x_collaterals x_hasSent x_isSealed x_metered x_sealedCount bk_counts bk_needs bk_whens bk_sides bk_quantities bk_limits ag_toldLies ag_passedLies ag_words ag_vectors ag_liarOperator ag_rounds mk_entries mk_slots mk_remainders mk_blocks mk_blockBids mk_blockOffers mk_entryCount mk_blockCount cv_limits cv_bids cv_offers cv_count cv_allBids cv_allOffers cv_meetingPrice cv_sureBids cv_sureOffers cv_priceBids cv_priceOffers cv_volume cv_worth oc_prices oc_volumes oc_filled oc_worth oc_takenSet oc_isDone, hT), 0, 0)) := by
  have w_L6 : ∀ (n : Nat) (x5 : Int64) (x7 : Int32), mz_A g M_x_soldLessBought (mz_rm 2) (fun r => (0, some (.long r), ex, (HX x_members x_collaterals x_hasSent x_isSealed x_metered x_sealedCount bk_counts bk_needs bk_whens bk_sides bk_quantities bk_limits ag_toldLies ag_passedLies ag_words ag_vectors ag_liarOperator ag_rounds mk_entries mk_slots mk_remainders mk_blocks mk_blockBids mk_blockOffers mk_entryCount mk_blockCount cv_limits cv_bids cv_offers cv_count cv_allBids cv_allOffers cv_meetingPrice cv_sureBids cv_sureOffers cv_priceBids cv_priceOffers cv_volume cv_worth oc_prices oc_volumes oc_filled oc_worth oc_takenSet oc_isDone, hT), 0, 0)) 6 [(0, .ref 0), (1, .ref 38), (2, .int x2), (3, .int x3), (4, .int x4), (5, .long x5), (7, .int x7)] [] ex (HX x_members x_collaterals x_hasSent x_isSealed x_metered x_sealedCount bk_counts bk_needs bk_whens bk_sides bk_quantities bk_limits ag_toldLies ag_passedLies ag_words ag_vectors ag_liarOperator ag_rounds mk_entries mk_slots mk_remainders mk_blocks mk_blockBids mk_blockOffers mk_entryCount mk_blockCount cv_limits cv_bids cv_offers cv_count cv_allBids cv_allOffers cv_meetingPrice cv_sureBids cv_sureOffers cv_priceBids cv_priceOffers cv_volume cv_worth oc_prices oc_volumes oc_filled oc_worth oc_takenSet oc_isDone, hT) 0 0 (f_x_soldLessBought_L6 bk_counts bk_whens bk_sides (oc_filled 0) x2 x3 x4 n x5 x7) := by
    intro n
    induction n with
    | zero => intro x5 x7; exact mr_none
    | succ n ih =>
      intro x5 x7
      rw [f_x_soldLessBought_L6]
      refine mr_iload d_x_soldLessBought_6 rfl ?_
      refine mr_aload_n d_x_soldLessBought_8 rfl rfl ?_
      refine mr_get K_x 5 d_x_soldLessBought_9 lk_f_x_30 (by decide) rfl rfl ?_
      refine mr_getN K_bk 0 d_x_soldLessBought_12 lk_f_x_149 (by decide) rfl rfl ?_
      refine mr_iload_n d_x_soldLessBought_15 rfl rfl ?_
      refine mr_iald d_x_soldLessBought_16 rfl (fun hc1 => ?_)
      refine mr_icmp_ge (tgt := 92) d_x_soldLessBought_17 (by decide) ?_ ?_
      · refine mr_lload d_x_soldLessBought_92 rfl ?_
        exact mr_lret d_x_soldLessBought_94 rfl rfl
      · refine mr_bipush (v := 10) d_x_soldLessBought_20 mc_bipush_10 ?_
        refine mr_iload_n d_x_soldLessBought_22 rfl rfl ?_
        refine mr_imul d_x_soldLessBought_23 ?_
        refine mr_iload d_x_soldLessBought_24 rfl ?_
        refine mr_iadd d_x_soldLessBought_26 ?_
        refine mr_istore (lv' := [(8, .int ((10 * x2) + x7)), (0, .ref 0), (1, .ref 38), (2, .int x2), (3, .int x3), (4, .int x4), (5, .long x5), (7, .int x7)]) d_x_soldLessBought_27 (by decide) rfl ?_
        refine mr_aload_n d_x_soldLessBought_29 rfl rfl ?_
        refine mr_get K_x 5 d_x_soldLessBought_30 lk_f_x_30 (by decide) rfl rfl ?_
        refine mr_iload d_x_soldLessBought_33 rfl ?_
        refine mr_iload d_x_soldLessBought_35 rfl ?_
        refine mz_go (st := []) e_bk_covers (fun _ => rfl) U_bk_covers (mz_vV d_x_soldLessBought_37 U_bk_covers rfl lk_m_x_230 I_bk_covers s_bk_covers np_bk_covers rfl rfl) (Nat.le_of_ble_eq_true rfl) (by decide) (fun r2 => ?_)
        refine mr_eq (st' := [.int r2]) (ex' := ex) (h2 := (HX x_members x_collaterals x_hasSent x_isSealed x_metered x_sealedCount bk_counts bk_needs bk_whens bk_sides bk_quantities bk_limits ag_toldLies ag_passedLies ag_words ag_vectors ag_liarOperator ag_rounds mk_entries mk_slots mk_remainders mk_blocks mk_blockBids mk_blockOffers mk_entryCount mk_blockCount cv_limits cv_bids cv_offers cv_count cv_allBids cv_allOffers cv_meetingPrice cv_sureBids cv_sureOffers cv_priceBids cv_priceOffers cv_volume cv_worth oc_prices oc_volumes oc_filled oc_worth oc_takenSet oc_isDone, hT)) (k' := 0) (n' := 0) rfl rfl rfl rfl rfl ?_
        refine mr_if_eq (tgt := 86) d_x_soldLessBought_40 (by decide) ?_ ?_
        · refine mr_iinc (v := (x7 + 1)) (lv' := [(7, .int (x7 + 1)), (8, .int ((10 * x2) + x7)), (0, .ref 0), (1, .ref 38), (2, .int x2), (3, .int x3), (4, .int x4), (5, .long x5)]) d_x_soldLessBought_86 rfl rfl (by decide) rfl ?_
          refine mr_goto (tgt := 6) d_x_soldLessBought_89 (by decide) ?_
          refine mr_sub (lv' := [(0, .ref 0), (1, .ref 38), (2, .int x2), (3, .int x3), (4, .int x4), (5, .long x5), (7, .int (x7 + 1))]) [2, 3, 4, 5, 6, 7, 0] rfl ?_
          exact ih _ _
        · refine mr_aload_n d_x_soldLessBought_43 rfl rfl ?_
          refine mr_getN K_o 2 d_x_soldLessBought_44 lk_f_x_188 (by decide) rfl rfl ?_
          refine mr_bipush (v := 10) d_x_soldLessBought_47 mc_bipush_10 ?_
          refine mr_iload_n d_x_soldLessBought_49 rfl rfl ?_
          refine mr_imul d_x_soldLessBought_50 ?_
          refine mr_iload d_x_soldLessBought_51 rfl ?_
          refine mr_iadd d_x_soldLessBought_53 ?_
          refine mr_iald d_x_soldLessBought_54 rfl (fun hc3 => ?_)
          refine mr_istore (lv' := [(9, .int ((oc_filled 0) ((10 * x3) + x7).toNatClampNeg)), (8, .int ((10 * x2) + x7)), (0, .ref 0), (1, .ref 38), (2, .int x2), (3, .int x3), (4, .int x4), (5, .long x5), (7, .int x7)]) d_x_soldLessBought_55 (by decide) rfl ?_
          refine mr_lload d_x_soldLessBought_57 rfl ?_
          refine mr_aload_n d_x_soldLessBought_59 rfl rfl ?_
          refine mr_get K_x 5 d_x_soldLessBought_60 lk_f_x_30 (by decide) rfl rfl ?_
          refine mr_getN K_bk 3 d_x_soldLessBought_63 lk_f_x_233 (by decide) rfl rfl ?_
          refine mr_iload d_x_soldLessBought_66 rfl ?_
          refine mr_iald d_x_soldLessBought_68 rfl (fun hc4 => ?_)
          refine mr_iconst (v := 1) d_x_soldLessBought_69 mc_iconst_1 ?_
          refine mr_icmp_ne (tgt := 79) d_x_soldLessBought_70 (by decide) ?_ ?_
          · refine mr_iload d_x_soldLessBought_79 rfl ?_
            refine mr_ineg d_x_soldLessBought_81 ?_
            refine mr_i2l d_x_soldLessBought_82 ?_
            refine mr_ladd d_x_soldLessBought_83 ?_
            refine mr_lstore (lv' := [(5, .long (x5 + (Int32.toInt64 (-((oc_filled 0) ((10 * x3) + x7).toNatClampNeg))))), (9, .int ((oc_filled 0) ((10 * x3) + x7).toNatClampNeg)), (8, .int ((10 * x2) + x7)), (0, .ref 0), (1, .ref 38), (2, .int x2), (3, .int x3), (4, .int x4), (7, .int x7)]) d_x_soldLessBought_84 (by decide) rfl ?_
            refine mr_iinc (v := (x7 + 1)) (lv' := [(7, .int (x7 + 1)), (5, .long (x5 + (Int32.toInt64 (-((oc_filled 0) ((10 * x3) + x7).toNatClampNeg))))), (9, .int ((oc_filled 0) ((10 * x3) + x7).toNatClampNeg)), (8, .int ((10 * x2) + x7)), (0, .ref 0), (1, .ref 38), (2, .int x2), (3, .int x3), (4, .int x4)]) d_x_soldLessBought_86 rfl rfl (by decide) rfl ?_
            refine mr_goto (tgt := 6) d_x_soldLessBought_89 (by decide) ?_
            refine mr_sub (lv' := [(0, .ref 0), (1, .ref 38), (2, .int x2), (3, .int x3), (4, .int x4), (5, .long (x5 + (Int32.toInt64 (-((oc_filled 0) ((10 * x3) + x7).toNatClampNeg))))), (7, .int (x7 + 1))]) [4, 5, 6, 7, 8, 1, 0] rfl ?_
            exact ih _ _
          · refine mr_iload d_x_soldLessBought_73 rfl ?_
            refine mr_i2l d_x_soldLessBought_75 ?_
            refine mr_goto (tgt := 83) d_x_soldLessBought_76 (by decide) ?_
            refine mr_ladd d_x_soldLessBought_83 ?_
            refine mr_lstore (lv' := [(5, .long (x5 + (Int32.toInt64 ((oc_filled 0) ((10 * x3) + x7).toNatClampNeg)))), (9, .int ((oc_filled 0) ((10 * x3) + x7).toNatClampNeg)), (8, .int ((10 * x2) + x7)), (0, .ref 0), (1, .ref 38), (2, .int x2), (3, .int x3), (4, .int x4), (7, .int x7)]) d_x_soldLessBought_84 (by decide) rfl ?_
            refine mr_iinc (v := (x7 + 1)) (lv' := [(7, .int (x7 + 1)), (5, .long (x5 + (Int32.toInt64 ((oc_filled 0) ((10 * x3) + x7).toNatClampNeg)))), (9, .int ((oc_filled 0) ((10 * x3) + x7).toNatClampNeg)), (8, .int ((10 * x2) + x7)), (0, .ref 0), (1, .ref 38), (2, .int x2), (3, .int x3), (4, .int x4)]) d_x_soldLessBought_86 rfl rfl (by decide) rfl ?_
            refine mr_goto (tgt := 6) d_x_soldLessBought_89 (by decide) ?_
            refine mr_sub (lv' := [(0, .ref 0), (1, .ref 38), (2, .int x2), (3, .int x3), (4, .int x4), (5, .long (x5 + (Int32.toInt64 ((oc_filled 0) ((10 * x3) + x7).toNatClampNeg)))), (7, .int (x7 + 1))]) [4, 5, 6, 7, 8, 1, 0] rfl ?_
            exact ih _ _
  refine mz_of (by decide) (Nat.le_of_ble_eq_true rfl) ?_
  rw [f_x_soldLessBought]
  show mz_A g M_x_soldLessBought (mz_rm 2) _ 0 [(0, .ref 0), (1, .ref 38), (2, .int x2), (3, .int x3), (4, .int x4)] [] ex (HX x_members x_collaterals x_hasSent x_isSealed x_metered x_sealedCount bk_counts bk_needs bk_whens bk_sides bk_quantities bk_limits ag_toldLies ag_passedLies ag_words ag_vectors ag_liarOperator ag_rounds mk_entries mk_slots mk_remainders mk_blocks mk_blockBids mk_blockOffers mk_entryCount mk_blockCount cv_limits cv_bids cv_offers cv_count cv_allBids cv_allOffers cv_meetingPrice cv_sureBids cv_sureOffers cv_priceBids cv_priceOffers cv_volume cv_worth oc_prices oc_volumes oc_filled oc_worth oc_takenSet oc_isDone, hT) 0 0 _
  refine mr_lconst (v := 0) d_x_soldLessBought_0 mc_lconst_0 ?_
  refine mr_lstore (lv' := [(5, .long 0), (0, .ref 0), (1, .ref 38), (2, .int x2), (3, .int x3), (4, .int x4)]) d_x_soldLessBought_1 (by decide) rfl ?_
  refine mr_iconst (v := 0) d_x_soldLessBought_3 mc_iconst_0 ?_
  refine mr_istore (lv' := [(7, .int 0), (5, .long 0), (0, .ref 0), (1, .ref 38), (2, .int x2), (3, .int x3), (4, .int x4)]) d_x_soldLessBought_4 (by decide) rfl ?_
  refine mr_sub (lv' := [(0, .ref 0), (1, .ref 38), (2, .int x2), (3, .int x3), (4, .int x4), (5, .long 0), (7, .int 0)]) [2, 3, 4, 5, 6, 1, 0] rfl ?_
  exact w_L6 1000 _ _
set_option maxRecDepth 100000 in
set_option maxHeartbeats 4000000 in
theorem e_x_soldLessBought_1 {g : mz_G} {ex : Bool} {hT : List mz_E} {x_members : Int32} {x_collaterals : Nat → Int32} {x_hasSent : Nat → Int32} {x_isSealed : Nat → Int32} {x_metered : Nat → Int32} {x_sealedCount : Int32} {bk_counts : Nat → Int32} {bk_needs : Nat → Int64} {bk_whens : Nat → Int32} {bk_sides : Nat → Int32} {bk_quantities : Nat → Int32} {bk_limits : Nat → Int32} {ag_toldLies : Nat → Int32} {ag_passedLies : Nat → Int32} {ag_words : Nat → Int32} {ag_vectors : Nat → Int32} {ag_liarOperator : Int32} {ag_rounds : Int32} {mk_entries : Nat → Int32} {mk_slots : Nat → Int32} {mk_remainders : Nat → Int32} {mk_blocks : Nat → Int32} {mk_blockBids : Nat → Int32} {mk_blockOffers : Nat → Int32} {mk_entryCount : Int32} {mk_blockCount : Int32} {cv_limits : Nat → Nat → Int32} {cv_bids : Nat → Nat → Int32} {cv_offers : Nat → Nat → Int32} {cv_count : Nat → Int32} {cv_allBids : Nat → Int32} {cv_allOffers : Nat → Int32} {cv_meetingPrice : Nat → Int32} {cv_sureBids : Nat → Int32} {cv_sureOffers : Nat → Int32} {cv_priceBids : Nat → Int32} {cv_priceOffers : Nat → Int32} {cv_volume : Nat → Int32} {cv_worth : Nat → Int64} {oc_prices : Nat → Nat → Int32} {oc_volumes : Nat → Nat → Int32} {oc_filled : Nat → Nat → Int32} {oc_worth : Nat → Int64} {oc_takenSet : Nat → Int32} {oc_isDone : Nat → Int32} {x2 : Int32} {x3 : Int32} {x4 : Int32} : mz_M g M_x_soldLessBought 2 [.ref 0, .ref 42, .int x2, .int x3, .int x4] ex (HX x_members x_collaterals x_hasSent x_isSealed x_metered x_sealedCount bk_counts bk_needs bk_whens bk_sides bk_quantities bk_limits ag_toldLies ag_passedLies ag_words ag_vectors ag_liarOperator ag_rounds mk_entries mk_slots mk_remainders mk_blocks mk_blockBids mk_blockOffers mk_entryCount mk_blockCount cv_limits cv_bids cv_offers cv_count cv_allBids cv_allOffers cv_meetingPrice cv_sureBids cv_sureOffers cv_priceBids cv_priceOffers cv_volume cv_worth oc_prices oc_volumes oc_filled oc_worth oc_takenSet oc_isDone, hT) (f_x_soldLessBought bk_counts bk_whens bk_sides (oc_filled 1) x2 x3 x4) (fun r => (0, some (.long r), ex, (HX x_members x_collaterals x_hasSent x_isSealed x_metered x_sealedCount bk_counts bk_needs bk_whens bk_sides bk_quantities bk_limits ag_toldLies ag_passedLies ag_words ag_vectors ag_liarOperator ag_rounds mk_entries mk_slots mk_remainders mk_blocks mk_blockBids mk_blockOffers mk_entryCount mk_blockCount cv_limits cv_bids cv_offers cv_count cv_allBids cv_allOffers cv_meetingPrice cv_sureBids cv_sureOffers cv_priceBids cv_priceOffers cv_volume cv_worth oc_prices oc_volumes oc_filled oc_worth oc_takenSet oc_isDone, hT), 0, 0)) := by
  have w_L6 : ∀ (n : Nat) (x5 : Int64) (x7 : Int32), mz_A g M_x_soldLessBought (mz_rm 2) (fun r => (0, some (.long r), ex, (HX x_members x_collaterals x_hasSent x_isSealed x_metered x_sealedCount bk_counts bk_needs bk_whens bk_sides bk_quantities bk_limits ag_toldLies ag_passedLies ag_words ag_vectors ag_liarOperator ag_rounds mk_entries mk_slots mk_remainders mk_blocks mk_blockBids mk_blockOffers mk_entryCount mk_blockCount cv_limits cv_bids cv_offers cv_count cv_allBids cv_allOffers cv_meetingPrice cv_sureBids cv_sureOffers cv_priceBids cv_priceOffers cv_volume cv_worth oc_prices oc_volumes oc_filled oc_worth oc_takenSet oc_isDone, hT), 0, 0)) 6 [(0, .ref 0), (1, .ref 42), (2, .int x2), (3, .int x3), (4, .int x4), (5, .long x5), (7, .int x7)] [] ex (HX x_members x_collaterals x_hasSent x_isSealed x_metered x_sealedCount bk_counts bk_needs bk_whens bk_sides bk_quantities bk_limits ag_toldLies ag_passedLies ag_words ag_vectors ag_liarOperator ag_rounds mk_entries mk_slots mk_remainders mk_blocks mk_blockBids mk_blockOffers mk_entryCount mk_blockCount cv_limits cv_bids cv_offers cv_count cv_allBids cv_allOffers cv_meetingPrice cv_sureBids cv_sureOffers cv_priceBids cv_priceOffers cv_volume cv_worth oc_prices oc_volumes oc_filled oc_worth oc_takenSet oc_isDone, hT) 0 0 (f_x_soldLessBought_L6 bk_counts bk_whens bk_sides (oc_filled 1) x2 x3 x4 n x5 x7) := by
    intro n
    induction n with
    | zero => intro x5 x7; exact mr_none
    | succ n ih =>
      intro x5 x7
      rw [f_x_soldLessBought_L6]
      refine mr_iload d_x_soldLessBought_6 rfl ?_
      refine mr_aload_n d_x_soldLessBought_8 rfl rfl ?_
      refine mr_get K_x 5 d_x_soldLessBought_9 lk_f_x_30 (by decide) rfl rfl ?_
      refine mr_getN K_bk 0 d_x_soldLessBought_12 lk_f_x_149 (by decide) rfl rfl ?_
      refine mr_iload_n d_x_soldLessBought_15 rfl rfl ?_
      refine mr_iald d_x_soldLessBought_16 rfl (fun hc1 => ?_)
      refine mr_icmp_ge (tgt := 92) d_x_soldLessBought_17 (by decide) ?_ ?_
      · refine mr_lload d_x_soldLessBought_92 rfl ?_
        exact mr_lret d_x_soldLessBought_94 rfl rfl
      · refine mr_bipush (v := 10) d_x_soldLessBought_20 mc_bipush_10 ?_
        refine mr_iload_n d_x_soldLessBought_22 rfl rfl ?_
        refine mr_imul d_x_soldLessBought_23 ?_
        refine mr_iload d_x_soldLessBought_24 rfl ?_
        refine mr_iadd d_x_soldLessBought_26 ?_
        refine mr_istore (lv' := [(8, .int ((10 * x2) + x7)), (0, .ref 0), (1, .ref 42), (2, .int x2), (3, .int x3), (4, .int x4), (5, .long x5), (7, .int x7)]) d_x_soldLessBought_27 (by decide) rfl ?_
        refine mr_aload_n d_x_soldLessBought_29 rfl rfl ?_
        refine mr_get K_x 5 d_x_soldLessBought_30 lk_f_x_30 (by decide) rfl rfl ?_
        refine mr_iload d_x_soldLessBought_33 rfl ?_
        refine mr_iload d_x_soldLessBought_35 rfl ?_
        refine mz_go (st := []) e_bk_covers (fun _ => rfl) U_bk_covers (mz_vV d_x_soldLessBought_37 U_bk_covers rfl lk_m_x_230 I_bk_covers s_bk_covers np_bk_covers rfl rfl) (Nat.le_of_ble_eq_true rfl) (by decide) (fun r2 => ?_)
        refine mr_eq (st' := [.int r2]) (ex' := ex) (h2 := (HX x_members x_collaterals x_hasSent x_isSealed x_metered x_sealedCount bk_counts bk_needs bk_whens bk_sides bk_quantities bk_limits ag_toldLies ag_passedLies ag_words ag_vectors ag_liarOperator ag_rounds mk_entries mk_slots mk_remainders mk_blocks mk_blockBids mk_blockOffers mk_entryCount mk_blockCount cv_limits cv_bids cv_offers cv_count cv_allBids cv_allOffers cv_meetingPrice cv_sureBids cv_sureOffers cv_priceBids cv_priceOffers cv_volume cv_worth oc_prices oc_volumes oc_filled oc_worth oc_takenSet oc_isDone, hT)) (k' := 0) (n' := 0) rfl rfl rfl rfl rfl ?_
        refine mr_if_eq (tgt := 86) d_x_soldLessBought_40 (by decide) ?_ ?_
        · refine mr_iinc (v := (x7 + 1)) (lv' := [(7, .int (x7 + 1)), (8, .int ((10 * x2) + x7)), (0, .ref 0), (1, .ref 42), (2, .int x2), (3, .int x3), (4, .int x4), (5, .long x5)]) d_x_soldLessBought_86 rfl rfl (by decide) rfl ?_
          refine mr_goto (tgt := 6) d_x_soldLessBought_89 (by decide) ?_
          refine mr_sub (lv' := [(0, .ref 0), (1, .ref 42), (2, .int x2), (3, .int x3), (4, .int x4), (5, .long x5), (7, .int (x7 + 1))]) [2, 3, 4, 5, 6, 7, 0] rfl ?_
          exact ih _ _
        · refine mr_aload_n d_x_soldLessBought_43 rfl rfl ?_
          refine mr_getN K_o 2 d_x_soldLessBought_44 lk_f_x_188 (by decide) rfl rfl ?_
          refine mr_bipush (v := 10) d_x_soldLessBought_47 mc_bipush_10 ?_
          refine mr_iload_n d_x_soldLessBought_49 rfl rfl ?_
          refine mr_imul d_x_soldLessBought_50 ?_
          refine mr_iload d_x_soldLessBought_51 rfl ?_
          refine mr_iadd d_x_soldLessBought_53 ?_
          refine mr_iald d_x_soldLessBought_54 rfl (fun hc3 => ?_)
          refine mr_istore (lv' := [(9, .int ((oc_filled 1) ((10 * x3) + x7).toNatClampNeg)), (8, .int ((10 * x2) + x7)), (0, .ref 0), (1, .ref 42), (2, .int x2), (3, .int x3), (4, .int x4), (5, .long x5), (7, .int x7)]) d_x_soldLessBought_55 (by decide) rfl ?_
          refine mr_lload d_x_soldLessBought_57 rfl ?_
          refine mr_aload_n d_x_soldLessBought_59 rfl rfl ?_
          refine mr_get K_x 5 d_x_soldLessBought_60 lk_f_x_30 (by decide) rfl rfl ?_
          refine mr_getN K_bk 3 d_x_soldLessBought_63 lk_f_x_233 (by decide) rfl rfl ?_
          refine mr_iload d_x_soldLessBought_66 rfl ?_
          refine mr_iald d_x_soldLessBought_68 rfl (fun hc4 => ?_)
          refine mr_iconst (v := 1) d_x_soldLessBought_69 mc_iconst_1 ?_
          refine mr_icmp_ne (tgt := 79) d_x_soldLessBought_70 (by decide) ?_ ?_
          · refine mr_iload d_x_soldLessBought_79 rfl ?_
            refine mr_ineg d_x_soldLessBought_81 ?_
            refine mr_i2l d_x_soldLessBought_82 ?_
            refine mr_ladd d_x_soldLessBought_83 ?_
            refine mr_lstore (lv' := [(5, .long (x5 + (Int32.toInt64 (-((oc_filled 1) ((10 * x3) + x7).toNatClampNeg))))), (9, .int ((oc_filled 1) ((10 * x3) + x7).toNatClampNeg)), (8, .int ((10 * x2) + x7)), (0, .ref 0), (1, .ref 42), (2, .int x2), (3, .int x3), (4, .int x4), (7, .int x7)]) d_x_soldLessBought_84 (by decide) rfl ?_
            refine mr_iinc (v := (x7 + 1)) (lv' := [(7, .int (x7 + 1)), (5, .long (x5 + (Int32.toInt64 (-((oc_filled 1) ((10 * x3) + x7).toNatClampNeg))))), (9, .int ((oc_filled 1) ((10 * x3) + x7).toNatClampNeg)), (8, .int ((10 * x2) + x7)), (0, .ref 0), (1, .ref 42), (2, .int x2), (3, .int x3), (4, .int x4)]) d_x_soldLessBought_86 rfl rfl (by decide) rfl ?_
            refine mr_goto (tgt := 6) d_x_soldLessBought_89 (by decide) ?_
            refine mr_sub (lv' := [(0, .ref 0), (1, .ref 42), (2, .int x2), (3, .int x3), (4, .int x4), (5, .long (x5 + (Int32.toInt64 (-((oc_filled 1) ((10 * x3) + x7).toNatClampNeg))))), (7, .int (x7 + 1))]) [4, 5, 6, 7, 8, 1, 0] rfl ?_
            exact ih _ _
          · refine mr_iload d_x_soldLessBought_73 rfl ?_
            refine mr_i2l d_x_soldLessBought_75 ?_
            refine mr_goto (tgt := 83) d_x_soldLessBought_76 (by decide) ?_
            refine mr_ladd d_x_soldLessBought_83 ?_
            refine mr_lstore (lv' := [(5, .long (x5 + (Int32.toInt64 ((oc_filled 1) ((10 * x3) + x7).toNatClampNeg)))), (9, .int ((oc_filled 1) ((10 * x3) + x7).toNatClampNeg)), (8, .int ((10 * x2) + x7)), (0, .ref 0), (1, .ref 42), (2, .int x2), (3, .int x3), (4, .int x4), (7, .int x7)]) d_x_soldLessBought_84 (by decide) rfl ?_
            refine mr_iinc (v := (x7 + 1)) (lv' := [(7, .int (x7 + 1)), (5, .long (x5 + (Int32.toInt64 ((oc_filled 1) ((10 * x3) + x7).toNatClampNeg)))), (9, .int ((oc_filled 1) ((10 * x3) + x7).toNatClampNeg)), (8, .int ((10 * x2) + x7)), (0, .ref 0), (1, .ref 42), (2, .int x2), (3, .int x3), (4, .int x4)]) d_x_soldLessBought_86 rfl rfl (by decide) rfl ?_
            refine mr_goto (tgt := 6) d_x_soldLessBought_89 (by decide) ?_
            refine mr_sub (lv' := [(0, .ref 0), (1, .ref 42), (2, .int x2), (3, .int x3), (4, .int x4), (5, .long (x5 + (Int32.toInt64 ((oc_filled 1) ((10 * x3) + x7).toNatClampNeg)))), (7, .int (x7 + 1))]) [4, 5, 6, 7, 8, 1, 0] rfl ?_
            exact ih _ _
  refine mz_of (by decide) (Nat.le_of_ble_eq_true rfl) ?_
  rw [f_x_soldLessBought]
  show mz_A g M_x_soldLessBought (mz_rm 2) _ 0 [(0, .ref 0), (1, .ref 42), (2, .int x2), (3, .int x3), (4, .int x4)] [] ex (HX x_members x_collaterals x_hasSent x_isSealed x_metered x_sealedCount bk_counts bk_needs bk_whens bk_sides bk_quantities bk_limits ag_toldLies ag_passedLies ag_words ag_vectors ag_liarOperator ag_rounds mk_entries mk_slots mk_remainders mk_blocks mk_blockBids mk_blockOffers mk_entryCount mk_blockCount cv_limits cv_bids cv_offers cv_count cv_allBids cv_allOffers cv_meetingPrice cv_sureBids cv_sureOffers cv_priceBids cv_priceOffers cv_volume cv_worth oc_prices oc_volumes oc_filled oc_worth oc_takenSet oc_isDone, hT) 0 0 _
  refine mr_lconst (v := 0) d_x_soldLessBought_0 mc_lconst_0 ?_
  refine mr_lstore (lv' := [(5, .long 0), (0, .ref 0), (1, .ref 42), (2, .int x2), (3, .int x3), (4, .int x4)]) d_x_soldLessBought_1 (by decide) rfl ?_
  refine mr_iconst (v := 0) d_x_soldLessBought_3 mc_iconst_0 ?_
  refine mr_istore (lv' := [(7, .int 0), (5, .long 0), (0, .ref 0), (1, .ref 42), (2, .int x2), (3, .int x3), (4, .int x4)]) d_x_soldLessBought_4 (by decide) rfl ?_
  refine mr_sub (lv' := [(0, .ref 0), (1, .ref 42), (2, .int x2), (3, .int x3), (4, .int x4), (5, .long 0), (7, .int 0)]) [2, 3, 4, 5, 6, 1, 0] rfl ?_
  exact w_L6 1000 _ _
set_option maxRecDepth 100000 in
set_option maxHeartbeats 4000000 in
theorem e_x_soldLessBought_2 {g : mz_G} {ex : Bool} {hT : List mz_E} {x_members : Int32} {x_collaterals : Nat → Int32} {x_hasSent : Nat → Int32} {x_isSealed : Nat → Int32} {x_metered : Nat → Int32} {x_sealedCount : Int32} {bk_counts : Nat → Int32} {bk_needs : Nat → Int64} {bk_whens : Nat → Int32} {bk_sides : Nat → Int32} {bk_quantities : Nat → Int32} {bk_limits : Nat → Int32} {ag_toldLies : Nat → Int32} {ag_passedLies : Nat → Int32} {ag_words : Nat → Int32} {ag_vectors : Nat → Int32} {ag_liarOperator : Int32} {ag_rounds : Int32} {mk_entries : Nat → Int32} {mk_slots : Nat → Int32} {mk_remainders : Nat → Int32} {mk_blocks : Nat → Int32} {mk_blockBids : Nat → Int32} {mk_blockOffers : Nat → Int32} {mk_entryCount : Int32} {mk_blockCount : Int32} {cv_limits : Nat → Nat → Int32} {cv_bids : Nat → Nat → Int32} {cv_offers : Nat → Nat → Int32} {cv_count : Nat → Int32} {cv_allBids : Nat → Int32} {cv_allOffers : Nat → Int32} {cv_meetingPrice : Nat → Int32} {cv_sureBids : Nat → Int32} {cv_sureOffers : Nat → Int32} {cv_priceBids : Nat → Int32} {cv_priceOffers : Nat → Int32} {cv_volume : Nat → Int32} {cv_worth : Nat → Int64} {oc_prices : Nat → Nat → Int32} {oc_volumes : Nat → Nat → Int32} {oc_filled : Nat → Nat → Int32} {oc_worth : Nat → Int64} {oc_takenSet : Nat → Int32} {oc_isDone : Nat → Int32} {x2 : Int32} {x3 : Int32} {x4 : Int32} : mz_M g M_x_soldLessBought 2 [.ref 0, .ref 46, .int x2, .int x3, .int x4] ex (HX x_members x_collaterals x_hasSent x_isSealed x_metered x_sealedCount bk_counts bk_needs bk_whens bk_sides bk_quantities bk_limits ag_toldLies ag_passedLies ag_words ag_vectors ag_liarOperator ag_rounds mk_entries mk_slots mk_remainders mk_blocks mk_blockBids mk_blockOffers mk_entryCount mk_blockCount cv_limits cv_bids cv_offers cv_count cv_allBids cv_allOffers cv_meetingPrice cv_sureBids cv_sureOffers cv_priceBids cv_priceOffers cv_volume cv_worth oc_prices oc_volumes oc_filled oc_worth oc_takenSet oc_isDone, hT) (f_x_soldLessBought bk_counts bk_whens bk_sides (oc_filled 2) x2 x3 x4) (fun r => (0, some (.long r), ex, (HX x_members x_collaterals x_hasSent x_isSealed x_metered x_sealedCount bk_counts bk_needs bk_whens bk_sides bk_quantities bk_limits ag_toldLies ag_passedLies ag_words ag_vectors ag_liarOperator ag_rounds mk_entries mk_slots mk_remainders mk_blocks mk_blockBids mk_blockOffers mk_entryCount mk_blockCount cv_limits cv_bids cv_offers cv_count cv_allBids cv_allOffers cv_meetingPrice cv_sureBids cv_sureOffers cv_priceBids cv_priceOffers cv_volume cv_worth oc_prices oc_volumes oc_filled oc_worth oc_takenSet oc_isDone, hT), 0, 0)) := by
  have w_L6 : ∀ (n : Nat) (x5 : Int64) (x7 : Int32), mz_A g M_x_soldLessBought (mz_rm 2) (fun r => (0, some (.long r), ex, (HX x_members x_collaterals x_hasSent x_isSealed x_metered x_sealedCount bk_counts bk_needs bk_whens bk_sides bk_quantities bk_limits ag_toldLies ag_passedLies ag_words ag_vectors ag_liarOperator ag_rounds mk_entries mk_slots mk_remainders mk_blocks mk_blockBids mk_blockOffers mk_entryCount mk_blockCount cv_limits cv_bids cv_offers cv_count cv_allBids cv_allOffers cv_meetingPrice cv_sureBids cv_sureOffers cv_priceBids cv_priceOffers cv_volume cv_worth oc_prices oc_volumes oc_filled oc_worth oc_takenSet oc_isDone, hT), 0, 0)) 6 [(0, .ref 0), (1, .ref 46), (2, .int x2), (3, .int x3), (4, .int x4), (5, .long x5), (7, .int x7)] [] ex (HX x_members x_collaterals x_hasSent x_isSealed x_metered x_sealedCount bk_counts bk_needs bk_whens bk_sides bk_quantities bk_limits ag_toldLies ag_passedLies ag_words ag_vectors ag_liarOperator ag_rounds mk_entries mk_slots mk_remainders mk_blocks mk_blockBids mk_blockOffers mk_entryCount mk_blockCount cv_limits cv_bids cv_offers cv_count cv_allBids cv_allOffers cv_meetingPrice cv_sureBids cv_sureOffers cv_priceBids cv_priceOffers cv_volume cv_worth oc_prices oc_volumes oc_filled oc_worth oc_takenSet oc_isDone, hT) 0 0 (f_x_soldLessBought_L6 bk_counts bk_whens bk_sides (oc_filled 2) x2 x3 x4 n x5 x7) := by
    intro n
    induction n with
    | zero => intro x5 x7; exact mr_none
    | succ n ih =>
      intro x5 x7
      rw [f_x_soldLessBought_L6]
      refine mr_iload d_x_soldLessBought_6 rfl ?_
      refine mr_aload_n d_x_soldLessBought_8 rfl rfl ?_
      refine mr_get K_x 5 d_x_soldLessBought_9 lk_f_x_30 (by decide) rfl rfl ?_
      refine mr_getN K_bk 0 d_x_soldLessBought_12 lk_f_x_149 (by decide) rfl rfl ?_
      refine mr_iload_n d_x_soldLessBought_15 rfl rfl ?_
      refine mr_iald d_x_soldLessBought_16 rfl (fun hc1 => ?_)
      refine mr_icmp_ge (tgt := 92) d_x_soldLessBought_17 (by decide) ?_ ?_
      · refine mr_lload d_x_soldLessBought_92 rfl ?_
        exact mr_lret d_x_soldLessBought_94 rfl rfl
      · refine mr_bipush (v := 10) d_x_soldLessBought_20 mc_bipush_10 ?_
        refine mr_iload_n d_x_soldLessBought_22 rfl rfl ?_
        refine mr_imul d_x_soldLessBought_23 ?_
        refine mr_iload d_x_soldLessBought_24 rfl ?_
        refine mr_iadd d_x_soldLessBought_26 ?_
        refine mr_istore (lv' := [(8, .int ((10 * x2) + x7)), (0, .ref 0), (1, .ref 46), (2, .int x2), (3, .int x3), (4, .int x4), (5, .long x5), (7, .int x7)]) d_x_soldLessBought_27 (by decide) rfl ?_
        refine mr_aload_n d_x_soldLessBought_29 rfl rfl ?_
        refine mr_get K_x 5 d_x_soldLessBought_30 lk_f_x_30 (by decide) rfl rfl ?_
        refine mr_iload d_x_soldLessBought_33 rfl ?_
        refine mr_iload d_x_soldLessBought_35 rfl ?_
        refine mz_go (st := []) e_bk_covers (fun _ => rfl) U_bk_covers (mz_vV d_x_soldLessBought_37 U_bk_covers rfl lk_m_x_230 I_bk_covers s_bk_covers np_bk_covers rfl rfl) (Nat.le_of_ble_eq_true rfl) (by decide) (fun r2 => ?_)
        refine mr_eq (st' := [.int r2]) (ex' := ex) (h2 := (HX x_members x_collaterals x_hasSent x_isSealed x_metered x_sealedCount bk_counts bk_needs bk_whens bk_sides bk_quantities bk_limits ag_toldLies ag_passedLies ag_words ag_vectors ag_liarOperator ag_rounds mk_entries mk_slots mk_remainders mk_blocks mk_blockBids mk_blockOffers mk_entryCount mk_blockCount cv_limits cv_bids cv_offers cv_count cv_allBids cv_allOffers cv_meetingPrice cv_sureBids cv_sureOffers cv_priceBids cv_priceOffers cv_volume cv_worth oc_prices oc_volumes oc_filled oc_worth oc_takenSet oc_isDone, hT)) (k' := 0) (n' := 0) rfl rfl rfl rfl rfl ?_
        refine mr_if_eq (tgt := 86) d_x_soldLessBought_40 (by decide) ?_ ?_
        · refine mr_iinc (v := (x7 + 1)) (lv' := [(7, .int (x7 + 1)), (8, .int ((10 * x2) + x7)), (0, .ref 0), (1, .ref 46), (2, .int x2), (3, .int x3), (4, .int x4), (5, .long x5)]) d_x_soldLessBought_86 rfl rfl (by decide) rfl ?_
          refine mr_goto (tgt := 6) d_x_soldLessBought_89 (by decide) ?_
          refine mr_sub (lv' := [(0, .ref 0), (1, .ref 46), (2, .int x2), (3, .int x3), (4, .int x4), (5, .long x5), (7, .int (x7 + 1))]) [2, 3, 4, 5, 6, 7, 0] rfl ?_
          exact ih _ _
        · refine mr_aload_n d_x_soldLessBought_43 rfl rfl ?_
          refine mr_getN K_o 2 d_x_soldLessBought_44 lk_f_x_188 (by decide) rfl rfl ?_
          refine mr_bipush (v := 10) d_x_soldLessBought_47 mc_bipush_10 ?_
          refine mr_iload_n d_x_soldLessBought_49 rfl rfl ?_
          refine mr_imul d_x_soldLessBought_50 ?_
          refine mr_iload d_x_soldLessBought_51 rfl ?_
          refine mr_iadd d_x_soldLessBought_53 ?_
          refine mr_iald d_x_soldLessBought_54 rfl (fun hc3 => ?_)
          refine mr_istore (lv' := [(9, .int ((oc_filled 2) ((10 * x3) + x7).toNatClampNeg)), (8, .int ((10 * x2) + x7)), (0, .ref 0), (1, .ref 46), (2, .int x2), (3, .int x3), (4, .int x4), (5, .long x5), (7, .int x7)]) d_x_soldLessBought_55 (by decide) rfl ?_
          refine mr_lload d_x_soldLessBought_57 rfl ?_
          refine mr_aload_n d_x_soldLessBought_59 rfl rfl ?_
          refine mr_get K_x 5 d_x_soldLessBought_60 lk_f_x_30 (by decide) rfl rfl ?_
          refine mr_getN K_bk 3 d_x_soldLessBought_63 lk_f_x_233 (by decide) rfl rfl ?_
          refine mr_iload d_x_soldLessBought_66 rfl ?_
          refine mr_iald d_x_soldLessBought_68 rfl (fun hc4 => ?_)
          refine mr_iconst (v := 1) d_x_soldLessBought_69 mc_iconst_1 ?_
          refine mr_icmp_ne (tgt := 79) d_x_soldLessBought_70 (by decide) ?_ ?_
          · refine mr_iload d_x_soldLessBought_79 rfl ?_
            refine mr_ineg d_x_soldLessBought_81 ?_
            refine mr_i2l d_x_soldLessBought_82 ?_
            refine mr_ladd d_x_soldLessBought_83 ?_
            refine mr_lstore (lv' := [(5, .long (x5 + (Int32.toInt64 (-((oc_filled 2) ((10 * x3) + x7).toNatClampNeg))))), (9, .int ((oc_filled 2) ((10 * x3) + x7).toNatClampNeg)), (8, .int ((10 * x2) + x7)), (0, .ref 0), (1, .ref 46), (2, .int x2), (3, .int x3), (4, .int x4), (7, .int x7)]) d_x_soldLessBought_84 (by decide) rfl ?_
            refine mr_iinc (v := (x7 + 1)) (lv' := [(7, .int (x7 + 1)), (5, .long (x5 + (Int32.toInt64 (-((oc_filled 2) ((10 * x3) + x7).toNatClampNeg))))), (9, .int ((oc_filled 2) ((10 * x3) + x7).toNatClampNeg)), (8, .int ((10 * x2) + x7)), (0, .ref 0), (1, .ref 46), (2, .int x2), (3, .int x3), (4, .int x4)]) d_x_soldLessBought_86 rfl rfl (by decide) rfl ?_
            refine mr_goto (tgt := 6) d_x_soldLessBought_89 (by decide) ?_
            refine mr_sub (lv' := [(0, .ref 0), (1, .ref 46), (2, .int x2), (3, .int x3), (4, .int x4), (5, .long (x5 + (Int32.toInt64 (-((oc_filled 2) ((10 * x3) + x7).toNatClampNeg))))), (7, .int (x7 + 1))]) [4, 5, 6, 7, 8, 1, 0] rfl ?_
            exact ih _ _
          · refine mr_iload d_x_soldLessBought_73 rfl ?_
            refine mr_i2l d_x_soldLessBought_75 ?_
            refine mr_goto (tgt := 83) d_x_soldLessBought_76 (by decide) ?_
            refine mr_ladd d_x_soldLessBought_83 ?_
            refine mr_lstore (lv' := [(5, .long (x5 + (Int32.toInt64 ((oc_filled 2) ((10 * x3) + x7).toNatClampNeg)))), (9, .int ((oc_filled 2) ((10 * x3) + x7).toNatClampNeg)), (8, .int ((10 * x2) + x7)), (0, .ref 0), (1, .ref 46), (2, .int x2), (3, .int x3), (4, .int x4), (7, .int x7)]) d_x_soldLessBought_84 (by decide) rfl ?_
            refine mr_iinc (v := (x7 + 1)) (lv' := [(7, .int (x7 + 1)), (5, .long (x5 + (Int32.toInt64 ((oc_filled 2) ((10 * x3) + x7).toNatClampNeg)))), (9, .int ((oc_filled 2) ((10 * x3) + x7).toNatClampNeg)), (8, .int ((10 * x2) + x7)), (0, .ref 0), (1, .ref 46), (2, .int x2), (3, .int x3), (4, .int x4)]) d_x_soldLessBought_86 rfl rfl (by decide) rfl ?_
            refine mr_goto (tgt := 6) d_x_soldLessBought_89 (by decide) ?_
            refine mr_sub (lv' := [(0, .ref 0), (1, .ref 46), (2, .int x2), (3, .int x3), (4, .int x4), (5, .long (x5 + (Int32.toInt64 ((oc_filled 2) ((10 * x3) + x7).toNatClampNeg)))), (7, .int (x7 + 1))]) [4, 5, 6, 7, 8, 1, 0] rfl ?_
            exact ih _ _
  refine mz_of (by decide) (Nat.le_of_ble_eq_true rfl) ?_
  rw [f_x_soldLessBought]
  show mz_A g M_x_soldLessBought (mz_rm 2) _ 0 [(0, .ref 0), (1, .ref 46), (2, .int x2), (3, .int x3), (4, .int x4)] [] ex (HX x_members x_collaterals x_hasSent x_isSealed x_metered x_sealedCount bk_counts bk_needs bk_whens bk_sides bk_quantities bk_limits ag_toldLies ag_passedLies ag_words ag_vectors ag_liarOperator ag_rounds mk_entries mk_slots mk_remainders mk_blocks mk_blockBids mk_blockOffers mk_entryCount mk_blockCount cv_limits cv_bids cv_offers cv_count cv_allBids cv_allOffers cv_meetingPrice cv_sureBids cv_sureOffers cv_priceBids cv_priceOffers cv_volume cv_worth oc_prices oc_volumes oc_filled oc_worth oc_takenSet oc_isDone, hT) 0 0 _
  refine mr_lconst (v := 0) d_x_soldLessBought_0 mc_lconst_0 ?_
  refine mr_lstore (lv' := [(5, .long 0), (0, .ref 0), (1, .ref 46), (2, .int x2), (3, .int x3), (4, .int x4)]) d_x_soldLessBought_1 (by decide) rfl ?_
  refine mr_iconst (v := 0) d_x_soldLessBought_3 mc_iconst_0 ?_
  refine mr_istore (lv' := [(7, .int 0), (5, .long 0), (0, .ref 0), (1, .ref 46), (2, .int x2), (3, .int x3), (4, .int x4)]) d_x_soldLessBought_4 (by decide) rfl ?_
  refine mr_sub (lv' := [(0, .ref 0), (1, .ref 46), (2, .int x2), (3, .int x3), (4, .int x4), (5, .long 0), (7, .int 0)]) [2, 3, 4, 5, 6, 1, 0] rfl ?_
  exact w_L6 1000 _ _
set_option maxRecDepth 100000 in
set_option maxHeartbeats 4000000 in
theorem e_x_soldLessBought_3 {g : mz_G} {ex : Bool} {hT : List mz_E} {x_members : Int32} {x_collaterals : Nat → Int32} {x_hasSent : Nat → Int32} {x_isSealed : Nat → Int32} {x_metered : Nat → Int32} {x_sealedCount : Int32} {bk_counts : Nat → Int32} {bk_needs : Nat → Int64} {bk_whens : Nat → Int32} {bk_sides : Nat → Int32} {bk_quantities : Nat → Int32} {bk_limits : Nat → Int32} {ag_toldLies : Nat → Int32} {ag_passedLies : Nat → Int32} {ag_words : Nat → Int32} {ag_vectors : Nat → Int32} {ag_liarOperator : Int32} {ag_rounds : Int32} {mk_entries : Nat → Int32} {mk_slots : Nat → Int32} {mk_remainders : Nat → Int32} {mk_blocks : Nat → Int32} {mk_blockBids : Nat → Int32} {mk_blockOffers : Nat → Int32} {mk_entryCount : Int32} {mk_blockCount : Int32} {cv_limits : Nat → Nat → Int32} {cv_bids : Nat → Nat → Int32} {cv_offers : Nat → Nat → Int32} {cv_count : Nat → Int32} {cv_allBids : Nat → Int32} {cv_allOffers : Nat → Int32} {cv_meetingPrice : Nat → Int32} {cv_sureBids : Nat → Int32} {cv_sureOffers : Nat → Int32} {cv_priceBids : Nat → Int32} {cv_priceOffers : Nat → Int32} {cv_volume : Nat → Int32} {cv_worth : Nat → Int64} {oc_prices : Nat → Nat → Int32} {oc_volumes : Nat → Nat → Int32} {oc_filled : Nat → Nat → Int32} {oc_worth : Nat → Int64} {oc_takenSet : Nat → Int32} {oc_isDone : Nat → Int32} {x2 : Int32} {x3 : Int32} {x4 : Int32} : mz_M g M_x_soldLessBought 2 [.ref 0, .ref 50, .int x2, .int x3, .int x4] ex (HX x_members x_collaterals x_hasSent x_isSealed x_metered x_sealedCount bk_counts bk_needs bk_whens bk_sides bk_quantities bk_limits ag_toldLies ag_passedLies ag_words ag_vectors ag_liarOperator ag_rounds mk_entries mk_slots mk_remainders mk_blocks mk_blockBids mk_blockOffers mk_entryCount mk_blockCount cv_limits cv_bids cv_offers cv_count cv_allBids cv_allOffers cv_meetingPrice cv_sureBids cv_sureOffers cv_priceBids cv_priceOffers cv_volume cv_worth oc_prices oc_volumes oc_filled oc_worth oc_takenSet oc_isDone, hT) (f_x_soldLessBought bk_counts bk_whens bk_sides (oc_filled 3) x2 x3 x4) (fun r => (0, some (.long r), ex, (HX x_members x_collaterals x_hasSent x_isSealed x_metered x_sealedCount bk_counts bk_needs bk_whens bk_sides bk_quantities bk_limits ag_toldLies ag_passedLies ag_words ag_vectors ag_liarOperator ag_rounds mk_entries mk_slots mk_remainders mk_blocks mk_blockBids mk_blockOffers mk_entryCount mk_blockCount cv_limits cv_bids cv_offers cv_count cv_allBids cv_allOffers cv_meetingPrice cv_sureBids cv_sureOffers cv_priceBids cv_priceOffers cv_volume cv_worth oc_prices oc_volumes oc_filled oc_worth oc_takenSet oc_isDone, hT), 0, 0)) := by
  have w_L6 : ∀ (n : Nat) (x5 : Int64) (x7 : Int32), mz_A g M_x_soldLessBought (mz_rm 2) (fun r => (0, some (.long r), ex, (HX x_members x_collaterals x_hasSent x_isSealed x_metered x_sealedCount bk_counts bk_needs bk_whens bk_sides bk_quantities bk_limits ag_toldLies ag_passedLies ag_words ag_vectors ag_liarOperator ag_rounds mk_entries mk_slots mk_remainders mk_blocks mk_blockBids mk_blockOffers mk_entryCount mk_blockCount cv_limits cv_bids cv_offers cv_count cv_allBids cv_allOffers cv_meetingPrice cv_sureBids cv_sureOffers cv_priceBids cv_priceOffers cv_volume cv_worth oc_prices oc_volumes oc_filled oc_worth oc_takenSet oc_isDone, hT), 0, 0)) 6 [(0, .ref 0), (1, .ref 50), (2, .int x2), (3, .int x3), (4, .int x4), (5, .long x5), (7, .int x7)] [] ex (HX x_members x_collaterals x_hasSent x_isSealed x_metered x_sealedCount bk_counts bk_needs bk_whens bk_sides bk_quantities bk_limits ag_toldLies ag_passedLies ag_words ag_vectors ag_liarOperator ag_rounds mk_entries mk_slots mk_remainders mk_blocks mk_blockBids mk_blockOffers mk_entryCount mk_blockCount cv_limits cv_bids cv_offers cv_count cv_allBids cv_allOffers cv_meetingPrice cv_sureBids cv_sureOffers cv_priceBids cv_priceOffers cv_volume cv_worth oc_prices oc_volumes oc_filled oc_worth oc_takenSet oc_isDone, hT) 0 0 (f_x_soldLessBought_L6 bk_counts bk_whens bk_sides (oc_filled 3) x2 x3 x4 n x5 x7) := by
    intro n
    induction n with
    | zero => intro x5 x7; exact mr_none
    | succ n ih =>
      intro x5 x7
      rw [f_x_soldLessBought_L6]
      refine mr_iload d_x_soldLessBought_6 rfl ?_
      refine mr_aload_n d_x_soldLessBought_8 rfl rfl ?_
      refine mr_get K_x 5 d_x_soldLessBought_9 lk_f_x_30 (by decide) rfl rfl ?_
      refine mr_getN K_bk 0 d_x_soldLessBought_12 lk_f_x_149 (by decide) rfl rfl ?_
      refine mr_iload_n d_x_soldLessBought_15 rfl rfl ?_
      refine mr_iald d_x_soldLessBought_16 rfl (fun hc1 => ?_)
      refine mr_icmp_ge (tgt := 92) d_x_soldLessBought_17 (by decide) ?_ ?_
      · refine mr_lload d_x_soldLessBought_92 rfl ?_
        exact mr_lret d_x_soldLessBought_94 rfl rfl
      · refine mr_bipush (v := 10) d_x_soldLessBought_20 mc_bipush_10 ?_
        refine mr_iload_n d_x_soldLessBought_22 rfl rfl ?_
        refine mr_imul d_x_soldLessBought_23 ?_
        refine mr_iload d_x_soldLessBought_24 rfl ?_
        refine mr_iadd d_x_soldLessBought_26 ?_
        refine mr_istore (lv' := [(8, .int ((10 * x2) + x7)), (0, .ref 0), (1, .ref 50), (2, .int x2), (3, .int x3), (4, .int x4), (5, .long x5), (7, .int x7)]) d_x_soldLessBought_27 (by decide) rfl ?_
        refine mr_aload_n d_x_soldLessBought_29 rfl rfl ?_
        refine mr_get K_x 5 d_x_soldLessBought_30 lk_f_x_30 (by decide) rfl rfl ?_
        refine mr_iload d_x_soldLessBought_33 rfl ?_
        refine mr_iload d_x_soldLessBought_35 rfl ?_
        refine mz_go (st := []) e_bk_covers (fun _ => rfl) U_bk_covers (mz_vV d_x_soldLessBought_37 U_bk_covers rfl lk_m_x_230 I_bk_covers s_bk_covers np_bk_covers rfl rfl) (Nat.le_of_ble_eq_true rfl) (by decide) (fun r2 => ?_)
        refine mr_eq (st' := [.int r2]) (ex' := ex) (h2 := (HX x_members x_collaterals x_hasSent x_isSealed x_metered x_sealedCount bk_counts bk_needs bk_whens bk_sides bk_quantities bk_limits ag_toldLies ag_passedLies ag_words ag_vectors ag_liarOperator ag_rounds mk_entries mk_slots mk_remainders mk_blocks mk_blockBids mk_blockOffers mk_entryCount mk_blockCount cv_limits cv_bids cv_offers cv_count cv_allBids cv_allOffers cv_meetingPrice cv_sureBids cv_sureOffers cv_priceBids cv_priceOffers cv_volume cv_worth oc_prices oc_volumes oc_filled oc_worth oc_takenSet oc_isDone, hT)) (k' := 0) (n' := 0) rfl rfl rfl rfl rfl ?_
        refine mr_if_eq (tgt := 86) d_x_soldLessBought_40 (by decide) ?_ ?_
        · refine mr_iinc (v := (x7 + 1)) (lv' := [(7, .int (x7 + 1)), (8, .int ((10 * x2) + x7)), (0, .ref 0), (1, .ref 50), (2, .int x2), (3, .int x3), (4, .int x4), (5, .long x5)]) d_x_soldLessBought_86 rfl rfl (by decide) rfl ?_
          refine mr_goto (tgt := 6) d_x_soldLessBought_89 (by decide) ?_
          refine mr_sub (lv' := [(0, .ref 0), (1, .ref 50), (2, .int x2), (3, .int x3), (4, .int x4), (5, .long x5), (7, .int (x7 + 1))]) [2, 3, 4, 5, 6, 7, 0] rfl ?_
          exact ih _ _
        · refine mr_aload_n d_x_soldLessBought_43 rfl rfl ?_
          refine mr_getN K_o 2 d_x_soldLessBought_44 lk_f_x_188 (by decide) rfl rfl ?_
          refine mr_bipush (v := 10) d_x_soldLessBought_47 mc_bipush_10 ?_
          refine mr_iload_n d_x_soldLessBought_49 rfl rfl ?_
          refine mr_imul d_x_soldLessBought_50 ?_
          refine mr_iload d_x_soldLessBought_51 rfl ?_
          refine mr_iadd d_x_soldLessBought_53 ?_
          refine mr_iald d_x_soldLessBought_54 rfl (fun hc3 => ?_)
          refine mr_istore (lv' := [(9, .int ((oc_filled 3) ((10 * x3) + x7).toNatClampNeg)), (8, .int ((10 * x2) + x7)), (0, .ref 0), (1, .ref 50), (2, .int x2), (3, .int x3), (4, .int x4), (5, .long x5), (7, .int x7)]) d_x_soldLessBought_55 (by decide) rfl ?_
          refine mr_lload d_x_soldLessBought_57 rfl ?_
          refine mr_aload_n d_x_soldLessBought_59 rfl rfl ?_
          refine mr_get K_x 5 d_x_soldLessBought_60 lk_f_x_30 (by decide) rfl rfl ?_
          refine mr_getN K_bk 3 d_x_soldLessBought_63 lk_f_x_233 (by decide) rfl rfl ?_
          refine mr_iload d_x_soldLessBought_66 rfl ?_
          refine mr_iald d_x_soldLessBought_68 rfl (fun hc4 => ?_)
          refine mr_iconst (v := 1) d_x_soldLessBought_69 mc_iconst_1 ?_
          refine mr_icmp_ne (tgt := 79) d_x_soldLessBought_70 (by decide) ?_ ?_
          · refine mr_iload d_x_soldLessBought_79 rfl ?_
            refine mr_ineg d_x_soldLessBought_81 ?_
            refine mr_i2l d_x_soldLessBought_82 ?_
            refine mr_ladd d_x_soldLessBought_83 ?_
            refine mr_lstore (lv' := [(5, .long (x5 + (Int32.toInt64 (-((oc_filled 3) ((10 * x3) + x7).toNatClampNeg))))), (9, .int ((oc_filled 3) ((10 * x3) + x7).toNatClampNeg)), (8, .int ((10 * x2) + x7)), (0, .ref 0), (1, .ref 50), (2, .int x2), (3, .int x3), (4, .int x4), (7, .int x7)]) d_x_soldLessBought_84 (by decide) rfl ?_
            refine mr_iinc (v := (x7 + 1)) (lv' := [(7, .int (x7 + 1)), (5, .long (x5 + (Int32.toInt64 (-((oc_filled 3) ((10 * x3) + x7).toNatClampNeg))))), (9, .int ((oc_filled 3) ((10 * x3) + x7).toNatClampNeg)), (8, .int ((10 * x2) + x7)), (0, .ref 0), (1, .ref 50), (2, .int x2), (3, .int x3), (4, .int x4)]) d_x_soldLessBought_86 rfl rfl (by decide) rfl ?_
            refine mr_goto (tgt := 6) d_x_soldLessBought_89 (by decide) ?_
            refine mr_sub (lv' := [(0, .ref 0), (1, .ref 50), (2, .int x2), (3, .int x3), (4, .int x4), (5, .long (x5 + (Int32.toInt64 (-((oc_filled 3) ((10 * x3) + x7).toNatClampNeg))))), (7, .int (x7 + 1))]) [4, 5, 6, 7, 8, 1, 0] rfl ?_
            exact ih _ _
          · refine mr_iload d_x_soldLessBought_73 rfl ?_
            refine mr_i2l d_x_soldLessBought_75 ?_
            refine mr_goto (tgt := 83) d_x_soldLessBought_76 (by decide) ?_
            refine mr_ladd d_x_soldLessBought_83 ?_
            refine mr_lstore (lv' := [(5, .long (x5 + (Int32.toInt64 ((oc_filled 3) ((10 * x3) + x7).toNatClampNeg)))), (9, .int ((oc_filled 3) ((10 * x3) + x7).toNatClampNeg)), (8, .int ((10 * x2) + x7)), (0, .ref 0), (1, .ref 50), (2, .int x2), (3, .int x3), (4, .int x4), (7, .int x7)]) d_x_soldLessBought_84 (by decide) rfl ?_
            refine mr_iinc (v := (x7 + 1)) (lv' := [(7, .int (x7 + 1)), (5, .long (x5 + (Int32.toInt64 ((oc_filled 3) ((10 * x3) + x7).toNatClampNeg)))), (9, .int ((oc_filled 3) ((10 * x3) + x7).toNatClampNeg)), (8, .int ((10 * x2) + x7)), (0, .ref 0), (1, .ref 50), (2, .int x2), (3, .int x3), (4, .int x4)]) d_x_soldLessBought_86 rfl rfl (by decide) rfl ?_
            refine mr_goto (tgt := 6) d_x_soldLessBought_89 (by decide) ?_
            refine mr_sub (lv' := [(0, .ref 0), (1, .ref 50), (2, .int x2), (3, .int x3), (4, .int x4), (5, .long (x5 + (Int32.toInt64 ((oc_filled 3) ((10 * x3) + x7).toNatClampNeg)))), (7, .int (x7 + 1))]) [4, 5, 6, 7, 8, 1, 0] rfl ?_
            exact ih _ _
  refine mz_of (by decide) (Nat.le_of_ble_eq_true rfl) ?_
  rw [f_x_soldLessBought]
  show mz_A g M_x_soldLessBought (mz_rm 2) _ 0 [(0, .ref 0), (1, .ref 50), (2, .int x2), (3, .int x3), (4, .int x4)] [] ex (HX x_members x_collaterals x_hasSent x_isSealed x_metered x_sealedCount bk_counts bk_needs bk_whens bk_sides bk_quantities bk_limits ag_toldLies ag_passedLies ag_words ag_vectors ag_liarOperator ag_rounds mk_entries mk_slots mk_remainders mk_blocks mk_blockBids mk_blockOffers mk_entryCount mk_blockCount cv_limits cv_bids cv_offers cv_count cv_allBids cv_allOffers cv_meetingPrice cv_sureBids cv_sureOffers cv_priceBids cv_priceOffers cv_volume cv_worth oc_prices oc_volumes oc_filled oc_worth oc_takenSet oc_isDone, hT) 0 0 _
  refine mr_lconst (v := 0) d_x_soldLessBought_0 mc_lconst_0 ?_
  refine mr_lstore (lv' := [(5, .long 0), (0, .ref 0), (1, .ref 50), (2, .int x2), (3, .int x3), (4, .int x4)]) d_x_soldLessBought_1 (by decide) rfl ?_
  refine mr_iconst (v := 0) d_x_soldLessBought_3 mc_iconst_0 ?_
  refine mr_istore (lv' := [(7, .int 0), (5, .long 0), (0, .ref 0), (1, .ref 50), (2, .int x2), (3, .int x3), (4, .int x4)]) d_x_soldLessBought_4 (by decide) rfl ?_
  refine mr_sub (lv' := [(0, .ref 0), (1, .ref 50), (2, .int x2), (3, .int x3), (4, .int x4), (5, .long 0), (7, .int 0)]) [2, 3, 4, 5, 6, 1, 0] rfl ?_
  exact w_L6 1000 _ _
theorem e_x_soldLessBought {g : mz_G} {ex : Bool} {hT : List mz_E} {x_members : Int32} {x_collaterals : Nat → Int32} {x_hasSent : Nat → Int32} {x_isSealed : Nat → Int32} {x_metered : Nat → Int32} {x_sealedCount : Int32} {bk_counts : Nat → Int32} {bk_needs : Nat → Int64} {bk_whens : Nat → Int32} {bk_sides : Nat → Int32} {bk_quantities : Nat → Int32} {bk_limits : Nat → Int32} {ag_toldLies : Nat → Int32} {ag_passedLies : Nat → Int32} {ag_words : Nat → Int32} {ag_vectors : Nat → Int32} {ag_liarOperator : Int32} {ag_rounds : Int32} {mk_entries : Nat → Int32} {mk_slots : Nat → Int32} {mk_remainders : Nat → Int32} {mk_blocks : Nat → Int32} {mk_blockBids : Nat → Int32} {mk_blockOffers : Nat → Int32} {mk_entryCount : Int32} {mk_blockCount : Int32} {cv_limits : Nat → Nat → Int32} {cv_bids : Nat → Nat → Int32} {cv_offers : Nat → Nat → Int32} {cv_count : Nat → Int32} {cv_allBids : Nat → Int32} {cv_allOffers : Nat → Int32} {cv_meetingPrice : Nat → Int32} {cv_sureBids : Nat → Int32} {cv_sureOffers : Nat → Int32} {cv_priceBids : Nat → Int32} {cv_priceOffers : Nat → Int32} {cv_volume : Nat → Int32} {cv_worth : Nat → Int64} {oc_prices : Nat → Nat → Int32} {oc_volumes : Nat → Nat → Int32} {oc_filled : Nat → Nat → Int32} {oc_worth : Nat → Int64} {oc_takenSet : Nat → Int32} {oc_isDone : Nat → Int32} {x2 : Int32} {x3 : Int32} {x4 : Int32} {j : Nat} (hj : j < 4) : mz_M g M_x_soldLessBought 2 [.ref 0, .ref (38 + 4 * j), .int x2, .int x3, .int x4] ex (HX x_members x_collaterals x_hasSent x_isSealed x_metered x_sealedCount bk_counts bk_needs bk_whens bk_sides bk_quantities bk_limits ag_toldLies ag_passedLies ag_words ag_vectors ag_liarOperator ag_rounds mk_entries mk_slots mk_remainders mk_blocks mk_blockBids mk_blockOffers mk_entryCount mk_blockCount cv_limits cv_bids cv_offers cv_count cv_allBids cv_allOffers cv_meetingPrice cv_sureBids cv_sureOffers cv_priceBids cv_priceOffers cv_volume cv_worth oc_prices oc_volumes oc_filled oc_worth oc_takenSet oc_isDone, hT) (f_x_soldLessBought bk_counts bk_whens bk_sides (oc_filled j) x2 x3 x4) (fun r => (0, some (.long r), ex, (HX x_members x_collaterals x_hasSent x_isSealed x_metered x_sealedCount bk_counts bk_needs bk_whens bk_sides bk_quantities bk_limits ag_toldLies ag_passedLies ag_words ag_vectors ag_liarOperator ag_rounds mk_entries mk_slots mk_remainders mk_blocks mk_blockBids mk_blockOffers mk_entryCount mk_blockCount cv_limits cv_bids cv_offers cv_count cv_allBids cv_allOffers cv_meetingPrice cv_sureBids cv_sureOffers cv_priceBids cv_priceOffers cv_volume cv_worth oc_prices oc_volumes oc_filled oc_worth oc_takenSet oc_isDone, hT), 0, 0)) := match j, hj with | 0, _ => e_x_soldLessBought_0 | 1, _ => e_x_soldLessBought_1 | 2, _ => e_x_soldLessBought_2 | 3, _ => e_x_soldLessBought_3 | j + 4, h => absurd h (by omega)
set_option maxRecDepth 100000 in
set_option maxHeartbeats 4000000 in
theorem e_x_accountOf_0 {g : mz_G} {ex : Bool} {hT : List mz_E} {x_members : Int32} {x_collaterals : Nat → Int32} {x_hasSent : Nat → Int32} {x_isSealed : Nat → Int32} {x_metered : Nat → Int32} {x_sealedCount : Int32} {bk_counts : Nat → Int32} {bk_needs : Nat → Int64} {bk_whens : Nat → Int32} {bk_sides : Nat → Int32} {bk_quantities : Nat → Int32} {bk_limits : Nat → Int32} {ag_toldLies : Nat → Int32} {ag_passedLies : Nat → Int32} {ag_words : Nat → Int32} {ag_vectors : Nat → Int32} {ag_liarOperator : Int32} {ag_rounds : Int32} {mk_entries : Nat → Int32} {mk_slots : Nat → Int32} {mk_remainders : Nat → Int32} {mk_blocks : Nat → Int32} {mk_blockBids : Nat → Int32} {mk_blockOffers : Nat → Int32} {mk_entryCount : Int32} {mk_blockCount : Int32} {cv_limits : Nat → Nat → Int32} {cv_bids : Nat → Nat → Int32} {cv_offers : Nat → Nat → Int32} {cv_count : Nat → Int32} {cv_allBids : Nat → Int32} {cv_allOffers : Nat → Int32} {cv_meetingPrice : Nat → Int32} {cv_sureBids : Nat → Int32} {cv_sureOffers : Nat → Int32} {cv_priceBids : Nat → Int32} {cv_priceOffers : Nat → Int32} {cv_volume : Nat → Int32} {cv_worth : Nat → Int64} {oc_prices : Nat → Nat → Int32} {oc_volumes : Nat → Nat → Int32} {oc_filled : Nat → Nat → Int32} {oc_worth : Nat → Int64} {oc_takenSet : Nat → Int32} {oc_isDone : Nat → Int32} {x2 : Int32} {x3 : Int32} : mz_M g M_x_accountOf 3 [.ref 0, .ref 38, .int x2, .int x3] ex (HX x_members x_collaterals x_hasSent x_isSealed x_metered x_sealedCount bk_counts bk_needs bk_whens bk_sides bk_quantities bk_limits ag_toldLies ag_passedLies ag_words ag_vectors ag_liarOperator ag_rounds mk_entries mk_slots mk_remainders mk_blocks mk_blockBids mk_blockOffers mk_entryCount mk_blockCount cv_limits cv_bids cv_offers cv_count cv_allBids cv_allOffers cv_meetingPrice cv_sureBids cv_sureOffers cv_priceBids cv_priceOffers cv_volume cv_worth oc_prices oc_volumes oc_filled oc_worth oc_takenSet oc_isDone, hT) (f_x_accountOf x_metered bk_counts bk_whens bk_sides ag_vectors (oc_prices 0) (oc_filled 0) x2 x3) (fun r => (0, some (.long r), ex, (HX x_members x_collaterals x_hasSent x_isSealed x_metered x_sealedCount bk_counts bk_needs bk_whens bk_sides bk_quantities bk_limits ag_toldLies ag_passedLies ag_words ag_vectors ag_liarOperator ag_rounds mk_entries mk_slots mk_remainders mk_blocks mk_blockBids mk_blockOffers mk_entryCount mk_blockCount cv_limits cv_bids cv_offers cv_count cv_allBids cv_allOffers cv_meetingPrice cv_sureBids cv_sureOffers cv_priceBids cv_priceOffers cv_volume cv_worth oc_prices oc_volumes oc_filled oc_worth oc_takenSet oc_isDone, hT), 0, 0)) := by
  have w_b84 : ∀ (K17 : Int32 → Int64 → Int32 → Option (Int64)), (∀ (x4 : Int32) (x5 : Int64) (x7 : Int32), mz_A g M_x_accountOf (mz_rm 3) (fun r => (0, some (.long r), ex, (HX x_members x_collaterals x_hasSent x_isSealed x_metered x_sealedCount bk_counts bk_needs bk_whens bk_sides bk_quantities bk_limits ag_toldLies ag_passedLies ag_words ag_vectors ag_liarOperator ag_rounds mk_entries mk_slots mk_remainders mk_blocks mk_blockBids mk_blockOffers mk_entryCount mk_blockCount cv_limits cv_bids cv_offers cv_count cv_allBids cv_allOffers cv_meetingPrice cv_sureBids cv_sureOffers cv_priceBids cv_priceOffers cv_volume cv_worth oc_prices oc_volumes oc_filled oc_worth oc_takenSet oc_isDone, hT), 0, 0)) 17 [(0, .ref 0), (1, .ref 38), (3, .int x3), (4, .int x4), (5, .long x5), (7, .int x7)] [] ex (HX x_members x_collaterals x_hasSent x_isSealed x_metered x_sealedCount bk_counts bk_needs bk_whens bk_sides bk_quantities bk_limits ag_toldLies ag_passedLies ag_words ag_vectors ag_liarOperator ag_rounds mk_entries mk_slots mk_remainders mk_blocks mk_blockBids mk_blockOffers mk_entryCount mk_blockCount cv_limits cv_bids cv_offers cv_count cv_allBids cv_allOffers cv_meetingPrice cv_sureBids cv_sureOffers cv_priceBids cv_priceOffers cv_volume cv_worth oc_prices oc_volumes oc_filled oc_worth oc_takenSet oc_isDone, hT) 0 0 (K17 x4 x5 x7)) → ∀ (x4 : Int32) (x5 : Int64) (x7 : Int32) (x8 : Int64) (x10 : Int64) (s0 : Int64), mz_A g M_x_accountOf (mz_rm 3) (fun r => (0, some (.long r), ex, (HX x_members x_collaterals x_hasSent x_isSealed x_metered x_sealedCount bk_counts bk_needs bk_whens bk_sides bk_quantities bk_limits ag_toldLies ag_passedLies ag_words ag_vectors ag_liarOperator ag_rounds mk_entries mk_slots mk_remainders mk_blocks mk_blockBids mk_blockOffers mk_entryCount mk_blockCount cv_limits cv_bids cv_offers cv_count cv_allBids cv_allOffers cv_meetingPrice cv_sureBids cv_sureOffers cv_priceBids cv_priceOffers cv_volume cv_worth oc_prices oc_volumes oc_filled oc_worth oc_takenSet oc_isDone, hT), 0, 0)) 84 [(0, .ref 0), (1, .ref 38), (3, .int x3), (4, .int x4), (5, .long x5), (7, .int x7), (8, .long x8), (10, .long x10)] [.long s0] ex (HX x_members x_collaterals x_hasSent x_isSealed x_metered x_sealedCount bk_counts bk_needs bk_whens bk_sides bk_quantities bk_limits ag_toldLies ag_passedLies ag_words ag_vectors ag_liarOperator ag_rounds mk_entries mk_slots mk_remainders mk_blocks mk_blockBids mk_blockOffers mk_entryCount mk_blockCount cv_limits cv_bids cv_offers cv_count cv_allBids cv_allOffers cv_meetingPrice cv_sureBids cv_sureOffers cv_priceBids cv_priceOffers cv_volume cv_worth oc_prices oc_volumes oc_filled oc_worth oc_takenSet oc_isDone, hT) 0 0 (f_x_accountOf_b84 x_metered bk_counts bk_whens bk_sides ag_vectors (oc_prices 0) (oc_filled 0) x3 K17 x4 x5 x7 x8 x10 s0) := by
    intro K17 hK17 x4 x5 x7 x8 x10 s0
    rw [f_x_accountOf_b84]
    refine mr_lstore (lv' := [(12, .long s0), (0, .ref 0), (1, .ref 38), (3, .int x3), (4, .int x4), (5, .long x5), (7, .int x7), (8, .long x8), (10, .long x10)]) d_x_accountOf_84 (by decide) rfl ?_
    refine mr_lload d_x_accountOf_86 rfl ?_
    refine mr_aload_n d_x_accountOf_88 rfl rfl ?_
    refine mr_getN K_o 0 d_x_accountOf_89 lk_f_x_178 (by decide) rfl rfl ?_
    refine mr_iload d_x_accountOf_92 rfl ?_
    refine mr_iald d_x_accountOf_94 rfl (fun hc6 => ?_)
    refine mr_i2l d_x_accountOf_95 ?_
    refine mr_lload d_x_accountOf_96 rfl ?_
    refine mr_lmul d_x_accountOf_98 ?_
    refine mr_lload d_x_accountOf_99 rfl ?_
    refine mr_lload d_x_accountOf_101 rfl ?_
    refine mr_lmul d_x_accountOf_103 ?_
    refine mr_ladd d_x_accountOf_104 ?_
    refine mr_ladd d_x_accountOf_105 ?_
    refine mr_lstore (lv' := [(5, .long (x5 + (((Int32.toInt64 ((oc_prices 0) x7.toNatClampNeg)) * x8) + (s0 * x10)))), (12, .long s0), (0, .ref 0), (1, .ref 38), (3, .int x3), (4, .int x4), (7, .int x7), (8, .long x8), (10, .long x10)]) d_x_accountOf_106 (by decide) rfl ?_
    refine mr_iinc (v := (x7 + 1)) (lv' := [(7, .int (x7 + 1)), (5, .long (x5 + (((Int32.toInt64 ((oc_prices 0) x7.toNatClampNeg)) * x8) + (s0 * x10)))), (12, .long s0), (0, .ref 0), (1, .ref 38), (3, .int x3), (4, .int x4), (8, .long x8), (10, .long x10)]) d_x_accountOf_108 rfl rfl (by decide) rfl ?_
    refine mr_goto (tgt := 17) d_x_accountOf_111 (by decide) ?_
    refine mr_sub (lv' := [(0, .ref 0), (1, .ref 38), (3, .int x3), (4, .int x4), (5, .long (x5 + (((Int32.toInt64 ((oc_prices 0) x7.toNatClampNeg)) * x8) + (s0 * x10)))), (7, .int (x7 + 1))]) [3, 4, 5, 6, 1, 0] rfl ?_
    exact hK17 _ _ _
  have w_L17 : ∀ (n : Nat) (x4 : Int32) (x5 : Int64) (x7 : Int32), mz_A g M_x_accountOf (mz_rm 3) (fun r => (0, some (.long r), ex, (HX x_members x_collaterals x_hasSent x_isSealed x_metered x_sealedCount bk_counts bk_needs bk_whens bk_sides bk_quantities bk_limits ag_toldLies ag_passedLies ag_words ag_vectors ag_liarOperator ag_rounds mk_entries mk_slots mk_remainders mk_blocks mk_blockBids mk_blockOffers mk_entryCount mk_blockCount cv_limits cv_bids cv_offers cv_count cv_allBids cv_allOffers cv_meetingPrice cv_sureBids cv_sureOffers cv_priceBids cv_priceOffers cv_volume cv_worth oc_prices oc_volumes oc_filled oc_worth oc_takenSet oc_isDone, hT), 0, 0)) 17 [(0, .ref 0), (1, .ref 38), (3, .int x3), (4, .int x4), (5, .long x5), (7, .int x7)] [] ex (HX x_members x_collaterals x_hasSent x_isSealed x_metered x_sealedCount bk_counts bk_needs bk_whens bk_sides bk_quantities bk_limits ag_toldLies ag_passedLies ag_words ag_vectors ag_liarOperator ag_rounds mk_entries mk_slots mk_remainders mk_blocks mk_blockBids mk_blockOffers mk_entryCount mk_blockCount cv_limits cv_bids cv_offers cv_count cv_allBids cv_allOffers cv_meetingPrice cv_sureBids cv_sureOffers cv_priceBids cv_priceOffers cv_volume cv_worth oc_prices oc_volumes oc_filled oc_worth oc_takenSet oc_isDone, hT) 0 0 (f_x_accountOf_L17 x_metered bk_counts bk_whens bk_sides ag_vectors (oc_prices 0) (oc_filled 0) x3 n x4 x5 x7) := by
    intro n
    induction n with
    | zero => intro x4 x5 x7; exact mr_none
    | succ n ih =>
      intro x4 x5 x7
      rw [f_x_accountOf_L17]
      refine mr_iload d_x_accountOf_17 rfl ?_
      refine mr_iconst (v := 3) d_x_accountOf_19 mc_iconst_3 ?_
      refine mr_icmp_ge (tgt := 114) d_x_accountOf_20 (by decide) ?_ ?_
      · refine mr_lload d_x_accountOf_114 rfl ?_
        exact mr_lret d_x_accountOf_116 rfl rfl
      · refine mr_aload_n d_x_accountOf_23 rfl rfl ?_
        refine mr_aload_n d_x_accountOf_24 rfl rfl ?_
        refine mr_iload d_x_accountOf_25 rfl ?_
        refine mr_iload_n d_x_accountOf_27 rfl rfl ?_
        refine mr_iload d_x_accountOf_28 rfl ?_
        refine mz_go (st := []) e_x_soldLessBought_0 (fun _ => rfl) U_x_soldLessBought (mz_vV d_x_accountOf_30 U_x_soldLessBought rfl lk_m_x_226 I_x_soldLessBought s_x_soldLessBought np_x_soldLessBought rfl rfl) (Nat.le_of_ble_eq_true rfl) (by decide) (fun r2 => ?_)
        refine mr_eq (st' := [.long r2]) (ex' := ex) (h2 := (HX x_members x_collaterals x_hasSent x_isSealed x_metered x_sealedCount bk_counts bk_needs bk_whens bk_sides bk_quantities bk_limits ag_toldLies ag_passedLies ag_words ag_vectors ag_liarOperator ag_rounds mk_entries mk_slots mk_remainders mk_blocks mk_blockBids mk_blockOffers mk_entryCount mk_blockCount cv_limits cv_bids cv_offers cv_count cv_allBids cv_allOffers cv_meetingPrice cv_sureBids cv_sureOffers cv_priceBids cv_priceOffers cv_volume cv_worth oc_prices oc_volumes oc_filled oc_worth oc_takenSet oc_isDone, hT)) (k' := 0) (n' := 0) rfl rfl rfl rfl rfl ?_
        refine mr_lstore (lv' := [(8, .long r2), (0, .ref 0), (1, .ref 38), (3, .int x3), (4, .int x4), (5, .long x5), (7, .int x7)]) d_x_accountOf_33 (by decide) rfl ?_
        refine mr_aload_n d_x_accountOf_35 rfl rfl ?_
        refine mr_get K_x 4 d_x_accountOf_36 lk_f_x_24 (by decide) rfl rfl ?_
        refine mr_iconst (v := 3) d_x_accountOf_39 mc_iconst_3 ?_
        refine mr_iload_n d_x_accountOf_40 rfl rfl ?_
        refine mr_imul d_x_accountOf_41 ?_
        refine mr_iload d_x_accountOf_42 rfl ?_
        refine mr_iadd d_x_accountOf_44 ?_
        refine mr_iald d_x_accountOf_45 rfl (fun hc3 => ?_)
        refine mr_i2l d_x_accountOf_46 ?_
        refine mr_lload d_x_accountOf_47 rfl ?_
        refine mr_lsub d_x_accountOf_49 ?_
        refine mr_lstore (lv' := [(10, .long ((Int32.toInt64 (x_metered ((3 * x3) + x7).toNatClampNeg)) - r2)), (8, .long r2), (0, .ref 0), (1, .ref 38), (3, .int x3), (4, .int x4), (5, .long x5), (7, .int x7)]) d_x_accountOf_50 (by decide) rfl ?_
        refine mr_lload d_x_accountOf_52 rfl ?_
        refine mr_lconst (v := 0) d_x_accountOf_54 mc_lconst_0 ?_
        refine mr_lcmp d_x_accountOf_55 ?_
        refine mr_if_le (tgt := 73) d_x_accountOf_56 (by decide) ?_ ?_
        · refine mr_aload_n d_x_accountOf_73 rfl rfl ?_
          refine mr_getN K_o 0 d_x_accountOf_74 lk_f_x_178 (by decide) rfl rfl ?_
          refine mr_iload d_x_accountOf_77 rfl ?_
          refine mr_iald d_x_accountOf_79 rfl (fun hc4 => ?_)
          refine mr_bipush (v := 50) d_x_accountOf_80 mc_bipush_50 ?_
          refine mr_iadd d_x_accountOf_82 ?_
          refine mr_i2l d_x_accountOf_83 ?_
          refine mr_sub (lv' := [(0, .ref 0), (1, .ref 38), (3, .int x3), (4, .int x4), (5, .long x5), (7, .int x7), (8, .long r2), (10, .long ((Int32.toInt64 (x_metered ((3 * x3) + x7).toNatClampNeg)) - r2))]) [2, 3, 4, 5, 6, 7, 1, 0] rfl ?_
          exact w_b84 _ ih _ _ _ _ _ _
        · refine mr_aload_n d_x_accountOf_59 rfl rfl ?_
          refine mr_getN K_o 0 d_x_accountOf_60 lk_f_x_178 (by decide) rfl rfl ?_
          refine mr_iload d_x_accountOf_63 rfl ?_
          refine mr_iald d_x_accountOf_65 rfl (fun hc5 => ?_)
          refine mr_bipush (v := 50) d_x_accountOf_66 mc_bipush_50 ?_
          refine mr_isub d_x_accountOf_68 ?_
          refine mr_i2l d_x_accountOf_69 ?_
          refine mr_goto (tgt := 84) d_x_accountOf_70 (by decide) ?_
          refine mr_sub (lv' := [(0, .ref 0), (1, .ref 38), (3, .int x3), (4, .int x4), (5, .long x5), (7, .int x7), (8, .long r2), (10, .long ((Int32.toInt64 (x_metered ((3 * x3) + x7).toNatClampNeg)) - r2))]) [2, 3, 4, 5, 6, 7, 1, 0] rfl ?_
          exact w_b84 _ ih _ _ _ _ _ _
  refine mz_of (by decide) (Nat.le_of_ble_eq_true rfl) ?_
  rw [f_x_accountOf]
  show mz_A g M_x_accountOf (mz_rm 3) _ 0 [(0, .ref 0), (1, .ref 38), (2, .int x2), (3, .int x3)] [] ex (HX x_members x_collaterals x_hasSent x_isSealed x_metered x_sealedCount bk_counts bk_needs bk_whens bk_sides bk_quantities bk_limits ag_toldLies ag_passedLies ag_words ag_vectors ag_liarOperator ag_rounds mk_entries mk_slots mk_remainders mk_blocks mk_blockBids mk_blockOffers mk_entryCount mk_blockCount cv_limits cv_bids cv_offers cv_count cv_allBids cv_allOffers cv_meetingPrice cv_sureBids cv_sureOffers cv_priceBids cv_priceOffers cv_volume cv_worth oc_prices oc_volumes oc_filled oc_worth oc_takenSet oc_isDone, hT) 0 0 _
  refine mr_aload_n d_x_accountOf_0 rfl rfl ?_
  refine mr_get K_x 6 d_x_accountOf_1 lk_f_x_39 (by decide) rfl rfl ?_
  refine mr_iload_n d_x_accountOf_4 rfl rfl ?_
  refine mr_iload_n d_x_accountOf_5 rfl rfl ?_
  refine mz_go (st := []) e_ag_agreedBook (fun _ => rfl) U_ag_agreedBook (mz_vV d_x_accountOf_6 U_ag_agreedBook rfl lk_m_x_145 I_ag_agreedBook s_ag_agreedBook np_ag_agreedBook rfl rfl) (Nat.le_of_ble_eq_true rfl) (by decide) (fun r1 => ?_)
  refine mr_eq (st' := [.int r1]) (ex' := ex) (h2 := (HX x_members x_collaterals x_hasSent x_isSealed x_metered x_sealedCount bk_counts bk_needs bk_whens bk_sides bk_quantities bk_limits ag_toldLies ag_passedLies ag_words ag_vectors ag_liarOperator ag_rounds mk_entries mk_slots mk_remainders mk_blocks mk_blockBids mk_blockOffers mk_entryCount mk_blockCount cv_limits cv_bids cv_offers cv_count cv_allBids cv_allOffers cv_meetingPrice cv_sureBids cv_sureOffers cv_priceBids cv_priceOffers cv_volume cv_worth oc_prices oc_volumes oc_filled oc_worth oc_takenSet oc_isDone, hT)) (k' := 0) (n' := 0) rfl rfl rfl rfl rfl ?_
  refine mr_istore (lv' := [(4, .int r1), (0, .ref 0), (1, .ref 38), (2, .int x2), (3, .int x3)]) d_x_accountOf_9 (by decide) rfl ?_
  refine mr_lconst (v := 0) d_x_accountOf_11 mc_lconst_0 ?_
  refine mr_lstore (lv' := [(5, .long 0), (4, .int r1), (0, .ref 0), (1, .ref 38), (2, .int x2), (3, .int x3)]) d_x_accountOf_12 (by decide) rfl ?_
  refine mr_iconst (v := 0) d_x_accountOf_14 mc_iconst_0 ?_
  refine mr_istore (lv' := [(7, .int 0), (5, .long 0), (4, .int r1), (0, .ref 0), (1, .ref 38), (2, .int x2), (3, .int x3)]) d_x_accountOf_15 (by decide) rfl ?_
  refine mr_sub (lv' := [(0, .ref 0), (1, .ref 38), (3, .int x3), (4, .int r1), (5, .long 0), (7, .int 0)]) [3, 4, 6, 2, 1, 0] rfl ?_
  exact w_L17 1000 _ _ _
set_option maxRecDepth 100000 in
set_option maxHeartbeats 4000000 in
theorem e_x_accountOf_1 {g : mz_G} {ex : Bool} {hT : List mz_E} {x_members : Int32} {x_collaterals : Nat → Int32} {x_hasSent : Nat → Int32} {x_isSealed : Nat → Int32} {x_metered : Nat → Int32} {x_sealedCount : Int32} {bk_counts : Nat → Int32} {bk_needs : Nat → Int64} {bk_whens : Nat → Int32} {bk_sides : Nat → Int32} {bk_quantities : Nat → Int32} {bk_limits : Nat → Int32} {ag_toldLies : Nat → Int32} {ag_passedLies : Nat → Int32} {ag_words : Nat → Int32} {ag_vectors : Nat → Int32} {ag_liarOperator : Int32} {ag_rounds : Int32} {mk_entries : Nat → Int32} {mk_slots : Nat → Int32} {mk_remainders : Nat → Int32} {mk_blocks : Nat → Int32} {mk_blockBids : Nat → Int32} {mk_blockOffers : Nat → Int32} {mk_entryCount : Int32} {mk_blockCount : Int32} {cv_limits : Nat → Nat → Int32} {cv_bids : Nat → Nat → Int32} {cv_offers : Nat → Nat → Int32} {cv_count : Nat → Int32} {cv_allBids : Nat → Int32} {cv_allOffers : Nat → Int32} {cv_meetingPrice : Nat → Int32} {cv_sureBids : Nat → Int32} {cv_sureOffers : Nat → Int32} {cv_priceBids : Nat → Int32} {cv_priceOffers : Nat → Int32} {cv_volume : Nat → Int32} {cv_worth : Nat → Int64} {oc_prices : Nat → Nat → Int32} {oc_volumes : Nat → Nat → Int32} {oc_filled : Nat → Nat → Int32} {oc_worth : Nat → Int64} {oc_takenSet : Nat → Int32} {oc_isDone : Nat → Int32} {x2 : Int32} {x3 : Int32} : mz_M g M_x_accountOf 3 [.ref 0, .ref 42, .int x2, .int x3] ex (HX x_members x_collaterals x_hasSent x_isSealed x_metered x_sealedCount bk_counts bk_needs bk_whens bk_sides bk_quantities bk_limits ag_toldLies ag_passedLies ag_words ag_vectors ag_liarOperator ag_rounds mk_entries mk_slots mk_remainders mk_blocks mk_blockBids mk_blockOffers mk_entryCount mk_blockCount cv_limits cv_bids cv_offers cv_count cv_allBids cv_allOffers cv_meetingPrice cv_sureBids cv_sureOffers cv_priceBids cv_priceOffers cv_volume cv_worth oc_prices oc_volumes oc_filled oc_worth oc_takenSet oc_isDone, hT) (f_x_accountOf x_metered bk_counts bk_whens bk_sides ag_vectors (oc_prices 1) (oc_filled 1) x2 x3) (fun r => (0, some (.long r), ex, (HX x_members x_collaterals x_hasSent x_isSealed x_metered x_sealedCount bk_counts bk_needs bk_whens bk_sides bk_quantities bk_limits ag_toldLies ag_passedLies ag_words ag_vectors ag_liarOperator ag_rounds mk_entries mk_slots mk_remainders mk_blocks mk_blockBids mk_blockOffers mk_entryCount mk_blockCount cv_limits cv_bids cv_offers cv_count cv_allBids cv_allOffers cv_meetingPrice cv_sureBids cv_sureOffers cv_priceBids cv_priceOffers cv_volume cv_worth oc_prices oc_volumes oc_filled oc_worth oc_takenSet oc_isDone, hT), 0, 0)) := by
  have w_b84 : ∀ (K17 : Int32 → Int64 → Int32 → Option (Int64)), (∀ (x4 : Int32) (x5 : Int64) (x7 : Int32), mz_A g M_x_accountOf (mz_rm 3) (fun r => (0, some (.long r), ex, (HX x_members x_collaterals x_hasSent x_isSealed x_metered x_sealedCount bk_counts bk_needs bk_whens bk_sides bk_quantities bk_limits ag_toldLies ag_passedLies ag_words ag_vectors ag_liarOperator ag_rounds mk_entries mk_slots mk_remainders mk_blocks mk_blockBids mk_blockOffers mk_entryCount mk_blockCount cv_limits cv_bids cv_offers cv_count cv_allBids cv_allOffers cv_meetingPrice cv_sureBids cv_sureOffers cv_priceBids cv_priceOffers cv_volume cv_worth oc_prices oc_volumes oc_filled oc_worth oc_takenSet oc_isDone, hT), 0, 0)) 17 [(0, .ref 0), (1, .ref 42), (3, .int x3), (4, .int x4), (5, .long x5), (7, .int x7)] [] ex (HX x_members x_collaterals x_hasSent x_isSealed x_metered x_sealedCount bk_counts bk_needs bk_whens bk_sides bk_quantities bk_limits ag_toldLies ag_passedLies ag_words ag_vectors ag_liarOperator ag_rounds mk_entries mk_slots mk_remainders mk_blocks mk_blockBids mk_blockOffers mk_entryCount mk_blockCount cv_limits cv_bids cv_offers cv_count cv_allBids cv_allOffers cv_meetingPrice cv_sureBids cv_sureOffers cv_priceBids cv_priceOffers cv_volume cv_worth oc_prices oc_volumes oc_filled oc_worth oc_takenSet oc_isDone, hT) 0 0 (K17 x4 x5 x7)) → ∀ (x4 : Int32) (x5 : Int64) (x7 : Int32) (x8 : Int64) (x10 : Int64) (s0 : Int64), mz_A g M_x_accountOf (mz_rm 3) (fun r => (0, some (.long r), ex, (HX x_members x_collaterals x_hasSent x_isSealed x_metered x_sealedCount bk_counts bk_needs bk_whens bk_sides bk_quantities bk_limits ag_toldLies ag_passedLies ag_words ag_vectors ag_liarOperator ag_rounds mk_entries mk_slots mk_remainders mk_blocks mk_blockBids mk_blockOffers mk_entryCount mk_blockCount cv_limits cv_bids cv_offers cv_count cv_allBids cv_allOffers cv_meetingPrice cv_sureBids cv_sureOffers cv_priceBids cv_priceOffers cv_volume cv_worth oc_prices oc_volumes oc_filled oc_worth oc_takenSet oc_isDone, hT), 0, 0)) 84 [(0, .ref 0), (1, .ref 42), (3, .int x3), (4, .int x4), (5, .long x5), (7, .int x7), (8, .long x8), (10, .long x10)] [.long s0] ex (HX x_members x_collaterals x_hasSent x_isSealed x_metered x_sealedCount bk_counts bk_needs bk_whens bk_sides bk_quantities bk_limits ag_toldLies ag_passedLies ag_words ag_vectors ag_liarOperator ag_rounds mk_entries mk_slots mk_remainders mk_blocks mk_blockBids mk_blockOffers mk_entryCount mk_blockCount cv_limits cv_bids cv_offers cv_count cv_allBids cv_allOffers cv_meetingPrice cv_sureBids cv_sureOffers cv_priceBids cv_priceOffers cv_volume cv_worth oc_prices oc_volumes oc_filled oc_worth oc_takenSet oc_isDone, hT) 0 0 (f_x_accountOf_b84 x_metered bk_counts bk_whens bk_sides ag_vectors (oc_prices 1) (oc_filled 1) x3 K17 x4 x5 x7 x8 x10 s0) := by
    intro K17 hK17 x4 x5 x7 x8 x10 s0
    rw [f_x_accountOf_b84]
    refine mr_lstore (lv' := [(12, .long s0), (0, .ref 0), (1, .ref 42), (3, .int x3), (4, .int x4), (5, .long x5), (7, .int x7), (8, .long x8), (10, .long x10)]) d_x_accountOf_84 (by decide) rfl ?_
    refine mr_lload d_x_accountOf_86 rfl ?_
    refine mr_aload_n d_x_accountOf_88 rfl rfl ?_
    refine mr_getN K_o 0 d_x_accountOf_89 lk_f_x_178 (by decide) rfl rfl ?_
    refine mr_iload d_x_accountOf_92 rfl ?_
    refine mr_iald d_x_accountOf_94 rfl (fun hc6 => ?_)
    refine mr_i2l d_x_accountOf_95 ?_
    refine mr_lload d_x_accountOf_96 rfl ?_
    refine mr_lmul d_x_accountOf_98 ?_
    refine mr_lload d_x_accountOf_99 rfl ?_
    refine mr_lload d_x_accountOf_101 rfl ?_
    refine mr_lmul d_x_accountOf_103 ?_
    refine mr_ladd d_x_accountOf_104 ?_
    refine mr_ladd d_x_accountOf_105 ?_
    refine mr_lstore (lv' := [(5, .long (x5 + (((Int32.toInt64 ((oc_prices 1) x7.toNatClampNeg)) * x8) + (s0 * x10)))), (12, .long s0), (0, .ref 0), (1, .ref 42), (3, .int x3), (4, .int x4), (7, .int x7), (8, .long x8), (10, .long x10)]) d_x_accountOf_106 (by decide) rfl ?_
    refine mr_iinc (v := (x7 + 1)) (lv' := [(7, .int (x7 + 1)), (5, .long (x5 + (((Int32.toInt64 ((oc_prices 1) x7.toNatClampNeg)) * x8) + (s0 * x10)))), (12, .long s0), (0, .ref 0), (1, .ref 42), (3, .int x3), (4, .int x4), (8, .long x8), (10, .long x10)]) d_x_accountOf_108 rfl rfl (by decide) rfl ?_
    refine mr_goto (tgt := 17) d_x_accountOf_111 (by decide) ?_
    refine mr_sub (lv' := [(0, .ref 0), (1, .ref 42), (3, .int x3), (4, .int x4), (5, .long (x5 + (((Int32.toInt64 ((oc_prices 1) x7.toNatClampNeg)) * x8) + (s0 * x10)))), (7, .int (x7 + 1))]) [3, 4, 5, 6, 1, 0] rfl ?_
    exact hK17 _ _ _
  have w_L17 : ∀ (n : Nat) (x4 : Int32) (x5 : Int64) (x7 : Int32), mz_A g M_x_accountOf (mz_rm 3) (fun r => (0, some (.long r), ex, (HX x_members x_collaterals x_hasSent x_isSealed x_metered x_sealedCount bk_counts bk_needs bk_whens bk_sides bk_quantities bk_limits ag_toldLies ag_passedLies ag_words ag_vectors ag_liarOperator ag_rounds mk_entries mk_slots mk_remainders mk_blocks mk_blockBids mk_blockOffers mk_entryCount mk_blockCount cv_limits cv_bids cv_offers cv_count cv_allBids cv_allOffers cv_meetingPrice cv_sureBids cv_sureOffers cv_priceBids cv_priceOffers cv_volume cv_worth oc_prices oc_volumes oc_filled oc_worth oc_takenSet oc_isDone, hT), 0, 0)) 17 [(0, .ref 0), (1, .ref 42), (3, .int x3), (4, .int x4), (5, .long x5), (7, .int x7)] [] ex (HX x_members x_collaterals x_hasSent x_isSealed x_metered x_sealedCount bk_counts bk_needs bk_whens bk_sides bk_quantities bk_limits ag_toldLies ag_passedLies ag_words ag_vectors ag_liarOperator ag_rounds mk_entries mk_slots mk_remainders mk_blocks mk_blockBids mk_blockOffers mk_entryCount mk_blockCount cv_limits cv_bids cv_offers cv_count cv_allBids cv_allOffers cv_meetingPrice cv_sureBids cv_sureOffers cv_priceBids cv_priceOffers cv_volume cv_worth oc_prices oc_volumes oc_filled oc_worth oc_takenSet oc_isDone, hT) 0 0 (f_x_accountOf_L17 x_metered bk_counts bk_whens bk_sides ag_vectors (oc_prices 1) (oc_filled 1) x3 n x4 x5 x7) := by
    intro n
    induction n with
    | zero => intro x4 x5 x7; exact mr_none
    | succ n ih =>
      intro x4 x5 x7
      rw [f_x_accountOf_L17]
      refine mr_iload d_x_accountOf_17 rfl ?_
      refine mr_iconst (v := 3) d_x_accountOf_19 mc_iconst_3 ?_
      refine mr_icmp_ge (tgt := 114) d_x_accountOf_20 (by decide) ?_ ?_
      · refine mr_lload d_x_accountOf_114 rfl ?_
        exact mr_lret d_x_accountOf_116 rfl rfl
      · refine mr_aload_n d_x_accountOf_23 rfl rfl ?_
        refine mr_aload_n d_x_accountOf_24 rfl rfl ?_
        refine mr_iload d_x_accountOf_25 rfl ?_
        refine mr_iload_n d_x_accountOf_27 rfl rfl ?_
        refine mr_iload d_x_accountOf_28 rfl ?_
        refine mz_go (st := []) e_x_soldLessBought_1 (fun _ => rfl) U_x_soldLessBought (mz_vV d_x_accountOf_30 U_x_soldLessBought rfl lk_m_x_226 I_x_soldLessBought s_x_soldLessBought np_x_soldLessBought rfl rfl) (Nat.le_of_ble_eq_true rfl) (by decide) (fun r2 => ?_)
        refine mr_eq (st' := [.long r2]) (ex' := ex) (h2 := (HX x_members x_collaterals x_hasSent x_isSealed x_metered x_sealedCount bk_counts bk_needs bk_whens bk_sides bk_quantities bk_limits ag_toldLies ag_passedLies ag_words ag_vectors ag_liarOperator ag_rounds mk_entries mk_slots mk_remainders mk_blocks mk_blockBids mk_blockOffers mk_entryCount mk_blockCount cv_limits cv_bids cv_offers cv_count cv_allBids cv_allOffers cv_meetingPrice cv_sureBids cv_sureOffers cv_priceBids cv_priceOffers cv_volume cv_worth oc_prices oc_volumes oc_filled oc_worth oc_takenSet oc_isDone, hT)) (k' := 0) (n' := 0) rfl rfl rfl rfl rfl ?_
        refine mr_lstore (lv' := [(8, .long r2), (0, .ref 0), (1, .ref 42), (3, .int x3), (4, .int x4), (5, .long x5), (7, .int x7)]) d_x_accountOf_33 (by decide) rfl ?_
        refine mr_aload_n d_x_accountOf_35 rfl rfl ?_
        refine mr_get K_x 4 d_x_accountOf_36 lk_f_x_24 (by decide) rfl rfl ?_
        refine mr_iconst (v := 3) d_x_accountOf_39 mc_iconst_3 ?_
        refine mr_iload_n d_x_accountOf_40 rfl rfl ?_
        refine mr_imul d_x_accountOf_41 ?_
        refine mr_iload d_x_accountOf_42 rfl ?_
        refine mr_iadd d_x_accountOf_44 ?_
        refine mr_iald d_x_accountOf_45 rfl (fun hc3 => ?_)
        refine mr_i2l d_x_accountOf_46 ?_
        refine mr_lload d_x_accountOf_47 rfl ?_
        refine mr_lsub d_x_accountOf_49 ?_
        refine mr_lstore (lv' := [(10, .long ((Int32.toInt64 (x_metered ((3 * x3) + x7).toNatClampNeg)) - r2)), (8, .long r2), (0, .ref 0), (1, .ref 42), (3, .int x3), (4, .int x4), (5, .long x5), (7, .int x7)]) d_x_accountOf_50 (by decide) rfl ?_
        refine mr_lload d_x_accountOf_52 rfl ?_
        refine mr_lconst (v := 0) d_x_accountOf_54 mc_lconst_0 ?_
        refine mr_lcmp d_x_accountOf_55 ?_
        refine mr_if_le (tgt := 73) d_x_accountOf_56 (by decide) ?_ ?_
        · refine mr_aload_n d_x_accountOf_73 rfl rfl ?_
          refine mr_getN K_o 0 d_x_accountOf_74 lk_f_x_178 (by decide) rfl rfl ?_
          refine mr_iload d_x_accountOf_77 rfl ?_
          refine mr_iald d_x_accountOf_79 rfl (fun hc4 => ?_)
          refine mr_bipush (v := 50) d_x_accountOf_80 mc_bipush_50 ?_
          refine mr_iadd d_x_accountOf_82 ?_
          refine mr_i2l d_x_accountOf_83 ?_
          refine mr_sub (lv' := [(0, .ref 0), (1, .ref 42), (3, .int x3), (4, .int x4), (5, .long x5), (7, .int x7), (8, .long r2), (10, .long ((Int32.toInt64 (x_metered ((3 * x3) + x7).toNatClampNeg)) - r2))]) [2, 3, 4, 5, 6, 7, 1, 0] rfl ?_
          exact w_b84 _ ih _ _ _ _ _ _
        · refine mr_aload_n d_x_accountOf_59 rfl rfl ?_
          refine mr_getN K_o 0 d_x_accountOf_60 lk_f_x_178 (by decide) rfl rfl ?_
          refine mr_iload d_x_accountOf_63 rfl ?_
          refine mr_iald d_x_accountOf_65 rfl (fun hc5 => ?_)
          refine mr_bipush (v := 50) d_x_accountOf_66 mc_bipush_50 ?_
          refine mr_isub d_x_accountOf_68 ?_
          refine mr_i2l d_x_accountOf_69 ?_
          refine mr_goto (tgt := 84) d_x_accountOf_70 (by decide) ?_
          refine mr_sub (lv' := [(0, .ref 0), (1, .ref 42), (3, .int x3), (4, .int x4), (5, .long x5), (7, .int x7), (8, .long r2), (10, .long ((Int32.toInt64 (x_metered ((3 * x3) + x7).toNatClampNeg)) - r2))]) [2, 3, 4, 5, 6, 7, 1, 0] rfl ?_
          exact w_b84 _ ih _ _ _ _ _ _
  refine mz_of (by decide) (Nat.le_of_ble_eq_true rfl) ?_
  rw [f_x_accountOf]
  show mz_A g M_x_accountOf (mz_rm 3) _ 0 [(0, .ref 0), (1, .ref 42), (2, .int x2), (3, .int x3)] [] ex (HX x_members x_collaterals x_hasSent x_isSealed x_metered x_sealedCount bk_counts bk_needs bk_whens bk_sides bk_quantities bk_limits ag_toldLies ag_passedLies ag_words ag_vectors ag_liarOperator ag_rounds mk_entries mk_slots mk_remainders mk_blocks mk_blockBids mk_blockOffers mk_entryCount mk_blockCount cv_limits cv_bids cv_offers cv_count cv_allBids cv_allOffers cv_meetingPrice cv_sureBids cv_sureOffers cv_priceBids cv_priceOffers cv_volume cv_worth oc_prices oc_volumes oc_filled oc_worth oc_takenSet oc_isDone, hT) 0 0 _
  refine mr_aload_n d_x_accountOf_0 rfl rfl ?_
  refine mr_get K_x 6 d_x_accountOf_1 lk_f_x_39 (by decide) rfl rfl ?_
  refine mr_iload_n d_x_accountOf_4 rfl rfl ?_
  refine mr_iload_n d_x_accountOf_5 rfl rfl ?_
  refine mz_go (st := []) e_ag_agreedBook (fun _ => rfl) U_ag_agreedBook (mz_vV d_x_accountOf_6 U_ag_agreedBook rfl lk_m_x_145 I_ag_agreedBook s_ag_agreedBook np_ag_agreedBook rfl rfl) (Nat.le_of_ble_eq_true rfl) (by decide) (fun r1 => ?_)
  refine mr_eq (st' := [.int r1]) (ex' := ex) (h2 := (HX x_members x_collaterals x_hasSent x_isSealed x_metered x_sealedCount bk_counts bk_needs bk_whens bk_sides bk_quantities bk_limits ag_toldLies ag_passedLies ag_words ag_vectors ag_liarOperator ag_rounds mk_entries mk_slots mk_remainders mk_blocks mk_blockBids mk_blockOffers mk_entryCount mk_blockCount cv_limits cv_bids cv_offers cv_count cv_allBids cv_allOffers cv_meetingPrice cv_sureBids cv_sureOffers cv_priceBids cv_priceOffers cv_volume cv_worth oc_prices oc_volumes oc_filled oc_worth oc_takenSet oc_isDone, hT)) (k' := 0) (n' := 0) rfl rfl rfl rfl rfl ?_
  refine mr_istore (lv' := [(4, .int r1), (0, .ref 0), (1, .ref 42), (2, .int x2), (3, .int x3)]) d_x_accountOf_9 (by decide) rfl ?_
  refine mr_lconst (v := 0) d_x_accountOf_11 mc_lconst_0 ?_
  refine mr_lstore (lv' := [(5, .long 0), (4, .int r1), (0, .ref 0), (1, .ref 42), (2, .int x2), (3, .int x3)]) d_x_accountOf_12 (by decide) rfl ?_
  refine mr_iconst (v := 0) d_x_accountOf_14 mc_iconst_0 ?_
  refine mr_istore (lv' := [(7, .int 0), (5, .long 0), (4, .int r1), (0, .ref 0), (1, .ref 42), (2, .int x2), (3, .int x3)]) d_x_accountOf_15 (by decide) rfl ?_
  refine mr_sub (lv' := [(0, .ref 0), (1, .ref 42), (3, .int x3), (4, .int r1), (5, .long 0), (7, .int 0)]) [3, 4, 6, 2, 1, 0] rfl ?_
  exact w_L17 1000 _ _ _
set_option maxRecDepth 100000 in
set_option maxHeartbeats 4000000 in
theorem e_x_accountOf_2 {g : mz_G} {ex : Bool} {hT : List mz_E} {x_members : Int32} {x_collaterals : Nat → Int32} {x_hasSent : Nat → Int32} {x_isSealed : Nat → Int32} {x_metered : Nat → Int32} {x_sealedCount : Int32} {bk_counts : Nat → Int32} {bk_needs : Nat → Int64} {bk_whens : Nat → Int32} {bk_sides : Nat → Int32} {bk_quantities : Nat → Int32} {bk_limits : Nat → Int32} {ag_toldLies : Nat → Int32} {ag_passedLies : Nat → Int32} {ag_words : Nat → Int32} {ag_vectors : Nat → Int32} {ag_liarOperator : Int32} {ag_rounds : Int32} {mk_entries : Nat → Int32} {mk_slots : Nat → Int32} {mk_remainders : Nat → Int32} {mk_blocks : Nat → Int32} {mk_blockBids : Nat → Int32} {mk_blockOffers : Nat → Int32} {mk_entryCount : Int32} {mk_blockCount : Int32} {cv_limits : Nat → Nat → Int32} {cv_bids : Nat → Nat → Int32} {cv_offers : Nat → Nat → Int32} {cv_count : Nat → Int32} {cv_allBids : Nat → Int32} {cv_allOffers : Nat → Int32} {cv_meetingPrice : Nat → Int32} {cv_sureBids : Nat → Int32} {cv_sureOffers : Nat → Int32} {cv_priceBids : Nat → Int32} {cv_priceOffers : Nat → Int32} {cv_volume : Nat → Int32} {cv_worth : Nat → Int64} {oc_prices : Nat → Nat → Int32} {oc_volumes : Nat → Nat → Int32} {oc_filled : Nat → Nat → Int32} {oc_worth : Nat → Int64} {oc_takenSet : Nat → Int32} {oc_isDone : Nat → Int32} {x2 : Int32} {x3 : Int32} : mz_M g M_x_accountOf 3 [.ref 0, .ref 46, .int x2, .int x3] ex (HX x_members x_collaterals x_hasSent x_isSealed x_metered x_sealedCount bk_counts bk_needs bk_whens bk_sides bk_quantities bk_limits ag_toldLies ag_passedLies ag_words ag_vectors ag_liarOperator ag_rounds mk_entries mk_slots mk_remainders mk_blocks mk_blockBids mk_blockOffers mk_entryCount mk_blockCount cv_limits cv_bids cv_offers cv_count cv_allBids cv_allOffers cv_meetingPrice cv_sureBids cv_sureOffers cv_priceBids cv_priceOffers cv_volume cv_worth oc_prices oc_volumes oc_filled oc_worth oc_takenSet oc_isDone, hT) (f_x_accountOf x_metered bk_counts bk_whens bk_sides ag_vectors (oc_prices 2) (oc_filled 2) x2 x3) (fun r => (0, some (.long r), ex, (HX x_members x_collaterals x_hasSent x_isSealed x_metered x_sealedCount bk_counts bk_needs bk_whens bk_sides bk_quantities bk_limits ag_toldLies ag_passedLies ag_words ag_vectors ag_liarOperator ag_rounds mk_entries mk_slots mk_remainders mk_blocks mk_blockBids mk_blockOffers mk_entryCount mk_blockCount cv_limits cv_bids cv_offers cv_count cv_allBids cv_allOffers cv_meetingPrice cv_sureBids cv_sureOffers cv_priceBids cv_priceOffers cv_volume cv_worth oc_prices oc_volumes oc_filled oc_worth oc_takenSet oc_isDone, hT), 0, 0)) := by
  have w_b84 : ∀ (K17 : Int32 → Int64 → Int32 → Option (Int64)), (∀ (x4 : Int32) (x5 : Int64) (x7 : Int32), mz_A g M_x_accountOf (mz_rm 3) (fun r => (0, some (.long r), ex, (HX x_members x_collaterals x_hasSent x_isSealed x_metered x_sealedCount bk_counts bk_needs bk_whens bk_sides bk_quantities bk_limits ag_toldLies ag_passedLies ag_words ag_vectors ag_liarOperator ag_rounds mk_entries mk_slots mk_remainders mk_blocks mk_blockBids mk_blockOffers mk_entryCount mk_blockCount cv_limits cv_bids cv_offers cv_count cv_allBids cv_allOffers cv_meetingPrice cv_sureBids cv_sureOffers cv_priceBids cv_priceOffers cv_volume cv_worth oc_prices oc_volumes oc_filled oc_worth oc_takenSet oc_isDone, hT), 0, 0)) 17 [(0, .ref 0), (1, .ref 46), (3, .int x3), (4, .int x4), (5, .long x5), (7, .int x7)] [] ex (HX x_members x_collaterals x_hasSent x_isSealed x_metered x_sealedCount bk_counts bk_needs bk_whens bk_sides bk_quantities bk_limits ag_toldLies ag_passedLies ag_words ag_vectors ag_liarOperator ag_rounds mk_entries mk_slots mk_remainders mk_blocks mk_blockBids mk_blockOffers mk_entryCount mk_blockCount cv_limits cv_bids cv_offers cv_count cv_allBids cv_allOffers cv_meetingPrice cv_sureBids cv_sureOffers cv_priceBids cv_priceOffers cv_volume cv_worth oc_prices oc_volumes oc_filled oc_worth oc_takenSet oc_isDone, hT) 0 0 (K17 x4 x5 x7)) → ∀ (x4 : Int32) (x5 : Int64) (x7 : Int32) (x8 : Int64) (x10 : Int64) (s0 : Int64), mz_A g M_x_accountOf (mz_rm 3) (fun r => (0, some (.long r), ex, (HX x_members x_collaterals x_hasSent x_isSealed x_metered x_sealedCount bk_counts bk_needs bk_whens bk_sides bk_quantities bk_limits ag_toldLies ag_passedLies ag_words ag_vectors ag_liarOperator ag_rounds mk_entries mk_slots mk_remainders mk_blocks mk_blockBids mk_blockOffers mk_entryCount mk_blockCount cv_limits cv_bids cv_offers cv_count cv_allBids cv_allOffers cv_meetingPrice cv_sureBids cv_sureOffers cv_priceBids cv_priceOffers cv_volume cv_worth oc_prices oc_volumes oc_filled oc_worth oc_takenSet oc_isDone, hT), 0, 0)) 84 [(0, .ref 0), (1, .ref 46), (3, .int x3), (4, .int x4), (5, .long x5), (7, .int x7), (8, .long x8), (10, .long x10)] [.long s0] ex (HX x_members x_collaterals x_hasSent x_isSealed x_metered x_sealedCount bk_counts bk_needs bk_whens bk_sides bk_quantities bk_limits ag_toldLies ag_passedLies ag_words ag_vectors ag_liarOperator ag_rounds mk_entries mk_slots mk_remainders mk_blocks mk_blockBids mk_blockOffers mk_entryCount mk_blockCount cv_limits cv_bids cv_offers cv_count cv_allBids cv_allOffers cv_meetingPrice cv_sureBids cv_sureOffers cv_priceBids cv_priceOffers cv_volume cv_worth oc_prices oc_volumes oc_filled oc_worth oc_takenSet oc_isDone, hT) 0 0 (f_x_accountOf_b84 x_metered bk_counts bk_whens bk_sides ag_vectors (oc_prices 2) (oc_filled 2) x3 K17 x4 x5 x7 x8 x10 s0) := by
    intro K17 hK17 x4 x5 x7 x8 x10 s0
    rw [f_x_accountOf_b84]
    refine mr_lstore (lv' := [(12, .long s0), (0, .ref 0), (1, .ref 46), (3, .int x3), (4, .int x4), (5, .long x5), (7, .int x7), (8, .long x8), (10, .long x10)]) d_x_accountOf_84 (by decide) rfl ?_
    refine mr_lload d_x_accountOf_86 rfl ?_
    refine mr_aload_n d_x_accountOf_88 rfl rfl ?_
    refine mr_getN K_o 0 d_x_accountOf_89 lk_f_x_178 (by decide) rfl rfl ?_
    refine mr_iload d_x_accountOf_92 rfl ?_
    refine mr_iald d_x_accountOf_94 rfl (fun hc6 => ?_)
    refine mr_i2l d_x_accountOf_95 ?_
    refine mr_lload d_x_accountOf_96 rfl ?_
    refine mr_lmul d_x_accountOf_98 ?_
    refine mr_lload d_x_accountOf_99 rfl ?_
    refine mr_lload d_x_accountOf_101 rfl ?_
    refine mr_lmul d_x_accountOf_103 ?_
    refine mr_ladd d_x_accountOf_104 ?_
    refine mr_ladd d_x_accountOf_105 ?_
    refine mr_lstore (lv' := [(5, .long (x5 + (((Int32.toInt64 ((oc_prices 2) x7.toNatClampNeg)) * x8) + (s0 * x10)))), (12, .long s0), (0, .ref 0), (1, .ref 46), (3, .int x3), (4, .int x4), (7, .int x7), (8, .long x8), (10, .long x10)]) d_x_accountOf_106 (by decide) rfl ?_
    refine mr_iinc (v := (x7 + 1)) (lv' := [(7, .int (x7 + 1)), (5, .long (x5 + (((Int32.toInt64 ((oc_prices 2) x7.toNatClampNeg)) * x8) + (s0 * x10)))), (12, .long s0), (0, .ref 0), (1, .ref 46), (3, .int x3), (4, .int x4), (8, .long x8), (10, .long x10)]) d_x_accountOf_108 rfl rfl (by decide) rfl ?_
    refine mr_goto (tgt := 17) d_x_accountOf_111 (by decide) ?_
    refine mr_sub (lv' := [(0, .ref 0), (1, .ref 46), (3, .int x3), (4, .int x4), (5, .long (x5 + (((Int32.toInt64 ((oc_prices 2) x7.toNatClampNeg)) * x8) + (s0 * x10)))), (7, .int (x7 + 1))]) [3, 4, 5, 6, 1, 0] rfl ?_
    exact hK17 _ _ _
  have w_L17 : ∀ (n : Nat) (x4 : Int32) (x5 : Int64) (x7 : Int32), mz_A g M_x_accountOf (mz_rm 3) (fun r => (0, some (.long r), ex, (HX x_members x_collaterals x_hasSent x_isSealed x_metered x_sealedCount bk_counts bk_needs bk_whens bk_sides bk_quantities bk_limits ag_toldLies ag_passedLies ag_words ag_vectors ag_liarOperator ag_rounds mk_entries mk_slots mk_remainders mk_blocks mk_blockBids mk_blockOffers mk_entryCount mk_blockCount cv_limits cv_bids cv_offers cv_count cv_allBids cv_allOffers cv_meetingPrice cv_sureBids cv_sureOffers cv_priceBids cv_priceOffers cv_volume cv_worth oc_prices oc_volumes oc_filled oc_worth oc_takenSet oc_isDone, hT), 0, 0)) 17 [(0, .ref 0), (1, .ref 46), (3, .int x3), (4, .int x4), (5, .long x5), (7, .int x7)] [] ex (HX x_members x_collaterals x_hasSent x_isSealed x_metered x_sealedCount bk_counts bk_needs bk_whens bk_sides bk_quantities bk_limits ag_toldLies ag_passedLies ag_words ag_vectors ag_liarOperator ag_rounds mk_entries mk_slots mk_remainders mk_blocks mk_blockBids mk_blockOffers mk_entryCount mk_blockCount cv_limits cv_bids cv_offers cv_count cv_allBids cv_allOffers cv_meetingPrice cv_sureBids cv_sureOffers cv_priceBids cv_priceOffers cv_volume cv_worth oc_prices oc_volumes oc_filled oc_worth oc_takenSet oc_isDone, hT) 0 0 (f_x_accountOf_L17 x_metered bk_counts bk_whens bk_sides ag_vectors (oc_prices 2) (oc_filled 2) x3 n x4 x5 x7) := by
    intro n
    induction n with
    | zero => intro x4 x5 x7; exact mr_none
    | succ n ih =>
      intro x4 x5 x7
      rw [f_x_accountOf_L17]
      refine mr_iload d_x_accountOf_17 rfl ?_
      refine mr_iconst (v := 3) d_x_accountOf_19 mc_iconst_3 ?_
      refine mr_icmp_ge (tgt := 114) d_x_accountOf_20 (by decide) ?_ ?_
      · refine mr_lload d_x_accountOf_114 rfl ?_
        exact mr_lret d_x_accountOf_116 rfl rfl
      · refine mr_aload_n d_x_accountOf_23 rfl rfl ?_
        refine mr_aload_n d_x_accountOf_24 rfl rfl ?_
        refine mr_iload d_x_accountOf_25 rfl ?_
        refine mr_iload_n d_x_accountOf_27 rfl rfl ?_
        refine mr_iload d_x_accountOf_28 rfl ?_
        refine mz_go (st := []) e_x_soldLessBought_2 (fun _ => rfl) U_x_soldLessBought (mz_vV d_x_accountOf_30 U_x_soldLessBought rfl lk_m_x_226 I_x_soldLessBought s_x_soldLessBought np_x_soldLessBought rfl rfl) (Nat.le_of_ble_eq_true rfl) (by decide) (fun r2 => ?_)
        refine mr_eq (st' := [.long r2]) (ex' := ex) (h2 := (HX x_members x_collaterals x_hasSent x_isSealed x_metered x_sealedCount bk_counts bk_needs bk_whens bk_sides bk_quantities bk_limits ag_toldLies ag_passedLies ag_words ag_vectors ag_liarOperator ag_rounds mk_entries mk_slots mk_remainders mk_blocks mk_blockBids mk_blockOffers mk_entryCount mk_blockCount cv_limits cv_bids cv_offers cv_count cv_allBids cv_allOffers cv_meetingPrice cv_sureBids cv_sureOffers cv_priceBids cv_priceOffers cv_volume cv_worth oc_prices oc_volumes oc_filled oc_worth oc_takenSet oc_isDone, hT)) (k' := 0) (n' := 0) rfl rfl rfl rfl rfl ?_
        refine mr_lstore (lv' := [(8, .long r2), (0, .ref 0), (1, .ref 46), (3, .int x3), (4, .int x4), (5, .long x5), (7, .int x7)]) d_x_accountOf_33 (by decide) rfl ?_
        refine mr_aload_n d_x_accountOf_35 rfl rfl ?_
        refine mr_get K_x 4 d_x_accountOf_36 lk_f_x_24 (by decide) rfl rfl ?_
        refine mr_iconst (v := 3) d_x_accountOf_39 mc_iconst_3 ?_
        refine mr_iload_n d_x_accountOf_40 rfl rfl ?_
        refine mr_imul d_x_accountOf_41 ?_
        refine mr_iload d_x_accountOf_42 rfl ?_
        refine mr_iadd d_x_accountOf_44 ?_
        refine mr_iald d_x_accountOf_45 rfl (fun hc3 => ?_)
        refine mr_i2l d_x_accountOf_46 ?_
        refine mr_lload d_x_accountOf_47 rfl ?_
        refine mr_lsub d_x_accountOf_49 ?_
        refine mr_lstore (lv' := [(10, .long ((Int32.toInt64 (x_metered ((3 * x3) + x7).toNatClampNeg)) - r2)), (8, .long r2), (0, .ref 0), (1, .ref 46), (3, .int x3), (4, .int x4), (5, .long x5), (7, .int x7)]) d_x_accountOf_50 (by decide) rfl ?_
        refine mr_lload d_x_accountOf_52 rfl ?_
        refine mr_lconst (v := 0) d_x_accountOf_54 mc_lconst_0 ?_
        refine mr_lcmp d_x_accountOf_55 ?_
        refine mr_if_le (tgt := 73) d_x_accountOf_56 (by decide) ?_ ?_
        · refine mr_aload_n d_x_accountOf_73 rfl rfl ?_
          refine mr_getN K_o 0 d_x_accountOf_74 lk_f_x_178 (by decide) rfl rfl ?_
          refine mr_iload d_x_accountOf_77 rfl ?_
          refine mr_iald d_x_accountOf_79 rfl (fun hc4 => ?_)
          refine mr_bipush (v := 50) d_x_accountOf_80 mc_bipush_50 ?_
          refine mr_iadd d_x_accountOf_82 ?_
          refine mr_i2l d_x_accountOf_83 ?_
          refine mr_sub (lv' := [(0, .ref 0), (1, .ref 46), (3, .int x3), (4, .int x4), (5, .long x5), (7, .int x7), (8, .long r2), (10, .long ((Int32.toInt64 (x_metered ((3 * x3) + x7).toNatClampNeg)) - r2))]) [2, 3, 4, 5, 6, 7, 1, 0] rfl ?_
          exact w_b84 _ ih _ _ _ _ _ _
        · refine mr_aload_n d_x_accountOf_59 rfl rfl ?_
          refine mr_getN K_o 0 d_x_accountOf_60 lk_f_x_178 (by decide) rfl rfl ?_
          refine mr_iload d_x_accountOf_63 rfl ?_
          refine mr_iald d_x_accountOf_65 rfl (fun hc5 => ?_)
          refine mr_bipush (v := 50) d_x_accountOf_66 mc_bipush_50 ?_
          refine mr_isub d_x_accountOf_68 ?_
          refine mr_i2l d_x_accountOf_69 ?_
          refine mr_goto (tgt := 84) d_x_accountOf_70 (by decide) ?_
          refine mr_sub (lv' := [(0, .ref 0), (1, .ref 46), (3, .int x3), (4, .int x4), (5, .long x5), (7, .int x7), (8, .long r2), (10, .long ((Int32.toInt64 (x_metered ((3 * x3) + x7).toNatClampNeg)) - r2))]) [2, 3, 4, 5, 6, 7, 1, 0] rfl ?_
          exact w_b84 _ ih _ _ _ _ _ _
  refine mz_of (by decide) (Nat.le_of_ble_eq_true rfl) ?_
  rw [f_x_accountOf]
  show mz_A g M_x_accountOf (mz_rm 3) _ 0 [(0, .ref 0), (1, .ref 46), (2, .int x2), (3, .int x3)] [] ex (HX x_members x_collaterals x_hasSent x_isSealed x_metered x_sealedCount bk_counts bk_needs bk_whens bk_sides bk_quantities bk_limits ag_toldLies ag_passedLies ag_words ag_vectors ag_liarOperator ag_rounds mk_entries mk_slots mk_remainders mk_blocks mk_blockBids mk_blockOffers mk_entryCount mk_blockCount cv_limits cv_bids cv_offers cv_count cv_allBids cv_allOffers cv_meetingPrice cv_sureBids cv_sureOffers cv_priceBids cv_priceOffers cv_volume cv_worth oc_prices oc_volumes oc_filled oc_worth oc_takenSet oc_isDone, hT) 0 0 _
  refine mr_aload_n d_x_accountOf_0 rfl rfl ?_
  refine mr_get K_x 6 d_x_accountOf_1 lk_f_x_39 (by decide) rfl rfl ?_
  refine mr_iload_n d_x_accountOf_4 rfl rfl ?_
  refine mr_iload_n d_x_accountOf_5 rfl rfl ?_
  refine mz_go (st := []) e_ag_agreedBook (fun _ => rfl) U_ag_agreedBook (mz_vV d_x_accountOf_6 U_ag_agreedBook rfl lk_m_x_145 I_ag_agreedBook s_ag_agreedBook np_ag_agreedBook rfl rfl) (Nat.le_of_ble_eq_true rfl) (by decide) (fun r1 => ?_)
  refine mr_eq (st' := [.int r1]) (ex' := ex) (h2 := (HX x_members x_collaterals x_hasSent x_isSealed x_metered x_sealedCount bk_counts bk_needs bk_whens bk_sides bk_quantities bk_limits ag_toldLies ag_passedLies ag_words ag_vectors ag_liarOperator ag_rounds mk_entries mk_slots mk_remainders mk_blocks mk_blockBids mk_blockOffers mk_entryCount mk_blockCount cv_limits cv_bids cv_offers cv_count cv_allBids cv_allOffers cv_meetingPrice cv_sureBids cv_sureOffers cv_priceBids cv_priceOffers cv_volume cv_worth oc_prices oc_volumes oc_filled oc_worth oc_takenSet oc_isDone, hT)) (k' := 0) (n' := 0) rfl rfl rfl rfl rfl ?_
  refine mr_istore (lv' := [(4, .int r1), (0, .ref 0), (1, .ref 46), (2, .int x2), (3, .int x3)]) d_x_accountOf_9 (by decide) rfl ?_
  refine mr_lconst (v := 0) d_x_accountOf_11 mc_lconst_0 ?_
  refine mr_lstore (lv' := [(5, .long 0), (4, .int r1), (0, .ref 0), (1, .ref 46), (2, .int x2), (3, .int x3)]) d_x_accountOf_12 (by decide) rfl ?_
  refine mr_iconst (v := 0) d_x_accountOf_14 mc_iconst_0 ?_
  refine mr_istore (lv' := [(7, .int 0), (5, .long 0), (4, .int r1), (0, .ref 0), (1, .ref 46), (2, .int x2), (3, .int x3)]) d_x_accountOf_15 (by decide) rfl ?_
  refine mr_sub (lv' := [(0, .ref 0), (1, .ref 46), (3, .int x3), (4, .int r1), (5, .long 0), (7, .int 0)]) [3, 4, 6, 2, 1, 0] rfl ?_
  exact w_L17 1000 _ _ _
set_option maxRecDepth 100000 in
set_option maxHeartbeats 4000000 in
theorem e_x_accountOf_3 {g : mz_G} {ex : Bool} {hT : List mz_E} {x_members : Int32} {x_collaterals : Nat → Int32} {x_hasSent : Nat → Int32} {x_isSealed : Nat → Int32} {x_metered : Nat → Int32} {x_sealedCount : Int32} {bk_counts : Nat → Int32} {bk_needs : Nat → Int64} {bk_whens : Nat → Int32} {bk_sides : Nat → Int32} {bk_quantities : Nat → Int32} {bk_limits : Nat → Int32} {ag_toldLies : Nat → Int32} {ag_passedLies : Nat → Int32} {ag_words : Nat → Int32} {ag_vectors : Nat → Int32} {ag_liarOperator : Int32} {ag_rounds : Int32} {mk_entries : Nat → Int32} {mk_slots : Nat → Int32} {mk_remainders : Nat → Int32} {mk_blocks : Nat → Int32} {mk_blockBids : Nat → Int32} {mk_blockOffers : Nat → Int32} {mk_entryCount : Int32} {mk_blockCount : Int32} {cv_limits : Nat → Nat → Int32} {cv_bids : Nat → Nat → Int32} {cv_offers : Nat → Nat → Int32} {cv_count : Nat → Int32} {cv_allBids : Nat → Int32} {cv_allOffers : Nat → Int32} {cv_meetingPrice : Nat → Int32} {cv_sureBids : Nat → Int32} {cv_sureOffers : Nat → Int32} {cv_priceBids : Nat → Int32} {cv_priceOffers : Nat → Int32} {cv_volume : Nat → Int32} {cv_worth : Nat → Int64} {oc_prices : Nat → Nat → Int32} {oc_volumes : Nat → Nat → Int32} {oc_filled : Nat → Nat → Int32} {oc_worth : Nat → Int64} {oc_takenSet : Nat → Int32} {oc_isDone : Nat → Int32} {x2 : Int32} {x3 : Int32} : mz_M g M_x_accountOf 3 [.ref 0, .ref 50, .int x2, .int x3] ex (HX x_members x_collaterals x_hasSent x_isSealed x_metered x_sealedCount bk_counts bk_needs bk_whens bk_sides bk_quantities bk_limits ag_toldLies ag_passedLies ag_words ag_vectors ag_liarOperator ag_rounds mk_entries mk_slots mk_remainders mk_blocks mk_blockBids mk_blockOffers mk_entryCount mk_blockCount cv_limits cv_bids cv_offers cv_count cv_allBids cv_allOffers cv_meetingPrice cv_sureBids cv_sureOffers cv_priceBids cv_priceOffers cv_volume cv_worth oc_prices oc_volumes oc_filled oc_worth oc_takenSet oc_isDone, hT) (f_x_accountOf x_metered bk_counts bk_whens bk_sides ag_vectors (oc_prices 3) (oc_filled 3) x2 x3) (fun r => (0, some (.long r), ex, (HX x_members x_collaterals x_hasSent x_isSealed x_metered x_sealedCount bk_counts bk_needs bk_whens bk_sides bk_quantities bk_limits ag_toldLies ag_passedLies ag_words ag_vectors ag_liarOperator ag_rounds mk_entries mk_slots mk_remainders mk_blocks mk_blockBids mk_blockOffers mk_entryCount mk_blockCount cv_limits cv_bids cv_offers cv_count cv_allBids cv_allOffers cv_meetingPrice cv_sureBids cv_sureOffers cv_priceBids cv_priceOffers cv_volume cv_worth oc_prices oc_volumes oc_filled oc_worth oc_takenSet oc_isDone, hT), 0, 0)) := by
  have w_b84 : ∀ (K17 : Int32 → Int64 → Int32 → Option (Int64)), (∀ (x4 : Int32) (x5 : Int64) (x7 : Int32), mz_A g M_x_accountOf (mz_rm 3) (fun r => (0, some (.long r), ex, (HX x_members x_collaterals x_hasSent x_isSealed x_metered x_sealedCount bk_counts bk_needs bk_whens bk_sides bk_quantities bk_limits ag_toldLies ag_passedLies ag_words ag_vectors ag_liarOperator ag_rounds mk_entries mk_slots mk_remainders mk_blocks mk_blockBids mk_blockOffers mk_entryCount mk_blockCount cv_limits cv_bids cv_offers cv_count cv_allBids cv_allOffers cv_meetingPrice cv_sureBids cv_sureOffers cv_priceBids cv_priceOffers cv_volume cv_worth oc_prices oc_volumes oc_filled oc_worth oc_takenSet oc_isDone, hT), 0, 0)) 17 [(0, .ref 0), (1, .ref 50), (3, .int x3), (4, .int x4), (5, .long x5), (7, .int x7)] [] ex (HX x_members x_collaterals x_hasSent x_isSealed x_metered x_sealedCount bk_counts bk_needs bk_whens bk_sides bk_quantities bk_limits ag_toldLies ag_passedLies ag_words ag_vectors ag_liarOperator ag_rounds mk_entries mk_slots mk_remainders mk_blocks mk_blockBids mk_blockOffers mk_entryCount mk_blockCount cv_limits cv_bids cv_offers cv_count cv_allBids cv_allOffers cv_meetingPrice cv_sureBids cv_sureOffers cv_priceBids cv_priceOffers cv_volume cv_worth oc_prices oc_volumes oc_filled oc_worth oc_takenSet oc_isDone, hT) 0 0 (K17 x4 x5 x7)) → ∀ (x4 : Int32) (x5 : Int64) (x7 : Int32) (x8 : Int64) (x10 : Int64) (s0 : Int64), mz_A g M_x_accountOf (mz_rm 3) (fun r => (0, some (.long r), ex, (HX x_members x_collaterals x_hasSent x_isSealed x_metered x_sealedCount bk_counts bk_needs bk_whens bk_sides bk_quantities bk_limits ag_toldLies ag_passedLies ag_words ag_vectors ag_liarOperator ag_rounds mk_entries mk_slots mk_remainders mk_blocks mk_blockBids mk_blockOffers mk_entryCount mk_blockCount cv_limits cv_bids cv_offers cv_count cv_allBids cv_allOffers cv_meetingPrice cv_sureBids cv_sureOffers cv_priceBids cv_priceOffers cv_volume cv_worth oc_prices oc_volumes oc_filled oc_worth oc_takenSet oc_isDone, hT), 0, 0)) 84 [(0, .ref 0), (1, .ref 50), (3, .int x3), (4, .int x4), (5, .long x5), (7, .int x7), (8, .long x8), (10, .long x10)] [.long s0] ex (HX x_members x_collaterals x_hasSent x_isSealed x_metered x_sealedCount bk_counts bk_needs bk_whens bk_sides bk_quantities bk_limits ag_toldLies ag_passedLies ag_words ag_vectors ag_liarOperator ag_rounds mk_entries mk_slots mk_remainders mk_blocks mk_blockBids mk_blockOffers mk_entryCount mk_blockCount cv_limits cv_bids cv_offers cv_count cv_allBids cv_allOffers cv_meetingPrice cv_sureBids cv_sureOffers cv_priceBids cv_priceOffers cv_volume cv_worth oc_prices oc_volumes oc_filled oc_worth oc_takenSet oc_isDone, hT) 0 0 (f_x_accountOf_b84 x_metered bk_counts bk_whens bk_sides ag_vectors (oc_prices 3) (oc_filled 3) x3 K17 x4 x5 x7 x8 x10 s0) := by
    intro K17 hK17 x4 x5 x7 x8 x10 s0
    rw [f_x_accountOf_b84]
    refine mr_lstore (lv' := [(12, .long s0), (0, .ref 0), (1, .ref 50), (3, .int x3), (4, .int x4), (5, .long x5), (7, .int x7), (8, .long x8), (10, .long x10)]) d_x_accountOf_84 (by decide) rfl ?_
    refine mr_lload d_x_accountOf_86 rfl ?_
    refine mr_aload_n d_x_accountOf_88 rfl rfl ?_
    refine mr_getN K_o 0 d_x_accountOf_89 lk_f_x_178 (by decide) rfl rfl ?_
    refine mr_iload d_x_accountOf_92 rfl ?_
    refine mr_iald d_x_accountOf_94 rfl (fun hc6 => ?_)
    refine mr_i2l d_x_accountOf_95 ?_
    refine mr_lload d_x_accountOf_96 rfl ?_
    refine mr_lmul d_x_accountOf_98 ?_
    refine mr_lload d_x_accountOf_99 rfl ?_
    refine mr_lload d_x_accountOf_101 rfl ?_
    refine mr_lmul d_x_accountOf_103 ?_
    refine mr_ladd d_x_accountOf_104 ?_
    refine mr_ladd d_x_accountOf_105 ?_
    refine mr_lstore (lv' := [(5, .long (x5 + (((Int32.toInt64 ((oc_prices 3) x7.toNatClampNeg)) * x8) + (s0 * x10)))), (12, .long s0), (0, .ref 0), (1, .ref 50), (3, .int x3), (4, .int x4), (7, .int x7), (8, .long x8), (10, .long x10)]) d_x_accountOf_106 (by decide) rfl ?_
    refine mr_iinc (v := (x7 + 1)) (lv' := [(7, .int (x7 + 1)), (5, .long (x5 + (((Int32.toInt64 ((oc_prices 3) x7.toNatClampNeg)) * x8) + (s0 * x10)))), (12, .long s0), (0, .ref 0), (1, .ref 50), (3, .int x3), (4, .int x4), (8, .long x8), (10, .long x10)]) d_x_accountOf_108 rfl rfl (by decide) rfl ?_
    refine mr_goto (tgt := 17) d_x_accountOf_111 (by decide) ?_
    refine mr_sub (lv' := [(0, .ref 0), (1, .ref 50), (3, .int x3), (4, .int x4), (5, .long (x5 + (((Int32.toInt64 ((oc_prices 3) x7.toNatClampNeg)) * x8) + (s0 * x10)))), (7, .int (x7 + 1))]) [3, 4, 5, 6, 1, 0] rfl ?_
    exact hK17 _ _ _
  have w_L17 : ∀ (n : Nat) (x4 : Int32) (x5 : Int64) (x7 : Int32), mz_A g M_x_accountOf (mz_rm 3) (fun r => (0, some (.long r), ex, (HX x_members x_collaterals x_hasSent x_isSealed x_metered x_sealedCount bk_counts bk_needs bk_whens bk_sides bk_quantities bk_limits ag_toldLies ag_passedLies ag_words ag_vectors ag_liarOperator ag_rounds mk_entries mk_slots mk_remainders mk_blocks mk_blockBids mk_blockOffers mk_entryCount mk_blockCount cv_limits cv_bids cv_offers cv_count cv_allBids cv_allOffers cv_meetingPrice cv_sureBids cv_sureOffers cv_priceBids cv_priceOffers cv_volume cv_worth oc_prices oc_volumes oc_filled oc_worth oc_takenSet oc_isDone, hT), 0, 0)) 17 [(0, .ref 0), (1, .ref 50), (3, .int x3), (4, .int x4), (5, .long x5), (7, .int x7)] [] ex (HX x_members x_collaterals x_hasSent x_isSealed x_metered x_sealedCount bk_counts bk_needs bk_whens bk_sides bk_quantities bk_limits ag_toldLies ag_passedLies ag_words ag_vectors ag_liarOperator ag_rounds mk_entries mk_slots mk_remainders mk_blocks mk_blockBids mk_blockOffers mk_entryCount mk_blockCount cv_limits cv_bids cv_offers cv_count cv_allBids cv_allOffers cv_meetingPrice cv_sureBids cv_sureOffers cv_priceBids cv_priceOffers cv_volume cv_worth oc_prices oc_volumes oc_filled oc_worth oc_takenSet oc_isDone, hT) 0 0 (f_x_accountOf_L17 x_metered bk_counts bk_whens bk_sides ag_vectors (oc_prices 3) (oc_filled 3) x3 n x4 x5 x7) := by
    intro n
    induction n with
    | zero => intro x4 x5 x7; exact mr_none
    | succ n ih =>
      intro x4 x5 x7
      rw [f_x_accountOf_L17]
      refine mr_iload d_x_accountOf_17 rfl ?_
      refine mr_iconst (v := 3) d_x_accountOf_19 mc_iconst_3 ?_
      refine mr_icmp_ge (tgt := 114) d_x_accountOf_20 (by decide) ?_ ?_
      · refine mr_lload d_x_accountOf_114 rfl ?_
        exact mr_lret d_x_accountOf_116 rfl rfl
      · refine mr_aload_n d_x_accountOf_23 rfl rfl ?_
        refine mr_aload_n d_x_accountOf_24 rfl rfl ?_
        refine mr_iload d_x_accountOf_25 rfl ?_
        refine mr_iload_n d_x_accountOf_27 rfl rfl ?_
        refine mr_iload d_x_accountOf_28 rfl ?_
        refine mz_go (st := []) e_x_soldLessBought_3 (fun _ => rfl) U_x_soldLessBought (mz_vV d_x_accountOf_30 U_x_soldLessBought rfl lk_m_x_226 I_x_soldLessBought s_x_soldLessBought np_x_soldLessBought rfl rfl) (Nat.le_of_ble_eq_true rfl) (by decide) (fun r2 => ?_)
        refine mr_eq (st' := [.long r2]) (ex' := ex) (h2 := (HX x_members x_collaterals x_hasSent x_isSealed x_metered x_sealedCount bk_counts bk_needs bk_whens bk_sides bk_quantities bk_limits ag_toldLies ag_passedLies ag_words ag_vectors ag_liarOperator ag_rounds mk_entries mk_slots mk_remainders mk_blocks mk_blockBids mk_blockOffers mk_entryCount mk_blockCount cv_limits cv_bids cv_offers cv_count cv_allBids cv_allOffers cv_meetingPrice cv_sureBids cv_sureOffers cv_priceBids cv_priceOffers cv_volume cv_worth oc_prices oc_volumes oc_filled oc_worth oc_takenSet oc_isDone, hT)) (k' := 0) (n' := 0) rfl rfl rfl rfl rfl ?_
        refine mr_lstore (lv' := [(8, .long r2), (0, .ref 0), (1, .ref 50), (3, .int x3), (4, .int x4), (5, .long x5), (7, .int x7)]) d_x_accountOf_33 (by decide) rfl ?_
        refine mr_aload_n d_x_accountOf_35 rfl rfl ?_
        refine mr_get K_x 4 d_x_accountOf_36 lk_f_x_24 (by decide) rfl rfl ?_
        refine mr_iconst (v := 3) d_x_accountOf_39 mc_iconst_3 ?_
        refine mr_iload_n d_x_accountOf_40 rfl rfl ?_
        refine mr_imul d_x_accountOf_41 ?_
        refine mr_iload d_x_accountOf_42 rfl ?_
        refine mr_iadd d_x_accountOf_44 ?_
        refine mr_iald d_x_accountOf_45 rfl (fun hc3 => ?_)
        refine mr_i2l d_x_accountOf_46 ?_
        refine mr_lload d_x_accountOf_47 rfl ?_
        refine mr_lsub d_x_accountOf_49 ?_
        refine mr_lstore (lv' := [(10, .long ((Int32.toInt64 (x_metered ((3 * x3) + x7).toNatClampNeg)) - r2)), (8, .long r2), (0, .ref 0), (1, .ref 50), (3, .int x3), (4, .int x4), (5, .long x5), (7, .int x7)]) d_x_accountOf_50 (by decide) rfl ?_
        refine mr_lload d_x_accountOf_52 rfl ?_
        refine mr_lconst (v := 0) d_x_accountOf_54 mc_lconst_0 ?_
        refine mr_lcmp d_x_accountOf_55 ?_
        refine mr_if_le (tgt := 73) d_x_accountOf_56 (by decide) ?_ ?_
        · refine mr_aload_n d_x_accountOf_73 rfl rfl ?_
          refine mr_getN K_o 0 d_x_accountOf_74 lk_f_x_178 (by decide) rfl rfl ?_
          refine mr_iload d_x_accountOf_77 rfl ?_
          refine mr_iald d_x_accountOf_79 rfl (fun hc4 => ?_)
          refine mr_bipush (v := 50) d_x_accountOf_80 mc_bipush_50 ?_
          refine mr_iadd d_x_accountOf_82 ?_
          refine mr_i2l d_x_accountOf_83 ?_
          refine mr_sub (lv' := [(0, .ref 0), (1, .ref 50), (3, .int x3), (4, .int x4), (5, .long x5), (7, .int x7), (8, .long r2), (10, .long ((Int32.toInt64 (x_metered ((3 * x3) + x7).toNatClampNeg)) - r2))]) [2, 3, 4, 5, 6, 7, 1, 0] rfl ?_
          exact w_b84 _ ih _ _ _ _ _ _
        · refine mr_aload_n d_x_accountOf_59 rfl rfl ?_
          refine mr_getN K_o 0 d_x_accountOf_60 lk_f_x_178 (by decide) rfl rfl ?_
          refine mr_iload d_x_accountOf_63 rfl ?_
          refine mr_iald d_x_accountOf_65 rfl (fun hc5 => ?_)
          refine mr_bipush (v := 50) d_x_accountOf_66 mc_bipush_50 ?_
          refine mr_isub d_x_accountOf_68 ?_
          refine mr_i2l d_x_accountOf_69 ?_
          refine mr_goto (tgt := 84) d_x_accountOf_70 (by decide) ?_
          refine mr_sub (lv' := [(0, .ref 0), (1, .ref 50), (3, .int x3), (4, .int x4), (5, .long x5), (7, .int x7), (8, .long r2), (10, .long ((Int32.toInt64 (x_metered ((3 * x3) + x7).toNatClampNeg)) - r2))]) [2, 3, 4, 5, 6, 7, 1, 0] rfl ?_
          exact w_b84 _ ih _ _ _ _ _ _
  refine mz_of (by decide) (Nat.le_of_ble_eq_true rfl) ?_
  rw [f_x_accountOf]
  show mz_A g M_x_accountOf (mz_rm 3) _ 0 [(0, .ref 0), (1, .ref 50), (2, .int x2), (3, .int x3)] [] ex (HX x_members x_collaterals x_hasSent x_isSealed x_metered x_sealedCount bk_counts bk_needs bk_whens bk_sides bk_quantities bk_limits ag_toldLies ag_passedLies ag_words ag_vectors ag_liarOperator ag_rounds mk_entries mk_slots mk_remainders mk_blocks mk_blockBids mk_blockOffers mk_entryCount mk_blockCount cv_limits cv_bids cv_offers cv_count cv_allBids cv_allOffers cv_meetingPrice cv_sureBids cv_sureOffers cv_priceBids cv_priceOffers cv_volume cv_worth oc_prices oc_volumes oc_filled oc_worth oc_takenSet oc_isDone, hT) 0 0 _
  refine mr_aload_n d_x_accountOf_0 rfl rfl ?_
  refine mr_get K_x 6 d_x_accountOf_1 lk_f_x_39 (by decide) rfl rfl ?_
  refine mr_iload_n d_x_accountOf_4 rfl rfl ?_
  refine mr_iload_n d_x_accountOf_5 rfl rfl ?_
  refine mz_go (st := []) e_ag_agreedBook (fun _ => rfl) U_ag_agreedBook (mz_vV d_x_accountOf_6 U_ag_agreedBook rfl lk_m_x_145 I_ag_agreedBook s_ag_agreedBook np_ag_agreedBook rfl rfl) (Nat.le_of_ble_eq_true rfl) (by decide) (fun r1 => ?_)
  refine mr_eq (st' := [.int r1]) (ex' := ex) (h2 := (HX x_members x_collaterals x_hasSent x_isSealed x_metered x_sealedCount bk_counts bk_needs bk_whens bk_sides bk_quantities bk_limits ag_toldLies ag_passedLies ag_words ag_vectors ag_liarOperator ag_rounds mk_entries mk_slots mk_remainders mk_blocks mk_blockBids mk_blockOffers mk_entryCount mk_blockCount cv_limits cv_bids cv_offers cv_count cv_allBids cv_allOffers cv_meetingPrice cv_sureBids cv_sureOffers cv_priceBids cv_priceOffers cv_volume cv_worth oc_prices oc_volumes oc_filled oc_worth oc_takenSet oc_isDone, hT)) (k' := 0) (n' := 0) rfl rfl rfl rfl rfl ?_
  refine mr_istore (lv' := [(4, .int r1), (0, .ref 0), (1, .ref 50), (2, .int x2), (3, .int x3)]) d_x_accountOf_9 (by decide) rfl ?_
  refine mr_lconst (v := 0) d_x_accountOf_11 mc_lconst_0 ?_
  refine mr_lstore (lv' := [(5, .long 0), (4, .int r1), (0, .ref 0), (1, .ref 50), (2, .int x2), (3, .int x3)]) d_x_accountOf_12 (by decide) rfl ?_
  refine mr_iconst (v := 0) d_x_accountOf_14 mc_iconst_0 ?_
  refine mr_istore (lv' := [(7, .int 0), (5, .long 0), (4, .int r1), (0, .ref 0), (1, .ref 50), (2, .int x2), (3, .int x3)]) d_x_accountOf_15 (by decide) rfl ?_
  refine mr_sub (lv' := [(0, .ref 0), (1, .ref 50), (3, .int x3), (4, .int r1), (5, .long 0), (7, .int 0)]) [3, 4, 6, 2, 1, 0] rfl ?_
  exact w_L17 1000 _ _ _
theorem e_x_accountOf {g : mz_G} {ex : Bool} {hT : List mz_E} {x_members : Int32} {x_collaterals : Nat → Int32} {x_hasSent : Nat → Int32} {x_isSealed : Nat → Int32} {x_metered : Nat → Int32} {x_sealedCount : Int32} {bk_counts : Nat → Int32} {bk_needs : Nat → Int64} {bk_whens : Nat → Int32} {bk_sides : Nat → Int32} {bk_quantities : Nat → Int32} {bk_limits : Nat → Int32} {ag_toldLies : Nat → Int32} {ag_passedLies : Nat → Int32} {ag_words : Nat → Int32} {ag_vectors : Nat → Int32} {ag_liarOperator : Int32} {ag_rounds : Int32} {mk_entries : Nat → Int32} {mk_slots : Nat → Int32} {mk_remainders : Nat → Int32} {mk_blocks : Nat → Int32} {mk_blockBids : Nat → Int32} {mk_blockOffers : Nat → Int32} {mk_entryCount : Int32} {mk_blockCount : Int32} {cv_limits : Nat → Nat → Int32} {cv_bids : Nat → Nat → Int32} {cv_offers : Nat → Nat → Int32} {cv_count : Nat → Int32} {cv_allBids : Nat → Int32} {cv_allOffers : Nat → Int32} {cv_meetingPrice : Nat → Int32} {cv_sureBids : Nat → Int32} {cv_sureOffers : Nat → Int32} {cv_priceBids : Nat → Int32} {cv_priceOffers : Nat → Int32} {cv_volume : Nat → Int32} {cv_worth : Nat → Int64} {oc_prices : Nat → Nat → Int32} {oc_volumes : Nat → Nat → Int32} {oc_filled : Nat → Nat → Int32} {oc_worth : Nat → Int64} {oc_takenSet : Nat → Int32} {oc_isDone : Nat → Int32} {x2 : Int32} {x3 : Int32} {j : Nat} (hj : j < 4) : mz_M g M_x_accountOf 3 [.ref 0, .ref (38 + 4 * j), .int x2, .int x3] ex (HX x_members x_collaterals x_hasSent x_isSealed x_metered x_sealedCount bk_counts bk_needs bk_whens bk_sides bk_quantities bk_limits ag_toldLies ag_passedLies ag_words ag_vectors ag_liarOperator ag_rounds mk_entries mk_slots mk_remainders mk_blocks mk_blockBids mk_blockOffers mk_entryCount mk_blockCount cv_limits cv_bids cv_offers cv_count cv_allBids cv_allOffers cv_meetingPrice cv_sureBids cv_sureOffers cv_priceBids cv_priceOffers cv_volume cv_worth oc_prices oc_volumes oc_filled oc_worth oc_takenSet oc_isDone, hT) (f_x_accountOf x_metered bk_counts bk_whens bk_sides ag_vectors (oc_prices j) (oc_filled j) x2 x3) (fun r => (0, some (.long r), ex, (HX x_members x_collaterals x_hasSent x_isSealed x_metered x_sealedCount bk_counts bk_needs bk_whens bk_sides bk_quantities bk_limits ag_toldLies ag_passedLies ag_words ag_vectors ag_liarOperator ag_rounds mk_entries mk_slots mk_remainders mk_blocks mk_blockBids mk_blockOffers mk_entryCount mk_blockCount cv_limits cv_bids cv_offers cv_count cv_allBids cv_allOffers cv_meetingPrice cv_sureBids cv_sureOffers cv_priceBids cv_priceOffers cv_volume cv_worth oc_prices oc_volumes oc_filled oc_worth oc_takenSet oc_isDone, hT), 0, 0)) := match j, hj with | 0, _ => e_x_accountOf_0 | 1, _ => e_x_accountOf_1 | 2, _ => e_x_accountOf_2 | 3, _ => e_x_accountOf_3 | j + 4, h => absurd h (by omega)
set_option maxRecDepth 100000 in
set_option maxHeartbeats 4000000 in
theorem e_x_balance {g : mz_G} {ex : Bool} {hT : List mz_E} {x_members : Int32} {x_collaterals : Nat → Int32} {x_hasSent : Nat → Int32} {x_isSealed : Nat → Int32} {x_metered : Nat → Int32} {x_sealedCount : Int32} {bk_counts : Nat → Int32} {bk_needs : Nat → Int64} {bk_whens : Nat → Int32} {bk_sides : Nat → Int32} {bk_quantities : Nat → Int32} {bk_limits : Nat → Int32} {ag_toldLies : Nat → Int32} {ag_passedLies : Nat → Int32} {ag_words : Nat → Int32} {ag_vectors : Nat → Int32} {ag_liarOperator : Int32} {ag_rounds : Int32} {mk_entries : Nat → Int32} {mk_slots : Nat → Int32} {mk_remainders : Nat → Int32} {mk_blocks : Nat → Int32} {mk_blockBids : Nat → Int32} {mk_blockOffers : Nat → Int32} {mk_entryCount : Int32} {mk_blockCount : Int32} {cv_limits : Nat → Nat → Int32} {cv_bids : Nat → Nat → Int32} {cv_offers : Nat → Nat → Int32} {cv_count : Nat → Int32} {cv_allBids : Nat → Int32} {cv_allOffers : Nat → Int32} {cv_meetingPrice : Nat → Int32} {cv_sureBids : Nat → Int32} {cv_sureOffers : Nat → Int32} {cv_priceBids : Nat → Int32} {cv_priceOffers : Nat → Int32} {cv_volume : Nat → Int32} {cv_worth : Nat → Int64} {oc_prices : Nat → Nat → Int32} {oc_volumes : Nat → Nat → Int32} {oc_filled : Nat → Nat → Int32} {oc_worth : Nat → Int64} {oc_takenSet : Nat → Int32} {oc_isDone : Nat → Int32} {x1 : Int32} {x2 : Int32} : mz_M g M_x_balance 7 [.ref 0, .int x1, .int x2] ex (HX x_members x_collaterals x_hasSent x_isSealed x_metered x_sealedCount bk_counts bk_needs bk_whens bk_sides bk_quantities bk_limits ag_toldLies ag_passedLies ag_words ag_vectors ag_liarOperator ag_rounds mk_entries mk_slots mk_remainders mk_blocks mk_blockBids mk_blockOffers mk_entryCount mk_blockCount cv_limits cv_bids cv_offers cv_count cv_allBids cv_allOffers cv_meetingPrice cv_sureBids cv_sureOffers cv_priceBids cv_priceOffers cv_volume cv_worth oc_prices oc_volumes oc_filled oc_worth oc_takenSet oc_isDone, hT) (f_x_balance x_members x_metered bk_counts bk_whens bk_sides ag_vectors oc_prices oc_filled oc_isDone x1 x2) (fun r => (r.1, some (.long r.2), mz_x ex r.1, (HX x_members x_collaterals x_hasSent x_isSealed x_metered x_sealedCount bk_counts bk_needs bk_whens bk_sides bk_quantities bk_limits ag_toldLies ag_passedLies ag_words ag_vectors ag_liarOperator ag_rounds mk_entries mk_slots mk_remainders mk_blocks mk_blockBids mk_blockOffers mk_entryCount mk_blockCount cv_limits cv_bids cv_offers cv_count cv_allBids cv_allOffers cv_meetingPrice cv_sureBids cv_sureOffers cv_priceBids cv_priceOffers cv_volume cv_worth oc_prices oc_volumes oc_filled oc_worth oc_takenSet oc_isDone, hT), mz_k r.1, mz_6 r.1)) := by
  have w_L55 : ∀ (n : Nat) (x4 : Int64) (x6 : Int32), mz_A g M_x_balance (mz_rm 7) (fun r => (r.1, some (.long r.2), mz_x ex r.1, (HX x_members x_collaterals x_hasSent x_isSealed x_metered x_sealedCount bk_counts bk_needs bk_whens bk_sides bk_quantities bk_limits ag_toldLies ag_passedLies ag_words ag_vectors ag_liarOperator ag_rounds mk_entries mk_slots mk_remainders mk_blocks mk_blockBids mk_blockOffers mk_entryCount mk_blockCount cv_limits cv_bids cv_offers cv_count cv_allBids cv_allOffers cv_meetingPrice cv_sureBids cv_sureOffers cv_priceBids cv_priceOffers cv_volume cv_worth oc_prices oc_volumes oc_filled oc_worth oc_takenSet oc_isDone, hT), mz_k r.1, mz_6 r.1)) 55 [(0, .ref 0), (1, .int x1), (3, .ref (38 + 4 * x1.toNatClampNeg)), (4, .long x4), (6, .int x6)] [] ex (HX x_members x_collaterals x_hasSent x_isSealed x_metered x_sealedCount bk_counts bk_needs bk_whens bk_sides bk_quantities bk_limits ag_toldLies ag_passedLies ag_words ag_vectors ag_liarOperator ag_rounds mk_entries mk_slots mk_remainders mk_blocks mk_blockBids mk_blockOffers mk_entryCount mk_blockCount cv_limits cv_bids cv_offers cv_count cv_allBids cv_allOffers cv_meetingPrice cv_sureBids cv_sureOffers cv_priceBids cv_priceOffers cv_volume cv_worth oc_prices oc_volumes oc_filled oc_worth oc_takenSet oc_isDone, hT) 0 0 (f_x_balance_L55 x_members x_metered bk_counts bk_whens bk_sides ag_vectors oc_prices oc_filled oc_isDone x1 n x4 x6) := by
    intro n
    induction n with
    | zero => intro x4 x6; exact mr_none
    | succ n ih =>
      intro x4 x6
      rw [f_x_balance_L55]
      refine mr_iload d_x_balance_55 rfl ?_
      refine mr_aload_n d_x_balance_57 rfl rfl ?_
      refine mr_get K_x 0 d_x_balance_58 lk_f_x_9 (by decide) rfl rfl ?_
      refine mr_icmp_ge (tgt := 83) d_x_balance_61 (by decide) ?_ ?_
      · refine mr_lload d_x_balance_83 rfl ?_
        exact mr_lret d_x_balance_85 rfl rfl
      · refine mr_lload d_x_balance_64 rfl ?_
        refine mr_aload_n d_x_balance_66 rfl rfl ?_
        refine mr_aload_n d_x_balance_67 rfl rfl ?_
        refine mr_iload_n d_x_balance_68 rfl rfl ?_
        refine mr_iload d_x_balance_69 rfl ?_
        refine mr_ghost (fun hg6 => ?_)
        refine mz_go (st := [.long x4]) (e_x_accountOf (Nat.not_le.mp hg6)) (fun _ => rfl) U_x_accountOf (mz_vV d_x_balance_71 U_x_accountOf rfl lk_m_x_201 I_x_accountOf s_x_accountOf np_x_accountOf rfl rfl) (Nat.le_of_ble_eq_true rfl) (by decide) (fun r7 => ?_)
        refine mr_eq (st' := [.long r7, .long x4]) (ex' := ex) (h2 := (HX x_members x_collaterals x_hasSent x_isSealed x_metered x_sealedCount bk_counts bk_needs bk_whens bk_sides bk_quantities bk_limits ag_toldLies ag_passedLies ag_words ag_vectors ag_liarOperator ag_rounds mk_entries mk_slots mk_remainders mk_blocks mk_blockBids mk_blockOffers mk_entryCount mk_blockCount cv_limits cv_bids cv_offers cv_count cv_allBids cv_allOffers cv_meetingPrice cv_sureBids cv_sureOffers cv_priceBids cv_priceOffers cv_volume cv_worth oc_prices oc_volumes oc_filled oc_worth oc_takenSet oc_isDone, hT)) (k' := 0) (n' := 0) rfl rfl rfl rfl rfl ?_
        refine mr_lsub d_x_balance_74 ?_
        refine mr_lstore (lv' := [(4, .long (x4 - r7)), (0, .ref 0), (1, .int x1), (3, .ref (38 + 4 * x1.toNatClampNeg)), (6, .int x6)]) d_x_balance_75 (by decide) rfl ?_
        refine mr_iinc (v := (x6 + 1)) (lv' := [(6, .int (x6 + 1)), (4, .long (x4 - r7)), (0, .ref 0), (1, .int x1), (3, .ref (38 + 4 * x1.toNatClampNeg))]) d_x_balance_77 rfl rfl (by decide) rfl ?_
        refine mr_goto (tgt := 55) d_x_balance_80 (by decide) ?_
        refine mr_sub (lv' := [(0, .ref 0), (1, .int x1), (3, .ref (38 + 4 * x1.toNatClampNeg)), (4, .long (x4 - r7)), (6, .int (x6 + 1))]) [2, 3, 4, 1, 0] rfl ?_
        exact ih _ _
  have w_b30 : mz_A g M_x_balance (mz_rm 7) (fun r => (r.1, some (.long r.2), mz_x ex r.1, (HX x_members x_collaterals x_hasSent x_isSealed x_metered x_sealedCount bk_counts bk_needs bk_whens bk_sides bk_quantities bk_limits ag_toldLies ag_passedLies ag_words ag_vectors ag_liarOperator ag_rounds mk_entries mk_slots mk_remainders mk_blocks mk_blockBids mk_blockOffers mk_entryCount mk_blockCount cv_limits cv_bids cv_offers cv_count cv_allBids cv_allOffers cv_meetingPrice cv_sureBids cv_sureOffers cv_priceBids cv_priceOffers cv_volume cv_worth oc_prices oc_volumes oc_filled oc_worth oc_takenSet oc_isDone, hT), mz_k r.1, mz_6 r.1)) 30 [(0, .ref 0), (1, .int x1), (2, .int x2)] [] ex (HX x_members x_collaterals x_hasSent x_isSealed x_metered x_sealedCount bk_counts bk_needs bk_whens bk_sides bk_quantities bk_limits ag_toldLies ag_passedLies ag_words ag_vectors ag_liarOperator ag_rounds mk_entries mk_slots mk_remainders mk_blocks mk_blockBids mk_blockOffers mk_entryCount mk_blockCount cv_limits cv_bids cv_offers cv_count cv_allBids cv_allOffers cv_meetingPrice cv_sureBids cv_sureOffers cv_priceBids cv_priceOffers cv_volume cv_worth oc_prices oc_volumes oc_filled oc_worth oc_takenSet oc_isDone, hT) 0 0 (f_x_balance_b30 x_members x_metered bk_counts bk_whens bk_sides ag_vectors oc_prices oc_filled oc_isDone x1 x2) := by
    rw [f_x_balance_b30]
    refine mr_aload_n d_x_balance_30 rfl rfl ?_
    refine mr_iload_n d_x_balance_31 rfl rfl ?_
    refine mz_goT (st := []) e_x_clearedBy U_x_clearedBy (mz_vV d_x_balance_32 U_x_clearedBy rfl lk_m_x_174 I_x_clearedBy s_x_clearedBy np_x_clearedBy rfl rfl) (Nat.le_of_ble_eq_true rfl) (by decide) rfl (fun r3 h0 => ?_) (fun r3 h0 r9 hr9 => ?_)
    · refine mr_eq (st' := [.ref (38 + 4 * x1.toNatClampNeg)]) (ex' := ex) (h2 := (HX x_members x_collaterals x_hasSent x_isSealed x_metered x_sealedCount bk_counts bk_needs bk_whens bk_sides bk_quantities bk_limits ag_toldLies ag_passedLies ag_words ag_vectors ag_liarOperator ag_rounds mk_entries mk_slots mk_remainders mk_blocks mk_blockBids mk_blockOffers mk_entryCount mk_blockCount cv_limits cv_bids cv_offers cv_count cv_allBids cv_allOffers cv_meetingPrice cv_sureBids cv_sureOffers cv_priceBids cv_priceOffers cv_volume cv_worth oc_prices oc_volumes oc_filled oc_worth oc_takenSet oc_isDone, hT)) (k' := 0) (n' := 0) rfl (mz_x0 h0) rfl (mz_k0 h0) (mz_60 h0) ?_
      refine mr_ifp h0 ?_
      refine mr_ghost (fun hg4 => ?_)
      refine mr_astore_n (lv' := [(3, .ref (38 + 4 * x1.toNatClampNeg)), (0, .ref 0), (1, .int x1), (2, .int x2)]) d_x_balance_35 rfl (by decide) rfl ?_
      refine mr_iload_n d_x_balance_36 rfl rfl ?_
      refine mr_iconst (v := (-1)) d_x_balance_37 mc_iconst_m1 ?_
      refine mr_icmp_eq (tgt := 49) d_x_balance_38 (by decide) ?_ ?_
      · refine mr_lconst (v := 0) d_x_balance_49 mc_lconst_0 ?_
        refine mr_lstore (lv' := [(4, .long 0), (3, .ref (38 + 4 * x1.toNatClampNeg)), (0, .ref 0), (1, .int x1), (2, .int x2)]) d_x_balance_50 (by decide) rfl ?_
        refine mr_iconst (v := 0) d_x_balance_52 mc_iconst_0 ?_
        refine mr_istore (lv' := [(6, .int 0), (4, .long 0), (3, .ref (38 + 4 * x1.toNatClampNeg)), (0, .ref 0), (1, .int x1), (2, .int x2)]) d_x_balance_53 (by decide) rfl ?_
        refine mr_sub (lv' := [(0, .ref 0), (1, .int x1), (3, .ref (38 + 4 * x1.toNatClampNeg)), (4, .long 0), (6, .int 0)]) [3, 4, 2, 1, 0] rfl ?_
        exact w_L55 1000 _ _
      · refine mr_aload_n d_x_balance_41 rfl rfl ?_
        refine mr_aload_n d_x_balance_42 rfl rfl ?_
        refine mr_iload_n d_x_balance_43 rfl rfl ?_
        refine mr_iload_n d_x_balance_44 rfl rfl ?_
        refine mz_go (st := []) (e_x_accountOf (Nat.not_le.mp hg4)) (fun _ => rfl) U_x_accountOf (mz_vV d_x_balance_45 U_x_accountOf rfl lk_m_x_201 I_x_accountOf s_x_accountOf np_x_accountOf rfl rfl) (Nat.le_of_ble_eq_true rfl) (by decide) (fun r5 => ?_)
        refine mr_eq (st' := [.long r5]) (ex' := ex) (h2 := (HX x_members x_collaterals x_hasSent x_isSealed x_metered x_sealedCount bk_counts bk_needs bk_whens bk_sides bk_quantities bk_limits ag_toldLies ag_passedLies ag_words ag_vectors ag_liarOperator ag_rounds mk_entries mk_slots mk_remainders mk_blocks mk_blockBids mk_blockOffers mk_entryCount mk_blockCount cv_limits cv_bids cv_offers cv_count cv_allBids cv_allOffers cv_meetingPrice cv_sureBids cv_sureOffers cv_priceBids cv_priceOffers cv_volume cv_worth oc_prices oc_volumes oc_filled oc_worth oc_takenSet oc_isDone, hT)) (k' := 0) (n' := 0) rfl rfl rfl rfl rfl ?_
        exact mr_lret d_x_balance_48 rfl rfl
    · rw [if_neg h0] at hr9
      cases hr9
      exact ⟨some (.long 0), by rw [Nat.zero_add, Nat.zero_add]⟩
  have w_b20 : mz_A g M_x_balance (mz_rm 7) (fun r => (r.1, some (.long r.2), mz_x ex r.1, (HX x_members x_collaterals x_hasSent x_isSealed x_metered x_sealedCount bk_counts bk_needs bk_whens bk_sides bk_quantities bk_limits ag_toldLies ag_passedLies ag_words ag_vectors ag_liarOperator ag_rounds mk_entries mk_slots mk_remainders mk_blocks mk_blockBids mk_blockOffers mk_entryCount mk_blockCount cv_limits cv_bids cv_offers cv_count cv_allBids cv_allOffers cv_meetingPrice cv_sureBids cv_sureOffers cv_priceBids cv_priceOffers cv_volume cv_worth oc_prices oc_volumes oc_filled oc_worth oc_takenSet oc_isDone, hT), mz_k r.1, mz_6 r.1)) 20 [] [] ex (HX x_members x_collaterals x_hasSent x_isSealed x_metered x_sealedCount bk_counts bk_needs bk_whens bk_sides bk_quantities bk_limits ag_toldLies ag_passedLies ag_words ag_vectors ag_liarOperator ag_rounds mk_entries mk_slots mk_remainders mk_blocks mk_blockBids mk_blockOffers mk_entryCount mk_blockCount cv_limits cv_bids cv_offers cv_count cv_allBids cv_allOffers cv_meetingPrice cv_sureBids cv_sureOffers cv_priceBids cv_priceOffers cv_volume cv_worth oc_prices oc_volumes oc_filled oc_worth oc_takenSet oc_isDone, hT) 0 0 (f_x_balance_b20 x_members x_metered bk_counts bk_whens bk_sides ag_vectors oc_prices oc_filled oc_isDone) := by
    rw [f_x_balance_b20]
    exact mr_throw d_x_balance_20 d_x_balance_23 d_x_balance_24 d_x_balance_26 d_x_balance_29 tw_x_199_1 rfl (Nat.le_of_ble_eq_true rfl) (Nat.le_of_ble_eq_true rfl) (Nat.le_of_ble_eq_true rfl) (Nat.le_of_ble_eq_true rfl) rfl
  refine mz_of (by decide) (Nat.le_of_ble_eq_true rfl) ?_
  rw [f_x_balance]
  show mz_A g M_x_balance (mz_rm 7) _ 0 [(0, .ref 0), (1, .int x1), (2, .int x2)] [] ex (HX x_members x_collaterals x_hasSent x_isSealed x_metered x_sealedCount bk_counts bk_needs bk_whens bk_sides bk_quantities bk_limits ag_toldLies ag_passedLies ag_words ag_vectors ag_liarOperator ag_rounds mk_entries mk_slots mk_remainders mk_blocks mk_blockBids mk_blockOffers mk_entryCount mk_blockCount cv_limits cv_bids cv_offers cv_count cv_allBids cv_allOffers cv_meetingPrice cv_sureBids cv_sureOffers cv_priceBids cv_priceOffers cv_volume cv_worth oc_prices oc_volumes oc_filled oc_worth oc_takenSet oc_isDone, hT) 0 0 _
  refine mr_iload_n d_x_balance_0 rfl rfl ?_
  refine mz_go (st := []) e_x_isOperator (fun _ => rfl) U_x_isOperator (mz_vS d_x_balance_1 U_x_isOperator lk_m_x_95 S_x_isOperator np_x_isOperator) (Nat.le_of_ble_eq_true rfl) (by decide) (fun r1 => ?_)
  refine mr_eq (st' := [.int r1]) (ex' := ex) (h2 := (HX x_members x_collaterals x_hasSent x_isSealed x_metered x_sealedCount bk_counts bk_needs bk_whens bk_sides bk_quantities bk_limits ag_toldLies ag_passedLies ag_words ag_vectors ag_liarOperator ag_rounds mk_entries mk_slots mk_remainders mk_blocks mk_blockBids mk_blockOffers mk_entryCount mk_blockCount cv_limits cv_bids cv_offers cv_count cv_allBids cv_allOffers cv_meetingPrice cv_sureBids cv_sureOffers cv_priceBids cv_priceOffers cv_volume cv_worth oc_prices oc_volumes oc_filled oc_worth oc_takenSet oc_isDone, hT)) (k' := 0) (n' := 0) rfl rfl rfl rfl rfl ?_
  refine mr_if_eq (tgt := 20) d_x_balance_4 (by decide) ?_ ?_
  · refine mr_sub (lv' := []) [] rfl ?_
    exact w_b20
  · refine mr_iload_n d_x_balance_7 rfl rfl ?_
    refine mr_iconst (v := (-1)) d_x_balance_8 mc_iconst_m1 ?_
    refine mr_icmp_eq (tgt := 30) d_x_balance_9 (by decide) ?_ ?_
    · exact w_b30
    · refine mr_aload_n d_x_balance_12 rfl rfl ?_
      refine mr_iload_n d_x_balance_13 rfl rfl ?_
      refine mz_go (st := []) e_x_isMember (fun _ => rfl) U_x_isMember (mz_vV d_x_balance_14 U_x_isMember rfl lk_m_x_60 I_x_isMember s_x_isMember np_x_isMember rfl rfl) (Nat.le_of_ble_eq_true rfl) (by decide) (fun r2 => ?_)
      refine mr_eq (st' := [.int r2]) (ex' := ex) (h2 := (HX x_members x_collaterals x_hasSent x_isSealed x_metered x_sealedCount bk_counts bk_needs bk_whens bk_sides bk_quantities bk_limits ag_toldLies ag_passedLies ag_words ag_vectors ag_liarOperator ag_rounds mk_entries mk_slots mk_remainders mk_blocks mk_blockBids mk_blockOffers mk_entryCount mk_blockCount cv_limits cv_bids cv_offers cv_count cv_allBids cv_allOffers cv_meetingPrice cv_sureBids cv_sureOffers cv_priceBids cv_priceOffers cv_volume cv_worth oc_prices oc_volumes oc_filled oc_worth oc_takenSet oc_isDone, hT)) (k' := 0) (n' := 0) rfl rfl rfl rfl rfl ?_
      refine mr_if_ne (tgt := 30) d_x_balance_17 (by decide) ?_ ?_
      · exact w_b30
      · refine mr_sub (lv' := []) [] rfl ?_
        exact w_b20
set_option maxRecDepth 100000 in
set_option maxHeartbeats 4000000 in
theorem e_ag_forget {g : mz_G} {ex : Bool} {hT : List mz_E} {x_members : Int32} {x_collaterals : Nat → Int32} {x_hasSent : Nat → Int32} {x_isSealed : Nat → Int32} {x_metered : Nat → Int32} {x_sealedCount : Int32} {bk_counts : Nat → Int32} {bk_needs : Nat → Int64} {bk_whens : Nat → Int32} {bk_sides : Nat → Int32} {bk_quantities : Nat → Int32} {bk_limits : Nat → Int32} {ag_toldLies : Nat → Int32} {ag_passedLies : Nat → Int32} {ag_words : Nat → Int32} {ag_vectors : Nat → Int32} {ag_liarOperator : Int32} {ag_rounds : Int32} {mk_entries : Nat → Int32} {mk_slots : Nat → Int32} {mk_remainders : Nat → Int32} {mk_blocks : Nat → Int32} {mk_blockBids : Nat → Int32} {mk_blockOffers : Nat → Int32} {mk_entryCount : Int32} {mk_blockCount : Int32} {cv_limits : Nat → Nat → Int32} {cv_bids : Nat → Nat → Int32} {cv_offers : Nat → Nat → Int32} {cv_count : Nat → Int32} {cv_allBids : Nat → Int32} {cv_allOffers : Nat → Int32} {cv_meetingPrice : Nat → Int32} {cv_sureBids : Nat → Int32} {cv_sureOffers : Nat → Int32} {cv_priceBids : Nat → Int32} {cv_priceOffers : Nat → Int32} {cv_volume : Nat → Int32} {cv_worth : Nat → Int64} {oc_prices : Nat → Nat → Int32} {oc_volumes : Nat → Nat → Int32} {oc_filled : Nat → Nat → Int32} {oc_worth : Nat → Int64} {oc_takenSet : Nat → Int32} {oc_isDone : Nat → Int32} : mz_M g M_ag_forget 0 [.ref 12] ex (HX x_members x_collaterals x_hasSent x_isSealed x_metered x_sealedCount bk_counts bk_needs bk_whens bk_sides bk_quantities bk_limits ag_toldLies ag_passedLies ag_words ag_vectors ag_liarOperator ag_rounds mk_entries mk_slots mk_remainders mk_blocks mk_blockBids mk_blockOffers mk_entryCount mk_blockCount cv_limits cv_bids cv_offers cv_count cv_allBids cv_allOffers cv_meetingPrice cv_sureBids cv_sureOffers cv_priceBids cv_priceOffers cv_volume cv_worth oc_prices oc_volumes oc_filled oc_worth oc_takenSet oc_isDone, hT) (f_ag_forget ag_toldLies ag_passedLies ag_vectors ag_liarOperator ag_rounds) (fun r => (0, none, ex, (HX x_members x_collaterals x_hasSent x_isSealed x_metered x_sealedCount bk_counts bk_needs bk_whens bk_sides bk_quantities bk_limits r.1 r.2.1 ag_words r.2.2.1 r.2.2.2.1 r.2.2.2.2 mk_entries mk_slots mk_remainders mk_blocks mk_blockBids mk_blockOffers mk_entryCount mk_blockCount cv_limits cv_bids cv_offers cv_count cv_allBids cv_allOffers cv_meetingPrice cv_sureBids cv_sureOffers cv_priceBids cv_priceOffers cv_volume cv_worth oc_prices oc_volumes oc_filled oc_worth oc_takenSet oc_isDone, hT), 0, 0)) := by
  have w_L60 : ∀ (n : Nat) (ag_toldLies : Nat → Int32) (ag_passedLies : Nat → Int32) (ag_vectors : Nat → Int32) (ag_liarOperator : Int32) (ag_rounds : Int32) (x1 : Int32), mz_A g M_ag_forget (mz_rm 0) (fun r => (0, none, ex, (HX x_members x_collaterals x_hasSent x_isSealed x_metered x_sealedCount bk_counts bk_needs bk_whens bk_sides bk_quantities bk_limits r.1 r.2.1 ag_words r.2.2.1 r.2.2.2.1 r.2.2.2.2 mk_entries mk_slots mk_remainders mk_blocks mk_blockBids mk_blockOffers mk_entryCount mk_blockCount cv_limits cv_bids cv_offers cv_count cv_allBids cv_allOffers cv_meetingPrice cv_sureBids cv_sureOffers cv_priceBids cv_priceOffers cv_volume cv_worth oc_prices oc_volumes oc_filled oc_worth oc_takenSet oc_isDone, hT), 0, 0)) 60 [(0, .ref 12), (1, .int x1)] [] ex (HX x_members x_collaterals x_hasSent x_isSealed x_metered x_sealedCount bk_counts bk_needs bk_whens bk_sides bk_quantities bk_limits ag_toldLies ag_passedLies ag_words ag_vectors ag_liarOperator ag_rounds mk_entries mk_slots mk_remainders mk_blocks mk_blockBids mk_blockOffers mk_entryCount mk_blockCount cv_limits cv_bids cv_offers cv_count cv_allBids cv_allOffers cv_meetingPrice cv_sureBids cv_sureOffers cv_priceBids cv_priceOffers cv_volume cv_worth oc_prices oc_volumes oc_filled oc_worth oc_takenSet oc_isDone, hT) 0 0 (f_ag_forget_L60 n ag_toldLies ag_passedLies ag_vectors ag_liarOperator ag_rounds x1) := by
    intro n
    induction n with
    | zero => intro ag_toldLies ag_passedLies ag_vectors ag_liarOperator ag_rounds x1; exact mr_none
    | succ n ih =>
      intro ag_toldLies ag_passedLies ag_vectors ag_liarOperator ag_rounds x1
      rw [f_ag_forget_L60]
      refine mr_iload_n d_ag_forget_60 rfl rfl ?_
      refine mr_aload_n d_ag_forget_61 rfl rfl ?_
      refine mr_get K_ag 4 d_ag_forget_62 lk_f_ag_25 (by decide) rfl rfl ?_
      refine mr_alen (v0 := 24) d_ag_forget_65 (fun _ => rfl) rfl (show Int32.ofNat 24 = 24 by decide) ?_
      refine mr_icmp_ge (tgt := 83) d_ag_forget_66 (by decide) ?_ ?_
      · exact mr_vret d_ag_forget_83 rfl rfl
      · refine mr_aload_n d_ag_forget_69 rfl rfl ?_
        refine mr_get K_ag 4 d_ag_forget_70 lk_f_ag_25 (by decide) rfl rfl ?_
        refine mr_iload_n d_ag_forget_73 rfl rfl ?_
        refine mr_bipush (v := 24) d_ag_forget_74 mc_bipush_24 ?_
        refine mr_iast (h2 := (HX x_members x_collaterals x_hasSent x_isSealed x_metered x_sealedCount bk_counts bk_needs bk_whens bk_sides bk_quantities bk_limits ag_toldLies ag_passedLies ag_words (upd ag_vectors x1.toNatClampNeg 24) ag_liarOperator ag_rounds mk_entries mk_slots mk_remainders mk_blocks mk_blockBids mk_blockOffers mk_entryCount mk_blockCount cv_limits cv_bids cv_offers cv_count cv_allBids cv_allOffers cv_meetingPrice cv_sureBids cv_sureOffers cv_priceBids cv_priceOffers cv_volume cv_worth oc_prices oc_volumes oc_filled oc_worth oc_takenSet oc_isDone, hT)) d_ag_forget_76 rfl rfl (fun hc3 => ?_)
        refine mr_iinc (v := (x1 + 1)) (lv' := [(1, .int (x1 + 1)), (0, .ref 12)]) d_ag_forget_77 rfl rfl (by decide) rfl ?_
        refine mr_goto (tgt := 60) d_ag_forget_80 (by decide) ?_
        refine mr_sub (lv' := [(0, .ref 12), (1, .int (x1 + 1))]) [1, 0] rfl ?_
        exact ih _ _ _ _ _ _
  have w_L36 : ∀ (n : Nat) (ag_toldLies : Nat → Int32) (ag_passedLies : Nat → Int32) (ag_vectors : Nat → Int32) (ag_liarOperator : Int32) (ag_rounds : Int32) (x1 : Int32), mz_A g M_ag_forget (mz_rm 0) (fun r => (0, none, ex, (HX x_members x_collaterals x_hasSent x_isSealed x_metered x_sealedCount bk_counts bk_needs bk_whens bk_sides bk_quantities bk_limits r.1 r.2.1 ag_words r.2.2.1 r.2.2.2.1 r.2.2.2.2 mk_entries mk_slots mk_remainders mk_blocks mk_blockBids mk_blockOffers mk_entryCount mk_blockCount cv_limits cv_bids cv_offers cv_count cv_allBids cv_allOffers cv_meetingPrice cv_sureBids cv_sureOffers cv_priceBids cv_priceOffers cv_volume cv_worth oc_prices oc_volumes oc_filled oc_worth oc_takenSet oc_isDone, hT), 0, 0)) 36 [(0, .ref 12), (1, .int x1)] [] ex (HX x_members x_collaterals x_hasSent x_isSealed x_metered x_sealedCount bk_counts bk_needs bk_whens bk_sides bk_quantities bk_limits ag_toldLies ag_passedLies ag_words ag_vectors ag_liarOperator ag_rounds mk_entries mk_slots mk_remainders mk_blocks mk_blockBids mk_blockOffers mk_entryCount mk_blockCount cv_limits cv_bids cv_offers cv_count cv_allBids cv_allOffers cv_meetingPrice cv_sureBids cv_sureOffers cv_priceBids cv_priceOffers cv_volume cv_worth oc_prices oc_volumes oc_filled oc_worth oc_takenSet oc_isDone, hT) 0 0 (f_ag_forget_L36 n ag_toldLies ag_passedLies ag_vectors ag_liarOperator ag_rounds x1) := by
    intro n
    induction n with
    | zero => intro ag_toldLies ag_passedLies ag_vectors ag_liarOperator ag_rounds x1; exact mr_none
    | succ n ih =>
      intro ag_toldLies ag_passedLies ag_vectors ag_liarOperator ag_rounds x1
      rw [f_ag_forget_L36]
      refine mr_iload_n d_ag_forget_36 rfl rfl ?_
      refine mr_aload_n d_ag_forget_37 rfl rfl ?_
      refine mr_get K_ag 2 d_ag_forget_38 lk_f_ag_19 (by decide) rfl rfl ?_
      refine mr_alen (v0 := 96) d_ag_forget_41 (fun _ => rfl) rfl (show Int32.ofNat 96 = 96 by decide) ?_
      refine mr_icmp_ge (tgt := 58) d_ag_forget_42 (by decide) ?_ ?_
      · refine mr_iconst (v := 0) d_ag_forget_58 mc_iconst_0 ?_
        refine mr_istore_n (lv' := [(1, .int 0), (0, .ref 12)]) d_ag_forget_59 rfl (by decide) rfl ?_
        refine mr_sub (lv' := [(0, .ref 12), (1, .int 0)]) [1, 0] rfl ?_
        exact w_L60 1000 _ _ _ _ _ _
      · refine mr_aload_n d_ag_forget_45 rfl rfl ?_
        refine mr_get K_ag 2 d_ag_forget_46 lk_f_ag_19 (by decide) rfl rfl ?_
        refine mr_iload_n d_ag_forget_49 rfl rfl ?_
        refine mr_iconst (v := (-1)) d_ag_forget_50 mc_iconst_m1 ?_
        refine mr_iast (h2 := (HX x_members x_collaterals x_hasSent x_isSealed x_metered x_sealedCount bk_counts bk_needs bk_whens bk_sides bk_quantities bk_limits ag_toldLies (upd ag_passedLies x1.toNatClampNeg (-1)) ag_words ag_vectors ag_liarOperator ag_rounds mk_entries mk_slots mk_remainders mk_blocks mk_blockBids mk_blockOffers mk_entryCount mk_blockCount cv_limits cv_bids cv_offers cv_count cv_allBids cv_allOffers cv_meetingPrice cv_sureBids cv_sureOffers cv_priceBids cv_priceOffers cv_volume cv_worth oc_prices oc_volumes oc_filled oc_worth oc_takenSet oc_isDone, hT)) d_ag_forget_51 rfl rfl (fun hc2 => ?_)
        refine mr_iinc (v := (x1 + 1)) (lv' := [(1, .int (x1 + 1)), (0, .ref 12)]) d_ag_forget_52 rfl rfl (by decide) rfl ?_
        refine mr_goto (tgt := 36) d_ag_forget_55 (by decide) ?_
        refine mr_sub (lv' := [(0, .ref 12), (1, .int (x1 + 1))]) [1, 0] rfl ?_
        exact ih _ _ _ _ _ _
  have w_L12 : ∀ (n : Nat) (ag_toldLies : Nat → Int32) (ag_passedLies : Nat → Int32) (ag_vectors : Nat → Int32) (ag_liarOperator : Int32) (ag_rounds : Int32) (x1 : Int32), mz_A g M_ag_forget (mz_rm 0) (fun r => (0, none, ex, (HX x_members x_collaterals x_hasSent x_isSealed x_metered x_sealedCount bk_counts bk_needs bk_whens bk_sides bk_quantities bk_limits r.1 r.2.1 ag_words r.2.2.1 r.2.2.2.1 r.2.2.2.2 mk_entries mk_slots mk_remainders mk_blocks mk_blockBids mk_blockOffers mk_entryCount mk_blockCount cv_limits cv_bids cv_offers cv_count cv_allBids cv_allOffers cv_meetingPrice cv_sureBids cv_sureOffers cv_priceBids cv_priceOffers cv_volume cv_worth oc_prices oc_volumes oc_filled oc_worth oc_takenSet oc_isDone, hT), 0, 0)) 12 [(0, .ref 12), (1, .int x1)] [] ex (HX x_members x_collaterals x_hasSent x_isSealed x_metered x_sealedCount bk_counts bk_needs bk_whens bk_sides bk_quantities bk_limits ag_toldLies ag_passedLies ag_words ag_vectors ag_liarOperator ag_rounds mk_entries mk_slots mk_remainders mk_blocks mk_blockBids mk_blockOffers mk_entryCount mk_blockCount cv_limits cv_bids cv_offers cv_count cv_allBids cv_allOffers cv_meetingPrice cv_sureBids cv_sureOffers cv_priceBids cv_priceOffers cv_volume cv_worth oc_prices oc_volumes oc_filled oc_worth oc_takenSet oc_isDone, hT) 0 0 (f_ag_forget_L12 n ag_toldLies ag_passedLies ag_vectors ag_liarOperator ag_rounds x1) := by
    intro n
    induction n with
    | zero => intro ag_toldLies ag_passedLies ag_vectors ag_liarOperator ag_rounds x1; exact mr_none
    | succ n ih =>
      intro ag_toldLies ag_passedLies ag_vectors ag_liarOperator ag_rounds x1
      rw [f_ag_forget_L12]
      refine mr_iload_n d_ag_forget_12 rfl rfl ?_
      refine mr_aload_n d_ag_forget_13 rfl rfl ?_
      refine mr_get K_ag 1 d_ag_forget_14 lk_f_ag_15 (by decide) rfl rfl ?_
      refine mr_alen (v0 := 24) d_ag_forget_17 (fun _ => rfl) rfl (show Int32.ofNat 24 = 24 by decide) ?_
      refine mr_icmp_ge (tgt := 34) d_ag_forget_18 (by decide) ?_ ?_
      · refine mr_iconst (v := 0) d_ag_forget_34 mc_iconst_0 ?_
        refine mr_istore_n (lv' := [(1, .int 0), (0, .ref 12)]) d_ag_forget_35 rfl (by decide) rfl ?_
        refine mr_sub (lv' := [(0, .ref 12), (1, .int 0)]) [1, 0] rfl ?_
        exact w_L36 1000 _ _ _ _ _ _
      · refine mr_aload_n d_ag_forget_21 rfl rfl ?_
        refine mr_get K_ag 1 d_ag_forget_22 lk_f_ag_15 (by decide) rfl rfl ?_
        refine mr_iload_n d_ag_forget_25 rfl rfl ?_
        refine mr_iconst (v := (-1)) d_ag_forget_26 mc_iconst_m1 ?_
        refine mr_iast (h2 := (HX x_members x_collaterals x_hasSent x_isSealed x_metered x_sealedCount bk_counts bk_needs bk_whens bk_sides bk_quantities bk_limits (upd ag_toldLies x1.toNatClampNeg (-1)) ag_passedLies ag_words ag_vectors ag_liarOperator ag_rounds mk_entries mk_slots mk_remainders mk_blocks mk_blockBids mk_blockOffers mk_entryCount mk_blockCount cv_limits cv_bids cv_offers cv_count cv_allBids cv_allOffers cv_meetingPrice cv_sureBids cv_sureOffers cv_priceBids cv_priceOffers cv_volume cv_worth oc_prices oc_volumes oc_filled oc_worth oc_takenSet oc_isDone, hT)) d_ag_forget_27 rfl rfl (fun hc1 => ?_)
        refine mr_iinc (v := (x1 + 1)) (lv' := [(1, .int (x1 + 1)), (0, .ref 12)]) d_ag_forget_28 rfl rfl (by decide) rfl ?_
        refine mr_goto (tgt := 12) d_ag_forget_31 (by decide) ?_
        refine mr_sub (lv' := [(0, .ref 12), (1, .int (x1 + 1))]) [1, 0] rfl ?_
        exact ih _ _ _ _ _ _
  refine mz_of (by decide) (Nat.le_of_ble_eq_true rfl) ?_
  rw [f_ag_forget]
  show mz_A g M_ag_forget (mz_rm 0) _ 0 [(0, .ref 12)] [] ex (HX x_members x_collaterals x_hasSent x_isSealed x_metered x_sealedCount bk_counts bk_needs bk_whens bk_sides bk_quantities bk_limits ag_toldLies ag_passedLies ag_words ag_vectors ag_liarOperator ag_rounds mk_entries mk_slots mk_remainders mk_blocks mk_blockBids mk_blockOffers mk_entryCount mk_blockCount cv_limits cv_bids cv_offers cv_count cv_allBids cv_allOffers cv_meetingPrice cv_sureBids cv_sureOffers cv_priceBids cv_priceOffers cv_volume cv_worth oc_prices oc_volumes oc_filled oc_worth oc_takenSet oc_isDone, hT) 0 0 _
  refine mr_aload_n d_ag_forget_0 rfl rfl ?_
  refine mr_iconst (v := (-1)) d_ag_forget_1 mc_iconst_m1 ?_
  refine mr_put (h2 := (HX x_members x_collaterals x_hasSent x_isSealed x_metered x_sealedCount bk_counts bk_needs bk_whens bk_sides bk_quantities bk_limits ag_toldLies ag_passedLies ag_words ag_vectors (-1) ag_rounds mk_entries mk_slots mk_remainders mk_blocks mk_blockBids mk_blockOffers mk_entryCount mk_blockCount cv_limits cv_bids cv_offers cv_count cv_allBids cv_allOffers cv_meetingPrice cv_sureBids cv_sureOffers cv_priceBids cv_priceOffers cv_volume cv_worth oc_prices oc_volumes oc_filled oc_worth oc_takenSet oc_isDone, hT)) K_ag 5 d_ag_forget_2 lk_f_ag_31 (by decide) rfl rfl rfl (Nat.le_of_ble_eq_true rfl) rfl rfl ?_
  refine mr_aload_n d_ag_forget_5 rfl rfl ?_
  refine mr_iconst (v := 0) d_ag_forget_6 mc_iconst_0 ?_
  refine mr_put (h2 := (HX x_members x_collaterals x_hasSent x_isSealed x_metered x_sealedCount bk_counts bk_needs bk_whens bk_sides bk_quantities bk_limits ag_toldLies ag_passedLies ag_words ag_vectors (-1) 0 mk_entries mk_slots mk_remainders mk_blocks mk_blockBids mk_blockOffers mk_entryCount mk_blockCount cv_limits cv_bids cv_offers cv_count cv_allBids cv_allOffers cv_meetingPrice cv_sureBids cv_sureOffers cv_priceBids cv_priceOffers cv_volume cv_worth oc_prices oc_volumes oc_filled oc_worth oc_takenSet oc_isDone, hT)) K_ag 6 d_ag_forget_7 lk_f_ag_35 (by decide) rfl rfl rfl (Nat.le_of_ble_eq_true rfl) rfl rfl ?_
  refine mr_iconst (v := 0) d_ag_forget_10 mc_iconst_0 ?_
  refine mr_istore_n (lv' := [(1, .int 0), (0, .ref 12)]) d_ag_forget_11 rfl (by decide) rfl ?_
  refine mr_sub (lv' := [(0, .ref 12), (1, .int 0)]) [1, 0] rfl ?_
  exact w_L12 1000 _ _ _ _ _ _
set_option maxRecDepth 100000 in
set_option maxHeartbeats 4000000 in
theorem e_bk_empty {g : mz_G} {ex : Bool} {hT : List mz_E} {x_members : Int32} {x_collaterals : Nat → Int32} {x_hasSent : Nat → Int32} {x_isSealed : Nat → Int32} {x_metered : Nat → Int32} {x_sealedCount : Int32} {bk_counts : Nat → Int32} {bk_needs : Nat → Int64} {bk_whens : Nat → Int32} {bk_sides : Nat → Int32} {bk_quantities : Nat → Int32} {bk_limits : Nat → Int32} {ag_toldLies : Nat → Int32} {ag_passedLies : Nat → Int32} {ag_words : Nat → Int32} {ag_vectors : Nat → Int32} {ag_liarOperator : Int32} {ag_rounds : Int32} {mk_entries : Nat → Int32} {mk_slots : Nat → Int32} {mk_remainders : Nat → Int32} {mk_blocks : Nat → Int32} {mk_blockBids : Nat → Int32} {mk_blockOffers : Nat → Int32} {mk_entryCount : Int32} {mk_blockCount : Int32} {cv_limits : Nat → Nat → Int32} {cv_bids : Nat → Nat → Int32} {cv_offers : Nat → Nat → Int32} {cv_count : Nat → Int32} {cv_allBids : Nat → Int32} {cv_allOffers : Nat → Int32} {cv_meetingPrice : Nat → Int32} {cv_sureBids : Nat → Int32} {cv_sureOffers : Nat → Int32} {cv_priceBids : Nat → Int32} {cv_priceOffers : Nat → Int32} {cv_volume : Nat → Int32} {cv_worth : Nat → Int64} {oc_prices : Nat → Nat → Int32} {oc_volumes : Nat → Nat → Int32} {oc_filled : Nat → Nat → Int32} {oc_worth : Nat → Int64} {oc_takenSet : Nat → Int32} {oc_isDone : Nat → Int32} : mz_M g M_bk_empty 0 [.ref 5] ex (HX x_members x_collaterals x_hasSent x_isSealed x_metered x_sealedCount bk_counts bk_needs bk_whens bk_sides bk_quantities bk_limits ag_toldLies ag_passedLies ag_words ag_vectors ag_liarOperator ag_rounds mk_entries mk_slots mk_remainders mk_blocks mk_blockBids mk_blockOffers mk_entryCount mk_blockCount cv_limits cv_bids cv_offers cv_count cv_allBids cv_allOffers cv_meetingPrice cv_sureBids cv_sureOffers cv_priceBids cv_priceOffers cv_volume cv_worth oc_prices oc_volumes oc_filled oc_worth oc_takenSet oc_isDone, hT) (f_bk_empty bk_counts bk_needs) (fun r => (0, none, ex, (HX x_members x_collaterals x_hasSent x_isSealed x_metered x_sealedCount r.1 r.2 bk_whens bk_sides bk_quantities bk_limits ag_toldLies ag_passedLies ag_words ag_vectors ag_liarOperator ag_rounds mk_entries mk_slots mk_remainders mk_blocks mk_blockBids mk_blockOffers mk_entryCount mk_blockCount cv_limits cv_bids cv_offers cv_count cv_allBids cv_allOffers cv_meetingPrice cv_sureBids cv_sureOffers cv_priceBids cv_priceOffers cv_volume cv_worth oc_prices oc_volumes oc_filled oc_worth oc_takenSet oc_isDone, hT), 0, 0)) := by
  have w_L2 : ∀ (n : Nat) (bk_counts : Nat → Int32) (bk_needs : Nat → Int64) (x1 : Int32), mz_A g M_bk_empty (mz_rm 0) (fun r => (0, none, ex, (HX x_members x_collaterals x_hasSent x_isSealed x_metered x_sealedCount r.1 r.2 bk_whens bk_sides bk_quantities bk_limits ag_toldLies ag_passedLies ag_words ag_vectors ag_liarOperator ag_rounds mk_entries mk_slots mk_remainders mk_blocks mk_blockBids mk_blockOffers mk_entryCount mk_blockCount cv_limits cv_bids cv_offers cv_count cv_allBids cv_allOffers cv_meetingPrice cv_sureBids cv_sureOffers cv_priceBids cv_priceOffers cv_volume cv_worth oc_prices oc_volumes oc_filled oc_worth oc_takenSet oc_isDone, hT), 0, 0)) 2 [(0, .ref 5), (1, .int x1)] [] ex (HX x_members x_collaterals x_hasSent x_isSealed x_metered x_sealedCount bk_counts bk_needs bk_whens bk_sides bk_quantities bk_limits ag_toldLies ag_passedLies ag_words ag_vectors ag_liarOperator ag_rounds mk_entries mk_slots mk_remainders mk_blocks mk_blockBids mk_blockOffers mk_entryCount mk_blockCount cv_limits cv_bids cv_offers cv_count cv_allBids cv_allOffers cv_meetingPrice cv_sureBids cv_sureOffers cv_priceBids cv_priceOffers cv_volume cv_worth oc_prices oc_volumes oc_filled oc_worth oc_takenSet oc_isDone, hT) 0 0 (f_bk_empty_L2 n bk_counts bk_needs x1) := by
    intro n
    induction n with
    | zero => intro bk_counts bk_needs x1; exact mr_none
    | succ n ih =>
      intro bk_counts bk_needs x1
      rw [f_bk_empty_L2]
      refine mr_iload_n d_bk_empty_2 rfl rfl ?_
      refine mr_aload_n d_bk_empty_3 rfl rfl ?_
      refine mr_get K_bk 0 d_bk_empty_4 lk_f_bk_9 (by decide) rfl rfl ?_
      refine mr_alen (v0 := 25) d_bk_empty_7 (fun _ => rfl) rfl (show Int32.ofNat 25 = 25 by decide) ?_
      refine mr_icmp_ge (tgt := 31) d_bk_empty_8 (by decide) ?_ ?_
      · exact mr_vret d_bk_empty_31 rfl rfl
      · refine mr_aload_n d_bk_empty_11 rfl rfl ?_
        refine mr_get K_bk 0 d_bk_empty_12 lk_f_bk_9 (by decide) rfl rfl ?_
        refine mr_iload_n d_bk_empty_15 rfl rfl ?_
        refine mr_iconst (v := 0) d_bk_empty_16 mc_iconst_0 ?_
        refine mr_iast (h2 := (HX x_members x_collaterals x_hasSent x_isSealed x_metered x_sealedCount (upd bk_counts x1.toNatClampNeg 0) bk_needs bk_whens bk_sides bk_quantities bk_limits ag_toldLies ag_passedLies ag_words ag_vectors ag_liarOperator ag_rounds mk_entries mk_slots mk_remainders mk_blocks mk_blockBids mk_blockOffers mk_entryCount mk_blockCount cv_limits cv_bids cv_offers cv_count cv_allBids cv_allOffers cv_meetingPrice cv_sureBids cv_sureOffers cv_priceBids cv_priceOffers cv_volume cv_worth oc_prices oc_volumes oc_filled oc_worth oc_takenSet oc_isDone, hT)) d_bk_empty_17 rfl rfl (fun hc1 => ?_)
        refine mr_aload_n d_bk_empty_18 rfl rfl ?_
        refine mr_get K_bk 1 d_bk_empty_19 lk_f_bk_15 (by decide) rfl rfl ?_
        refine mr_iload_n d_bk_empty_22 rfl rfl ?_
        refine mr_lconst (v := 0) d_bk_empty_23 mc_lconst_0 ?_
        refine mr_lastK (h2 := (HX x_members x_collaterals x_hasSent x_isSealed x_metered x_sealedCount (upd bk_counts x1.toNatClampNeg 0) (vp_updL bk_needs x1.toNatClampNeg 0) bk_whens bk_sides bk_quantities bk_limits ag_toldLies ag_passedLies ag_words ag_vectors ag_liarOperator ag_rounds mk_entries mk_slots mk_remainders mk_blocks mk_blockBids mk_blockOffers mk_entryCount mk_blockCount cv_limits cv_bids cv_offers cv_count cv_allBids cv_allOffers cv_meetingPrice cv_sureBids cv_sureOffers cv_priceBids cv_priceOffers cv_volume cv_worth oc_prices oc_volumes oc_filled oc_worth oc_takenSet oc_isDone, hT)) d_bk_empty_24 rfl rfl hc1 ?_
        refine mr_iinc (v := (x1 + 1)) (lv' := [(1, .int (x1 + 1)), (0, .ref 5)]) d_bk_empty_25 rfl rfl (by decide) rfl ?_
        refine mr_goto (tgt := 2) d_bk_empty_28 (by decide) ?_
        refine mr_sub (lv' := [(0, .ref 5), (1, .int (x1 + 1))]) [1, 0] rfl ?_
        exact ih _ _ _
  refine mz_of (by decide) (Nat.le_of_ble_eq_true rfl) ?_
  rw [f_bk_empty]
  show mz_A g M_bk_empty (mz_rm 0) _ 0 [(0, .ref 5)] [] ex (HX x_members x_collaterals x_hasSent x_isSealed x_metered x_sealedCount bk_counts bk_needs bk_whens bk_sides bk_quantities bk_limits ag_toldLies ag_passedLies ag_words ag_vectors ag_liarOperator ag_rounds mk_entries mk_slots mk_remainders mk_blocks mk_blockBids mk_blockOffers mk_entryCount mk_blockCount cv_limits cv_bids cv_offers cv_count cv_allBids cv_allOffers cv_meetingPrice cv_sureBids cv_sureOffers cv_priceBids cv_priceOffers cv_volume cv_worth oc_prices oc_volumes oc_filled oc_worth oc_takenSet oc_isDone, hT) 0 0 _
  refine mr_iconst (v := 0) d_bk_empty_0 mc_iconst_0 ?_
  refine mr_istore_n (lv' := [(1, .int 0), (0, .ref 5)]) d_bk_empty_1 rfl (by decide) rfl ?_
  refine mr_sub (lv' := [(0, .ref 5), (1, .int 0)]) [1, 0] rfl ?_
  exact w_L2 1000 _ _ _
set_option maxRecDepth 100000 in
set_option maxHeartbeats 4000000 in
theorem e_x_nextDay {g : mz_G} {ex : Bool} {hT : List mz_E} {x_members : Int32} {x_collaterals : Nat → Int32} {x_hasSent : Nat → Int32} {x_isSealed : Nat → Int32} {x_metered : Nat → Int32} {x_sealedCount : Int32} {bk_counts : Nat → Int32} {bk_needs : Nat → Int64} {bk_whens : Nat → Int32} {bk_sides : Nat → Int32} {bk_quantities : Nat → Int32} {bk_limits : Nat → Int32} {ag_toldLies : Nat → Int32} {ag_passedLies : Nat → Int32} {ag_words : Nat → Int32} {ag_vectors : Nat → Int32} {ag_liarOperator : Int32} {ag_rounds : Int32} {mk_entries : Nat → Int32} {mk_slots : Nat → Int32} {mk_remainders : Nat → Int32} {mk_blocks : Nat → Int32} {mk_blockBids : Nat → Int32} {mk_blockOffers : Nat → Int32} {mk_entryCount : Int32} {mk_blockCount : Int32} {cv_limits : Nat → Nat → Int32} {cv_bids : Nat → Nat → Int32} {cv_offers : Nat → Nat → Int32} {cv_count : Nat → Int32} {cv_allBids : Nat → Int32} {cv_allOffers : Nat → Int32} {cv_meetingPrice : Nat → Int32} {cv_sureBids : Nat → Int32} {cv_sureOffers : Nat → Int32} {cv_priceBids : Nat → Int32} {cv_priceOffers : Nat → Int32} {cv_volume : Nat → Int32} {cv_worth : Nat → Int64} {oc_prices : Nat → Nat → Int32} {oc_volumes : Nat → Nat → Int32} {oc_filled : Nat → Nat → Int32} {oc_worth : Nat → Int64} {oc_takenSet : Nat → Int32} {oc_isDone : Nat → Int32} : mz_M g M_x_nextDay 1 [.ref 0] ex (HX x_members x_collaterals x_hasSent x_isSealed x_metered x_sealedCount bk_counts bk_needs bk_whens bk_sides bk_quantities bk_limits ag_toldLies ag_passedLies ag_words ag_vectors ag_liarOperator ag_rounds mk_entries mk_slots mk_remainders mk_blocks mk_blockBids mk_blockOffers mk_entryCount mk_blockCount cv_limits cv_bids cv_offers cv_count cv_allBids cv_allOffers cv_meetingPrice cv_sureBids cv_sureOffers cv_priceBids cv_priceOffers cv_volume cv_worth oc_prices oc_volumes oc_filled oc_worth oc_takenSet oc_isDone, hT) (f_x_nextDay x_hasSent x_isSealed x_metered x_sealedCount bk_counts bk_needs ag_toldLies ag_passedLies ag_vectors ag_liarOperator ag_rounds oc_isDone) (fun r => (0, none, ex, (HX x_members x_collaterals r.1 r.2.1 r.2.2.1 r.2.2.2.1 r.2.2.2.2.1 r.2.2.2.2.2.1 bk_whens bk_sides bk_quantities bk_limits r.2.2.2.2.2.2.1 r.2.2.2.2.2.2.2.1 ag_words r.2.2.2.2.2.2.2.2.1 r.2.2.2.2.2.2.2.2.2.1 r.2.2.2.2.2.2.2.2.2.2.1 mk_entries mk_slots mk_remainders mk_blocks mk_blockBids mk_blockOffers mk_entryCount mk_blockCount cv_limits cv_bids cv_offers cv_count cv_allBids cv_allOffers cv_meetingPrice cv_sureBids cv_sureOffers cv_priceBids cv_priceOffers cv_volume cv_worth oc_prices oc_volumes oc_filled oc_worth oc_takenSet r.2.2.2.2.2.2.2.2.2.2.2, hT), 0, 0)) := by
  have w_L73 : ∀ (n : Nat) (x_hasSent : Nat → Int32) (x_isSealed : Nat → Int32) (x_metered : Nat → Int32) (x_sealedCount : Int32) (bk_counts : Nat → Int32) (bk_needs : Nat → Int64) (ag_toldLies : Nat → Int32) (ag_passedLies : Nat → Int32) (ag_vectors : Nat → Int32) (ag_liarOperator : Int32) (ag_rounds : Int32) (oc_isDone : Nat → Int32) (x1 : Int32), mz_A g M_x_nextDay (mz_rm 1) (fun r => (0, none, ex, (HX x_members x_collaterals r.1 r.2.1 r.2.2.1 r.2.2.2.1 r.2.2.2.2.1 r.2.2.2.2.2.1 bk_whens bk_sides bk_quantities bk_limits r.2.2.2.2.2.2.1 r.2.2.2.2.2.2.2.1 ag_words r.2.2.2.2.2.2.2.2.1 r.2.2.2.2.2.2.2.2.2.1 r.2.2.2.2.2.2.2.2.2.2.1 mk_entries mk_slots mk_remainders mk_blocks mk_blockBids mk_blockOffers mk_entryCount mk_blockCount cv_limits cv_bids cv_offers cv_count cv_allBids cv_allOffers cv_meetingPrice cv_sureBids cv_sureOffers cv_priceBids cv_priceOffers cv_volume cv_worth oc_prices oc_volumes oc_filled oc_worth oc_takenSet r.2.2.2.2.2.2.2.2.2.2.2, hT), 0, 0)) 73 [(0, .ref 0), (1, .int x1)] [] ex (HX x_members x_collaterals x_hasSent x_isSealed x_metered x_sealedCount bk_counts bk_needs bk_whens bk_sides bk_quantities bk_limits ag_toldLies ag_passedLies ag_words ag_vectors ag_liarOperator ag_rounds mk_entries mk_slots mk_remainders mk_blocks mk_blockBids mk_blockOffers mk_entryCount mk_blockCount cv_limits cv_bids cv_offers cv_count cv_allBids cv_allOffers cv_meetingPrice cv_sureBids cv_sureOffers cv_priceBids cv_priceOffers cv_volume cv_worth oc_prices oc_volumes oc_filled oc_worth oc_takenSet oc_isDone, hT) 0 0 (f_x_nextDay_L73 n x_hasSent x_isSealed x_metered x_sealedCount bk_counts bk_needs ag_toldLies ag_passedLies ag_vectors ag_liarOperator ag_rounds oc_isDone x1) := by
    intro n
    induction n with
    | zero => intro x_hasSent x_isSealed x_metered x_sealedCount bk_counts bk_needs ag_toldLies ag_passedLies ag_vectors ag_liarOperator ag_rounds oc_isDone x1; exact mr_none
    | succ n ih =>
      intro x_hasSent x_isSealed x_metered x_sealedCount bk_counts bk_needs ag_toldLies ag_passedLies ag_vectors ag_liarOperator ag_rounds oc_isDone x1
      rw [f_x_nextDay_L73]
      refine mr_iload_n d_x_nextDay_73 rfl rfl ?_
      refine mr_iconst (v := 4) d_x_nextDay_74 mc_iconst_4 ?_
      refine mr_icmp_ge (tgt := 94) d_x_nextDay_75 (by decide) ?_ ?_
      · exact mr_vret d_x_nextDay_94 rfl rfl
      · refine mr_aload_n d_x_nextDay_78 rfl rfl ?_
        refine mr_get K_x 8 d_x_nextDay_79 lk_f_x_52 (by decide) rfl rfl ?_
        refine mr_iload_n d_x_nextDay_82 rfl rfl ?_
        refine mr_aald d_x_nextDay_83 (fun _ => rfl) rfl (fun _ => rfl) (fun hc5 => ?_)
        refine mr_iconst (v := 0) d_x_nextDay_84 mc_iconst_0 ?_
        refine mr_putN (h2 := (HX x_members x_collaterals x_hasSent x_isSealed x_metered x_sealedCount bk_counts bk_needs bk_whens bk_sides bk_quantities bk_limits ag_toldLies ag_passedLies ag_words ag_vectors ag_liarOperator ag_rounds mk_entries mk_slots mk_remainders mk_blocks mk_blockBids mk_blockOffers mk_entryCount mk_blockCount cv_limits cv_bids cv_offers cv_count cv_allBids cv_allOffers cv_meetingPrice cv_sureBids cv_sureOffers cv_priceBids cv_priceOffers cv_volume cv_worth oc_prices oc_volumes oc_filled oc_worth oc_takenSet (va_up oc_isDone x1.toNatClampNeg 0), hT)) K_o 5 d_x_nextDay_85 lk_f_x_157 (by decide) rfl rfl rfl (Nat.le_of_ble_eq_true rfl) (gt_o (mz_lt hc5)) (st_o_isDone (mz_lt hc5)) ?_
        refine mr_iinc (v := (x1 + 1)) (lv' := [(1, .int (x1 + 1)), (0, .ref 0)]) d_x_nextDay_88 rfl rfl (by decide) rfl ?_
        refine mr_goto (tgt := 73) d_x_nextDay_91 (by decide) ?_
        refine mr_sub (lv' := [(0, .ref 0), (1, .int (x1 + 1))]) [1, 0] rfl ?_
        exact ih _ _ _ _ _ _ _ _ _ _ _ _ _
  have w_L35 : ∀ (n : Nat) (x_hasSent : Nat → Int32) (x_isSealed : Nat → Int32) (x_metered : Nat → Int32) (x_sealedCount : Int32) (bk_counts : Nat → Int32) (bk_needs : Nat → Int64) (ag_toldLies : Nat → Int32) (ag_passedLies : Nat → Int32) (ag_vectors : Nat → Int32) (ag_liarOperator : Int32) (ag_rounds : Int32) (oc_isDone : Nat → Int32) (x1 : Int32), mz_A g M_x_nextDay (mz_rm 1) (fun r => (0, none, ex, (HX x_members x_collaterals r.1 r.2.1 r.2.2.1 r.2.2.2.1 r.2.2.2.2.1 r.2.2.2.2.2.1 bk_whens bk_sides bk_quantities bk_limits r.2.2.2.2.2.2.1 r.2.2.2.2.2.2.2.1 ag_words r.2.2.2.2.2.2.2.2.1 r.2.2.2.2.2.2.2.2.2.1 r.2.2.2.2.2.2.2.2.2.2.1 mk_entries mk_slots mk_remainders mk_blocks mk_blockBids mk_blockOffers mk_entryCount mk_blockCount cv_limits cv_bids cv_offers cv_count cv_allBids cv_allOffers cv_meetingPrice cv_sureBids cv_sureOffers cv_priceBids cv_priceOffers cv_volume cv_worth oc_prices oc_volumes oc_filled oc_worth oc_takenSet r.2.2.2.2.2.2.2.2.2.2.2, hT), 0, 0)) 35 [(0, .ref 0), (1, .int x1)] [] ex (HX x_members x_collaterals x_hasSent x_isSealed x_metered x_sealedCount bk_counts bk_needs bk_whens bk_sides bk_quantities bk_limits ag_toldLies ag_passedLies ag_words ag_vectors ag_liarOperator ag_rounds mk_entries mk_slots mk_remainders mk_blocks mk_blockBids mk_blockOffers mk_entryCount mk_blockCount cv_limits cv_bids cv_offers cv_count cv_allBids cv_allOffers cv_meetingPrice cv_sureBids cv_sureOffers cv_priceBids cv_priceOffers cv_volume cv_worth oc_prices oc_volumes oc_filled oc_worth oc_takenSet oc_isDone, hT) 0 0 (f_x_nextDay_L35 n x_hasSent x_isSealed x_metered x_sealedCount bk_counts bk_needs ag_toldLies ag_passedLies ag_vectors ag_liarOperator ag_rounds oc_isDone x1) := by
    intro n
    induction n with
    | zero => intro x_hasSent x_isSealed x_metered x_sealedCount bk_counts bk_needs ag_toldLies ag_passedLies ag_vectors ag_liarOperator ag_rounds oc_isDone x1; exact mr_none
    | succ n ih =>
      intro x_hasSent x_isSealed x_metered x_sealedCount bk_counts bk_needs ag_toldLies ag_passedLies ag_vectors ag_liarOperator ag_rounds oc_isDone x1
      rw [f_x_nextDay_L35]
      refine mr_iload_n d_x_nextDay_35 rfl rfl ?_
      refine mr_aload_n d_x_nextDay_36 rfl rfl ?_
      refine mr_get K_x 4 d_x_nextDay_37 lk_f_x_24 (by decide) rfl rfl ?_
      refine mr_alen (v0 := 18) d_x_nextDay_40 (fun _ => rfl) rfl (show Int32.ofNat 18 = 18 by decide) ?_
      refine mr_icmp_ge (tgt := 57) d_x_nextDay_41 (by decide) ?_ ?_
      · refine mr_aload_n d_x_nextDay_57 rfl rfl ?_
        refine mr_get K_x 5 d_x_nextDay_58 lk_f_x_30 (by decide) rfl rfl ?_
        refine mz_go (st := []) e_bk_empty (fun _ => rfl) U_bk_empty (mz_vV d_x_nextDay_61 U_bk_empty rfl lk_m_x_205 I_bk_empty s_bk_empty np_bk_empty rfl rfl) (Nat.le_of_ble_eq_true rfl) (by decide) (fun r2 => ?_)
        refine mr_eq (st' := []) (ex' := ex) (h2 := (HX x_members x_collaterals x_hasSent x_isSealed x_metered x_sealedCount r2.1 r2.2 bk_whens bk_sides bk_quantities bk_limits ag_toldLies ag_passedLies ag_words ag_vectors ag_liarOperator ag_rounds mk_entries mk_slots mk_remainders mk_blocks mk_blockBids mk_blockOffers mk_entryCount mk_blockCount cv_limits cv_bids cv_offers cv_count cv_allBids cv_allOffers cv_meetingPrice cv_sureBids cv_sureOffers cv_priceBids cv_priceOffers cv_volume cv_worth oc_prices oc_volumes oc_filled oc_worth oc_takenSet oc_isDone, hT)) (k' := 0) (n' := 0) rfl rfl rfl rfl rfl ?_
        refine mr_aload_n d_x_nextDay_64 rfl rfl ?_
        refine mr_get K_x 6 d_x_nextDay_65 lk_f_x_39 (by decide) rfl rfl ?_
        refine mz_go (st := []) e_ag_forget (fun _ => rfl) U_ag_forget (mz_vV d_x_nextDay_68 U_ag_forget rfl lk_m_x_208 I_ag_forget s_ag_forget np_ag_forget rfl rfl) (Nat.le_of_ble_eq_true rfl) (by decide) (fun r3 => ?_)
        refine mr_eq (st' := []) (ex' := ex) (h2 := (HX x_members x_collaterals x_hasSent x_isSealed x_metered x_sealedCount r2.1 r2.2 bk_whens bk_sides bk_quantities bk_limits r3.1 r3.2.1 ag_words r3.2.2.1 r3.2.2.2.1 r3.2.2.2.2 mk_entries mk_slots mk_remainders mk_blocks mk_blockBids mk_blockOffers mk_entryCount mk_blockCount cv_limits cv_bids cv_offers cv_count cv_allBids cv_allOffers cv_meetingPrice cv_sureBids cv_sureOffers cv_priceBids cv_priceOffers cv_volume cv_worth oc_prices oc_volumes oc_filled oc_worth oc_takenSet oc_isDone, hT)) (k' := 0) (n' := 0) rfl rfl rfl rfl rfl ?_
        refine mr_iconst (v := 0) d_x_nextDay_71 mc_iconst_0 ?_
        refine mr_istore_n (lv' := [(1, .int 0), (0, .ref 0)]) d_x_nextDay_72 rfl (by decide) rfl ?_
        refine mr_sub (lv' := [(0, .ref 0), (1, .int 0)]) [1, 0] rfl ?_
        exact w_L73 1000 _ _ _ _ _ _ _ _ _ _ _ _ _
      · refine mr_aload_n d_x_nextDay_44 rfl rfl ?_
        refine mr_get K_x 4 d_x_nextDay_45 lk_f_x_24 (by decide) rfl rfl ?_
        refine mr_iload_n d_x_nextDay_48 rfl rfl ?_
        refine mr_iconst (v := 0) d_x_nextDay_49 mc_iconst_0 ?_
        refine mr_iast (h2 := (HX x_members x_collaterals x_hasSent x_isSealed (upd x_metered x1.toNatClampNeg 0) x_sealedCount bk_counts bk_needs bk_whens bk_sides bk_quantities bk_limits ag_toldLies ag_passedLies ag_words ag_vectors ag_liarOperator ag_rounds mk_entries mk_slots mk_remainders mk_blocks mk_blockBids mk_blockOffers mk_entryCount mk_blockCount cv_limits cv_bids cv_offers cv_count cv_allBids cv_allOffers cv_meetingPrice cv_sureBids cv_sureOffers cv_priceBids cv_priceOffers cv_volume cv_worth oc_prices oc_volumes oc_filled oc_worth oc_takenSet oc_isDone, hT)) d_x_nextDay_50 rfl rfl (fun hc4 => ?_)
        refine mr_iinc (v := (x1 + 1)) (lv' := [(1, .int (x1 + 1)), (0, .ref 0)]) d_x_nextDay_51 rfl rfl (by decide) rfl ?_
        refine mr_goto (tgt := 35) d_x_nextDay_54 (by decide) ?_
        refine mr_sub (lv' := [(0, .ref 0), (1, .int (x1 + 1))]) [1, 0] rfl ?_
        exact ih _ _ _ _ _ _ _ _ _ _ _ _ _
  have w_L2 : ∀ (n : Nat) (x_hasSent : Nat → Int32) (x_isSealed : Nat → Int32) (x_metered : Nat → Int32) (x_sealedCount : Int32) (bk_counts : Nat → Int32) (bk_needs : Nat → Int64) (ag_toldLies : Nat → Int32) (ag_passedLies : Nat → Int32) (ag_vectors : Nat → Int32) (ag_liarOperator : Int32) (ag_rounds : Int32) (oc_isDone : Nat → Int32) (x1 : Int32), mz_A g M_x_nextDay (mz_rm 1) (fun r => (0, none, ex, (HX x_members x_collaterals r.1 r.2.1 r.2.2.1 r.2.2.2.1 r.2.2.2.2.1 r.2.2.2.2.2.1 bk_whens bk_sides bk_quantities bk_limits r.2.2.2.2.2.2.1 r.2.2.2.2.2.2.2.1 ag_words r.2.2.2.2.2.2.2.2.1 r.2.2.2.2.2.2.2.2.2.1 r.2.2.2.2.2.2.2.2.2.2.1 mk_entries mk_slots mk_remainders mk_blocks mk_blockBids mk_blockOffers mk_entryCount mk_blockCount cv_limits cv_bids cv_offers cv_count cv_allBids cv_allOffers cv_meetingPrice cv_sureBids cv_sureOffers cv_priceBids cv_priceOffers cv_volume cv_worth oc_prices oc_volumes oc_filled oc_worth oc_takenSet r.2.2.2.2.2.2.2.2.2.2.2, hT), 0, 0)) 2 [(0, .ref 0), (1, .int x1)] [] ex (HX x_members x_collaterals x_hasSent x_isSealed x_metered x_sealedCount bk_counts bk_needs bk_whens bk_sides bk_quantities bk_limits ag_toldLies ag_passedLies ag_words ag_vectors ag_liarOperator ag_rounds mk_entries mk_slots mk_remainders mk_blocks mk_blockBids mk_blockOffers mk_entryCount mk_blockCount cv_limits cv_bids cv_offers cv_count cv_allBids cv_allOffers cv_meetingPrice cv_sureBids cv_sureOffers cv_priceBids cv_priceOffers cv_volume cv_worth oc_prices oc_volumes oc_filled oc_worth oc_takenSet oc_isDone, hT) 0 0 (f_x_nextDay_L2 n x_hasSent x_isSealed x_metered x_sealedCount bk_counts bk_needs ag_toldLies ag_passedLies ag_vectors ag_liarOperator ag_rounds oc_isDone x1) := by
    intro n
    induction n with
    | zero => intro x_hasSent x_isSealed x_metered x_sealedCount bk_counts bk_needs ag_toldLies ag_passedLies ag_vectors ag_liarOperator ag_rounds oc_isDone x1; exact mr_none
    | succ n ih =>
      intro x_hasSent x_isSealed x_metered x_sealedCount bk_counts bk_needs ag_toldLies ag_passedLies ag_vectors ag_liarOperator ag_rounds oc_isDone x1
      rw [f_x_nextDay_L2]
      refine mr_iload_n d_x_nextDay_2 rfl rfl ?_
      refine mr_bipush (v := 6) d_x_nextDay_3 mc_bipush_6 ?_
      refine mr_icmp_ge (tgt := 28) d_x_nextDay_5 (by decide) ?_ ?_
      · refine mr_aload_n d_x_nextDay_28 rfl rfl ?_
        refine mr_iconst (v := 0) d_x_nextDay_29 mc_iconst_0 ?_
        refine mr_put (h2 := (HX x_members x_collaterals x_hasSent x_isSealed x_metered 0 bk_counts bk_needs bk_whens bk_sides bk_quantities bk_limits ag_toldLies ag_passedLies ag_words ag_vectors ag_liarOperator ag_rounds mk_entries mk_slots mk_remainders mk_blocks mk_blockBids mk_blockOffers mk_entryCount mk_blockCount cv_limits cv_bids cv_offers cv_count cv_allBids cv_allOffers cv_meetingPrice cv_sureBids cv_sureOffers cv_priceBids cv_priceOffers cv_volume cv_worth oc_prices oc_volumes oc_filled oc_worth oc_takenSet oc_isDone, hT)) K_x 9 d_x_nextDay_30 lk_f_x_57 (by decide) rfl rfl rfl (Nat.le_of_ble_eq_true rfl) rfl rfl ?_
        refine mr_iconst (v := 0) d_x_nextDay_33 mc_iconst_0 ?_
        refine mr_istore_n (lv' := [(1, .int 0), (0, .ref 0)]) d_x_nextDay_34 rfl (by decide) rfl ?_
        refine mr_sub (lv' := [(0, .ref 0), (1, .int 0)]) [1, 0] rfl ?_
        exact w_L35 1000 _ _ _ _ _ _ _ _ _ _ _ _ _
      · refine mr_aload_n d_x_nextDay_8 rfl rfl ?_
        refine mr_get K_x 2 d_x_nextDay_9 lk_f_x_17 (by decide) rfl rfl ?_
        refine mr_iload_n d_x_nextDay_12 rfl rfl ?_
        refine mr_iconst (v := 0) d_x_nextDay_13 mc_iconst_0 ?_
        refine mr_zast (h2 := (HX x_members x_collaterals (upd x_hasSent x1.toNatClampNeg (vp_nar .boolean 0)) x_isSealed x_metered x_sealedCount bk_counts bk_needs bk_whens bk_sides bk_quantities bk_limits ag_toldLies ag_passedLies ag_words ag_vectors ag_liarOperator ag_rounds mk_entries mk_slots mk_remainders mk_blocks mk_blockBids mk_blockOffers mk_entryCount mk_blockCount cv_limits cv_bids cv_offers cv_count cv_allBids cv_allOffers cv_meetingPrice cv_sureBids cv_sureOffers cv_priceBids cv_priceOffers cv_volume cv_worth oc_prices oc_volumes oc_filled oc_worth oc_takenSet oc_isDone, hT)) d_x_nextDay_14 rfl rfl (fun hc1 => ?_)
        refine mr_aload_n d_x_nextDay_15 rfl rfl ?_
        refine mr_get K_x 3 d_x_nextDay_16 lk_f_x_21 (by decide) rfl rfl ?_
        refine mr_iload_n d_x_nextDay_19 rfl rfl ?_
        refine mr_iconst (v := 0) d_x_nextDay_20 mc_iconst_0 ?_
        refine mr_zastK (h2 := (HX x_members x_collaterals (upd x_hasSent x1.toNatClampNeg (vp_nar .boolean 0)) (upd x_isSealed x1.toNatClampNeg (vp_nar .boolean 0)) x_metered x_sealedCount bk_counts bk_needs bk_whens bk_sides bk_quantities bk_limits ag_toldLies ag_passedLies ag_words ag_vectors ag_liarOperator ag_rounds mk_entries mk_slots mk_remainders mk_blocks mk_blockBids mk_blockOffers mk_entryCount mk_blockCount cv_limits cv_bids cv_offers cv_count cv_allBids cv_allOffers cv_meetingPrice cv_sureBids cv_sureOffers cv_priceBids cv_priceOffers cv_volume cv_worth oc_prices oc_volumes oc_filled oc_worth oc_takenSet oc_isDone, hT)) d_x_nextDay_21 rfl rfl hc1 ?_
        refine mr_iinc (v := (x1 + 1)) (lv' := [(1, .int (x1 + 1)), (0, .ref 0)]) d_x_nextDay_22 rfl rfl (by decide) rfl ?_
        refine mr_goto (tgt := 2) d_x_nextDay_25 (by decide) ?_
        refine mr_sub (lv' := [(0, .ref 0), (1, .int (x1 + 1))]) [1, 0] rfl ?_
        exact ih _ _ _ _ _ _ _ _ _ _ _ _ _
  refine mz_of (by decide) (Nat.le_of_ble_eq_true rfl) ?_
  rw [f_x_nextDay]
  show mz_A g M_x_nextDay (mz_rm 1) _ 0 [(0, .ref 0)] [] ex (HX x_members x_collaterals x_hasSent x_isSealed x_metered x_sealedCount bk_counts bk_needs bk_whens bk_sides bk_quantities bk_limits ag_toldLies ag_passedLies ag_words ag_vectors ag_liarOperator ag_rounds mk_entries mk_slots mk_remainders mk_blocks mk_blockBids mk_blockOffers mk_entryCount mk_blockCount cv_limits cv_bids cv_offers cv_count cv_allBids cv_allOffers cv_meetingPrice cv_sureBids cv_sureOffers cv_priceBids cv_priceOffers cv_volume cv_worth oc_prices oc_volumes oc_filled oc_worth oc_takenSet oc_isDone, hT) 0 0 _
  refine mr_iconst (v := 0) d_x_nextDay_0 mc_iconst_0 ?_
  refine mr_istore_n (lv' := [(1, .int 0), (0, .ref 0)]) d_x_nextDay_1 rfl (by decide) rfl ?_
  refine mr_sub (lv' := [(0, .ref 0), (1, .int 0)]) [1, 0] rfl ?_
  exact w_L2 1000 _ _ _ _ _ _ _ _ _ _ _ _ _
