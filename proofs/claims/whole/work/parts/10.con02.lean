set_option maxRecDepth 100000 in
set_option maxHeartbeats 4000000 in
theorem e_mk_load {g : mz_G} {ex : Bool} {hT : List mz_E} {x_members : Int32} {x_collaterals : Nat → Int32} {x_hasSent : Nat → Int32} {x_isSealed : Nat → Int32} {x_metered : Nat → Int32} {x_sealedCount : Int32} {bk_counts : Nat → Int32} {bk_needs : Nat → Int64} {bk_whens : Nat → Int32} {bk_sides : Nat → Int32} {bk_quantities : Nat → Int32} {bk_limits : Nat → Int32} {ag_toldLies : Nat → Int32} {ag_passedLies : Nat → Int32} {ag_words : Nat → Int32} {ag_vectors : Nat → Int32} {ag_liarOperator : Int32} {ag_rounds : Int32} {mk_entries : Nat → Int32} {mk_slots : Nat → Int32} {mk_remainders : Nat → Int32} {mk_blocks : Nat → Int32} {mk_blockBids : Nat → Int32} {mk_blockOffers : Nat → Int32} {mk_entryCount : Int32} {mk_blockCount : Int32} {cv_limits : Nat → Nat → Int32} {cv_bids : Nat → Nat → Int32} {cv_offers : Nat → Nat → Int32} {cv_count : Nat → Int32} {cv_allBids : Nat → Int32} {cv_allOffers : Nat → Int32} {cv_meetingPrice : Nat → Int32} {cv_sureBids : Nat → Int32} {cv_sureOffers : Nat → Int32} {cv_priceBids : Nat → Int32} {cv_priceOffers : Nat → Int32} {cv_volume : Nat → Int32} {cv_worth : Nat → Int64} {oc_prices : Nat → Nat → Int32} {oc_volumes : Nat → Nat → Int32} {oc_filled : Nat → Nat → Int32} {oc_worth : Nat → Int64} {oc_takenSet : Nat → Int32} {oc_isDone : Nat → Int32} {x2 : Int32} {x3 : Int32} : mz_M g M_mk_load 3 [.ref 17, .ref 12, .int x2, .int x3] ex (HX x_members x_collaterals x_hasSent x_isSealed x_metered x_sealedCount bk_counts bk_needs bk_whens bk_sides bk_quantities bk_limits ag_toldLies ag_passedLies ag_words ag_vectors ag_liarOperator ag_rounds mk_entries mk_slots mk_remainders mk_blocks mk_blockBids mk_blockOffers mk_entryCount mk_blockCount cv_limits cv_bids cv_offers cv_count cv_allBids cv_allOffers cv_meetingPrice cv_sureBids cv_sureOffers cv_priceBids cv_priceOffers cv_volume cv_worth oc_prices oc_volumes oc_filled oc_worth oc_takenSet oc_isDone, hT) (f_mk_load bk_counts bk_whens bk_sides bk_quantities bk_limits ag_vectors mk_entries mk_slots mk_blocks mk_entryCount mk_blockCount cv_limits cv_bids cv_offers cv_count cv_allBids cv_allOffers x2 x3) (fun r => (0, none, ex, (HX x_members x_collaterals x_hasSent x_isSealed x_metered x_sealedCount bk_counts bk_needs bk_whens bk_sides bk_quantities bk_limits ag_toldLies ag_passedLies ag_words ag_vectors ag_liarOperator ag_rounds r.1 r.2.1 mk_remainders r.2.2.1 mk_blockBids mk_blockOffers r.2.2.2.1 r.2.2.2.2.1 r.2.2.2.2.2.1 r.2.2.2.2.2.2.1 r.2.2.2.2.2.2.2.1 r.2.2.2.2.2.2.2.2.1 r.2.2.2.2.2.2.2.2.2.1 r.2.2.2.2.2.2.2.2.2.2 cv_meetingPrice cv_sureBids cv_sureOffers cv_priceBids cv_priceOffers cv_volume cv_worth oc_prices oc_volumes oc_filled oc_worth oc_takenSet oc_isDone, hT), 0, 0)) := by
  have w_L56 : ∀ (K38 : (Nat → Int32) → (Nat → Int32) → (Nat → Int32) → Int32 → Int32 → (Nat → Nat → Int32) → (Nat → Nat → Int32) → (Nat → Nat → Int32) → (Nat → Int32) → (Nat → Int32) → (Nat → Int32) → Int32 → Option ((Nat → Int32) × (Nat → Int32) × (Nat → Int32) × Int32 × Int32 × (Nat → Nat → Int32) × (Nat → Nat → Int32) × (Nat → Nat → Int32) × (Nat → Int32) × (Nat → Int32) × (Nat → Int32))), (∀ (mk_entries : Nat → Int32) (mk_slots : Nat → Int32) (mk_blocks : Nat → Int32) (mk_entryCount : Int32) (mk_blockCount : Int32) (cv_limits : Nat → Nat → Int32) (cv_bids : Nat → Nat → Int32) (cv_offers : Nat → Nat → Int32) (cv_count : Nat → Int32) (cv_allBids : Nat → Int32) (cv_allOffers : Nat → Int32) (x4 : Int32), mz_A g M_mk_load (mz_rm 3) (fun r => (0, none, ex, (HX x_members x_collaterals x_hasSent x_isSealed x_metered x_sealedCount bk_counts bk_needs bk_whens bk_sides bk_quantities bk_limits ag_toldLies ag_passedLies ag_words ag_vectors ag_liarOperator ag_rounds r.1 r.2.1 mk_remainders r.2.2.1 mk_blockBids mk_blockOffers r.2.2.2.1 r.2.2.2.2.1 r.2.2.2.2.2.1 r.2.2.2.2.2.2.1 r.2.2.2.2.2.2.2.1 r.2.2.2.2.2.2.2.2.1 r.2.2.2.2.2.2.2.2.2.1 r.2.2.2.2.2.2.2.2.2.2 cv_meetingPrice cv_sureBids cv_sureOffers cv_priceBids cv_priceOffers cv_volume cv_worth oc_prices oc_volumes oc_filled oc_worth oc_takenSet oc_isDone, hT), 0, 0)) 38 [(0, .ref 17), (1, .ref 12), (2, .int x2), (3, .int x3), (4, .int x4)] [] ex (HX x_members x_collaterals x_hasSent x_isSealed x_metered x_sealedCount bk_counts bk_needs bk_whens bk_sides bk_quantities bk_limits ag_toldLies ag_passedLies ag_words ag_vectors ag_liarOperator ag_rounds mk_entries mk_slots mk_remainders mk_blocks mk_blockBids mk_blockOffers mk_entryCount mk_blockCount cv_limits cv_bids cv_offers cv_count cv_allBids cv_allOffers cv_meetingPrice cv_sureBids cv_sureOffers cv_priceBids cv_priceOffers cv_volume cv_worth oc_prices oc_volumes oc_filled oc_worth oc_takenSet oc_isDone, hT) 0 0 (K38 mk_entries mk_slots mk_blocks mk_entryCount mk_blockCount cv_limits cv_bids cv_offers cv_count cv_allBids cv_allOffers x4)) → ∀ (n : Nat) (mk_entries : Nat → Int32) (mk_slots : Nat → Int32) (mk_blocks : Nat → Int32) (mk_entryCount : Int32) (mk_blockCount : Int32) (cv_limits : Nat → Nat → Int32) (cv_bids : Nat → Nat → Int32) (cv_offers : Nat → Nat → Int32) (cv_count : Nat → Int32) (cv_allBids : Nat → Int32) (cv_allOffers : Nat → Int32) (x4 : Int32) (x5 : Int32) (x6 : Int32), mz_A g M_mk_load (mz_rm 3) (fun r => (0, none, ex, (HX x_members x_collaterals x_hasSent x_isSealed x_metered x_sealedCount bk_counts bk_needs bk_whens bk_sides bk_quantities bk_limits ag_toldLies ag_passedLies ag_words ag_vectors ag_liarOperator ag_rounds r.1 r.2.1 mk_remainders r.2.2.1 mk_blockBids mk_blockOffers r.2.2.2.1 r.2.2.2.2.1 r.2.2.2.2.2.1 r.2.2.2.2.2.2.1 r.2.2.2.2.2.2.2.1 r.2.2.2.2.2.2.2.2.1 r.2.2.2.2.2.2.2.2.2.1 r.2.2.2.2.2.2.2.2.2.2 cv_meetingPrice cv_sureBids cv_sureOffers cv_priceBids cv_priceOffers cv_volume cv_worth oc_prices oc_volumes oc_filled oc_worth oc_takenSet oc_isDone, hT), 0, 0)) 56 [(0, .ref 17), (1, .ref 12), (2, .int x2), (3, .int x3), (4, .int x4), (5, .int x5), (6, .int x6)] [] ex (HX x_members x_collaterals x_hasSent x_isSealed x_metered x_sealedCount bk_counts bk_needs bk_whens bk_sides bk_quantities bk_limits ag_toldLies ag_passedLies ag_words ag_vectors ag_liarOperator ag_rounds mk_entries mk_slots mk_remainders mk_blocks mk_blockBids mk_blockOffers mk_entryCount mk_blockCount cv_limits cv_bids cv_offers cv_count cv_allBids cv_allOffers cv_meetingPrice cv_sureBids cv_sureOffers cv_priceBids cv_priceOffers cv_volume cv_worth oc_prices oc_volumes oc_filled oc_worth oc_takenSet oc_isDone, hT) 0 0 (f_mk_load_L56 bk_counts bk_whens bk_sides bk_quantities bk_limits ag_vectors x2 x3 K38 n mk_entries mk_slots mk_blocks mk_entryCount mk_blockCount cv_limits cv_bids cv_offers cv_count cv_allBids cv_allOffers x4 x5 x6) := by
    intro K38 hK38
    intro n
    induction n with
    | zero => intro mk_entries mk_slots mk_blocks mk_entryCount mk_blockCount cv_limits cv_bids cv_offers cv_count cv_allBids cv_allOffers x4 x5 x6; exact mr_none
    | succ n ih =>
      intro mk_entries mk_slots mk_blocks mk_entryCount mk_blockCount cv_limits cv_bids cv_offers cv_count cv_allBids cv_allOffers x4 x5 x6
      rw [f_mk_load_L56]
      refine mr_iload d_mk_load_56 rfl ?_
      refine mr_aload_n d_mk_load_58 rfl rfl ?_
      refine mr_get K_mk 0 d_mk_load_59 lk_f_mk_9 (by decide) rfl rfl ?_
      refine mr_getN K_bk 0 d_mk_load_62 lk_f_mk_57 (by decide) rfl rfl ?_
      refine mr_iload d_mk_load_65 rfl ?_
      refine mr_iald d_mk_load_67 rfl (fun hc4 => ?_)
      refine mr_icmp_ge (tgt := 97) d_mk_load_68 (by decide) ?_ ?_
      · refine mr_iinc (v := (x4 + 1)) (lv' := [(4, .int (x4 + 1)), (0, .ref 17), (1, .ref 12), (2, .int x2), (3, .int x3), (5, .int x5), (6, .int x6)]) d_mk_load_97 rfl rfl (by decide) rfl ?_
        refine mr_goto (tgt := 38) d_mk_load_100 (by decide) ?_
        refine mr_sub (lv' := [(0, .ref 17), (1, .ref 12), (2, .int x2), (3, .int x3), (4, .int (x4 + 1))]) [1, 2, 3, 4, 0] rfl ?_
        exact hK38 _ _ _ _ _ _ _ _ _ _ _ _
      · refine mr_aload_n d_mk_load_71 rfl rfl ?_
        refine mr_bipush (v := 10) d_mk_load_72 mc_bipush_10 ?_
        refine mr_iload d_mk_load_74 rfl ?_
        refine mr_imul d_mk_load_76 ?_
        refine mr_iload d_mk_load_77 rfl ?_
        refine mr_iadd d_mk_load_79 ?_
        refine mr_bipush (v := 10) d_mk_load_80 mc_bipush_10 ?_
        refine mr_iload d_mk_load_82 rfl ?_
        refine mr_imul d_mk_load_84 ?_
        refine mr_iload d_mk_load_85 rfl ?_
        refine mr_iadd d_mk_load_87 ?_
        refine mz_go (st := []) e_mk_addEntry (fun _ => rfl) U_mk_addEntry (mz_vV d_mk_load_88 U_mk_addEntry rfl lk_m_mk_62 I_mk_addEntry s_mk_addEntry np_mk_addEntry rfl rfl) (Nat.le_of_ble_eq_true rfl) (by decide) (fun r5 => ?_)
        refine mr_eq (st' := []) (ex' := ex) (h2 := (HX x_members x_collaterals x_hasSent x_isSealed x_metered x_sealedCount bk_counts bk_needs bk_whens bk_sides bk_quantities bk_limits ag_toldLies ag_passedLies ag_words ag_vectors ag_liarOperator ag_rounds r5.1 r5.2.1 mk_remainders r5.2.2.1 mk_blockBids mk_blockOffers r5.2.2.2.1 r5.2.2.2.2.1 r5.2.2.2.2.2.1 r5.2.2.2.2.2.2.1 r5.2.2.2.2.2.2.2.1 r5.2.2.2.2.2.2.2.2.1 r5.2.2.2.2.2.2.2.2.2.1 r5.2.2.2.2.2.2.2.2.2.2 cv_meetingPrice cv_sureBids cv_sureOffers cv_priceBids cv_priceOffers cv_volume cv_worth oc_prices oc_volumes oc_filled oc_worth oc_takenSet oc_isDone, hT)) (k' := 0) (n' := 0) rfl rfl rfl rfl rfl ?_
        refine mr_iinc (v := (x6 + 1)) (lv' := [(6, .int (x6 + 1)), (0, .ref 17), (1, .ref 12), (2, .int x2), (3, .int x3), (4, .int x4), (5, .int x5)]) d_mk_load_91 rfl rfl (by decide) rfl ?_
        refine mr_goto (tgt := 56) d_mk_load_94 (by decide) ?_
        refine mr_sub (lv' := [(0, .ref 17), (1, .ref 12), (2, .int x2), (3, .int x3), (4, .int x4), (5, .int x5), (6, .int (x6 + 1))]) [1, 2, 3, 4, 5, 6, 0] rfl ?_
        exact ih _ _ _ _ _ _ _ _ _ _ _ _ _ _
  have w_L38 : ∀ (n : Nat) (mk_entries : Nat → Int32) (mk_slots : Nat → Int32) (mk_blocks : Nat → Int32) (mk_entryCount : Int32) (mk_blockCount : Int32) (cv_limits : Nat → Nat → Int32) (cv_bids : Nat → Nat → Int32) (cv_offers : Nat → Nat → Int32) (cv_count : Nat → Int32) (cv_allBids : Nat → Int32) (cv_allOffers : Nat → Int32) (x4 : Int32), mz_A g M_mk_load (mz_rm 3) (fun r => (0, none, ex, (HX x_members x_collaterals x_hasSent x_isSealed x_metered x_sealedCount bk_counts bk_needs bk_whens bk_sides bk_quantities bk_limits ag_toldLies ag_passedLies ag_words ag_vectors ag_liarOperator ag_rounds r.1 r.2.1 mk_remainders r.2.2.1 mk_blockBids mk_blockOffers r.2.2.2.1 r.2.2.2.2.1 r.2.2.2.2.2.1 r.2.2.2.2.2.2.1 r.2.2.2.2.2.2.2.1 r.2.2.2.2.2.2.2.2.1 r.2.2.2.2.2.2.2.2.2.1 r.2.2.2.2.2.2.2.2.2.2 cv_meetingPrice cv_sureBids cv_sureOffers cv_priceBids cv_priceOffers cv_volume cv_worth oc_prices oc_volumes oc_filled oc_worth oc_takenSet oc_isDone, hT), 0, 0)) 38 [(0, .ref 17), (1, .ref 12), (2, .int x2), (3, .int x3), (4, .int x4)] [] ex (HX x_members x_collaterals x_hasSent x_isSealed x_metered x_sealedCount bk_counts bk_needs bk_whens bk_sides bk_quantities bk_limits ag_toldLies ag_passedLies ag_words ag_vectors ag_liarOperator ag_rounds mk_entries mk_slots mk_remainders mk_blocks mk_blockBids mk_blockOffers mk_entryCount mk_blockCount cv_limits cv_bids cv_offers cv_count cv_allBids cv_allOffers cv_meetingPrice cv_sureBids cv_sureOffers cv_priceBids cv_priceOffers cv_volume cv_worth oc_prices oc_volumes oc_filled oc_worth oc_takenSet oc_isDone, hT) 0 0 (f_mk_load_L38 bk_counts bk_whens bk_sides bk_quantities bk_limits ag_vectors x2 x3 n mk_entries mk_slots mk_blocks mk_entryCount mk_blockCount cv_limits cv_bids cv_offers cv_count cv_allBids cv_allOffers x4) := by
    intro n
    induction n with
    | zero => intro mk_entries mk_slots mk_blocks mk_entryCount mk_blockCount cv_limits cv_bids cv_offers cv_count cv_allBids cv_allOffers x4; exact mr_none
    | succ n ih =>
      intro mk_entries mk_slots mk_blocks mk_entryCount mk_blockCount cv_limits cv_bids cv_offers cv_count cv_allBids cv_allOffers x4
      rw [f_mk_load_L38]
      refine mr_iload d_mk_load_38 rfl ?_
      refine mr_iload_n d_mk_load_40 rfl rfl ?_
      refine mr_icmp_ge (tgt := 103) d_mk_load_41 (by decide) ?_ ?_
      · exact mr_vret d_mk_load_103 rfl rfl
      · refine mr_aload_n d_mk_load_44 rfl rfl ?_
        refine mr_iload_n d_mk_load_45 rfl rfl ?_
        refine mr_iload d_mk_load_46 rfl ?_
        refine mz_go (st := []) e_ag_agreedBook (fun _ => rfl) U_ag_agreedBook (mz_vV d_mk_load_48 U_ag_agreedBook rfl lk_m_mk_51 I_ag_agreedBook s_ag_agreedBook np_ag_agreedBook rfl rfl) (Nat.le_of_ble_eq_true rfl) (by decide) (fun r3 => ?_)
        refine mr_eq (st' := [.int r3]) (ex' := ex) (h2 := (HX x_members x_collaterals x_hasSent x_isSealed x_metered x_sealedCount bk_counts bk_needs bk_whens bk_sides bk_quantities bk_limits ag_toldLies ag_passedLies ag_words ag_vectors ag_liarOperator ag_rounds mk_entries mk_slots mk_remainders mk_blocks mk_blockBids mk_blockOffers mk_entryCount mk_blockCount cv_limits cv_bids cv_offers cv_count cv_allBids cv_allOffers cv_meetingPrice cv_sureBids cv_sureOffers cv_priceBids cv_priceOffers cv_volume cv_worth oc_prices oc_volumes oc_filled oc_worth oc_takenSet oc_isDone, hT)) (k' := 0) (n' := 0) rfl rfl rfl rfl rfl ?_
        refine mr_istore (lv' := [(5, .int r3), (0, .ref 17), (1, .ref 12), (2, .int x2), (3, .int x3), (4, .int x4)]) d_mk_load_51 (by decide) rfl ?_
        refine mr_iconst (v := 0) d_mk_load_53 mc_iconst_0 ?_
        refine mr_istore (lv' := [(6, .int 0), (5, .int r3), (0, .ref 17), (1, .ref 12), (2, .int x2), (3, .int x3), (4, .int x4)]) d_mk_load_54 (by decide) rfl ?_
        refine mr_sub (lv' := [(0, .ref 17), (1, .ref 12), (2, .int x2), (3, .int x3), (4, .int x4), (5, .int r3), (6, .int 0)]) [2, 3, 4, 5, 6, 1, 0] rfl ?_
        exact w_L56 _ ih 1000 _ _ _ _ _ _ _ _ _ _ _ _ _ _
  have w_L13 : ∀ (n : Nat) (mk_entries : Nat → Int32) (mk_slots : Nat → Int32) (mk_blocks : Nat → Int32) (mk_entryCount : Int32) (mk_blockCount : Int32) (cv_limits : Nat → Nat → Int32) (cv_bids : Nat → Nat → Int32) (cv_offers : Nat → Nat → Int32) (cv_count : Nat → Int32) (cv_allBids : Nat → Int32) (cv_allOffers : Nat → Int32) (x4 : Int32), mz_A g M_mk_load (mz_rm 3) (fun r => (0, none, ex, (HX x_members x_collaterals x_hasSent x_isSealed x_metered x_sealedCount bk_counts bk_needs bk_whens bk_sides bk_quantities bk_limits ag_toldLies ag_passedLies ag_words ag_vectors ag_liarOperator ag_rounds r.1 r.2.1 mk_remainders r.2.2.1 mk_blockBids mk_blockOffers r.2.2.2.1 r.2.2.2.2.1 r.2.2.2.2.2.1 r.2.2.2.2.2.2.1 r.2.2.2.2.2.2.2.1 r.2.2.2.2.2.2.2.2.1 r.2.2.2.2.2.2.2.2.2.1 r.2.2.2.2.2.2.2.2.2.2 cv_meetingPrice cv_sureBids cv_sureOffers cv_priceBids cv_priceOffers cv_volume cv_worth oc_prices oc_volumes oc_filled oc_worth oc_takenSet oc_isDone, hT), 0, 0)) 13 [(0, .ref 17), (1, .ref 12), (2, .int x2), (3, .int x3), (4, .int x4)] [] ex (HX x_members x_collaterals x_hasSent x_isSealed x_metered x_sealedCount bk_counts bk_needs bk_whens bk_sides bk_quantities bk_limits ag_toldLies ag_passedLies ag_words ag_vectors ag_liarOperator ag_rounds mk_entries mk_slots mk_remainders mk_blocks mk_blockBids mk_blockOffers mk_entryCount mk_blockCount cv_limits cv_bids cv_offers cv_count cv_allBids cv_allOffers cv_meetingPrice cv_sureBids cv_sureOffers cv_priceBids cv_priceOffers cv_volume cv_worth oc_prices oc_volumes oc_filled oc_worth oc_takenSet oc_isDone, hT) 0 0 (f_mk_load_L13 bk_counts bk_whens bk_sides bk_quantities bk_limits ag_vectors x2 x3 n mk_entries mk_slots mk_blocks mk_entryCount mk_blockCount cv_limits cv_bids cv_offers cv_count cv_allBids cv_allOffers x4) := by
    intro n
    induction n with
    | zero => intro mk_entries mk_slots mk_blocks mk_entryCount mk_blockCount cv_limits cv_bids cv_offers cv_count cv_allBids cv_allOffers x4; exact mr_none
    | succ n ih =>
      intro mk_entries mk_slots mk_blocks mk_entryCount mk_blockCount cv_limits cv_bids cv_offers cv_count cv_allBids cv_allOffers x4
      rw [f_mk_load_L13]
      refine mr_iload d_mk_load_13 rfl ?_
      refine mr_iconst (v := 3) d_mk_load_15 mc_iconst_3 ?_
      refine mr_icmp_ge (tgt := 35) d_mk_load_16 (by decide) ?_ ?_
      · refine mr_iconst (v := 0) d_mk_load_35 mc_iconst_0 ?_
        refine mr_istore (lv' := [(4, .int 0), (0, .ref 17), (1, .ref 12), (2, .int x2), (3, .int x3)]) d_mk_load_36 (by decide) rfl ?_
        refine mr_sub (lv' := [(0, .ref 17), (1, .ref 12), (2, .int x2), (3, .int x3), (4, .int 0)]) [1, 2, 3, 4, 0] rfl ?_
        exact w_L38 1000 _ _ _ _ _ _ _ _ _ _ _ _
      · refine mr_aload_n d_mk_load_19 rfl rfl ?_
        refine mr_get K_mk 1 d_mk_load_20 lk_f_mk_17 (by decide) rfl rfl ?_
        refine mr_iload d_mk_load_23 rfl ?_
        refine mr_aald d_mk_load_25 (fun _ => rfl) rfl (fun _ => rfl) (fun hc1 => ?_)
        refine mz_go (st := []) (e_c_empty (mz_lt hc1)) (fun _ => rfl) U_c_empty (mz_vV d_mk_load_26 U_c_empty rfl lk_m_mk_48 I_c_empty s_c_empty np_c_empty (gt_c (mz_lt hc1)) rfl) (Nat.le_of_ble_eq_true rfl) (by decide) (fun r2 => ?_)
        refine mr_eq (st' := []) (ex' := ex) (h2 := (HX x_members x_collaterals x_hasSent x_isSealed x_metered x_sealedCount bk_counts bk_needs bk_whens bk_sides bk_quantities bk_limits ag_toldLies ag_passedLies ag_words ag_vectors ag_liarOperator ag_rounds mk_entries mk_slots mk_remainders mk_blocks mk_blockBids mk_blockOffers mk_entryCount mk_blockCount cv_limits cv_bids cv_offers (va_up cv_count x4.toNatClampNeg r2.1) (va_up cv_allBids x4.toNatClampNeg r2.2.1) (va_up cv_allOffers x4.toNatClampNeg r2.2.2) cv_meetingPrice cv_sureBids cv_sureOffers cv_priceBids cv_priceOffers cv_volume cv_worth oc_prices oc_volumes oc_filled oc_worth oc_takenSet oc_isDone, hT)) (k' := 0) (n' := 0) rfl rfl rfl rfl rfl ?_
        refine mr_iinc (v := (x4 + 1)) (lv' := [(4, .int (x4 + 1)), (0, .ref 17), (1, .ref 12), (2, .int x2), (3, .int x3)]) d_mk_load_29 rfl rfl (by decide) rfl ?_
        refine mr_goto (tgt := 13) d_mk_load_32 (by decide) ?_
        refine mr_sub (lv' := [(0, .ref 17), (1, .ref 12), (2, .int x2), (3, .int x3), (4, .int (x4 + 1))]) [1, 2, 3, 4, 0] rfl ?_
        exact ih _ _ _ _ _ _ _ _ _ _ _ _
  refine mz_of (by decide) (Nat.le_of_ble_eq_true rfl) ?_
  rw [f_mk_load]
  show mz_A g M_mk_load (mz_rm 3) _ 0 [(0, .ref 17), (1, .ref 12), (2, .int x2), (3, .int x3)] [] ex (HX x_members x_collaterals x_hasSent x_isSealed x_metered x_sealedCount bk_counts bk_needs bk_whens bk_sides bk_quantities bk_limits ag_toldLies ag_passedLies ag_words ag_vectors ag_liarOperator ag_rounds mk_entries mk_slots mk_remainders mk_blocks mk_blockBids mk_blockOffers mk_entryCount mk_blockCount cv_limits cv_bids cv_offers cv_count cv_allBids cv_allOffers cv_meetingPrice cv_sureBids cv_sureOffers cv_priceBids cv_priceOffers cv_volume cv_worth oc_prices oc_volumes oc_filled oc_worth oc_takenSet oc_isDone, hT) 0 0 _
  refine mr_aload_n d_mk_load_0 rfl rfl ?_
  refine mr_iconst (v := 0) d_mk_load_1 mc_iconst_0 ?_
  refine mr_put (h2 := (HX x_members x_collaterals x_hasSent x_isSealed x_metered x_sealedCount bk_counts bk_needs bk_whens bk_sides bk_quantities bk_limits ag_toldLies ag_passedLies ag_words ag_vectors ag_liarOperator ag_rounds mk_entries mk_slots mk_remainders mk_blocks mk_blockBids mk_blockOffers 0 mk_blockCount cv_limits cv_bids cv_offers cv_count cv_allBids cv_allOffers cv_meetingPrice cv_sureBids cv_sureOffers cv_priceBids cv_priceOffers cv_volume cv_worth oc_prices oc_volumes oc_filled oc_worth oc_takenSet oc_isDone, hT)) K_mk 8 d_mk_load_2 lk_f_mk_41 (by decide) rfl rfl rfl (Nat.le_of_ble_eq_true rfl) rfl rfl ?_
  refine mr_aload_n d_mk_load_5 rfl rfl ?_
  refine mr_iconst (v := 0) d_mk_load_6 mc_iconst_0 ?_
  refine mr_put (h2 := (HX x_members x_collaterals x_hasSent x_isSealed x_metered x_sealedCount bk_counts bk_needs bk_whens bk_sides bk_quantities bk_limits ag_toldLies ag_passedLies ag_words ag_vectors ag_liarOperator ag_rounds mk_entries mk_slots mk_remainders mk_blocks mk_blockBids mk_blockOffers 0 0 cv_limits cv_bids cv_offers cv_count cv_allBids cv_allOffers cv_meetingPrice cv_sureBids cv_sureOffers cv_priceBids cv_priceOffers cv_volume cv_worth oc_prices oc_volumes oc_filled oc_worth oc_takenSet oc_isDone, hT)) K_mk 9 d_mk_load_7 lk_f_mk_45 (by decide) rfl rfl rfl (Nat.le_of_ble_eq_true rfl) rfl rfl ?_
  refine mr_iconst (v := 0) d_mk_load_10 mc_iconst_0 ?_
  refine mr_istore (lv' := [(4, .int 0), (0, .ref 17), (1, .ref 12), (2, .int x2), (3, .int x3)]) d_mk_load_11 (by decide) rfl ?_
  refine mr_sub (lv' := [(0, .ref 17), (1, .ref 12), (2, .int x2), (3, .int x3), (4, .int 0)]) [1, 2, 3, 4, 0] rfl ?_
  exact w_L13 1000 _ _ _ _ _ _ _ _ _ _ _ _
set_option maxRecDepth 100000 in
set_option maxHeartbeats 4000000 in
theorem e_c_greatestServing_0 {g : mz_G} {ex : Bool} {hT : List mz_E} {x_members : Int32} {x_collaterals : Nat → Int32} {x_hasSent : Nat → Int32} {x_isSealed : Nat → Int32} {x_metered : Nat → Int32} {x_sealedCount : Int32} {bk_counts : Nat → Int32} {bk_needs : Nat → Int64} {bk_whens : Nat → Int32} {bk_sides : Nat → Int32} {bk_quantities : Nat → Int32} {bk_limits : Nat → Int32} {ag_toldLies : Nat → Int32} {ag_passedLies : Nat → Int32} {ag_words : Nat → Int32} {ag_vectors : Nat → Int32} {ag_liarOperator : Int32} {ag_rounds : Int32} {mk_entries : Nat → Int32} {mk_slots : Nat → Int32} {mk_remainders : Nat → Int32} {mk_blocks : Nat → Int32} {mk_blockBids : Nat → Int32} {mk_blockOffers : Nat → Int32} {mk_entryCount : Int32} {mk_blockCount : Int32} {cv_limits : Nat → Nat → Int32} {cv_bids : Nat → Nat → Int32} {cv_offers : Nat → Nat → Int32} {cv_count : Nat → Int32} {cv_allBids : Nat → Int32} {cv_allOffers : Nat → Int32} {cv_meetingPrice : Nat → Int32} {cv_sureBids : Nat → Int32} {cv_sureOffers : Nat → Int32} {cv_priceBids : Nat → Int32} {cv_priceOffers : Nat → Int32} {cv_volume : Nat → Int32} {cv_worth : Nat → Int64} {oc_prices : Nat → Nat → Int32} {oc_volumes : Nat → Nat → Int32} {oc_filled : Nat → Nat → Int32} {oc_worth : Nat → Int64} {oc_takenSet : Nat → Int32} {oc_isDone : Nat → Int32} {x1 : Int32} : mz_M g M_c_greatestServing 0 [.ref 19, .int x1] ex (HX x_members x_collaterals x_hasSent x_isSealed x_metered x_sealedCount bk_counts bk_needs bk_whens bk_sides bk_quantities bk_limits ag_toldLies ag_passedLies ag_words ag_vectors ag_liarOperator ag_rounds mk_entries mk_slots mk_remainders mk_blocks mk_blockBids mk_blockOffers mk_entryCount mk_blockCount cv_limits cv_bids cv_offers cv_count cv_allBids cv_allOffers cv_meetingPrice cv_sureBids cv_sureOffers cv_priceBids cv_priceOffers cv_volume cv_worth oc_prices oc_volumes oc_filled oc_worth oc_takenSet oc_isDone, hT) (f_c_greatestServing (cv_limits 0) (cv_bids 0) (cv_offers 0) (cv_count 0) (cv_allOffers 0) x1) (fun r => (0, some (.int r), ex, (HX x_members x_collaterals x_hasSent x_isSealed x_metered x_sealedCount bk_counts bk_needs bk_whens bk_sides bk_quantities bk_limits ag_toldLies ag_passedLies ag_words ag_vectors ag_liarOperator ag_rounds mk_entries mk_slots mk_remainders mk_blocks mk_blockBids mk_blockOffers mk_entryCount mk_blockCount cv_limits cv_bids cv_offers cv_count cv_allBids cv_allOffers cv_meetingPrice cv_sureBids cv_sureOffers cv_priceBids cv_priceOffers cv_volume cv_worth oc_prices oc_volumes oc_filled oc_worth oc_takenSet oc_isDone, hT), 0, 0)) := by
  have w_L21 : ∀ (n : Nat) (x2 : Int32) (x3 : Int32), mz_A g M_c_greatestServing (mz_rm 0) (fun r => (0, some (.int r), ex, (HX x_members x_collaterals x_hasSent x_isSealed x_metered x_sealedCount bk_counts bk_needs bk_whens bk_sides bk_quantities bk_limits ag_toldLies ag_passedLies ag_words ag_vectors ag_liarOperator ag_rounds mk_entries mk_slots mk_remainders mk_blocks mk_blockBids mk_blockOffers mk_entryCount mk_blockCount cv_limits cv_bids cv_offers cv_count cv_allBids cv_allOffers cv_meetingPrice cv_sureBids cv_sureOffers cv_priceBids cv_priceOffers cv_volume cv_worth oc_prices oc_volumes oc_filled oc_worth oc_takenSet oc_isDone, hT), 0, 0)) 21 [(0, .ref 19), (2, .int x2), (3, .int x3)] [] ex (HX x_members x_collaterals x_hasSent x_isSealed x_metered x_sealedCount bk_counts bk_needs bk_whens bk_sides bk_quantities bk_limits ag_toldLies ag_passedLies ag_words ag_vectors ag_liarOperator ag_rounds mk_entries mk_slots mk_remainders mk_blocks mk_blockBids mk_blockOffers mk_entryCount mk_blockCount cv_limits cv_bids cv_offers cv_count cv_allBids cv_allOffers cv_meetingPrice cv_sureBids cv_sureOffers cv_priceBids cv_priceOffers cv_volume cv_worth oc_prices oc_volumes oc_filled oc_worth oc_takenSet oc_isDone, hT) 0 0 (f_c_greatestServing_L21 (cv_limits 0) (cv_bids 0) (cv_offers 0) (cv_count 0) (cv_allOffers 0) n x2 x3) := by
    intro n
    induction n with
    | zero => intro x2 x3; exact mr_none
    | succ n ih =>
      intro x2 x3
      rw [f_c_greatestServing_L21]
      refine mr_iload_n d_c_greatestServing_21 rfl rfl ?_
      refine mr_if_lt (tgt := 58) d_c_greatestServing_22 (by decide) ?_ ?_
      · refine mr_sipush (v := (-5001)) d_c_greatestServing_58 mc_sipush_m5001 ?_
        exact mr_iret d_c_greatestServing_61 rfl rfl
      · refine mr_iload_n d_c_greatestServing_25 rfl rfl ?_
        refine mr_aload_n d_c_greatestServing_26 rfl rfl ?_
        refine mr_get K_c 1 d_c_greatestServing_27 lk_f_c_15 (by decide) rfl rfl ?_
        refine mr_iload_n d_c_greatestServing_30 rfl rfl ?_
        refine mr_iald d_c_greatestServing_31 rfl (fun hc1 => ?_)
        refine mr_aload_n d_c_greatestServing_32 rfl rfl ?_
        refine mr_get K_c 2 d_c_greatestServing_33 lk_f_c_18 (by decide) rfl rfl ?_
        refine mr_iload_n d_c_greatestServing_36 rfl rfl ?_
        refine mr_ialdK d_c_greatestServing_37 rfl hc1 ?_
        refine mr_iadd d_c_greatestServing_38 ?_
        refine mr_iadd d_c_greatestServing_39 ?_
        refine mr_istore_n (lv' := [(2, .int (x2 + (((cv_bids 0) x3.toNatClampNeg) + ((cv_offers 0) x3.toNatClampNeg)))), (0, .ref 19), (3, .int x3)]) d_c_greatestServing_40 rfl (by decide) rfl ?_
        refine mr_iload_n d_c_greatestServing_41 rfl rfl ?_
        refine mr_if_lt (tgt := 52) d_c_greatestServing_42 (by decide) ?_ ?_
        · refine mr_iinc (v := (x3 + (-1))) (lv' := [(3, .int (x3 + (-1))), (2, .int (x2 + (((cv_bids 0) x3.toNatClampNeg) + ((cv_offers 0) x3.toNatClampNeg)))), (0, .ref 19)]) d_c_greatestServing_52 rfl rfl (by decide) rfl ?_
          refine mr_goto (tgt := 21) d_c_greatestServing_55 (by decide) ?_
          refine mr_sub (lv' := [(0, .ref 19), (2, .int (x2 + (((cv_bids 0) x3.toNatClampNeg) + ((cv_offers 0) x3.toNatClampNeg)))), (3, .int (x3 + (-1)))]) [2, 1, 0] rfl ?_
          exact ih _ _
        · refine mr_aload_n d_c_greatestServing_45 rfl rfl ?_
          refine mr_get K_c 0 d_c_greatestServing_46 lk_f_c_9 (by decide) rfl rfl ?_
          refine mr_iload_n d_c_greatestServing_49 rfl rfl ?_
          refine mr_ialdK d_c_greatestServing_50 rfl hc1 ?_
          exact mr_iret d_c_greatestServing_51 rfl rfl
  refine mz_of (by decide) (Nat.le_of_ble_eq_true rfl) ?_
  rw [f_c_greatestServing]
  show mz_A g M_c_greatestServing (mz_rm 0) _ 0 [(0, .ref 19), (1, .int x1)] [] ex (HX x_members x_collaterals x_hasSent x_isSealed x_metered x_sealedCount bk_counts bk_needs bk_whens bk_sides bk_quantities bk_limits ag_toldLies ag_passedLies ag_words ag_vectors ag_liarOperator ag_rounds mk_entries mk_slots mk_remainders mk_blocks mk_blockBids mk_blockOffers mk_entryCount mk_blockCount cv_limits cv_bids cv_offers cv_count cv_allBids cv_allOffers cv_meetingPrice cv_sureBids cv_sureOffers cv_priceBids cv_priceOffers cv_volume cv_worth oc_prices oc_volumes oc_filled oc_worth oc_takenSet oc_isDone, hT) 0 0 _
  refine mr_iload_n d_c_greatestServing_0 rfl rfl ?_
  refine mr_aload_n d_c_greatestServing_1 rfl rfl ?_
  refine mr_get K_c 5 d_c_greatestServing_2 lk_f_c_28 (by decide) rfl rfl ?_
  refine mr_isub d_c_greatestServing_5 ?_
  refine mr_istore_n (lv' := [(2, .int (x1 - (cv_allOffers 0))), (0, .ref 19), (1, .int x1)]) d_c_greatestServing_6 rfl (by decide) rfl ?_
  refine mr_iload_n d_c_greatestServing_7 rfl rfl ?_
  refine mr_if_lt (tgt := 14) d_c_greatestServing_8 (by decide) ?_ ?_
  · refine mr_aload_n d_c_greatestServing_14 rfl rfl ?_
    refine mr_get K_c 3 d_c_greatestServing_15 lk_f_c_21 (by decide) rfl rfl ?_
    refine mr_iconst (v := 1) d_c_greatestServing_18 mc_iconst_1 ?_
    refine mr_isub d_c_greatestServing_19 ?_
    refine mr_istore_n (lv' := [(3, .int ((cv_count 0) - 1)), (2, .int (x1 - (cv_allOffers 0))), (0, .ref 19), (1, .int x1)]) d_c_greatestServing_20 rfl (by decide) rfl ?_
    refine mr_sub (lv' := [(0, .ref 19), (2, .int (x1 - (cv_allOffers 0))), (3, .int ((cv_count 0) - 1))]) [2, 1, 0] rfl ?_
    exact w_L21 1000 _ _
  · refine mr_ldc (v := 40000) d_c_greatestServing_11 lk_k_c_51 ?_
    exact mr_iret d_c_greatestServing_13 rfl rfl
set_option maxRecDepth 100000 in
set_option maxHeartbeats 4000000 in
theorem e_c_greatestServing_1 {g : mz_G} {ex : Bool} {hT : List mz_E} {x_members : Int32} {x_collaterals : Nat → Int32} {x_hasSent : Nat → Int32} {x_isSealed : Nat → Int32} {x_metered : Nat → Int32} {x_sealedCount : Int32} {bk_counts : Nat → Int32} {bk_needs : Nat → Int64} {bk_whens : Nat → Int32} {bk_sides : Nat → Int32} {bk_quantities : Nat → Int32} {bk_limits : Nat → Int32} {ag_toldLies : Nat → Int32} {ag_passedLies : Nat → Int32} {ag_words : Nat → Int32} {ag_vectors : Nat → Int32} {ag_liarOperator : Int32} {ag_rounds : Int32} {mk_entries : Nat → Int32} {mk_slots : Nat → Int32} {mk_remainders : Nat → Int32} {mk_blocks : Nat → Int32} {mk_blockBids : Nat → Int32} {mk_blockOffers : Nat → Int32} {mk_entryCount : Int32} {mk_blockCount : Int32} {cv_limits : Nat → Nat → Int32} {cv_bids : Nat → Nat → Int32} {cv_offers : Nat → Nat → Int32} {cv_count : Nat → Int32} {cv_allBids : Nat → Int32} {cv_allOffers : Nat → Int32} {cv_meetingPrice : Nat → Int32} {cv_sureBids : Nat → Int32} {cv_sureOffers : Nat → Int32} {cv_priceBids : Nat → Int32} {cv_priceOffers : Nat → Int32} {cv_volume : Nat → Int32} {cv_worth : Nat → Int64} {oc_prices : Nat → Nat → Int32} {oc_volumes : Nat → Nat → Int32} {oc_filled : Nat → Nat → Int32} {oc_worth : Nat → Int64} {oc_takenSet : Nat → Int32} {oc_isDone : Nat → Int32} {x1 : Int32} : mz_M g M_c_greatestServing 0 [.ref 23, .int x1] ex (HX x_members x_collaterals x_hasSent x_isSealed x_metered x_sealedCount bk_counts bk_needs bk_whens bk_sides bk_quantities bk_limits ag_toldLies ag_passedLies ag_words ag_vectors ag_liarOperator ag_rounds mk_entries mk_slots mk_remainders mk_blocks mk_blockBids mk_blockOffers mk_entryCount mk_blockCount cv_limits cv_bids cv_offers cv_count cv_allBids cv_allOffers cv_meetingPrice cv_sureBids cv_sureOffers cv_priceBids cv_priceOffers cv_volume cv_worth oc_prices oc_volumes oc_filled oc_worth oc_takenSet oc_isDone, hT) (f_c_greatestServing (cv_limits 1) (cv_bids 1) (cv_offers 1) (cv_count 1) (cv_allOffers 1) x1) (fun r => (0, some (.int r), ex, (HX x_members x_collaterals x_hasSent x_isSealed x_metered x_sealedCount bk_counts bk_needs bk_whens bk_sides bk_quantities bk_limits ag_toldLies ag_passedLies ag_words ag_vectors ag_liarOperator ag_rounds mk_entries mk_slots mk_remainders mk_blocks mk_blockBids mk_blockOffers mk_entryCount mk_blockCount cv_limits cv_bids cv_offers cv_count cv_allBids cv_allOffers cv_meetingPrice cv_sureBids cv_sureOffers cv_priceBids cv_priceOffers cv_volume cv_worth oc_prices oc_volumes oc_filled oc_worth oc_takenSet oc_isDone, hT), 0, 0)) := by
  have w_L21 : ∀ (n : Nat) (x2 : Int32) (x3 : Int32), mz_A g M_c_greatestServing (mz_rm 0) (fun r => (0, some (.int r), ex, (HX x_members x_collaterals x_hasSent x_isSealed x_metered x_sealedCount bk_counts bk_needs bk_whens bk_sides bk_quantities bk_limits ag_toldLies ag_passedLies ag_words ag_vectors ag_liarOperator ag_rounds mk_entries mk_slots mk_remainders mk_blocks mk_blockBids mk_blockOffers mk_entryCount mk_blockCount cv_limits cv_bids cv_offers cv_count cv_allBids cv_allOffers cv_meetingPrice cv_sureBids cv_sureOffers cv_priceBids cv_priceOffers cv_volume cv_worth oc_prices oc_volumes oc_filled oc_worth oc_takenSet oc_isDone, hT), 0, 0)) 21 [(0, .ref 23), (2, .int x2), (3, .int x3)] [] ex (HX x_members x_collaterals x_hasSent x_isSealed x_metered x_sealedCount bk_counts bk_needs bk_whens bk_sides bk_quantities bk_limits ag_toldLies ag_passedLies ag_words ag_vectors ag_liarOperator ag_rounds mk_entries mk_slots mk_remainders mk_blocks mk_blockBids mk_blockOffers mk_entryCount mk_blockCount cv_limits cv_bids cv_offers cv_count cv_allBids cv_allOffers cv_meetingPrice cv_sureBids cv_sureOffers cv_priceBids cv_priceOffers cv_volume cv_worth oc_prices oc_volumes oc_filled oc_worth oc_takenSet oc_isDone, hT) 0 0 (f_c_greatestServing_L21 (cv_limits 1) (cv_bids 1) (cv_offers 1) (cv_count 1) (cv_allOffers 1) n x2 x3) := by
    intro n
    induction n with
    | zero => intro x2 x3; exact mr_none
    | succ n ih =>
      intro x2 x3
      rw [f_c_greatestServing_L21]
      refine mr_iload_n d_c_greatestServing_21 rfl rfl ?_
      refine mr_if_lt (tgt := 58) d_c_greatestServing_22 (by decide) ?_ ?_
      · refine mr_sipush (v := (-5001)) d_c_greatestServing_58 mc_sipush_m5001 ?_
        exact mr_iret d_c_greatestServing_61 rfl rfl
      · refine mr_iload_n d_c_greatestServing_25 rfl rfl ?_
        refine mr_aload_n d_c_greatestServing_26 rfl rfl ?_
        refine mr_get K_c 1 d_c_greatestServing_27 lk_f_c_15 (by decide) rfl rfl ?_
        refine mr_iload_n d_c_greatestServing_30 rfl rfl ?_
        refine mr_iald d_c_greatestServing_31 rfl (fun hc1 => ?_)
        refine mr_aload_n d_c_greatestServing_32 rfl rfl ?_
        refine mr_get K_c 2 d_c_greatestServing_33 lk_f_c_18 (by decide) rfl rfl ?_
        refine mr_iload_n d_c_greatestServing_36 rfl rfl ?_
        refine mr_ialdK d_c_greatestServing_37 rfl hc1 ?_
        refine mr_iadd d_c_greatestServing_38 ?_
        refine mr_iadd d_c_greatestServing_39 ?_
        refine mr_istore_n (lv' := [(2, .int (x2 + (((cv_bids 1) x3.toNatClampNeg) + ((cv_offers 1) x3.toNatClampNeg)))), (0, .ref 23), (3, .int x3)]) d_c_greatestServing_40 rfl (by decide) rfl ?_
        refine mr_iload_n d_c_greatestServing_41 rfl rfl ?_
        refine mr_if_lt (tgt := 52) d_c_greatestServing_42 (by decide) ?_ ?_
        · refine mr_iinc (v := (x3 + (-1))) (lv' := [(3, .int (x3 + (-1))), (2, .int (x2 + (((cv_bids 1) x3.toNatClampNeg) + ((cv_offers 1) x3.toNatClampNeg)))), (0, .ref 23)]) d_c_greatestServing_52 rfl rfl (by decide) rfl ?_
          refine mr_goto (tgt := 21) d_c_greatestServing_55 (by decide) ?_
          refine mr_sub (lv' := [(0, .ref 23), (2, .int (x2 + (((cv_bids 1) x3.toNatClampNeg) + ((cv_offers 1) x3.toNatClampNeg)))), (3, .int (x3 + (-1)))]) [2, 1, 0] rfl ?_
          exact ih _ _
        · refine mr_aload_n d_c_greatestServing_45 rfl rfl ?_
          refine mr_get K_c 0 d_c_greatestServing_46 lk_f_c_9 (by decide) rfl rfl ?_
          refine mr_iload_n d_c_greatestServing_49 rfl rfl ?_
          refine mr_ialdK d_c_greatestServing_50 rfl hc1 ?_
          exact mr_iret d_c_greatestServing_51 rfl rfl
  refine mz_of (by decide) (Nat.le_of_ble_eq_true rfl) ?_
  rw [f_c_greatestServing]
  show mz_A g M_c_greatestServing (mz_rm 0) _ 0 [(0, .ref 23), (1, .int x1)] [] ex (HX x_members x_collaterals x_hasSent x_isSealed x_metered x_sealedCount bk_counts bk_needs bk_whens bk_sides bk_quantities bk_limits ag_toldLies ag_passedLies ag_words ag_vectors ag_liarOperator ag_rounds mk_entries mk_slots mk_remainders mk_blocks mk_blockBids mk_blockOffers mk_entryCount mk_blockCount cv_limits cv_bids cv_offers cv_count cv_allBids cv_allOffers cv_meetingPrice cv_sureBids cv_sureOffers cv_priceBids cv_priceOffers cv_volume cv_worth oc_prices oc_volumes oc_filled oc_worth oc_takenSet oc_isDone, hT) 0 0 _
  refine mr_iload_n d_c_greatestServing_0 rfl rfl ?_
  refine mr_aload_n d_c_greatestServing_1 rfl rfl ?_
  refine mr_get K_c 5 d_c_greatestServing_2 lk_f_c_28 (by decide) rfl rfl ?_
  refine mr_isub d_c_greatestServing_5 ?_
  refine mr_istore_n (lv' := [(2, .int (x1 - (cv_allOffers 1))), (0, .ref 23), (1, .int x1)]) d_c_greatestServing_6 rfl (by decide) rfl ?_
  refine mr_iload_n d_c_greatestServing_7 rfl rfl ?_
  refine mr_if_lt (tgt := 14) d_c_greatestServing_8 (by decide) ?_ ?_
  · refine mr_aload_n d_c_greatestServing_14 rfl rfl ?_
    refine mr_get K_c 3 d_c_greatestServing_15 lk_f_c_21 (by decide) rfl rfl ?_
    refine mr_iconst (v := 1) d_c_greatestServing_18 mc_iconst_1 ?_
    refine mr_isub d_c_greatestServing_19 ?_
    refine mr_istore_n (lv' := [(3, .int ((cv_count 1) - 1)), (2, .int (x1 - (cv_allOffers 1))), (0, .ref 23), (1, .int x1)]) d_c_greatestServing_20 rfl (by decide) rfl ?_
    refine mr_sub (lv' := [(0, .ref 23), (2, .int (x1 - (cv_allOffers 1))), (3, .int ((cv_count 1) - 1))]) [2, 1, 0] rfl ?_
    exact w_L21 1000 _ _
  · refine mr_ldc (v := 40000) d_c_greatestServing_11 lk_k_c_51 ?_
    exact mr_iret d_c_greatestServing_13 rfl rfl
set_option maxRecDepth 100000 in
set_option maxHeartbeats 4000000 in
theorem e_c_greatestServing_2 {g : mz_G} {ex : Bool} {hT : List mz_E} {x_members : Int32} {x_collaterals : Nat → Int32} {x_hasSent : Nat → Int32} {x_isSealed : Nat → Int32} {x_metered : Nat → Int32} {x_sealedCount : Int32} {bk_counts : Nat → Int32} {bk_needs : Nat → Int64} {bk_whens : Nat → Int32} {bk_sides : Nat → Int32} {bk_quantities : Nat → Int32} {bk_limits : Nat → Int32} {ag_toldLies : Nat → Int32} {ag_passedLies : Nat → Int32} {ag_words : Nat → Int32} {ag_vectors : Nat → Int32} {ag_liarOperator : Int32} {ag_rounds : Int32} {mk_entries : Nat → Int32} {mk_slots : Nat → Int32} {mk_remainders : Nat → Int32} {mk_blocks : Nat → Int32} {mk_blockBids : Nat → Int32} {mk_blockOffers : Nat → Int32} {mk_entryCount : Int32} {mk_blockCount : Int32} {cv_limits : Nat → Nat → Int32} {cv_bids : Nat → Nat → Int32} {cv_offers : Nat → Nat → Int32} {cv_count : Nat → Int32} {cv_allBids : Nat → Int32} {cv_allOffers : Nat → Int32} {cv_meetingPrice : Nat → Int32} {cv_sureBids : Nat → Int32} {cv_sureOffers : Nat → Int32} {cv_priceBids : Nat → Int32} {cv_priceOffers : Nat → Int32} {cv_volume : Nat → Int32} {cv_worth : Nat → Int64} {oc_prices : Nat → Nat → Int32} {oc_volumes : Nat → Nat → Int32} {oc_filled : Nat → Nat → Int32} {oc_worth : Nat → Int64} {oc_takenSet : Nat → Int32} {oc_isDone : Nat → Int32} {x1 : Int32} : mz_M g M_c_greatestServing 0 [.ref 27, .int x1] ex (HX x_members x_collaterals x_hasSent x_isSealed x_metered x_sealedCount bk_counts bk_needs bk_whens bk_sides bk_quantities bk_limits ag_toldLies ag_passedLies ag_words ag_vectors ag_liarOperator ag_rounds mk_entries mk_slots mk_remainders mk_blocks mk_blockBids mk_blockOffers mk_entryCount mk_blockCount cv_limits cv_bids cv_offers cv_count cv_allBids cv_allOffers cv_meetingPrice cv_sureBids cv_sureOffers cv_priceBids cv_priceOffers cv_volume cv_worth oc_prices oc_volumes oc_filled oc_worth oc_takenSet oc_isDone, hT) (f_c_greatestServing (cv_limits 2) (cv_bids 2) (cv_offers 2) (cv_count 2) (cv_allOffers 2) x1) (fun r => (0, some (.int r), ex, (HX x_members x_collaterals x_hasSent x_isSealed x_metered x_sealedCount bk_counts bk_needs bk_whens bk_sides bk_quantities bk_limits ag_toldLies ag_passedLies ag_words ag_vectors ag_liarOperator ag_rounds mk_entries mk_slots mk_remainders mk_blocks mk_blockBids mk_blockOffers mk_entryCount mk_blockCount cv_limits cv_bids cv_offers cv_count cv_allBids cv_allOffers cv_meetingPrice cv_sureBids cv_sureOffers cv_priceBids cv_priceOffers cv_volume cv_worth oc_prices oc_volumes oc_filled oc_worth oc_takenSet oc_isDone, hT), 0, 0)) := by
  have w_L21 : ∀ (n : Nat) (x2 : Int32) (x3 : Int32), mz_A g M_c_greatestServing (mz_rm 0) (fun r => (0, some (.int r), ex, (HX x_members x_collaterals x_hasSent x_isSealed x_metered x_sealedCount bk_counts bk_needs bk_whens bk_sides bk_quantities bk_limits ag_toldLies ag_passedLies ag_words ag_vectors ag_liarOperator ag_rounds mk_entries mk_slots mk_remainders mk_blocks mk_blockBids mk_blockOffers mk_entryCount mk_blockCount cv_limits cv_bids cv_offers cv_count cv_allBids cv_allOffers cv_meetingPrice cv_sureBids cv_sureOffers cv_priceBids cv_priceOffers cv_volume cv_worth oc_prices oc_volumes oc_filled oc_worth oc_takenSet oc_isDone, hT), 0, 0)) 21 [(0, .ref 27), (2, .int x2), (3, .int x3)] [] ex (HX x_members x_collaterals x_hasSent x_isSealed x_metered x_sealedCount bk_counts bk_needs bk_whens bk_sides bk_quantities bk_limits ag_toldLies ag_passedLies ag_words ag_vectors ag_liarOperator ag_rounds mk_entries mk_slots mk_remainders mk_blocks mk_blockBids mk_blockOffers mk_entryCount mk_blockCount cv_limits cv_bids cv_offers cv_count cv_allBids cv_allOffers cv_meetingPrice cv_sureBids cv_sureOffers cv_priceBids cv_priceOffers cv_volume cv_worth oc_prices oc_volumes oc_filled oc_worth oc_takenSet oc_isDone, hT) 0 0 (f_c_greatestServing_L21 (cv_limits 2) (cv_bids 2) (cv_offers 2) (cv_count 2) (cv_allOffers 2) n x2 x3) := by
    intro n
    induction n with
    | zero => intro x2 x3; exact mr_none
    | succ n ih =>
      intro x2 x3
      rw [f_c_greatestServing_L21]
      refine mr_iload_n d_c_greatestServing_21 rfl rfl ?_
      refine mr_if_lt (tgt := 58) d_c_greatestServing_22 (by decide) ?_ ?_
      · refine mr_sipush (v := (-5001)) d_c_greatestServing_58 mc_sipush_m5001 ?_
        exact mr_iret d_c_greatestServing_61 rfl rfl
      · refine mr_iload_n d_c_greatestServing_25 rfl rfl ?_
        refine mr_aload_n d_c_greatestServing_26 rfl rfl ?_
        refine mr_get K_c 1 d_c_greatestServing_27 lk_f_c_15 (by decide) rfl rfl ?_
        refine mr_iload_n d_c_greatestServing_30 rfl rfl ?_
        refine mr_iald d_c_greatestServing_31 rfl (fun hc1 => ?_)
        refine mr_aload_n d_c_greatestServing_32 rfl rfl ?_
        refine mr_get K_c 2 d_c_greatestServing_33 lk_f_c_18 (by decide) rfl rfl ?_
        refine mr_iload_n d_c_greatestServing_36 rfl rfl ?_
        refine mr_ialdK d_c_greatestServing_37 rfl hc1 ?_
        refine mr_iadd d_c_greatestServing_38 ?_
        refine mr_iadd d_c_greatestServing_39 ?_
        refine mr_istore_n (lv' := [(2, .int (x2 + (((cv_bids 2) x3.toNatClampNeg) + ((cv_offers 2) x3.toNatClampNeg)))), (0, .ref 27), (3, .int x3)]) d_c_greatestServing_40 rfl (by decide) rfl ?_
        refine mr_iload_n d_c_greatestServing_41 rfl rfl ?_
        refine mr_if_lt (tgt := 52) d_c_greatestServing_42 (by decide) ?_ ?_
        · refine mr_iinc (v := (x3 + (-1))) (lv' := [(3, .int (x3 + (-1))), (2, .int (x2 + (((cv_bids 2) x3.toNatClampNeg) + ((cv_offers 2) x3.toNatClampNeg)))), (0, .ref 27)]) d_c_greatestServing_52 rfl rfl (by decide) rfl ?_
          refine mr_goto (tgt := 21) d_c_greatestServing_55 (by decide) ?_
          refine mr_sub (lv' := [(0, .ref 27), (2, .int (x2 + (((cv_bids 2) x3.toNatClampNeg) + ((cv_offers 2) x3.toNatClampNeg)))), (3, .int (x3 + (-1)))]) [2, 1, 0] rfl ?_
          exact ih _ _
        · refine mr_aload_n d_c_greatestServing_45 rfl rfl ?_
          refine mr_get K_c 0 d_c_greatestServing_46 lk_f_c_9 (by decide) rfl rfl ?_
          refine mr_iload_n d_c_greatestServing_49 rfl rfl ?_
          refine mr_ialdK d_c_greatestServing_50 rfl hc1 ?_
          exact mr_iret d_c_greatestServing_51 rfl rfl
  refine mz_of (by decide) (Nat.le_of_ble_eq_true rfl) ?_
  rw [f_c_greatestServing]
  show mz_A g M_c_greatestServing (mz_rm 0) _ 0 [(0, .ref 27), (1, .int x1)] [] ex (HX x_members x_collaterals x_hasSent x_isSealed x_metered x_sealedCount bk_counts bk_needs bk_whens bk_sides bk_quantities bk_limits ag_toldLies ag_passedLies ag_words ag_vectors ag_liarOperator ag_rounds mk_entries mk_slots mk_remainders mk_blocks mk_blockBids mk_blockOffers mk_entryCount mk_blockCount cv_limits cv_bids cv_offers cv_count cv_allBids cv_allOffers cv_meetingPrice cv_sureBids cv_sureOffers cv_priceBids cv_priceOffers cv_volume cv_worth oc_prices oc_volumes oc_filled oc_worth oc_takenSet oc_isDone, hT) 0 0 _
  refine mr_iload_n d_c_greatestServing_0 rfl rfl ?_
  refine mr_aload_n d_c_greatestServing_1 rfl rfl ?_
  refine mr_get K_c 5 d_c_greatestServing_2 lk_f_c_28 (by decide) rfl rfl ?_
  refine mr_isub d_c_greatestServing_5 ?_
  refine mr_istore_n (lv' := [(2, .int (x1 - (cv_allOffers 2))), (0, .ref 27), (1, .int x1)]) d_c_greatestServing_6 rfl (by decide) rfl ?_
  refine mr_iload_n d_c_greatestServing_7 rfl rfl ?_
  refine mr_if_lt (tgt := 14) d_c_greatestServing_8 (by decide) ?_ ?_
  · refine mr_aload_n d_c_greatestServing_14 rfl rfl ?_
    refine mr_get K_c 3 d_c_greatestServing_15 lk_f_c_21 (by decide) rfl rfl ?_
    refine mr_iconst (v := 1) d_c_greatestServing_18 mc_iconst_1 ?_
    refine mr_isub d_c_greatestServing_19 ?_
    refine mr_istore_n (lv' := [(3, .int ((cv_count 2) - 1)), (2, .int (x1 - (cv_allOffers 2))), (0, .ref 27), (1, .int x1)]) d_c_greatestServing_20 rfl (by decide) rfl ?_
    refine mr_sub (lv' := [(0, .ref 27), (2, .int (x1 - (cv_allOffers 2))), (3, .int ((cv_count 2) - 1))]) [2, 1, 0] rfl ?_
    exact w_L21 1000 _ _
  · refine mr_ldc (v := 40000) d_c_greatestServing_11 lk_k_c_51 ?_
    exact mr_iret d_c_greatestServing_13 rfl rfl
theorem e_c_greatestServing {g : mz_G} {ex : Bool} {hT : List mz_E} {x_members : Int32} {x_collaterals : Nat → Int32} {x_hasSent : Nat → Int32} {x_isSealed : Nat → Int32} {x_metered : Nat → Int32} {x_sealedCount : Int32} {bk_counts : Nat → Int32} {bk_needs : Nat → Int64} {bk_whens : Nat → Int32} {bk_sides : Nat → Int32} {bk_quantities : Nat → Int32} {bk_limits : Nat → Int32} {ag_toldLies : Nat → Int32} {ag_passedLies : Nat → Int32} {ag_words : Nat → Int32} {ag_vectors : Nat → Int32} {ag_liarOperator : Int32} {ag_rounds : Int32} {mk_entries : Nat → Int32} {mk_slots : Nat → Int32} {mk_remainders : Nat → Int32} {mk_blocks : Nat → Int32} {mk_blockBids : Nat → Int32} {mk_blockOffers : Nat → Int32} {mk_entryCount : Int32} {mk_blockCount : Int32} {cv_limits : Nat → Nat → Int32} {cv_bids : Nat → Nat → Int32} {cv_offers : Nat → Nat → Int32} {cv_count : Nat → Int32} {cv_allBids : Nat → Int32} {cv_allOffers : Nat → Int32} {cv_meetingPrice : Nat → Int32} {cv_sureBids : Nat → Int32} {cv_sureOffers : Nat → Int32} {cv_priceBids : Nat → Int32} {cv_priceOffers : Nat → Int32} {cv_volume : Nat → Int32} {cv_worth : Nat → Int64} {oc_prices : Nat → Nat → Int32} {oc_volumes : Nat → Nat → Int32} {oc_filled : Nat → Nat → Int32} {oc_worth : Nat → Int64} {oc_takenSet : Nat → Int32} {oc_isDone : Nat → Int32} {x1 : Int32} {j : Nat} (hj : j < 3) : mz_M g M_c_greatestServing 0 [.ref (19 + 4 * j), .int x1] ex (HX x_members x_collaterals x_hasSent x_isSealed x_metered x_sealedCount bk_counts bk_needs bk_whens bk_sides bk_quantities bk_limits ag_toldLies ag_passedLies ag_words ag_vectors ag_liarOperator ag_rounds mk_entries mk_slots mk_remainders mk_blocks mk_blockBids mk_blockOffers mk_entryCount mk_blockCount cv_limits cv_bids cv_offers cv_count cv_allBids cv_allOffers cv_meetingPrice cv_sureBids cv_sureOffers cv_priceBids cv_priceOffers cv_volume cv_worth oc_prices oc_volumes oc_filled oc_worth oc_takenSet oc_isDone, hT) (f_c_greatestServing (cv_limits j) (cv_bids j) (cv_offers j) (cv_count j) (cv_allOffers j) x1) (fun r => (0, some (.int r), ex, (HX x_members x_collaterals x_hasSent x_isSealed x_metered x_sealedCount bk_counts bk_needs bk_whens bk_sides bk_quantities bk_limits ag_toldLies ag_passedLies ag_words ag_vectors ag_liarOperator ag_rounds mk_entries mk_slots mk_remainders mk_blocks mk_blockBids mk_blockOffers mk_entryCount mk_blockCount cv_limits cv_bids cv_offers cv_count cv_allBids cv_allOffers cv_meetingPrice cv_sureBids cv_sureOffers cv_priceBids cv_priceOffers cv_volume cv_worth oc_prices oc_volumes oc_filled oc_worth oc_takenSet oc_isDone, hT), 0, 0)) := match j, hj with | 0, _ => e_c_greatestServing_0 | 1, _ => e_c_greatestServing_1 | 2, _ => e_c_greatestServing_2 | j + 3, h => absurd h (by omega)
set_option maxRecDepth 100000 in
set_option maxHeartbeats 4000000 in
theorem e_c_leastServing_0 {g : mz_G} {ex : Bool} {hT : List mz_E} {x_members : Int32} {x_collaterals : Nat → Int32} {x_hasSent : Nat → Int32} {x_isSealed : Nat → Int32} {x_metered : Nat → Int32} {x_sealedCount : Int32} {bk_counts : Nat → Int32} {bk_needs : Nat → Int64} {bk_whens : Nat → Int32} {bk_sides : Nat → Int32} {bk_quantities : Nat → Int32} {bk_limits : Nat → Int32} {ag_toldLies : Nat → Int32} {ag_passedLies : Nat → Int32} {ag_words : Nat → Int32} {ag_vectors : Nat → Int32} {ag_liarOperator : Int32} {ag_rounds : Int32} {mk_entries : Nat → Int32} {mk_slots : Nat → Int32} {mk_remainders : Nat → Int32} {mk_blocks : Nat → Int32} {mk_blockBids : Nat → Int32} {mk_blockOffers : Nat → Int32} {mk_entryCount : Int32} {mk_blockCount : Int32} {cv_limits : Nat → Nat → Int32} {cv_bids : Nat → Nat → Int32} {cv_offers : Nat → Nat → Int32} {cv_count : Nat → Int32} {cv_allBids : Nat → Int32} {cv_allOffers : Nat → Int32} {cv_meetingPrice : Nat → Int32} {cv_sureBids : Nat → Int32} {cv_sureOffers : Nat → Int32} {cv_priceBids : Nat → Int32} {cv_priceOffers : Nat → Int32} {cv_volume : Nat → Int32} {cv_worth : Nat → Int64} {oc_prices : Nat → Nat → Int32} {oc_volumes : Nat → Nat → Int32} {oc_filled : Nat → Nat → Int32} {oc_worth : Nat → Int64} {oc_takenSet : Nat → Int32} {oc_isDone : Nat → Int32} {x1 : Int32} : mz_M g M_c_leastServing 0 [.ref 19, .int x1] ex (HX x_members x_collaterals x_hasSent x_isSealed x_metered x_sealedCount bk_counts bk_needs bk_whens bk_sides bk_quantities bk_limits ag_toldLies ag_passedLies ag_words ag_vectors ag_liarOperator ag_rounds mk_entries mk_slots mk_remainders mk_blocks mk_blockBids mk_blockOffers mk_entryCount mk_blockCount cv_limits cv_bids cv_offers cv_count cv_allBids cv_allOffers cv_meetingPrice cv_sureBids cv_sureOffers cv_priceBids cv_priceOffers cv_volume cv_worth oc_prices oc_volumes oc_filled oc_worth oc_takenSet oc_isDone, hT) (f_c_leastServing (cv_limits 0) (cv_bids 0) (cv_offers 0) (cv_count 0) (cv_allBids 0) x1) (fun r => (0, some (.int r), ex, (HX x_members x_collaterals x_hasSent x_isSealed x_metered x_sealedCount bk_counts bk_needs bk_whens bk_sides bk_quantities bk_limits ag_toldLies ag_passedLies ag_words ag_vectors ag_liarOperator ag_rounds mk_entries mk_slots mk_remainders mk_blocks mk_blockBids mk_blockOffers mk_entryCount mk_blockCount cv_limits cv_bids cv_offers cv_count cv_allBids cv_allOffers cv_meetingPrice cv_sureBids cv_sureOffers cv_priceBids cv_priceOffers cv_volume cv_worth oc_prices oc_volumes oc_filled oc_worth oc_takenSet oc_isDone, hT), 0, 0)) := by
  have w_L17 : ∀ (n : Nat) (x2 : Int32) (x3 : Int32), mz_A g M_c_leastServing (mz_rm 0) (fun r => (0, some (.int r), ex, (HX x_members x_collaterals x_hasSent x_isSealed x_metered x_sealedCount bk_counts bk_needs bk_whens bk_sides bk_quantities bk_limits ag_toldLies ag_passedLies ag_words ag_vectors ag_liarOperator ag_rounds mk_entries mk_slots mk_remainders mk_blocks mk_blockBids mk_blockOffers mk_entryCount mk_blockCount cv_limits cv_bids cv_offers cv_count cv_allBids cv_allOffers cv_meetingPrice cv_sureBids cv_sureOffers cv_priceBids cv_priceOffers cv_volume cv_worth oc_prices oc_volumes oc_filled oc_worth oc_takenSet oc_isDone, hT), 0, 0)) 17 [(0, .ref 19), (2, .int x2), (3, .int x3)] [] ex (HX x_members x_collaterals x_hasSent x_isSealed x_metered x_sealedCount bk_counts bk_needs bk_whens bk_sides bk_quantities bk_limits ag_toldLies ag_passedLies ag_words ag_vectors ag_liarOperator ag_rounds mk_entries mk_slots mk_remainders mk_blocks mk_blockBids mk_blockOffers mk_entryCount mk_blockCount cv_limits cv_bids cv_offers cv_count cv_allBids cv_allOffers cv_meetingPrice cv_sureBids cv_sureOffers cv_priceBids cv_priceOffers cv_volume cv_worth oc_prices oc_volumes oc_filled oc_worth oc_takenSet oc_isDone, hT) 0 0 (f_c_leastServing_L17 (cv_limits 0) (cv_bids 0) (cv_offers 0) (cv_count 0) (cv_allBids 0) n x2 x3) := by
    intro n
    induction n with
    | zero => intro x2 x3; exact mr_none
    | succ n ih =>
      intro x2 x3
      rw [f_c_leastServing_L17]
      refine mr_iload_n d_c_leastServing_17 rfl rfl ?_
      refine mr_aload_n d_c_leastServing_18 rfl rfl ?_
      refine mr_get K_c 3 d_c_leastServing_19 lk_f_c_21 (by decide) rfl rfl ?_
      refine mr_icmp_ge (tgt := 58) d_c_leastServing_22 (by decide) ?_ ?_
      · refine mr_ldc (v := 40001) d_c_leastServing_58 lk_k_c_50 ?_
        exact mr_iret d_c_leastServing_60 rfl rfl
      · refine mr_iload_n d_c_leastServing_25 rfl rfl ?_
        refine mr_aload_n d_c_leastServing_26 rfl rfl ?_
        refine mr_get K_c 1 d_c_leastServing_27 lk_f_c_15 (by decide) rfl rfl ?_
        refine mr_iload_n d_c_leastServing_30 rfl rfl ?_
        refine mr_iald d_c_leastServing_31 rfl (fun hc1 => ?_)
        refine mr_aload_n d_c_leastServing_32 rfl rfl ?_
        refine mr_get K_c 2 d_c_leastServing_33 lk_f_c_18 (by decide) rfl rfl ?_
        refine mr_iload_n d_c_leastServing_36 rfl rfl ?_
        refine mr_ialdK d_c_leastServing_37 rfl hc1 ?_
        refine mr_iadd d_c_leastServing_38 ?_
        refine mr_isub d_c_leastServing_39 ?_
        refine mr_istore_n (lv' := [(2, .int (x2 - (((cv_bids 0) x3.toNatClampNeg) + ((cv_offers 0) x3.toNatClampNeg)))), (0, .ref 19), (3, .int x3)]) d_c_leastServing_40 rfl (by decide) rfl ?_
        refine mr_iload_n d_c_leastServing_41 rfl rfl ?_
        refine mr_if_gt (tgt := 52) d_c_leastServing_42 (by decide) ?_ ?_
        · refine mr_iinc (v := (x3 + 1)) (lv' := [(3, .int (x3 + 1)), (2, .int (x2 - (((cv_bids 0) x3.toNatClampNeg) + ((cv_offers 0) x3.toNatClampNeg)))), (0, .ref 19)]) d_c_leastServing_52 rfl rfl (by decide) rfl ?_
          refine mr_goto (tgt := 17) d_c_leastServing_55 (by decide) ?_
          refine mr_sub (lv' := [(0, .ref 19), (2, .int (x2 - (((cv_bids 0) x3.toNatClampNeg) + ((cv_offers 0) x3.toNatClampNeg)))), (3, .int (x3 + 1))]) [2, 1, 0] rfl ?_
          exact ih _ _
        · refine mr_aload_n d_c_leastServing_45 rfl rfl ?_
          refine mr_get K_c 0 d_c_leastServing_46 lk_f_c_9 (by decide) rfl rfl ?_
          refine mr_iload_n d_c_leastServing_49 rfl rfl ?_
          refine mr_ialdK d_c_leastServing_50 rfl hc1 ?_
          exact mr_iret d_c_leastServing_51 rfl rfl
  refine mz_of (by decide) (Nat.le_of_ble_eq_true rfl) ?_
  rw [f_c_leastServing]
  show mz_A g M_c_leastServing (mz_rm 0) _ 0 [(0, .ref 19), (1, .int x1)] [] ex (HX x_members x_collaterals x_hasSent x_isSealed x_metered x_sealedCount bk_counts bk_needs bk_whens bk_sides bk_quantities bk_limits ag_toldLies ag_passedLies ag_words ag_vectors ag_liarOperator ag_rounds mk_entries mk_slots mk_remainders mk_blocks mk_blockBids mk_blockOffers mk_entryCount mk_blockCount cv_limits cv_bids cv_offers cv_count cv_allBids cv_allOffers cv_meetingPrice cv_sureBids cv_sureOffers cv_priceBids cv_priceOffers cv_volume cv_worth oc_prices oc_volumes oc_filled oc_worth oc_takenSet oc_isDone, hT) 0 0 _
  refine mr_iload_n d_c_leastServing_0 rfl rfl ?_
  refine mr_aload_n d_c_leastServing_1 rfl rfl ?_
  refine mr_get K_c 4 d_c_leastServing_2 lk_f_c_25 (by decide) rfl rfl ?_
  refine mr_iadd d_c_leastServing_5 ?_
  refine mr_istore_n (lv' := [(2, .int (x1 + (cv_allBids 0))), (0, .ref 19), (1, .int x1)]) d_c_leastServing_6 rfl (by decide) rfl ?_
  refine mr_iload_n d_c_leastServing_7 rfl rfl ?_
  refine mr_if_gt (tgt := 15) d_c_leastServing_8 (by decide) ?_ ?_
  · refine mr_iconst (v := 0) d_c_leastServing_15 mc_iconst_0 ?_
    refine mr_istore_n (lv' := [(3, .int 0), (2, .int (x1 + (cv_allBids 0))), (0, .ref 19), (1, .int x1)]) d_c_leastServing_16 rfl (by decide) rfl ?_
    refine mr_sub (lv' := [(0, .ref 19), (2, .int (x1 + (cv_allBids 0))), (3, .int 0)]) [2, 1, 0] rfl ?_
    exact w_L17 1000 _ _
  · refine mr_sipush (v := (-5000)) d_c_leastServing_11 mc_sipush_m5000 ?_
    exact mr_iret d_c_leastServing_14 rfl rfl
set_option maxRecDepth 100000 in
set_option maxHeartbeats 4000000 in
theorem e_c_leastServing_1 {g : mz_G} {ex : Bool} {hT : List mz_E} {x_members : Int32} {x_collaterals : Nat → Int32} {x_hasSent : Nat → Int32} {x_isSealed : Nat → Int32} {x_metered : Nat → Int32} {x_sealedCount : Int32} {bk_counts : Nat → Int32} {bk_needs : Nat → Int64} {bk_whens : Nat → Int32} {bk_sides : Nat → Int32} {bk_quantities : Nat → Int32} {bk_limits : Nat → Int32} {ag_toldLies : Nat → Int32} {ag_passedLies : Nat → Int32} {ag_words : Nat → Int32} {ag_vectors : Nat → Int32} {ag_liarOperator : Int32} {ag_rounds : Int32} {mk_entries : Nat → Int32} {mk_slots : Nat → Int32} {mk_remainders : Nat → Int32} {mk_blocks : Nat → Int32} {mk_blockBids : Nat → Int32} {mk_blockOffers : Nat → Int32} {mk_entryCount : Int32} {mk_blockCount : Int32} {cv_limits : Nat → Nat → Int32} {cv_bids : Nat → Nat → Int32} {cv_offers : Nat → Nat → Int32} {cv_count : Nat → Int32} {cv_allBids : Nat → Int32} {cv_allOffers : Nat → Int32} {cv_meetingPrice : Nat → Int32} {cv_sureBids : Nat → Int32} {cv_sureOffers : Nat → Int32} {cv_priceBids : Nat → Int32} {cv_priceOffers : Nat → Int32} {cv_volume : Nat → Int32} {cv_worth : Nat → Int64} {oc_prices : Nat → Nat → Int32} {oc_volumes : Nat → Nat → Int32} {oc_filled : Nat → Nat → Int32} {oc_worth : Nat → Int64} {oc_takenSet : Nat → Int32} {oc_isDone : Nat → Int32} {x1 : Int32} : mz_M g M_c_leastServing 0 [.ref 23, .int x1] ex (HX x_members x_collaterals x_hasSent x_isSealed x_metered x_sealedCount bk_counts bk_needs bk_whens bk_sides bk_quantities bk_limits ag_toldLies ag_passedLies ag_words ag_vectors ag_liarOperator ag_rounds mk_entries mk_slots mk_remainders mk_blocks mk_blockBids mk_blockOffers mk_entryCount mk_blockCount cv_limits cv_bids cv_offers cv_count cv_allBids cv_allOffers cv_meetingPrice cv_sureBids cv_sureOffers cv_priceBids cv_priceOffers cv_volume cv_worth oc_prices oc_volumes oc_filled oc_worth oc_takenSet oc_isDone, hT) (f_c_leastServing (cv_limits 1) (cv_bids 1) (cv_offers 1) (cv_count 1) (cv_allBids 1) x1) (fun r => (0, some (.int r), ex, (HX x_members x_collaterals x_hasSent x_isSealed x_metered x_sealedCount bk_counts bk_needs bk_whens bk_sides bk_quantities bk_limits ag_toldLies ag_passedLies ag_words ag_vectors ag_liarOperator ag_rounds mk_entries mk_slots mk_remainders mk_blocks mk_blockBids mk_blockOffers mk_entryCount mk_blockCount cv_limits cv_bids cv_offers cv_count cv_allBids cv_allOffers cv_meetingPrice cv_sureBids cv_sureOffers cv_priceBids cv_priceOffers cv_volume cv_worth oc_prices oc_volumes oc_filled oc_worth oc_takenSet oc_isDone, hT), 0, 0)) := by
  have w_L17 : ∀ (n : Nat) (x2 : Int32) (x3 : Int32), mz_A g M_c_leastServing (mz_rm 0) (fun r => (0, some (.int r), ex, (HX x_members x_collaterals x_hasSent x_isSealed x_metered x_sealedCount bk_counts bk_needs bk_whens bk_sides bk_quantities bk_limits ag_toldLies ag_passedLies ag_words ag_vectors ag_liarOperator ag_rounds mk_entries mk_slots mk_remainders mk_blocks mk_blockBids mk_blockOffers mk_entryCount mk_blockCount cv_limits cv_bids cv_offers cv_count cv_allBids cv_allOffers cv_meetingPrice cv_sureBids cv_sureOffers cv_priceBids cv_priceOffers cv_volume cv_worth oc_prices oc_volumes oc_filled oc_worth oc_takenSet oc_isDone, hT), 0, 0)) 17 [(0, .ref 23), (2, .int x2), (3, .int x3)] [] ex (HX x_members x_collaterals x_hasSent x_isSealed x_metered x_sealedCount bk_counts bk_needs bk_whens bk_sides bk_quantities bk_limits ag_toldLies ag_passedLies ag_words ag_vectors ag_liarOperator ag_rounds mk_entries mk_slots mk_remainders mk_blocks mk_blockBids mk_blockOffers mk_entryCount mk_blockCount cv_limits cv_bids cv_offers cv_count cv_allBids cv_allOffers cv_meetingPrice cv_sureBids cv_sureOffers cv_priceBids cv_priceOffers cv_volume cv_worth oc_prices oc_volumes oc_filled oc_worth oc_takenSet oc_isDone, hT) 0 0 (f_c_leastServing_L17 (cv_limits 1) (cv_bids 1) (cv_offers 1) (cv_count 1) (cv_allBids 1) n x2 x3) := by
    intro n
    induction n with
    | zero => intro x2 x3; exact mr_none
    | succ n ih =>
      intro x2 x3
      rw [f_c_leastServing_L17]
      refine mr_iload_n d_c_leastServing_17 rfl rfl ?_
      refine mr_aload_n d_c_leastServing_18 rfl rfl ?_
      refine mr_get K_c 3 d_c_leastServing_19 lk_f_c_21 (by decide) rfl rfl ?_
      refine mr_icmp_ge (tgt := 58) d_c_leastServing_22 (by decide) ?_ ?_
      · refine mr_ldc (v := 40001) d_c_leastServing_58 lk_k_c_50 ?_
        exact mr_iret d_c_leastServing_60 rfl rfl
      · refine mr_iload_n d_c_leastServing_25 rfl rfl ?_
        refine mr_aload_n d_c_leastServing_26 rfl rfl ?_
        refine mr_get K_c 1 d_c_leastServing_27 lk_f_c_15 (by decide) rfl rfl ?_
        refine mr_iload_n d_c_leastServing_30 rfl rfl ?_
        refine mr_iald d_c_leastServing_31 rfl (fun hc1 => ?_)
        refine mr_aload_n d_c_leastServing_32 rfl rfl ?_
        refine mr_get K_c 2 d_c_leastServing_33 lk_f_c_18 (by decide) rfl rfl ?_
        refine mr_iload_n d_c_leastServing_36 rfl rfl ?_
        refine mr_ialdK d_c_leastServing_37 rfl hc1 ?_
        refine mr_iadd d_c_leastServing_38 ?_
        refine mr_isub d_c_leastServing_39 ?_
        refine mr_istore_n (lv' := [(2, .int (x2 - (((cv_bids 1) x3.toNatClampNeg) + ((cv_offers 1) x3.toNatClampNeg)))), (0, .ref 23), (3, .int x3)]) d_c_leastServing_40 rfl (by decide) rfl ?_
        refine mr_iload_n d_c_leastServing_41 rfl rfl ?_
        refine mr_if_gt (tgt := 52) d_c_leastServing_42 (by decide) ?_ ?_
        · refine mr_iinc (v := (x3 + 1)) (lv' := [(3, .int (x3 + 1)), (2, .int (x2 - (((cv_bids 1) x3.toNatClampNeg) + ((cv_offers 1) x3.toNatClampNeg)))), (0, .ref 23)]) d_c_leastServing_52 rfl rfl (by decide) rfl ?_
          refine mr_goto (tgt := 17) d_c_leastServing_55 (by decide) ?_
          refine mr_sub (lv' := [(0, .ref 23), (2, .int (x2 - (((cv_bids 1) x3.toNatClampNeg) + ((cv_offers 1) x3.toNatClampNeg)))), (3, .int (x3 + 1))]) [2, 1, 0] rfl ?_
          exact ih _ _
        · refine mr_aload_n d_c_leastServing_45 rfl rfl ?_
          refine mr_get K_c 0 d_c_leastServing_46 lk_f_c_9 (by decide) rfl rfl ?_
          refine mr_iload_n d_c_leastServing_49 rfl rfl ?_
          refine mr_ialdK d_c_leastServing_50 rfl hc1 ?_
          exact mr_iret d_c_leastServing_51 rfl rfl
  refine mz_of (by decide) (Nat.le_of_ble_eq_true rfl) ?_
  rw [f_c_leastServing]
  show mz_A g M_c_leastServing (mz_rm 0) _ 0 [(0, .ref 23), (1, .int x1)] [] ex (HX x_members x_collaterals x_hasSent x_isSealed x_metered x_sealedCount bk_counts bk_needs bk_whens bk_sides bk_quantities bk_limits ag_toldLies ag_passedLies ag_words ag_vectors ag_liarOperator ag_rounds mk_entries mk_slots mk_remainders mk_blocks mk_blockBids mk_blockOffers mk_entryCount mk_blockCount cv_limits cv_bids cv_offers cv_count cv_allBids cv_allOffers cv_meetingPrice cv_sureBids cv_sureOffers cv_priceBids cv_priceOffers cv_volume cv_worth oc_prices oc_volumes oc_filled oc_worth oc_takenSet oc_isDone, hT) 0 0 _
  refine mr_iload_n d_c_leastServing_0 rfl rfl ?_
  refine mr_aload_n d_c_leastServing_1 rfl rfl ?_
  refine mr_get K_c 4 d_c_leastServing_2 lk_f_c_25 (by decide) rfl rfl ?_
  refine mr_iadd d_c_leastServing_5 ?_
  refine mr_istore_n (lv' := [(2, .int (x1 + (cv_allBids 1))), (0, .ref 23), (1, .int x1)]) d_c_leastServing_6 rfl (by decide) rfl ?_
  refine mr_iload_n d_c_leastServing_7 rfl rfl ?_
  refine mr_if_gt (tgt := 15) d_c_leastServing_8 (by decide) ?_ ?_
  · refine mr_iconst (v := 0) d_c_leastServing_15 mc_iconst_0 ?_
    refine mr_istore_n (lv' := [(3, .int 0), (2, .int (x1 + (cv_allBids 1))), (0, .ref 23), (1, .int x1)]) d_c_leastServing_16 rfl (by decide) rfl ?_
    refine mr_sub (lv' := [(0, .ref 23), (2, .int (x1 + (cv_allBids 1))), (3, .int 0)]) [2, 1, 0] rfl ?_
    exact w_L17 1000 _ _
  · refine mr_sipush (v := (-5000)) d_c_leastServing_11 mc_sipush_m5000 ?_
    exact mr_iret d_c_leastServing_14 rfl rfl
set_option maxRecDepth 100000 in
set_option maxHeartbeats 4000000 in
theorem e_c_leastServing_2 {g : mz_G} {ex : Bool} {hT : List mz_E} {x_members : Int32} {x_collaterals : Nat → Int32} {x_hasSent : Nat → Int32} {x_isSealed : Nat → Int32} {x_metered : Nat → Int32} {x_sealedCount : Int32} {bk_counts : Nat → Int32} {bk_needs : Nat → Int64} {bk_whens : Nat → Int32} {bk_sides : Nat → Int32} {bk_quantities : Nat → Int32} {bk_limits : Nat → Int32} {ag_toldLies : Nat → Int32} {ag_passedLies : Nat → Int32} {ag_words : Nat → Int32} {ag_vectors : Nat → Int32} {ag_liarOperator : Int32} {ag_rounds : Int32} {mk_entries : Nat → Int32} {mk_slots : Nat → Int32} {mk_remainders : Nat → Int32} {mk_blocks : Nat → Int32} {mk_blockBids : Nat → Int32} {mk_blockOffers : Nat → Int32} {mk_entryCount : Int32} {mk_blockCount : Int32} {cv_limits : Nat → Nat → Int32} {cv_bids : Nat → Nat → Int32} {cv_offers : Nat → Nat → Int32} {cv_count : Nat → Int32} {cv_allBids : Nat → Int32} {cv_allOffers : Nat → Int32} {cv_meetingPrice : Nat → Int32} {cv_sureBids : Nat → Int32} {cv_sureOffers : Nat → Int32} {cv_priceBids : Nat → Int32} {cv_priceOffers : Nat → Int32} {cv_volume : Nat → Int32} {cv_worth : Nat → Int64} {oc_prices : Nat → Nat → Int32} {oc_volumes : Nat → Nat → Int32} {oc_filled : Nat → Nat → Int32} {oc_worth : Nat → Int64} {oc_takenSet : Nat → Int32} {oc_isDone : Nat → Int32} {x1 : Int32} : mz_M g M_c_leastServing 0 [.ref 27, .int x1] ex (HX x_members x_collaterals x_hasSent x_isSealed x_metered x_sealedCount bk_counts bk_needs bk_whens bk_sides bk_quantities bk_limits ag_toldLies ag_passedLies ag_words ag_vectors ag_liarOperator ag_rounds mk_entries mk_slots mk_remainders mk_blocks mk_blockBids mk_blockOffers mk_entryCount mk_blockCount cv_limits cv_bids cv_offers cv_count cv_allBids cv_allOffers cv_meetingPrice cv_sureBids cv_sureOffers cv_priceBids cv_priceOffers cv_volume cv_worth oc_prices oc_volumes oc_filled oc_worth oc_takenSet oc_isDone, hT) (f_c_leastServing (cv_limits 2) (cv_bids 2) (cv_offers 2) (cv_count 2) (cv_allBids 2) x1) (fun r => (0, some (.int r), ex, (HX x_members x_collaterals x_hasSent x_isSealed x_metered x_sealedCount bk_counts bk_needs bk_whens bk_sides bk_quantities bk_limits ag_toldLies ag_passedLies ag_words ag_vectors ag_liarOperator ag_rounds mk_entries mk_slots mk_remainders mk_blocks mk_blockBids mk_blockOffers mk_entryCount mk_blockCount cv_limits cv_bids cv_offers cv_count cv_allBids cv_allOffers cv_meetingPrice cv_sureBids cv_sureOffers cv_priceBids cv_priceOffers cv_volume cv_worth oc_prices oc_volumes oc_filled oc_worth oc_takenSet oc_isDone, hT), 0, 0)) := by
  have w_L17 : ∀ (n : Nat) (x2 : Int32) (x3 : Int32), mz_A g M_c_leastServing (mz_rm 0) (fun r => (0, some (.int r), ex, (HX x_members x_collaterals x_hasSent x_isSealed x_metered x_sealedCount bk_counts bk_needs bk_whens bk_sides bk_quantities bk_limits ag_toldLies ag_passedLies ag_words ag_vectors ag_liarOperator ag_rounds mk_entries mk_slots mk_remainders mk_blocks mk_blockBids mk_blockOffers mk_entryCount mk_blockCount cv_limits cv_bids cv_offers cv_count cv_allBids cv_allOffers cv_meetingPrice cv_sureBids cv_sureOffers cv_priceBids cv_priceOffers cv_volume cv_worth oc_prices oc_volumes oc_filled oc_worth oc_takenSet oc_isDone, hT), 0, 0)) 17 [(0, .ref 27), (2, .int x2), (3, .int x3)] [] ex (HX x_members x_collaterals x_hasSent x_isSealed x_metered x_sealedCount bk_counts bk_needs bk_whens bk_sides bk_quantities bk_limits ag_toldLies ag_passedLies ag_words ag_vectors ag_liarOperator ag_rounds mk_entries mk_slots mk_remainders mk_blocks mk_blockBids mk_blockOffers mk_entryCount mk_blockCount cv_limits cv_bids cv_offers cv_count cv_allBids cv_allOffers cv_meetingPrice cv_sureBids cv_sureOffers cv_priceBids cv_priceOffers cv_volume cv_worth oc_prices oc_volumes oc_filled oc_worth oc_takenSet oc_isDone, hT) 0 0 (f_c_leastServing_L17 (cv_limits 2) (cv_bids 2) (cv_offers 2) (cv_count 2) (cv_allBids 2) n x2 x3) := by
    intro n
    induction n with
    | zero => intro x2 x3; exact mr_none
    | succ n ih =>
      intro x2 x3
      rw [f_c_leastServing_L17]
      refine mr_iload_n d_c_leastServing_17 rfl rfl ?_
      refine mr_aload_n d_c_leastServing_18 rfl rfl ?_
      refine mr_get K_c 3 d_c_leastServing_19 lk_f_c_21 (by decide) rfl rfl ?_
      refine mr_icmp_ge (tgt := 58) d_c_leastServing_22 (by decide) ?_ ?_
      · refine mr_ldc (v := 40001) d_c_leastServing_58 lk_k_c_50 ?_
        exact mr_iret d_c_leastServing_60 rfl rfl
      · refine mr_iload_n d_c_leastServing_25 rfl rfl ?_
        refine mr_aload_n d_c_leastServing_26 rfl rfl ?_
        refine mr_get K_c 1 d_c_leastServing_27 lk_f_c_15 (by decide) rfl rfl ?_
        refine mr_iload_n d_c_leastServing_30 rfl rfl ?_
        refine mr_iald d_c_leastServing_31 rfl (fun hc1 => ?_)
        refine mr_aload_n d_c_leastServing_32 rfl rfl ?_
        refine mr_get K_c 2 d_c_leastServing_33 lk_f_c_18 (by decide) rfl rfl ?_
        refine mr_iload_n d_c_leastServing_36 rfl rfl ?_
        refine mr_ialdK d_c_leastServing_37 rfl hc1 ?_
        refine mr_iadd d_c_leastServing_38 ?_
        refine mr_isub d_c_leastServing_39 ?_
        refine mr_istore_n (lv' := [(2, .int (x2 - (((cv_bids 2) x3.toNatClampNeg) + ((cv_offers 2) x3.toNatClampNeg)))), (0, .ref 27), (3, .int x3)]) d_c_leastServing_40 rfl (by decide) rfl ?_
        refine mr_iload_n d_c_leastServing_41 rfl rfl ?_
        refine mr_if_gt (tgt := 52) d_c_leastServing_42 (by decide) ?_ ?_
        · refine mr_iinc (v := (x3 + 1)) (lv' := [(3, .int (x3 + 1)), (2, .int (x2 - (((cv_bids 2) x3.toNatClampNeg) + ((cv_offers 2) x3.toNatClampNeg)))), (0, .ref 27)]) d_c_leastServing_52 rfl rfl (by decide) rfl ?_
          refine mr_goto (tgt := 17) d_c_leastServing_55 (by decide) ?_
          refine mr_sub (lv' := [(0, .ref 27), (2, .int (x2 - (((cv_bids 2) x3.toNatClampNeg) + ((cv_offers 2) x3.toNatClampNeg)))), (3, .int (x3 + 1))]) [2, 1, 0] rfl ?_
          exact ih _ _
        · refine mr_aload_n d_c_leastServing_45 rfl rfl ?_
          refine mr_get K_c 0 d_c_leastServing_46 lk_f_c_9 (by decide) rfl rfl ?_
          refine mr_iload_n d_c_leastServing_49 rfl rfl ?_
          refine mr_ialdK d_c_leastServing_50 rfl hc1 ?_
          exact mr_iret d_c_leastServing_51 rfl rfl
  refine mz_of (by decide) (Nat.le_of_ble_eq_true rfl) ?_
  rw [f_c_leastServing]
  show mz_A g M_c_leastServing (mz_rm 0) _ 0 [(0, .ref 27), (1, .int x1)] [] ex (HX x_members x_collaterals x_hasSent x_isSealed x_metered x_sealedCount bk_counts bk_needs bk_whens bk_sides bk_quantities bk_limits ag_toldLies ag_passedLies ag_words ag_vectors ag_liarOperator ag_rounds mk_entries mk_slots mk_remainders mk_blocks mk_blockBids mk_blockOffers mk_entryCount mk_blockCount cv_limits cv_bids cv_offers cv_count cv_allBids cv_allOffers cv_meetingPrice cv_sureBids cv_sureOffers cv_priceBids cv_priceOffers cv_volume cv_worth oc_prices oc_volumes oc_filled oc_worth oc_takenSet oc_isDone, hT) 0 0 _
  refine mr_iload_n d_c_leastServing_0 rfl rfl ?_
  refine mr_aload_n d_c_leastServing_1 rfl rfl ?_
  refine mr_get K_c 4 d_c_leastServing_2 lk_f_c_25 (by decide) rfl rfl ?_
  refine mr_iadd d_c_leastServing_5 ?_
  refine mr_istore_n (lv' := [(2, .int (x1 + (cv_allBids 2))), (0, .ref 27), (1, .int x1)]) d_c_leastServing_6 rfl (by decide) rfl ?_
  refine mr_iload_n d_c_leastServing_7 rfl rfl ?_
  refine mr_if_gt (tgt := 15) d_c_leastServing_8 (by decide) ?_ ?_
  · refine mr_iconst (v := 0) d_c_leastServing_15 mc_iconst_0 ?_
    refine mr_istore_n (lv' := [(3, .int 0), (2, .int (x1 + (cv_allBids 2))), (0, .ref 27), (1, .int x1)]) d_c_leastServing_16 rfl (by decide) rfl ?_
    refine mr_sub (lv' := [(0, .ref 27), (2, .int (x1 + (cv_allBids 2))), (3, .int 0)]) [2, 1, 0] rfl ?_
    exact w_L17 1000 _ _
  · refine mr_sipush (v := (-5000)) d_c_leastServing_11 mc_sipush_m5000 ?_
    exact mr_iret d_c_leastServing_14 rfl rfl
theorem e_c_leastServing {g : mz_G} {ex : Bool} {hT : List mz_E} {x_members : Int32} {x_collaterals : Nat → Int32} {x_hasSent : Nat → Int32} {x_isSealed : Nat → Int32} {x_metered : Nat → Int32} {x_sealedCount : Int32} {bk_counts : Nat → Int32} {bk_needs : Nat → Int64} {bk_whens : Nat → Int32} {bk_sides : Nat → Int32} {bk_quantities : Nat → Int32} {bk_limits : Nat → Int32} {ag_toldLies : Nat → Int32} {ag_passedLies : Nat → Int32} {ag_words : Nat → Int32} {ag_vectors : Nat → Int32} {ag_liarOperator : Int32} {ag_rounds : Int32} {mk_entries : Nat → Int32} {mk_slots : Nat → Int32} {mk_remainders : Nat → Int32} {mk_blocks : Nat → Int32} {mk_blockBids : Nat → Int32} {mk_blockOffers : Nat → Int32} {mk_entryCount : Int32} {mk_blockCount : Int32} {cv_limits : Nat → Nat → Int32} {cv_bids : Nat → Nat → Int32} {cv_offers : Nat → Nat → Int32} {cv_count : Nat → Int32} {cv_allBids : Nat → Int32} {cv_allOffers : Nat → Int32} {cv_meetingPrice : Nat → Int32} {cv_sureBids : Nat → Int32} {cv_sureOffers : Nat → Int32} {cv_priceBids : Nat → Int32} {cv_priceOffers : Nat → Int32} {cv_volume : Nat → Int32} {cv_worth : Nat → Int64} {oc_prices : Nat → Nat → Int32} {oc_volumes : Nat → Nat → Int32} {oc_filled : Nat → Nat → Int32} {oc_worth : Nat → Int64} {oc_takenSet : Nat → Int32} {oc_isDone : Nat → Int32} {x1 : Int32} {j : Nat} (hj : j < 3) : mz_M g M_c_leastServing 0 [.ref (19 + 4 * j), .int x1] ex (HX x_members x_collaterals x_hasSent x_isSealed x_metered x_sealedCount bk_counts bk_needs bk_whens bk_sides bk_quantities bk_limits ag_toldLies ag_passedLies ag_words ag_vectors ag_liarOperator ag_rounds mk_entries mk_slots mk_remainders mk_blocks mk_blockBids mk_blockOffers mk_entryCount mk_blockCount cv_limits cv_bids cv_offers cv_count cv_allBids cv_allOffers cv_meetingPrice cv_sureBids cv_sureOffers cv_priceBids cv_priceOffers cv_volume cv_worth oc_prices oc_volumes oc_filled oc_worth oc_takenSet oc_isDone, hT) (f_c_leastServing (cv_limits j) (cv_bids j) (cv_offers j) (cv_count j) (cv_allBids j) x1) (fun r => (0, some (.int r), ex, (HX x_members x_collaterals x_hasSent x_isSealed x_metered x_sealedCount bk_counts bk_needs bk_whens bk_sides bk_quantities bk_limits ag_toldLies ag_passedLies ag_words ag_vectors ag_liarOperator ag_rounds mk_entries mk_slots mk_remainders mk_blocks mk_blockBids mk_blockOffers mk_entryCount mk_blockCount cv_limits cv_bids cv_offers cv_count cv_allBids cv_allOffers cv_meetingPrice cv_sureBids cv_sureOffers cv_priceBids cv_priceOffers cv_volume cv_worth oc_prices oc_volumes oc_filled oc_worth oc_takenSet oc_isDone, hT), 0, 0)) := match j, hj with | 0, _ => e_c_leastServing_0 | 1, _ => e_c_leastServing_1 | 2, _ => e_c_leastServing_2 | j + 3, h => absurd h (by omega)
set_option maxRecDepth 100000 in
set_option maxHeartbeats 4000000 in
theorem e_jm_floorDiv {g : mz_G} {ex : Bool} {h : mz_H} {x0 : Int32} {x1 : Int32} : mz_M g M_jm_floorDiv 0 [.int x0, .int x1] ex h (f_jm_floorDiv x0 x1) (fun r => (0, some (.int r), ex, h, 0, 0)) := by
  refine mz_ofF (by decide +kernel) (Nat.le_of_ble_eq_true rfl) ?_
  rw [f_jm_floorDiv]
  show mz_A g M_jm_floorDiv (mz_rm 0) _ 0 [(0, .int x0), (1, .int x1)] [] ex h 0 0 _
  refine mr_iload_n d_jm_floorDiv_0 rfl rfl ?_
  refine mr_iload_n d_jm_floorDiv_1 rfl rfl ?_
  refine mr_idiv d_jm_floorDiv_2 (fun hz1 => ?_)
  refine mr_istore_n (lv' := [(2, .int (x0 / x1)), (0, .int x0), (1, .int x1)]) d_jm_floorDiv_3 rfl (by decide) rfl ?_
  refine mr_iload_n d_jm_floorDiv_4 rfl rfl ?_
  refine mr_iload_n d_jm_floorDiv_5 rfl rfl ?_
  refine mr_ixor d_jm_floorDiv_6 ?_
  refine mr_if_ge (tgt := 21) d_jm_floorDiv_7 (by decide) ?_ ?_
  · refine mr_iload_n d_jm_floorDiv_21 rfl rfl ?_
    exact mr_iret d_jm_floorDiv_22 rfl rfl
  · refine mr_iload_n d_jm_floorDiv_10 rfl rfl ?_
    refine mr_iload_n d_jm_floorDiv_11 rfl rfl ?_
    refine mr_imul d_jm_floorDiv_12 ?_
    refine mr_iload_n d_jm_floorDiv_13 rfl rfl ?_
    refine mr_icmp_eq (tgt := 21) d_jm_floorDiv_14 (by decide) ?_ ?_
    · refine mr_iload_n d_jm_floorDiv_21 rfl rfl ?_
      exact mr_iret d_jm_floorDiv_22 rfl rfl
    · refine mr_iload_n d_jm_floorDiv_17 rfl rfl ?_
      refine mr_iconst (v := 1) d_jm_floorDiv_18 mc_iconst_1 ?_
      refine mr_isub d_jm_floorDiv_19 ?_
      exact mr_iret d_jm_floorDiv_20 rfl rfl
set_option maxRecDepth 100000 in
set_option maxHeartbeats 4000000 in
theorem e_c_meet_0 {g : mz_G} {ex : Bool} {hT : List mz_E} {x_members : Int32} {x_collaterals : Nat → Int32} {x_hasSent : Nat → Int32} {x_isSealed : Nat → Int32} {x_metered : Nat → Int32} {x_sealedCount : Int32} {bk_counts : Nat → Int32} {bk_needs : Nat → Int64} {bk_whens : Nat → Int32} {bk_sides : Nat → Int32} {bk_quantities : Nat → Int32} {bk_limits : Nat → Int32} {ag_toldLies : Nat → Int32} {ag_passedLies : Nat → Int32} {ag_words : Nat → Int32} {ag_vectors : Nat → Int32} {ag_liarOperator : Int32} {ag_rounds : Int32} {mk_entries : Nat → Int32} {mk_slots : Nat → Int32} {mk_remainders : Nat → Int32} {mk_blocks : Nat → Int32} {mk_blockBids : Nat → Int32} {mk_blockOffers : Nat → Int32} {mk_entryCount : Int32} {mk_blockCount : Int32} {cv_limits : Nat → Nat → Int32} {cv_bids : Nat → Nat → Int32} {cv_offers : Nat → Nat → Int32} {cv_count : Nat → Int32} {cv_allBids : Nat → Int32} {cv_allOffers : Nat → Int32} {cv_meetingPrice : Nat → Int32} {cv_sureBids : Nat → Int32} {cv_sureOffers : Nat → Int32} {cv_priceBids : Nat → Int32} {cv_priceOffers : Nat → Int32} {cv_volume : Nat → Int32} {cv_worth : Nat → Int64} {oc_prices : Nat → Nat → Int32} {oc_volumes : Nat → Nat → Int32} {oc_filled : Nat → Nat → Int32} {oc_worth : Nat → Int64} {oc_takenSet : Nat → Int32} {oc_isDone : Nat → Int32} {x1 : Int32} : mz_M g M_c_meet 1 [.ref 19, .int x1] ex (HX x_members x_collaterals x_hasSent x_isSealed x_metered x_sealedCount bk_counts bk_needs bk_whens bk_sides bk_quantities bk_limits ag_toldLies ag_passedLies ag_words ag_vectors ag_liarOperator ag_rounds mk_entries mk_slots mk_remainders mk_blocks mk_blockBids mk_blockOffers mk_entryCount mk_blockCount cv_limits cv_bids cv_offers cv_count cv_allBids cv_allOffers cv_meetingPrice cv_sureBids cv_sureOffers cv_priceBids cv_priceOffers cv_volume cv_worth oc_prices oc_volumes oc_filled oc_worth oc_takenSet oc_isDone, hT) (f_c_meet (cv_limits 0) (cv_bids 0) (cv_offers 0) (cv_count 0) (cv_allBids 0) (cv_allOffers 0) (cv_meetingPrice 0) x1) (fun r => (0, some (.int r.1), ex, (HX x_members x_collaterals x_hasSent x_isSealed x_metered x_sealedCount bk_counts bk_needs bk_whens bk_sides bk_quantities bk_limits ag_toldLies ag_passedLies ag_words ag_vectors ag_liarOperator ag_rounds mk_entries mk_slots mk_remainders mk_blocks mk_blockBids mk_blockOffers mk_entryCount mk_blockCount cv_limits cv_bids cv_offers cv_count cv_allBids cv_allOffers (va_up cv_meetingPrice 0 r.2) cv_sureBids cv_sureOffers cv_priceBids cv_priceOffers cv_volume cv_worth oc_prices oc_volumes oc_filled oc_worth oc_takenSet oc_isDone, hT), 0, 0)) := by
  refine mz_of (by decide) (Nat.le_of_ble_eq_true rfl) ?_
  rw [f_c_meet]
  show mz_A g M_c_meet (mz_rm 1) _ 0 [(0, .ref 19), (1, .int x1)] [] ex (HX x_members x_collaterals x_hasSent x_isSealed x_metered x_sealedCount bk_counts bk_needs bk_whens bk_sides bk_quantities bk_limits ag_toldLies ag_passedLies ag_words ag_vectors ag_liarOperator ag_rounds mk_entries mk_slots mk_remainders mk_blocks mk_blockBids mk_blockOffers mk_entryCount mk_blockCount cv_limits cv_bids cv_offers cv_count cv_allBids cv_allOffers cv_meetingPrice cv_sureBids cv_sureOffers cv_priceBids cv_priceOffers cv_volume cv_worth oc_prices oc_volumes oc_filled oc_worth oc_takenSet oc_isDone, hT) 0 0 _
  refine mr_aload_n d_c_meet_0 rfl rfl ?_
  refine mr_iload_n d_c_meet_1 rfl rfl ?_
  refine mz_go (st := []) e_c_leastServing_0 (fun _ => rfl) U_c_leastServing (mz_vV d_c_meet_2 U_c_leastServing rfl lk_m_c_35 I_c_leastServing s_c_leastServing np_c_leastServing rfl rfl) (Nat.le_of_ble_eq_true rfl) (by decide) (fun r1 => ?_)
  refine mr_eq (st' := [.int r1]) (ex' := ex) (h2 := (HX x_members x_collaterals x_hasSent x_isSealed x_metered x_sealedCount bk_counts bk_needs bk_whens bk_sides bk_quantities bk_limits ag_toldLies ag_passedLies ag_words ag_vectors ag_liarOperator ag_rounds mk_entries mk_slots mk_remainders mk_blocks mk_blockBids mk_blockOffers mk_entryCount mk_blockCount cv_limits cv_bids cv_offers cv_count cv_allBids cv_allOffers cv_meetingPrice cv_sureBids cv_sureOffers cv_priceBids cv_priceOffers cv_volume cv_worth oc_prices oc_volumes oc_filled oc_worth oc_takenSet oc_isDone, hT)) (k' := 0) (n' := 0) rfl rfl rfl rfl rfl ?_
  refine mr_istore_n (lv' := [(2, .int r1), (0, .ref 19), (1, .int x1)]) d_c_meet_5 rfl (by decide) rfl ?_
  refine mr_aload_n d_c_meet_6 rfl rfl ?_
  refine mr_iload_n d_c_meet_7 rfl rfl ?_
  refine mz_go (st := []) e_c_greatestServing_0 (fun _ => rfl) U_c_greatestServing (mz_vV d_c_meet_8 U_c_greatestServing rfl lk_m_c_38 I_c_greatestServing s_c_greatestServing np_c_greatestServing rfl rfl) (Nat.le_of_ble_eq_true rfl) (by decide) (fun r2 => ?_)
  refine mr_eq (st' := [.int r2]) (ex' := ex) (h2 := (HX x_members x_collaterals x_hasSent x_isSealed x_metered x_sealedCount bk_counts bk_needs bk_whens bk_sides bk_quantities bk_limits ag_toldLies ag_passedLies ag_words ag_vectors ag_liarOperator ag_rounds mk_entries mk_slots mk_remainders mk_blocks mk_blockBids mk_blockOffers mk_entryCount mk_blockCount cv_limits cv_bids cv_offers cv_count cv_allBids cv_allOffers cv_meetingPrice cv_sureBids cv_sureOffers cv_priceBids cv_priceOffers cv_volume cv_worth oc_prices oc_volumes oc_filled oc_worth oc_takenSet oc_isDone, hT)) (k' := 0) (n' := 0) rfl rfl rfl rfl rfl ?_
  refine mr_istore_n (lv' := [(3, .int r2), (2, .int r1), (0, .ref 19), (1, .int x1)]) d_c_meet_11 rfl (by decide) rfl ?_
  refine mr_iload_n d_c_meet_12 rfl rfl ?_
  refine mr_iload_n d_c_meet_13 rfl rfl ?_
  refine mr_icmp_le (tgt := 19) d_c_meet_14 (by decide) ?_ ?_
  · refine mr_aload_n d_c_meet_19 rfl rfl ?_
    refine mr_iload_n d_c_meet_20 rfl rfl ?_
    refine mr_iload_n d_c_meet_21 rfl rfl ?_
    refine mr_iadd d_c_meet_22 ?_
    refine mr_iconst (v := 2) d_c_meet_23 mc_iconst_2 ?_
    refine mz_go (st := [.ref 19]) e_jm_floorDiv (fun _ => rfl) U_jm_floorDiv (mz_vS d_c_meet_24 U_jm_floorDiv lk_m_c_41 S_jm_floorDiv np_jm_floorDiv) (Nat.le_of_ble_eq_true rfl) (by decide) (fun r3 => ?_)
    refine mr_eq (st' := [.int r3, .ref 19]) (ex' := ex) (h2 := (HX x_members x_collaterals x_hasSent x_isSealed x_metered x_sealedCount bk_counts bk_needs bk_whens bk_sides bk_quantities bk_limits ag_toldLies ag_passedLies ag_words ag_vectors ag_liarOperator ag_rounds mk_entries mk_slots mk_remainders mk_blocks mk_blockBids mk_blockOffers mk_entryCount mk_blockCount cv_limits cv_bids cv_offers cv_count cv_allBids cv_allOffers cv_meetingPrice cv_sureBids cv_sureOffers cv_priceBids cv_priceOffers cv_volume cv_worth oc_prices oc_volumes oc_filled oc_worth oc_takenSet oc_isDone, hT)) (k' := 0) (n' := 0) rfl rfl rfl rfl rfl ?_
    refine mr_put (h2 := (HX x_members x_collaterals x_hasSent x_isSealed x_metered x_sealedCount bk_counts bk_needs bk_whens bk_sides bk_quantities bk_limits ag_toldLies ag_passedLies ag_words ag_vectors ag_liarOperator ag_rounds mk_entries mk_slots mk_remainders mk_blocks mk_blockBids mk_blockOffers mk_entryCount mk_blockCount cv_limits cv_bids cv_offers cv_count cv_allBids cv_allOffers (va_up cv_meetingPrice 0 r3) cv_sureBids cv_sureOffers cv_priceBids cv_priceOffers cv_volume cv_worth oc_prices oc_volumes oc_filled oc_worth oc_takenSet oc_isDone, hT)) K_c 6 d_c_meet_27 lk_f_c_47 (by decide) rfl rfl rfl (Nat.le_of_ble_eq_true rfl) rfl rfl ?_
    refine mr_iconst (v := 1) d_c_meet_30 mc_iconst_1 ?_
    exact mr_zret d_c_meet_31 rfl rfl
  · refine mr_iconst (v := 0) d_c_meet_17 mc_iconst_0 ?_
    exact mr_zret d_c_meet_18 rfl rfl
set_option maxRecDepth 100000 in
set_option maxHeartbeats 4000000 in
theorem e_c_meet_1 {g : mz_G} {ex : Bool} {hT : List mz_E} {x_members : Int32} {x_collaterals : Nat → Int32} {x_hasSent : Nat → Int32} {x_isSealed : Nat → Int32} {x_metered : Nat → Int32} {x_sealedCount : Int32} {bk_counts : Nat → Int32} {bk_needs : Nat → Int64} {bk_whens : Nat → Int32} {bk_sides : Nat → Int32} {bk_quantities : Nat → Int32} {bk_limits : Nat → Int32} {ag_toldLies : Nat → Int32} {ag_passedLies : Nat → Int32} {ag_words : Nat → Int32} {ag_vectors : Nat → Int32} {ag_liarOperator : Int32} {ag_rounds : Int32} {mk_entries : Nat → Int32} {mk_slots : Nat → Int32} {mk_remainders : Nat → Int32} {mk_blocks : Nat → Int32} {mk_blockBids : Nat → Int32} {mk_blockOffers : Nat → Int32} {mk_entryCount : Int32} {mk_blockCount : Int32} {cv_limits : Nat → Nat → Int32} {cv_bids : Nat → Nat → Int32} {cv_offers : Nat → Nat → Int32} {cv_count : Nat → Int32} {cv_allBids : Nat → Int32} {cv_allOffers : Nat → Int32} {cv_meetingPrice : Nat → Int32} {cv_sureBids : Nat → Int32} {cv_sureOffers : Nat → Int32} {cv_priceBids : Nat → Int32} {cv_priceOffers : Nat → Int32} {cv_volume : Nat → Int32} {cv_worth : Nat → Int64} {oc_prices : Nat → Nat → Int32} {oc_volumes : Nat → Nat → Int32} {oc_filled : Nat → Nat → Int32} {oc_worth : Nat → Int64} {oc_takenSet : Nat → Int32} {oc_isDone : Nat → Int32} {x1 : Int32} : mz_M g M_c_meet 1 [.ref 23, .int x1] ex (HX x_members x_collaterals x_hasSent x_isSealed x_metered x_sealedCount bk_counts bk_needs bk_whens bk_sides bk_quantities bk_limits ag_toldLies ag_passedLies ag_words ag_vectors ag_liarOperator ag_rounds mk_entries mk_slots mk_remainders mk_blocks mk_blockBids mk_blockOffers mk_entryCount mk_blockCount cv_limits cv_bids cv_offers cv_count cv_allBids cv_allOffers cv_meetingPrice cv_sureBids cv_sureOffers cv_priceBids cv_priceOffers cv_volume cv_worth oc_prices oc_volumes oc_filled oc_worth oc_takenSet oc_isDone, hT) (f_c_meet (cv_limits 1) (cv_bids 1) (cv_offers 1) (cv_count 1) (cv_allBids 1) (cv_allOffers 1) (cv_meetingPrice 1) x1) (fun r => (0, some (.int r.1), ex, (HX x_members x_collaterals x_hasSent x_isSealed x_metered x_sealedCount bk_counts bk_needs bk_whens bk_sides bk_quantities bk_limits ag_toldLies ag_passedLies ag_words ag_vectors ag_liarOperator ag_rounds mk_entries mk_slots mk_remainders mk_blocks mk_blockBids mk_blockOffers mk_entryCount mk_blockCount cv_limits cv_bids cv_offers cv_count cv_allBids cv_allOffers (va_up cv_meetingPrice 1 r.2) cv_sureBids cv_sureOffers cv_priceBids cv_priceOffers cv_volume cv_worth oc_prices oc_volumes oc_filled oc_worth oc_takenSet oc_isDone, hT), 0, 0)) := by
  refine mz_of (by decide) (Nat.le_of_ble_eq_true rfl) ?_
  rw [f_c_meet]
  show mz_A g M_c_meet (mz_rm 1) _ 0 [(0, .ref 23), (1, .int x1)] [] ex (HX x_members x_collaterals x_hasSent x_isSealed x_metered x_sealedCount bk_counts bk_needs bk_whens bk_sides bk_quantities bk_limits ag_toldLies ag_passedLies ag_words ag_vectors ag_liarOperator ag_rounds mk_entries mk_slots mk_remainders mk_blocks mk_blockBids mk_blockOffers mk_entryCount mk_blockCount cv_limits cv_bids cv_offers cv_count cv_allBids cv_allOffers cv_meetingPrice cv_sureBids cv_sureOffers cv_priceBids cv_priceOffers cv_volume cv_worth oc_prices oc_volumes oc_filled oc_worth oc_takenSet oc_isDone, hT) 0 0 _
  refine mr_aload_n d_c_meet_0 rfl rfl ?_
  refine mr_iload_n d_c_meet_1 rfl rfl ?_
  refine mz_go (st := []) e_c_leastServing_1 (fun _ => rfl) U_c_leastServing (mz_vV d_c_meet_2 U_c_leastServing rfl lk_m_c_35 I_c_leastServing s_c_leastServing np_c_leastServing rfl rfl) (Nat.le_of_ble_eq_true rfl) (by decide) (fun r1 => ?_)
  refine mr_eq (st' := [.int r1]) (ex' := ex) (h2 := (HX x_members x_collaterals x_hasSent x_isSealed x_metered x_sealedCount bk_counts bk_needs bk_whens bk_sides bk_quantities bk_limits ag_toldLies ag_passedLies ag_words ag_vectors ag_liarOperator ag_rounds mk_entries mk_slots mk_remainders mk_blocks mk_blockBids mk_blockOffers mk_entryCount mk_blockCount cv_limits cv_bids cv_offers cv_count cv_allBids cv_allOffers cv_meetingPrice cv_sureBids cv_sureOffers cv_priceBids cv_priceOffers cv_volume cv_worth oc_prices oc_volumes oc_filled oc_worth oc_takenSet oc_isDone, hT)) (k' := 0) (n' := 0) rfl rfl rfl rfl rfl ?_
  refine mr_istore_n (lv' := [(2, .int r1), (0, .ref 23), (1, .int x1)]) d_c_meet_5 rfl (by decide) rfl ?_
  refine mr_aload_n d_c_meet_6 rfl rfl ?_
  refine mr_iload_n d_c_meet_7 rfl rfl ?_
  refine mz_go (st := []) e_c_greatestServing_1 (fun _ => rfl) U_c_greatestServing (mz_vV d_c_meet_8 U_c_greatestServing rfl lk_m_c_38 I_c_greatestServing s_c_greatestServing np_c_greatestServing rfl rfl) (Nat.le_of_ble_eq_true rfl) (by decide) (fun r2 => ?_)
  refine mr_eq (st' := [.int r2]) (ex' := ex) (h2 := (HX x_members x_collaterals x_hasSent x_isSealed x_metered x_sealedCount bk_counts bk_needs bk_whens bk_sides bk_quantities bk_limits ag_toldLies ag_passedLies ag_words ag_vectors ag_liarOperator ag_rounds mk_entries mk_slots mk_remainders mk_blocks mk_blockBids mk_blockOffers mk_entryCount mk_blockCount cv_limits cv_bids cv_offers cv_count cv_allBids cv_allOffers cv_meetingPrice cv_sureBids cv_sureOffers cv_priceBids cv_priceOffers cv_volume cv_worth oc_prices oc_volumes oc_filled oc_worth oc_takenSet oc_isDone, hT)) (k' := 0) (n' := 0) rfl rfl rfl rfl rfl ?_
  refine mr_istore_n (lv' := [(3, .int r2), (2, .int r1), (0, .ref 23), (1, .int x1)]) d_c_meet_11 rfl (by decide) rfl ?_
  refine mr_iload_n d_c_meet_12 rfl rfl ?_
  refine mr_iload_n d_c_meet_13 rfl rfl ?_
  refine mr_icmp_le (tgt := 19) d_c_meet_14 (by decide) ?_ ?_
  · refine mr_aload_n d_c_meet_19 rfl rfl ?_
    refine mr_iload_n d_c_meet_20 rfl rfl ?_
    refine mr_iload_n d_c_meet_21 rfl rfl ?_
    refine mr_iadd d_c_meet_22 ?_
    refine mr_iconst (v := 2) d_c_meet_23 mc_iconst_2 ?_
    refine mz_go (st := [.ref 23]) e_jm_floorDiv (fun _ => rfl) U_jm_floorDiv (mz_vS d_c_meet_24 U_jm_floorDiv lk_m_c_41 S_jm_floorDiv np_jm_floorDiv) (Nat.le_of_ble_eq_true rfl) (by decide) (fun r3 => ?_)
    refine mr_eq (st' := [.int r3, .ref 23]) (ex' := ex) (h2 := (HX x_members x_collaterals x_hasSent x_isSealed x_metered x_sealedCount bk_counts bk_needs bk_whens bk_sides bk_quantities bk_limits ag_toldLies ag_passedLies ag_words ag_vectors ag_liarOperator ag_rounds mk_entries mk_slots mk_remainders mk_blocks mk_blockBids mk_blockOffers mk_entryCount mk_blockCount cv_limits cv_bids cv_offers cv_count cv_allBids cv_allOffers cv_meetingPrice cv_sureBids cv_sureOffers cv_priceBids cv_priceOffers cv_volume cv_worth oc_prices oc_volumes oc_filled oc_worth oc_takenSet oc_isDone, hT)) (k' := 0) (n' := 0) rfl rfl rfl rfl rfl ?_
    refine mr_put (h2 := (HX x_members x_collaterals x_hasSent x_isSealed x_metered x_sealedCount bk_counts bk_needs bk_whens bk_sides bk_quantities bk_limits ag_toldLies ag_passedLies ag_words ag_vectors ag_liarOperator ag_rounds mk_entries mk_slots mk_remainders mk_blocks mk_blockBids mk_blockOffers mk_entryCount mk_blockCount cv_limits cv_bids cv_offers cv_count cv_allBids cv_allOffers (va_up cv_meetingPrice 1 r3) cv_sureBids cv_sureOffers cv_priceBids cv_priceOffers cv_volume cv_worth oc_prices oc_volumes oc_filled oc_worth oc_takenSet oc_isDone, hT)) K_c 6 d_c_meet_27 lk_f_c_47 (by decide) rfl rfl rfl (Nat.le_of_ble_eq_true rfl) rfl rfl ?_
    refine mr_iconst (v := 1) d_c_meet_30 mc_iconst_1 ?_
    exact mr_zret d_c_meet_31 rfl rfl
  · refine mr_iconst (v := 0) d_c_meet_17 mc_iconst_0 ?_
    exact mr_zret d_c_meet_18 rfl rfl
set_option maxRecDepth 100000 in
set_option maxHeartbeats 4000000 in
theorem e_c_meet_2 {g : mz_G} {ex : Bool} {hT : List mz_E} {x_members : Int32} {x_collaterals : Nat → Int32} {x_hasSent : Nat → Int32} {x_isSealed : Nat → Int32} {x_metered : Nat → Int32} {x_sealedCount : Int32} {bk_counts : Nat → Int32} {bk_needs : Nat → Int64} {bk_whens : Nat → Int32} {bk_sides : Nat → Int32} {bk_quantities : Nat → Int32} {bk_limits : Nat → Int32} {ag_toldLies : Nat → Int32} {ag_passedLies : Nat → Int32} {ag_words : Nat → Int32} {ag_vectors : Nat → Int32} {ag_liarOperator : Int32} {ag_rounds : Int32} {mk_entries : Nat → Int32} {mk_slots : Nat → Int32} {mk_remainders : Nat → Int32} {mk_blocks : Nat → Int32} {mk_blockBids : Nat → Int32} {mk_blockOffers : Nat → Int32} {mk_entryCount : Int32} {mk_blockCount : Int32} {cv_limits : Nat → Nat → Int32} {cv_bids : Nat → Nat → Int32} {cv_offers : Nat → Nat → Int32} {cv_count : Nat → Int32} {cv_allBids : Nat → Int32} {cv_allOffers : Nat → Int32} {cv_meetingPrice : Nat → Int32} {cv_sureBids : Nat → Int32} {cv_sureOffers : Nat → Int32} {cv_priceBids : Nat → Int32} {cv_priceOffers : Nat → Int32} {cv_volume : Nat → Int32} {cv_worth : Nat → Int64} {oc_prices : Nat → Nat → Int32} {oc_volumes : Nat → Nat → Int32} {oc_filled : Nat → Nat → Int32} {oc_worth : Nat → Int64} {oc_takenSet : Nat → Int32} {oc_isDone : Nat → Int32} {x1 : Int32} : mz_M g M_c_meet 1 [.ref 27, .int x1] ex (HX x_members x_collaterals x_hasSent x_isSealed x_metered x_sealedCount bk_counts bk_needs bk_whens bk_sides bk_quantities bk_limits ag_toldLies ag_passedLies ag_words ag_vectors ag_liarOperator ag_rounds mk_entries mk_slots mk_remainders mk_blocks mk_blockBids mk_blockOffers mk_entryCount mk_blockCount cv_limits cv_bids cv_offers cv_count cv_allBids cv_allOffers cv_meetingPrice cv_sureBids cv_sureOffers cv_priceBids cv_priceOffers cv_volume cv_worth oc_prices oc_volumes oc_filled oc_worth oc_takenSet oc_isDone, hT) (f_c_meet (cv_limits 2) (cv_bids 2) (cv_offers 2) (cv_count 2) (cv_allBids 2) (cv_allOffers 2) (cv_meetingPrice 2) x1) (fun r => (0, some (.int r.1), ex, (HX x_members x_collaterals x_hasSent x_isSealed x_metered x_sealedCount bk_counts bk_needs bk_whens bk_sides bk_quantities bk_limits ag_toldLies ag_passedLies ag_words ag_vectors ag_liarOperator ag_rounds mk_entries mk_slots mk_remainders mk_blocks mk_blockBids mk_blockOffers mk_entryCount mk_blockCount cv_limits cv_bids cv_offers cv_count cv_allBids cv_allOffers (va_up cv_meetingPrice 2 r.2) cv_sureBids cv_sureOffers cv_priceBids cv_priceOffers cv_volume cv_worth oc_prices oc_volumes oc_filled oc_worth oc_takenSet oc_isDone, hT), 0, 0)) := by
  refine mz_of (by decide) (Nat.le_of_ble_eq_true rfl) ?_
  rw [f_c_meet]
  show mz_A g M_c_meet (mz_rm 1) _ 0 [(0, .ref 27), (1, .int x1)] [] ex (HX x_members x_collaterals x_hasSent x_isSealed x_metered x_sealedCount bk_counts bk_needs bk_whens bk_sides bk_quantities bk_limits ag_toldLies ag_passedLies ag_words ag_vectors ag_liarOperator ag_rounds mk_entries mk_slots mk_remainders mk_blocks mk_blockBids mk_blockOffers mk_entryCount mk_blockCount cv_limits cv_bids cv_offers cv_count cv_allBids cv_allOffers cv_meetingPrice cv_sureBids cv_sureOffers cv_priceBids cv_priceOffers cv_volume cv_worth oc_prices oc_volumes oc_filled oc_worth oc_takenSet oc_isDone, hT) 0 0 _
  refine mr_aload_n d_c_meet_0 rfl rfl ?_
  refine mr_iload_n d_c_meet_1 rfl rfl ?_
  refine mz_go (st := []) e_c_leastServing_2 (fun _ => rfl) U_c_leastServing (mz_vV d_c_meet_2 U_c_leastServing rfl lk_m_c_35 I_c_leastServing s_c_leastServing np_c_leastServing rfl rfl) (Nat.le_of_ble_eq_true rfl) (by decide) (fun r1 => ?_)
  refine mr_eq (st' := [.int r1]) (ex' := ex) (h2 := (HX x_members x_collaterals x_hasSent x_isSealed x_metered x_sealedCount bk_counts bk_needs bk_whens bk_sides bk_quantities bk_limits ag_toldLies ag_passedLies ag_words ag_vectors ag_liarOperator ag_rounds mk_entries mk_slots mk_remainders mk_blocks mk_blockBids mk_blockOffers mk_entryCount mk_blockCount cv_limits cv_bids cv_offers cv_count cv_allBids cv_allOffers cv_meetingPrice cv_sureBids cv_sureOffers cv_priceBids cv_priceOffers cv_volume cv_worth oc_prices oc_volumes oc_filled oc_worth oc_takenSet oc_isDone, hT)) (k' := 0) (n' := 0) rfl rfl rfl rfl rfl ?_
  refine mr_istore_n (lv' := [(2, .int r1), (0, .ref 27), (1, .int x1)]) d_c_meet_5 rfl (by decide) rfl ?_
  refine mr_aload_n d_c_meet_6 rfl rfl ?_
  refine mr_iload_n d_c_meet_7 rfl rfl ?_
  refine mz_go (st := []) e_c_greatestServing_2 (fun _ => rfl) U_c_greatestServing (mz_vV d_c_meet_8 U_c_greatestServing rfl lk_m_c_38 I_c_greatestServing s_c_greatestServing np_c_greatestServing rfl rfl) (Nat.le_of_ble_eq_true rfl) (by decide) (fun r2 => ?_)
  refine mr_eq (st' := [.int r2]) (ex' := ex) (h2 := (HX x_members x_collaterals x_hasSent x_isSealed x_metered x_sealedCount bk_counts bk_needs bk_whens bk_sides bk_quantities bk_limits ag_toldLies ag_passedLies ag_words ag_vectors ag_liarOperator ag_rounds mk_entries mk_slots mk_remainders mk_blocks mk_blockBids mk_blockOffers mk_entryCount mk_blockCount cv_limits cv_bids cv_offers cv_count cv_allBids cv_allOffers cv_meetingPrice cv_sureBids cv_sureOffers cv_priceBids cv_priceOffers cv_volume cv_worth oc_prices oc_volumes oc_filled oc_worth oc_takenSet oc_isDone, hT)) (k' := 0) (n' := 0) rfl rfl rfl rfl rfl ?_
  refine mr_istore_n (lv' := [(3, .int r2), (2, .int r1), (0, .ref 27), (1, .int x1)]) d_c_meet_11 rfl (by decide) rfl ?_
  refine mr_iload_n d_c_meet_12 rfl rfl ?_
  refine mr_iload_n d_c_meet_13 rfl rfl ?_
  refine mr_icmp_le (tgt := 19) d_c_meet_14 (by decide) ?_ ?_
  · refine mr_aload_n d_c_meet_19 rfl rfl ?_
    refine mr_iload_n d_c_meet_20 rfl rfl ?_
    refine mr_iload_n d_c_meet_21 rfl rfl ?_
    refine mr_iadd d_c_meet_22 ?_
    refine mr_iconst (v := 2) d_c_meet_23 mc_iconst_2 ?_
    refine mz_go (st := [.ref 27]) e_jm_floorDiv (fun _ => rfl) U_jm_floorDiv (mz_vS d_c_meet_24 U_jm_floorDiv lk_m_c_41 S_jm_floorDiv np_jm_floorDiv) (Nat.le_of_ble_eq_true rfl) (by decide) (fun r3 => ?_)
    refine mr_eq (st' := [.int r3, .ref 27]) (ex' := ex) (h2 := (HX x_members x_collaterals x_hasSent x_isSealed x_metered x_sealedCount bk_counts bk_needs bk_whens bk_sides bk_quantities bk_limits ag_toldLies ag_passedLies ag_words ag_vectors ag_liarOperator ag_rounds mk_entries mk_slots mk_remainders mk_blocks mk_blockBids mk_blockOffers mk_entryCount mk_blockCount cv_limits cv_bids cv_offers cv_count cv_allBids cv_allOffers cv_meetingPrice cv_sureBids cv_sureOffers cv_priceBids cv_priceOffers cv_volume cv_worth oc_prices oc_volumes oc_filled oc_worth oc_takenSet oc_isDone, hT)) (k' := 0) (n' := 0) rfl rfl rfl rfl rfl ?_
    refine mr_put (h2 := (HX x_members x_collaterals x_hasSent x_isSealed x_metered x_sealedCount bk_counts bk_needs bk_whens bk_sides bk_quantities bk_limits ag_toldLies ag_passedLies ag_words ag_vectors ag_liarOperator ag_rounds mk_entries mk_slots mk_remainders mk_blocks mk_blockBids mk_blockOffers mk_entryCount mk_blockCount cv_limits cv_bids cv_offers cv_count cv_allBids cv_allOffers (va_up cv_meetingPrice 2 r3) cv_sureBids cv_sureOffers cv_priceBids cv_priceOffers cv_volume cv_worth oc_prices oc_volumes oc_filled oc_worth oc_takenSet oc_isDone, hT)) K_c 6 d_c_meet_27 lk_f_c_47 (by decide) rfl rfl rfl (Nat.le_of_ble_eq_true rfl) rfl rfl ?_
    refine mr_iconst (v := 1) d_c_meet_30 mc_iconst_1 ?_
    exact mr_zret d_c_meet_31 rfl rfl
  · refine mr_iconst (v := 0) d_c_meet_17 mc_iconst_0 ?_
    exact mr_zret d_c_meet_18 rfl rfl
theorem e_c_meet {g : mz_G} {ex : Bool} {hT : List mz_E} {x_members : Int32} {x_collaterals : Nat → Int32} {x_hasSent : Nat → Int32} {x_isSealed : Nat → Int32} {x_metered : Nat → Int32} {x_sealedCount : Int32} {bk_counts : Nat → Int32} {bk_needs : Nat → Int64} {bk_whens : Nat → Int32} {bk_sides : Nat → Int32} {bk_quantities : Nat → Int32} {bk_limits : Nat → Int32} {ag_toldLies : Nat → Int32} {ag_passedLies : Nat → Int32} {ag_words : Nat → Int32} {ag_vectors : Nat → Int32} {ag_liarOperator : Int32} {ag_rounds : Int32} {mk_entries : Nat → Int32} {mk_slots : Nat → Int32} {mk_remainders : Nat → Int32} {mk_blocks : Nat → Int32} {mk_blockBids : Nat → Int32} {mk_blockOffers : Nat → Int32} {mk_entryCount : Int32} {mk_blockCount : Int32} {cv_limits : Nat → Nat → Int32} {cv_bids : Nat → Nat → Int32} {cv_offers : Nat → Nat → Int32} {cv_count : Nat → Int32} {cv_allBids : Nat → Int32} {cv_allOffers : Nat → Int32} {cv_meetingPrice : Nat → Int32} {cv_sureBids : Nat → Int32} {cv_sureOffers : Nat → Int32} {cv_priceBids : Nat → Int32} {cv_priceOffers : Nat → Int32} {cv_volume : Nat → Int32} {cv_worth : Nat → Int64} {oc_prices : Nat → Nat → Int32} {oc_volumes : Nat → Nat → Int32} {oc_filled : Nat → Nat → Int32} {oc_worth : Nat → Int64} {oc_takenSet : Nat → Int32} {oc_isDone : Nat → Int32} {x1 : Int32} {j : Nat} (hj : j < 3) : mz_M g M_c_meet 1 [.ref (19 + 4 * j), .int x1] ex (HX x_members x_collaterals x_hasSent x_isSealed x_metered x_sealedCount bk_counts bk_needs bk_whens bk_sides bk_quantities bk_limits ag_toldLies ag_passedLies ag_words ag_vectors ag_liarOperator ag_rounds mk_entries mk_slots mk_remainders mk_blocks mk_blockBids mk_blockOffers mk_entryCount mk_blockCount cv_limits cv_bids cv_offers cv_count cv_allBids cv_allOffers cv_meetingPrice cv_sureBids cv_sureOffers cv_priceBids cv_priceOffers cv_volume cv_worth oc_prices oc_volumes oc_filled oc_worth oc_takenSet oc_isDone, hT) (f_c_meet (cv_limits j) (cv_bids j) (cv_offers j) (cv_count j) (cv_allBids j) (cv_allOffers j) (cv_meetingPrice j) x1) (fun r => (0, some (.int r.1), ex, (HX x_members x_collaterals x_hasSent x_isSealed x_metered x_sealedCount bk_counts bk_needs bk_whens bk_sides bk_quantities bk_limits ag_toldLies ag_passedLies ag_words ag_vectors ag_liarOperator ag_rounds mk_entries mk_slots mk_remainders mk_blocks mk_blockBids mk_blockOffers mk_entryCount mk_blockCount cv_limits cv_bids cv_offers cv_count cv_allBids cv_allOffers (va_up cv_meetingPrice j r.2) cv_sureBids cv_sureOffers cv_priceBids cv_priceOffers cv_volume cv_worth oc_prices oc_volumes oc_filled oc_worth oc_takenSet oc_isDone, hT), 0, 0)) := match j, hj with | 0, _ => e_c_meet_0 | 1, _ => e_c_meet_1 | 2, _ => e_c_meet_2 | j + 3, h => absurd h (by omega)
set_option maxRecDepth 100000 in
set_option maxHeartbeats 4000000 in
theorem e_bk_covers {g : mz_G} {ex : Bool} {hT : List mz_E} {x_members : Int32} {x_collaterals : Nat → Int32} {x_hasSent : Nat → Int32} {x_isSealed : Nat → Int32} {x_metered : Nat → Int32} {x_sealedCount : Int32} {bk_counts : Nat → Int32} {bk_needs : Nat → Int64} {bk_whens : Nat → Int32} {bk_sides : Nat → Int32} {bk_quantities : Nat → Int32} {bk_limits : Nat → Int32} {ag_toldLies : Nat → Int32} {ag_passedLies : Nat → Int32} {ag_words : Nat → Int32} {ag_vectors : Nat → Int32} {ag_liarOperator : Int32} {ag_rounds : Int32} {mk_entries : Nat → Int32} {mk_slots : Nat → Int32} {mk_remainders : Nat → Int32} {mk_blocks : Nat → Int32} {mk_blockBids : Nat → Int32} {mk_blockOffers : Nat → Int32} {mk_entryCount : Int32} {mk_blockCount : Int32} {cv_limits : Nat → Nat → Int32} {cv_bids : Nat → Nat → Int32} {cv_offers : Nat → Nat → Int32} {cv_count : Nat → Int32} {cv_allBids : Nat → Int32} {cv_allOffers : Nat → Int32} {cv_meetingPrice : Nat → Int32} {cv_sureBids : Nat → Int32} {cv_sureOffers : Nat → Int32} {cv_priceBids : Nat → Int32} {cv_priceOffers : Nat → Int32} {cv_volume : Nat → Int32} {cv_worth : Nat → Int64} {oc_prices : Nat → Nat → Int32} {oc_volumes : Nat → Nat → Int32} {oc_filled : Nat → Nat → Int32} {oc_worth : Nat → Int64} {oc_takenSet : Nat → Int32} {oc_isDone : Nat → Int32} {x1 : Int32} {x2 : Int32} : mz_M g M_bk_covers 1 [.ref 5, .int x1, .int x2] ex (HX x_members x_collaterals x_hasSent x_isSealed x_metered x_sealedCount bk_counts bk_needs bk_whens bk_sides bk_quantities bk_limits ag_toldLies ag_passedLies ag_words ag_vectors ag_liarOperator ag_rounds mk_entries mk_slots mk_remainders mk_blocks mk_blockBids mk_blockOffers mk_entryCount mk_blockCount cv_limits cv_bids cv_offers cv_count cv_allBids cv_allOffers cv_meetingPrice cv_sureBids cv_sureOffers cv_priceBids cv_priceOffers cv_volume cv_worth oc_prices oc_volumes oc_filled oc_worth oc_takenSet oc_isDone, hT) (f_bk_covers bk_whens x1 x2) (fun r => (0, some (.int r), ex, (HX x_members x_collaterals x_hasSent x_isSealed x_metered x_sealedCount bk_counts bk_needs bk_whens bk_sides bk_quantities bk_limits ag_toldLies ag_passedLies ag_words ag_vectors ag_liarOperator ag_rounds mk_entries mk_slots mk_remainders mk_blocks mk_blockBids mk_blockOffers mk_entryCount mk_blockCount cv_limits cv_bids cv_offers cv_count cv_allBids cv_allOffers cv_meetingPrice cv_sureBids cv_sureOffers cv_priceBids cv_priceOffers cv_volume cv_worth oc_prices oc_volumes oc_filled oc_worth oc_takenSet oc_isDone, hT), 0, 0)) := by
  refine mz_of (by decide) (Nat.le_of_ble_eq_true rfl) ?_
  rw [f_bk_covers]
  show mz_A g M_bk_covers (mz_rm 1) _ 0 [(0, .ref 5), (1, .int x1), (2, .int x2)] [] ex (HX x_members x_collaterals x_hasSent x_isSealed x_metered x_sealedCount bk_counts bk_needs bk_whens bk_sides bk_quantities bk_limits ag_toldLies ag_passedLies ag_words ag_vectors ag_liarOperator ag_rounds mk_entries mk_slots mk_remainders mk_blocks mk_blockBids mk_blockOffers mk_entryCount mk_blockCount cv_limits cv_bids cv_offers cv_count cv_allBids cv_allOffers cv_meetingPrice cv_sureBids cv_sureOffers cv_priceBids cv_priceOffers cv_volume cv_worth oc_prices oc_volumes oc_filled oc_worth oc_takenSet oc_isDone, hT) 0 0 _
  refine mr_aload_n d_bk_covers_0 rfl rfl ?_
  refine mr_get K_bk 2 d_bk_covers_1 lk_f_bk_19 (by decide) rfl rfl ?_
  refine mr_iload_n d_bk_covers_4 rfl rfl ?_
  refine mr_iald d_bk_covers_5 rfl (fun hc1 => ?_)
  refine mz_go (st := []) e_bk_firstHour (fun _ => rfl) U_bk_firstHour (mz_vS d_bk_covers_6 U_bk_firstHour lk_m_bk_43 S_bk_firstHour np_bk_firstHour) (Nat.le_of_ble_eq_true rfl) (by decide) (fun r2 => ?_)
  refine mr_eq (st' := [.int r2]) (ex' := ex) (h2 := (HX x_members x_collaterals x_hasSent x_isSealed x_metered x_sealedCount bk_counts bk_needs bk_whens bk_sides bk_quantities bk_limits ag_toldLies ag_passedLies ag_words ag_vectors ag_liarOperator ag_rounds mk_entries mk_slots mk_remainders mk_blocks mk_blockBids mk_blockOffers mk_entryCount mk_blockCount cv_limits cv_bids cv_offers cv_count cv_allBids cv_allOffers cv_meetingPrice cv_sureBids cv_sureOffers cv_priceBids cv_priceOffers cv_volume cv_worth oc_prices oc_volumes oc_filled oc_worth oc_takenSet oc_isDone, hT)) (k' := 0) (n' := 0) rfl rfl rfl rfl rfl ?_
  refine mr_iload_n d_bk_covers_9 rfl rfl ?_
  refine mr_icmp_gt (tgt := 30) d_bk_covers_10 (by decide) ?_ ?_
  · refine mr_iconst (v := 0) d_bk_covers_30 mc_iconst_0 ?_
    exact mr_zret d_bk_covers_31 rfl rfl
  · refine mr_iload_n d_bk_covers_13 rfl rfl ?_
    refine mr_aload_n d_bk_covers_14 rfl rfl ?_
    refine mr_get K_bk 2 d_bk_covers_15 lk_f_bk_19 (by decide) rfl rfl ?_
    refine mr_iload_n d_bk_covers_18 rfl rfl ?_
    refine mr_ialdK d_bk_covers_19 rfl hc1 ?_
    refine mz_go (st := [.int x2]) e_bk_lastHour (fun _ => rfl) U_bk_lastHour (mz_vS d_bk_covers_20 U_bk_lastHour lk_m_bk_46 S_bk_lastHour np_bk_lastHour) (Nat.le_of_ble_eq_true rfl) (by decide) (fun r3 => ?_)
    refine mr_eq (st' := [.int r3, .int x2]) (ex' := ex) (h2 := (HX x_members x_collaterals x_hasSent x_isSealed x_metered x_sealedCount bk_counts bk_needs bk_whens bk_sides bk_quantities bk_limits ag_toldLies ag_passedLies ag_words ag_vectors ag_liarOperator ag_rounds mk_entries mk_slots mk_remainders mk_blocks mk_blockBids mk_blockOffers mk_entryCount mk_blockCount cv_limits cv_bids cv_offers cv_count cv_allBids cv_allOffers cv_meetingPrice cv_sureBids cv_sureOffers cv_priceBids cv_priceOffers cv_volume cv_worth oc_prices oc_volumes oc_filled oc_worth oc_takenSet oc_isDone, hT)) (k' := 0) (n' := 0) rfl rfl rfl rfl rfl ?_
    refine mr_icmp_gt (tgt := 30) d_bk_covers_23 (by decide) ?_ ?_
    · refine mr_iconst (v := 0) d_bk_covers_30 mc_iconst_0 ?_
      exact mr_zret d_bk_covers_31 rfl rfl
    · refine mr_iconst (v := 1) d_bk_covers_26 mc_iconst_1 ?_
      refine mr_goto (tgt := 31) d_bk_covers_27 (by decide) ?_
      exact mr_zret d_bk_covers_31 rfl rfl
set_option maxRecDepth 100000 in
set_option maxHeartbeats 4000000 in
theorem e_mk_addBlock {g : mz_G} {ex : Bool} {hT : List mz_E} {x_members : Int32} {x_collaterals : Nat → Int32} {x_hasSent : Nat → Int32} {x_isSealed : Nat → Int32} {x_metered : Nat → Int32} {x_sealedCount : Int32} {bk_counts : Nat → Int32} {bk_needs : Nat → Int64} {bk_whens : Nat → Int32} {bk_sides : Nat → Int32} {bk_quantities : Nat → Int32} {bk_limits : Nat → Int32} {ag_toldLies : Nat → Int32} {ag_passedLies : Nat → Int32} {ag_words : Nat → Int32} {ag_vectors : Nat → Int32} {ag_liarOperator : Int32} {ag_rounds : Int32} {mk_entries : Nat → Int32} {mk_slots : Nat → Int32} {mk_remainders : Nat → Int32} {mk_blocks : Nat → Int32} {mk_blockBids : Nat → Int32} {mk_blockOffers : Nat → Int32} {mk_entryCount : Int32} {mk_blockCount : Int32} {cv_limits : Nat → Nat → Int32} {cv_bids : Nat → Nat → Int32} {cv_offers : Nat → Nat → Int32} {cv_count : Nat → Int32} {cv_allBids : Nat → Int32} {cv_allOffers : Nat → Int32} {cv_meetingPrice : Nat → Int32} {cv_sureBids : Nat → Int32} {cv_sureOffers : Nat → Int32} {cv_priceBids : Nat → Int32} {cv_priceOffers : Nat → Int32} {cv_volume : Nat → Int32} {cv_worth : Nat → Int64} {oc_prices : Nat → Nat → Int32} {oc_volumes : Nat → Nat → Int32} {oc_filled : Nat → Nat → Int32} {oc_worth : Nat → Int64} {oc_takenSet : Nat → Int32} {oc_isDone : Nat → Int32} {x1 : Int32} {x2 : Int32} : mz_M g M_mk_addBlock 0 [.ref 17, .int x1, .int x2] ex (HX x_members x_collaterals x_hasSent x_isSealed x_metered x_sealedCount bk_counts bk_needs bk_whens bk_sides bk_quantities bk_limits ag_toldLies ag_passedLies ag_words ag_vectors ag_liarOperator ag_rounds mk_entries mk_slots mk_remainders mk_blocks mk_blockBids mk_blockOffers mk_entryCount mk_blockCount cv_limits cv_bids cv_offers cv_count cv_allBids cv_allOffers cv_meetingPrice cv_sureBids cv_sureOffers cv_priceBids cv_priceOffers cv_volume cv_worth oc_prices oc_volumes oc_filled oc_worth oc_takenSet oc_isDone, hT) (f_mk_addBlock bk_sides bk_quantities mk_blockBids mk_blockOffers x1 x2) (fun r => (0, none, ex, (HX x_members x_collaterals x_hasSent x_isSealed x_metered x_sealedCount bk_counts bk_needs bk_whens bk_sides bk_quantities bk_limits ag_toldLies ag_passedLies ag_words ag_vectors ag_liarOperator ag_rounds mk_entries mk_slots mk_remainders mk_blocks r.1 r.2 mk_entryCount mk_blockCount cv_limits cv_bids cv_offers cv_count cv_allBids cv_allOffers cv_meetingPrice cv_sureBids cv_sureOffers cv_priceBids cv_priceOffers cv_volume cv_worth oc_prices oc_volumes oc_filled oc_worth oc_takenSet oc_isDone, hT), 0, 0)) := by
  refine mz_of (by decide) (Nat.le_of_ble_eq_true rfl) ?_
  rw [f_mk_addBlock]
  show mz_A g M_mk_addBlock (mz_rm 0) _ 0 [(0, .ref 17), (1, .int x1), (2, .int x2)] [] ex (HX x_members x_collaterals x_hasSent x_isSealed x_metered x_sealedCount bk_counts bk_needs bk_whens bk_sides bk_quantities bk_limits ag_toldLies ag_passedLies ag_words ag_vectors ag_liarOperator ag_rounds mk_entries mk_slots mk_remainders mk_blocks mk_blockBids mk_blockOffers mk_entryCount mk_blockCount cv_limits cv_bids cv_offers cv_count cv_allBids cv_allOffers cv_meetingPrice cv_sureBids cv_sureOffers cv_priceBids cv_priceOffers cv_volume cv_worth oc_prices oc_volumes oc_filled oc_worth oc_takenSet oc_isDone, hT) 0 0 _
  refine mr_aload_n d_mk_addBlock_0 rfl rfl ?_
  refine mr_get K_mk 0 d_mk_addBlock_1 lk_f_mk_9 (by decide) rfl rfl ?_
  refine mr_getN K_bk 3 d_mk_addBlock_4 lk_f_mk_73 (by decide) rfl rfl ?_
  refine mr_iload_n d_mk_addBlock_7 rfl rfl ?_
  refine mr_iald d_mk_addBlock_8 rfl (fun hc1 => ?_)
  refine mr_if_ne (tgt := 33) d_mk_addBlock_9 (by decide) ?_ ?_
  · refine mr_aload_n d_mk_addBlock_33 rfl rfl ?_
    refine mr_get K_mk 7 d_mk_addBlock_34 lk_f_mk_38 (by decide) rfl rfl ?_
    refine mr_iload_n d_mk_addBlock_37 rfl rfl ?_
    refine mr_dup2_11 d_mk_addBlock_38 rfl rfl ?_
    refine mr_iald d_mk_addBlock_39 rfl (fun hc2 => ?_)
    refine mr_aload_n d_mk_addBlock_40 rfl rfl ?_
    refine mr_get K_mk 0 d_mk_addBlock_41 lk_f_mk_9 (by decide) rfl rfl ?_
    refine mr_getN K_bk 4 d_mk_addBlock_44 lk_f_mk_76 (by decide) rfl rfl ?_
    refine mr_iload_n d_mk_addBlock_47 rfl rfl ?_
    refine mr_ialdK d_mk_addBlock_48 rfl hc1 ?_
    refine mr_iadd d_mk_addBlock_49 ?_
    refine mr_iastK (h2 := (HX x_members x_collaterals x_hasSent x_isSealed x_metered x_sealedCount bk_counts bk_needs bk_whens bk_sides bk_quantities bk_limits ag_toldLies ag_passedLies ag_words ag_vectors ag_liarOperator ag_rounds mk_entries mk_slots mk_remainders mk_blocks mk_blockBids (upd mk_blockOffers x1.toNatClampNeg ((mk_blockOffers x1.toNatClampNeg) + (bk_quantities x2.toNatClampNeg))) mk_entryCount mk_blockCount cv_limits cv_bids cv_offers cv_count cv_allBids cv_allOffers cv_meetingPrice cv_sureBids cv_sureOffers cv_priceBids cv_priceOffers cv_volume cv_worth oc_prices oc_volumes oc_filled oc_worth oc_takenSet oc_isDone, hT)) d_mk_addBlock_50 rfl rfl hc2 ?_
    exact mr_vret d_mk_addBlock_51 rfl rfl
  · refine mr_aload_n d_mk_addBlock_12 rfl rfl ?_
    refine mr_get K_mk 6 d_mk_addBlock_13 lk_f_mk_35 (by decide) rfl rfl ?_
    refine mr_iload_n d_mk_addBlock_16 rfl rfl ?_
    refine mr_dup2_11 d_mk_addBlock_17 rfl rfl ?_
    refine mr_iald d_mk_addBlock_18 rfl (fun hc3 => ?_)
    refine mr_aload_n d_mk_addBlock_19 rfl rfl ?_
    refine mr_get K_mk 0 d_mk_addBlock_20 lk_f_mk_9 (by decide) rfl rfl ?_
    refine mr_getN K_bk 4 d_mk_addBlock_23 lk_f_mk_76 (by decide) rfl rfl ?_
    refine mr_iload_n d_mk_addBlock_26 rfl rfl ?_
    refine mr_ialdK d_mk_addBlock_27 rfl hc1 ?_
    refine mr_iadd d_mk_addBlock_28 ?_
    refine mr_iastK (h2 := (HX x_members x_collaterals x_hasSent x_isSealed x_metered x_sealedCount bk_counts bk_needs bk_whens bk_sides bk_quantities bk_limits ag_toldLies ag_passedLies ag_words ag_vectors ag_liarOperator ag_rounds mk_entries mk_slots mk_remainders mk_blocks (upd mk_blockBids x1.toNatClampNeg ((mk_blockBids x1.toNatClampNeg) + (bk_quantities x2.toNatClampNeg))) mk_blockOffers mk_entryCount mk_blockCount cv_limits cv_bids cv_offers cv_count cv_allBids cv_allOffers cv_meetingPrice cv_sureBids cv_sureOffers cv_priceBids cv_priceOffers cv_volume cv_worth oc_prices oc_volumes oc_filled oc_worth oc_takenSet oc_isDone, hT)) d_mk_addBlock_29 rfl rfl hc3 ?_
    refine mr_goto (tgt := 51) d_mk_addBlock_30 (by decide) ?_
    exact mr_vret d_mk_addBlock_51 rfl rfl
set_option maxRecDepth 100000 in
set_option maxHeartbeats 4000000 in
theorem e_mk_isTaken {g : mz_G} {ex : Bool} {h : mz_H} {x0 : Int32} {x1 : Int32} : mz_M g M_mk_isTaken 0 [.int x0, .int x1] ex h (f_mk_isTaken x0 x1) (fun r => (0, some (.int r), ex, h, 0, 0)) := by
  refine mz_of (by decide) (Nat.le_of_ble_eq_true rfl) ?_
  rw [f_mk_isTaken]
  show mz_A g M_mk_isTaken (mz_rm 0) _ 0 [(0, .int x0), (1, .int x1)] [] ex h 0 0 _
  refine mr_iload_n d_mk_isTaken_0 rfl rfl ?_
  refine mr_iload_n d_mk_isTaken_1 rfl rfl ?_
  refine mr_ishr d_mk_isTaken_2 ?_
  refine mr_iconst (v := 1) d_mk_isTaken_3 mc_iconst_1 ?_
  refine mr_iand d_mk_isTaken_4 ?_
  refine mr_iconst (v := 1) d_mk_isTaken_5 mc_iconst_1 ?_
  refine mr_icmp_ne (tgt := 13) d_mk_isTaken_6 (by decide) ?_ ?_
  · refine mr_iconst (v := 0) d_mk_isTaken_13 mc_iconst_0 ?_
    exact mr_zret d_mk_isTaken_14 rfl rfl
  · refine mr_iconst (v := 1) d_mk_isTaken_9 mc_iconst_1 ?_
    refine mr_goto (tgt := 14) d_mk_isTaken_10 (by decide) ?_
    exact mr_zret d_mk_isTaken_14 rfl rfl
set_option maxRecDepth 100000 in
set_option maxHeartbeats 4000000 in
theorem e_mk_sumBlocks {g : mz_G} {ex : Bool} {hT : List mz_E} {x_members : Int32} {x_collaterals : Nat → Int32} {x_hasSent : Nat → Int32} {x_isSealed : Nat → Int32} {x_metered : Nat → Int32} {x_sealedCount : Int32} {bk_counts : Nat → Int32} {bk_needs : Nat → Int64} {bk_whens : Nat → Int32} {bk_sides : Nat → Int32} {bk_quantities : Nat → Int32} {bk_limits : Nat → Int32} {ag_toldLies : Nat → Int32} {ag_passedLies : Nat → Int32} {ag_words : Nat → Int32} {ag_vectors : Nat → Int32} {ag_liarOperator : Int32} {ag_rounds : Int32} {mk_entries : Nat → Int32} {mk_slots : Nat → Int32} {mk_remainders : Nat → Int32} {mk_blocks : Nat → Int32} {mk_blockBids : Nat → Int32} {mk_blockOffers : Nat → Int32} {mk_entryCount : Int32} {mk_blockCount : Int32} {cv_limits : Nat → Nat → Int32} {cv_bids : Nat → Nat → Int32} {cv_offers : Nat → Nat → Int32} {cv_count : Nat → Int32} {cv_allBids : Nat → Int32} {cv_allOffers : Nat → Int32} {cv_meetingPrice : Nat → Int32} {cv_sureBids : Nat → Int32} {cv_sureOffers : Nat → Int32} {cv_priceBids : Nat → Int32} {cv_priceOffers : Nat → Int32} {cv_volume : Nat → Int32} {cv_worth : Nat → Int64} {oc_prices : Nat → Nat → Int32} {oc_volumes : Nat → Nat → Int32} {oc_filled : Nat → Nat → Int32} {oc_worth : Nat → Int64} {oc_takenSet : Nat → Int32} {oc_isDone : Nat → Int32} {x1 : Int32} : mz_M g M_mk_sumBlocks 2 [.ref 17, .int x1] ex (HX x_members x_collaterals x_hasSent x_isSealed x_metered x_sealedCount bk_counts bk_needs bk_whens bk_sides bk_quantities bk_limits ag_toldLies ag_passedLies ag_words ag_vectors ag_liarOperator ag_rounds mk_entries mk_slots mk_remainders mk_blocks mk_blockBids mk_blockOffers mk_entryCount mk_blockCount cv_limits cv_bids cv_offers cv_count cv_allBids cv_allOffers cv_meetingPrice cv_sureBids cv_sureOffers cv_priceBids cv_priceOffers cv_volume cv_worth oc_prices oc_volumes oc_filled oc_worth oc_takenSet oc_isDone, hT) (f_mk_sumBlocks bk_whens bk_sides bk_quantities mk_blocks mk_blockBids mk_blockOffers mk_blockCount x1) (fun r => (0, none, ex, (HX x_members x_collaterals x_hasSent x_isSealed x_metered x_sealedCount bk_counts bk_needs bk_whens bk_sides bk_quantities bk_limits ag_toldLies ag_passedLies ag_words ag_vectors ag_liarOperator ag_rounds mk_entries mk_slots mk_remainders mk_blocks r.1 r.2 mk_entryCount mk_blockCount cv_limits cv_bids cv_offers cv_count cv_allBids cv_allOffers cv_meetingPrice cv_sureBids cv_sureOffers cv_priceBids cv_priceOffers cv_volume cv_worth oc_prices oc_volumes oc_filled oc_worth oc_takenSet oc_isDone, hT), 0, 0)) := by
  have w_L23 : ∀ (K2 : (Nat → Int32) → (Nat → Int32) → Int32 → Option ((Nat → Int32) × (Nat → Int32))), (∀ (mk_blockBids : Nat → Int32) (mk_blockOffers : Nat → Int32) (x2 : Int32), mz_A g M_mk_sumBlocks (mz_rm 2) (fun r => (0, none, ex, (HX x_members x_collaterals x_hasSent x_isSealed x_metered x_sealedCount bk_counts bk_needs bk_whens bk_sides bk_quantities bk_limits ag_toldLies ag_passedLies ag_words ag_vectors ag_liarOperator ag_rounds mk_entries mk_slots mk_remainders mk_blocks r.1 r.2 mk_entryCount mk_blockCount cv_limits cv_bids cv_offers cv_count cv_allBids cv_allOffers cv_meetingPrice cv_sureBids cv_sureOffers cv_priceBids cv_priceOffers cv_volume cv_worth oc_prices oc_volumes oc_filled oc_worth oc_takenSet oc_isDone, hT), 0, 0)) 2 [(0, .ref 17), (1, .int x1), (2, .int x2)] [] ex (HX x_members x_collaterals x_hasSent x_isSealed x_metered x_sealedCount bk_counts bk_needs bk_whens bk_sides bk_quantities bk_limits ag_toldLies ag_passedLies ag_words ag_vectors ag_liarOperator ag_rounds mk_entries mk_slots mk_remainders mk_blocks mk_blockBids mk_blockOffers mk_entryCount mk_blockCount cv_limits cv_bids cv_offers cv_count cv_allBids cv_allOffers cv_meetingPrice cv_sureBids cv_sureOffers cv_priceBids cv_priceOffers cv_volume cv_worth oc_prices oc_volumes oc_filled oc_worth oc_takenSet oc_isDone, hT) 0 0 (K2 mk_blockBids mk_blockOffers x2)) → ∀ (n : Nat) (mk_blockBids : Nat → Int32) (mk_blockOffers : Nat → Int32) (x2 : Int32) (x3 : Int32), mz_A g M_mk_sumBlocks (mz_rm 2) (fun r => (0, none, ex, (HX x_members x_collaterals x_hasSent x_isSealed x_metered x_sealedCount bk_counts bk_needs bk_whens bk_sides bk_quantities bk_limits ag_toldLies ag_passedLies ag_words ag_vectors ag_liarOperator ag_rounds mk_entries mk_slots mk_remainders mk_blocks r.1 r.2 mk_entryCount mk_blockCount cv_limits cv_bids cv_offers cv_count cv_allBids cv_allOffers cv_meetingPrice cv_sureBids cv_sureOffers cv_priceBids cv_priceOffers cv_volume cv_worth oc_prices oc_volumes oc_filled oc_worth oc_takenSet oc_isDone, hT), 0, 0)) 23 [(0, .ref 17), (1, .int x1), (2, .int x2), (3, .int x3)] [] ex (HX x_members x_collaterals x_hasSent x_isSealed x_metered x_sealedCount bk_counts bk_needs bk_whens bk_sides bk_quantities bk_limits ag_toldLies ag_passedLies ag_words ag_vectors ag_liarOperator ag_rounds mk_entries mk_slots mk_remainders mk_blocks mk_blockBids mk_blockOffers mk_entryCount mk_blockCount cv_limits cv_bids cv_offers cv_count cv_allBids cv_allOffers cv_meetingPrice cv_sureBids cv_sureOffers cv_priceBids cv_priceOffers cv_volume cv_worth oc_prices oc_volumes oc_filled oc_worth oc_takenSet oc_isDone, hT) 0 0 (f_mk_sumBlocks_L23 bk_whens bk_sides bk_quantities mk_blocks mk_blockCount x1 K2 n mk_blockBids mk_blockOffers x2 x3) := by
    intro K2 hK2
    intro n
    induction n with
    | zero => intro mk_blockBids mk_blockOffers x2 x3; exact mr_none
    | succ n ih =>
      intro mk_blockBids mk_blockOffers x2 x3
      rw [f_mk_sumBlocks_L23]
      refine mr_iload_n d_mk_sumBlocks_23 rfl rfl ?_
      refine mr_aload_n d_mk_sumBlocks_24 rfl rfl ?_
      refine mr_get K_mk 9 d_mk_sumBlocks_25 lk_f_mk_45 (by decide) rfl rfl ?_
      refine mr_icmp_ge (tgt := 73) d_mk_sumBlocks_28 (by decide) ?_ ?_
      · refine mr_iinc (v := (x2 + 1)) (lv' := [(2, .int (x2 + 1)), (0, .ref 17), (1, .int x1), (3, .int x3)]) d_mk_sumBlocks_73 rfl rfl (by decide) rfl ?_
        refine mr_goto (tgt := 2) d_mk_sumBlocks_76 (by decide) ?_
        refine mr_sub (lv' := [(0, .ref 17), (1, .int x1), (2, .int (x2 + 1))]) [1, 2, 0] rfl ?_
        exact hK2 _ _ _
      · refine mr_iload_n d_mk_sumBlocks_31 rfl rfl ?_
        refine mr_iload_n d_mk_sumBlocks_32 rfl rfl ?_
        refine mz_go (st := []) e_mk_isTaken (fun _ => rfl) U_mk_isTaken (mz_vS d_mk_sumBlocks_33 U_mk_isTaken lk_m_mk_133 S_mk_isTaken np_mk_isTaken) (Nat.le_of_ble_eq_true rfl) (by decide) (fun r2 => ?_)
        refine mr_eq (st' := [.int r2]) (ex' := ex) (h2 := (HX x_members x_collaterals x_hasSent x_isSealed x_metered x_sealedCount bk_counts bk_needs bk_whens bk_sides bk_quantities bk_limits ag_toldLies ag_passedLies ag_words ag_vectors ag_liarOperator ag_rounds mk_entries mk_slots mk_remainders mk_blocks mk_blockBids mk_blockOffers mk_entryCount mk_blockCount cv_limits cv_bids cv_offers cv_count cv_allBids cv_allOffers cv_meetingPrice cv_sureBids cv_sureOffers cv_priceBids cv_priceOffers cv_volume cv_worth oc_prices oc_volumes oc_filled oc_worth oc_takenSet oc_isDone, hT)) (k' := 0) (n' := 0) rfl rfl rfl rfl rfl ?_
        refine mr_if_eq (tgt := 67) d_mk_sumBlocks_36 (by decide) ?_ ?_
        · refine mr_iinc (v := (x3 + 1)) (lv' := [(3, .int (x3 + 1)), (0, .ref 17), (1, .int x1), (2, .int x2)]) d_mk_sumBlocks_67 rfl rfl (by decide) rfl ?_
          refine mr_goto (tgt := 23) d_mk_sumBlocks_70 (by decide) ?_
          refine mr_sub (lv' := [(0, .ref 17), (1, .int x1), (2, .int x2), (3, .int (x3 + 1))]) [1, 2, 3, 0] rfl ?_
          exact ih _ _ _ _
        · refine mr_aload_n d_mk_sumBlocks_39 rfl rfl ?_
          refine mr_get K_mk 0 d_mk_sumBlocks_40 lk_f_mk_9 (by decide) rfl rfl ?_
          refine mr_aload_n d_mk_sumBlocks_43 rfl rfl ?_
          refine mr_get K_mk 5 d_mk_sumBlocks_44 lk_f_mk_32 (by decide) rfl rfl ?_
          refine mr_iload_n d_mk_sumBlocks_47 rfl rfl ?_
          refine mr_iald d_mk_sumBlocks_48 rfl (fun hc3 => ?_)
          refine mr_iload_n d_mk_sumBlocks_49 rfl rfl ?_
          refine mz_go (st := []) e_bk_covers (fun _ => rfl) U_bk_covers (mz_vV d_mk_sumBlocks_50 U_bk_covers rfl lk_m_mk_147 I_bk_covers s_bk_covers np_bk_covers rfl rfl) (Nat.le_of_ble_eq_true rfl) (by decide) (fun r4 => ?_)
          refine mr_eq (st' := [.int r4]) (ex' := ex) (h2 := (HX x_members x_collaterals x_hasSent x_isSealed x_metered x_sealedCount bk_counts bk_needs bk_whens bk_sides bk_quantities bk_limits ag_toldLies ag_passedLies ag_words ag_vectors ag_liarOperator ag_rounds mk_entries mk_slots mk_remainders mk_blocks mk_blockBids mk_blockOffers mk_entryCount mk_blockCount cv_limits cv_bids cv_offers cv_count cv_allBids cv_allOffers cv_meetingPrice cv_sureBids cv_sureOffers cv_priceBids cv_priceOffers cv_volume cv_worth oc_prices oc_volumes oc_filled oc_worth oc_takenSet oc_isDone, hT)) (k' := 0) (n' := 0) rfl rfl rfl rfl rfl ?_
          refine mr_if_eq (tgt := 67) d_mk_sumBlocks_53 (by decide) ?_ ?_
          · refine mr_iinc (v := (x3 + 1)) (lv' := [(3, .int (x3 + 1)), (0, .ref 17), (1, .int x1), (2, .int x2)]) d_mk_sumBlocks_67 rfl rfl (by decide) rfl ?_
            refine mr_goto (tgt := 23) d_mk_sumBlocks_70 (by decide) ?_
            refine mr_sub (lv' := [(0, .ref 17), (1, .int x1), (2, .int x2), (3, .int (x3 + 1))]) [1, 2, 3, 0] rfl ?_
            exact ih _ _ _ _
          · refine mr_aload_n d_mk_sumBlocks_56 rfl rfl ?_
            refine mr_iload_n d_mk_sumBlocks_57 rfl rfl ?_
            refine mr_aload_n d_mk_sumBlocks_58 rfl rfl ?_
            refine mr_get K_mk 5 d_mk_sumBlocks_59 lk_f_mk_32 (by decide) rfl rfl ?_
            refine mr_iload_n d_mk_sumBlocks_62 rfl rfl ?_
            refine mr_ialdK d_mk_sumBlocks_63 rfl hc3 ?_
            refine mz_go (st := []) e_mk_addBlock (fun _ => rfl) U_mk_addBlock (mz_vV d_mk_sumBlocks_64 U_mk_addBlock rfl lk_m_mk_150 I_mk_addBlock s_mk_addBlock np_mk_addBlock rfl rfl) (Nat.le_of_ble_eq_true rfl) (by decide) (fun r5 => ?_)
            refine mr_eq (st' := []) (ex' := ex) (h2 := (HX x_members x_collaterals x_hasSent x_isSealed x_metered x_sealedCount bk_counts bk_needs bk_whens bk_sides bk_quantities bk_limits ag_toldLies ag_passedLies ag_words ag_vectors ag_liarOperator ag_rounds mk_entries mk_slots mk_remainders mk_blocks r5.1 r5.2 mk_entryCount mk_blockCount cv_limits cv_bids cv_offers cv_count cv_allBids cv_allOffers cv_meetingPrice cv_sureBids cv_sureOffers cv_priceBids cv_priceOffers cv_volume cv_worth oc_prices oc_volumes oc_filled oc_worth oc_takenSet oc_isDone, hT)) (k' := 0) (n' := 0) rfl rfl rfl rfl rfl ?_
            refine mr_iinc (v := (x3 + 1)) (lv' := [(3, .int (x3 + 1)), (0, .ref 17), (1, .int x1), (2, .int x2)]) d_mk_sumBlocks_67 rfl rfl (by decide) rfl ?_
            refine mr_goto (tgt := 23) d_mk_sumBlocks_70 (by decide) ?_
            refine mr_sub (lv' := [(0, .ref 17), (1, .int x1), (2, .int x2), (3, .int (x3 + 1))]) [1, 2, 3, 0] rfl ?_
            exact ih _ _ _ _
  have w_L2 : ∀ (n : Nat) (mk_blockBids : Nat → Int32) (mk_blockOffers : Nat → Int32) (x2 : Int32), mz_A g M_mk_sumBlocks (mz_rm 2) (fun r => (0, none, ex, (HX x_members x_collaterals x_hasSent x_isSealed x_metered x_sealedCount bk_counts bk_needs bk_whens bk_sides bk_quantities bk_limits ag_toldLies ag_passedLies ag_words ag_vectors ag_liarOperator ag_rounds mk_entries mk_slots mk_remainders mk_blocks r.1 r.2 mk_entryCount mk_blockCount cv_limits cv_bids cv_offers cv_count cv_allBids cv_allOffers cv_meetingPrice cv_sureBids cv_sureOffers cv_priceBids cv_priceOffers cv_volume cv_worth oc_prices oc_volumes oc_filled oc_worth oc_takenSet oc_isDone, hT), 0, 0)) 2 [(0, .ref 17), (1, .int x1), (2, .int x2)] [] ex (HX x_members x_collaterals x_hasSent x_isSealed x_metered x_sealedCount bk_counts bk_needs bk_whens bk_sides bk_quantities bk_limits ag_toldLies ag_passedLies ag_words ag_vectors ag_liarOperator ag_rounds mk_entries mk_slots mk_remainders mk_blocks mk_blockBids mk_blockOffers mk_entryCount mk_blockCount cv_limits cv_bids cv_offers cv_count cv_allBids cv_allOffers cv_meetingPrice cv_sureBids cv_sureOffers cv_priceBids cv_priceOffers cv_volume cv_worth oc_prices oc_volumes oc_filled oc_worth oc_takenSet oc_isDone, hT) 0 0 (f_mk_sumBlocks_L2 bk_whens bk_sides bk_quantities mk_blocks mk_blockCount x1 n mk_blockBids mk_blockOffers x2) := by
    intro n
    induction n with
    | zero => intro mk_blockBids mk_blockOffers x2; exact mr_none
    | succ n ih =>
      intro mk_blockBids mk_blockOffers x2
      rw [f_mk_sumBlocks_L2]
      refine mr_iload_n d_mk_sumBlocks_2 rfl rfl ?_
      refine mr_iconst (v := 3) d_mk_sumBlocks_3 mc_iconst_3 ?_
      refine mr_icmp_ge (tgt := 79) d_mk_sumBlocks_4 (by decide) ?_ ?_
      · exact mr_vret d_mk_sumBlocks_79 rfl rfl
      · refine mr_aload_n d_mk_sumBlocks_7 rfl rfl ?_
        refine mr_get K_mk 6 d_mk_sumBlocks_8 lk_f_mk_35 (by decide) rfl rfl ?_
        refine mr_iload_n d_mk_sumBlocks_11 rfl rfl ?_
        refine mr_iconst (v := 0) d_mk_sumBlocks_12 mc_iconst_0 ?_
        refine mr_iast (h2 := (HX x_members x_collaterals x_hasSent x_isSealed x_metered x_sealedCount bk_counts bk_needs bk_whens bk_sides bk_quantities bk_limits ag_toldLies ag_passedLies ag_words ag_vectors ag_liarOperator ag_rounds mk_entries mk_slots mk_remainders mk_blocks (upd mk_blockBids x2.toNatClampNeg 0) mk_blockOffers mk_entryCount mk_blockCount cv_limits cv_bids cv_offers cv_count cv_allBids cv_allOffers cv_meetingPrice cv_sureBids cv_sureOffers cv_priceBids cv_priceOffers cv_volume cv_worth oc_prices oc_volumes oc_filled oc_worth oc_takenSet oc_isDone, hT)) d_mk_sumBlocks_13 rfl rfl (fun hc1 => ?_)
        refine mr_aload_n d_mk_sumBlocks_14 rfl rfl ?_
        refine mr_get K_mk 7 d_mk_sumBlocks_15 lk_f_mk_38 (by decide) rfl rfl ?_
        refine mr_iload_n d_mk_sumBlocks_18 rfl rfl ?_
        refine mr_iconst (v := 0) d_mk_sumBlocks_19 mc_iconst_0 ?_
        refine mr_iastK (h2 := (HX x_members x_collaterals x_hasSent x_isSealed x_metered x_sealedCount bk_counts bk_needs bk_whens bk_sides bk_quantities bk_limits ag_toldLies ag_passedLies ag_words ag_vectors ag_liarOperator ag_rounds mk_entries mk_slots mk_remainders mk_blocks (upd mk_blockBids x2.toNatClampNeg 0) (upd mk_blockOffers x2.toNatClampNeg 0) mk_entryCount mk_blockCount cv_limits cv_bids cv_offers cv_count cv_allBids cv_allOffers cv_meetingPrice cv_sureBids cv_sureOffers cv_priceBids cv_priceOffers cv_volume cv_worth oc_prices oc_volumes oc_filled oc_worth oc_takenSet oc_isDone, hT)) d_mk_sumBlocks_20 rfl rfl hc1 ?_
        refine mr_iconst (v := 0) d_mk_sumBlocks_21 mc_iconst_0 ?_
        refine mr_istore_n (lv' := [(3, .int 0), (0, .ref 17), (1, .int x1), (2, .int x2)]) d_mk_sumBlocks_22 rfl (by decide) rfl ?_
        refine mr_sub (lv' := [(0, .ref 17), (1, .int x1), (2, .int x2), (3, .int 0)]) [1, 2, 3, 0] rfl ?_
        exact w_L23 _ ih 1000 _ _ _ _
  refine mz_of (by decide) (Nat.le_of_ble_eq_true rfl) ?_
  rw [f_mk_sumBlocks]
  show mz_A g M_mk_sumBlocks (mz_rm 2) _ 0 [(0, .ref 17), (1, .int x1)] [] ex (HX x_members x_collaterals x_hasSent x_isSealed x_metered x_sealedCount bk_counts bk_needs bk_whens bk_sides bk_quantities bk_limits ag_toldLies ag_passedLies ag_words ag_vectors ag_liarOperator ag_rounds mk_entries mk_slots mk_remainders mk_blocks mk_blockBids mk_blockOffers mk_entryCount mk_blockCount cv_limits cv_bids cv_offers cv_count cv_allBids cv_allOffers cv_meetingPrice cv_sureBids cv_sureOffers cv_priceBids cv_priceOffers cv_volume cv_worth oc_prices oc_volumes oc_filled oc_worth oc_takenSet oc_isDone, hT) 0 0 _
  refine mr_iconst (v := 0) d_mk_sumBlocks_0 mc_iconst_0 ?_
  refine mr_istore_n (lv' := [(2, .int 0), (0, .ref 17), (1, .int x1)]) d_mk_sumBlocks_1 rfl (by decide) rfl ?_
  refine mr_sub (lv' := [(0, .ref 17), (1, .int x1), (2, .int 0)]) [1, 2, 0] rfl ?_
  exact w_L2 1000 _ _ _
set_option maxRecDepth 100000 in
set_option maxHeartbeats 4000000 in
theorem e_mk_findPrices {g : mz_G} {ex : Bool} {hT : List mz_E} {x_members : Int32} {x_collaterals : Nat → Int32} {x_hasSent : Nat → Int32} {x_isSealed : Nat → Int32} {x_metered : Nat → Int32} {x_sealedCount : Int32} {bk_counts : Nat → Int32} {bk_needs : Nat → Int64} {bk_whens : Nat → Int32} {bk_sides : Nat → Int32} {bk_quantities : Nat → Int32} {bk_limits : Nat → Int32} {ag_toldLies : Nat → Int32} {ag_passedLies : Nat → Int32} {ag_words : Nat → Int32} {ag_vectors : Nat → Int32} {ag_liarOperator : Int32} {ag_rounds : Int32} {mk_entries : Nat → Int32} {mk_slots : Nat → Int32} {mk_remainders : Nat → Int32} {mk_blocks : Nat → Int32} {mk_blockBids : Nat → Int32} {mk_blockOffers : Nat → Int32} {mk_entryCount : Int32} {mk_blockCount : Int32} {cv_limits : Nat → Nat → Int32} {cv_bids : Nat → Nat → Int32} {cv_offers : Nat → Nat → Int32} {cv_count : Nat → Int32} {cv_allBids : Nat → Int32} {cv_allOffers : Nat → Int32} {cv_meetingPrice : Nat → Int32} {cv_sureBids : Nat → Int32} {cv_sureOffers : Nat → Int32} {cv_priceBids : Nat → Int32} {cv_priceOffers : Nat → Int32} {cv_volume : Nat → Int32} {cv_worth : Nat → Int64} {oc_prices : Nat → Nat → Int32} {oc_volumes : Nat → Nat → Int32} {oc_filled : Nat → Nat → Int32} {oc_worth : Nat → Int64} {oc_takenSet : Nat → Int32} {oc_isDone : Nat → Int32} {x1 : Int32} : mz_M g M_mk_findPrices 3 [.ref 17, .int x1] ex (HX x_members x_collaterals x_hasSent x_isSealed x_metered x_sealedCount bk_counts bk_needs bk_whens bk_sides bk_quantities bk_limits ag_toldLies ag_passedLies ag_words ag_vectors ag_liarOperator ag_rounds mk_entries mk_slots mk_remainders mk_blocks mk_blockBids mk_blockOffers mk_entryCount mk_blockCount cv_limits cv_bids cv_offers cv_count cv_allBids cv_allOffers cv_meetingPrice cv_sureBids cv_sureOffers cv_priceBids cv_priceOffers cv_volume cv_worth oc_prices oc_volumes oc_filled oc_worth oc_takenSet oc_isDone, hT) (f_mk_findPrices bk_whens bk_sides bk_quantities mk_blocks mk_blockBids mk_blockOffers mk_blockCount cv_limits cv_bids cv_offers cv_count cv_allBids cv_allOffers cv_meetingPrice x1) (fun r => (0, some (.int r.1), ex, (HX x_members x_collaterals x_hasSent x_isSealed x_metered x_sealedCount bk_counts bk_needs bk_whens bk_sides bk_quantities bk_limits ag_toldLies ag_passedLies ag_words ag_vectors ag_liarOperator ag_rounds mk_entries mk_slots mk_remainders mk_blocks r.2.1 r.2.2.1 mk_entryCount mk_blockCount cv_limits cv_bids cv_offers cv_count cv_allBids cv_allOffers r.2.2.2 cv_sureBids cv_sureOffers cv_priceBids cv_priceOffers cv_volume cv_worth oc_prices oc_volumes oc_filled oc_worth oc_takenSet oc_isDone, hT), 0, 0)) := by
  have w_L7 : ∀ (n : Nat) (mk_blockBids : Nat → Int32) (mk_blockOffers : Nat → Int32) (cv_meetingPrice : Nat → Int32) (x2 : Int32), mz_A g M_mk_findPrices (mz_rm 3) (fun r => (0, some (.int r.1), ex, (HX x_members x_collaterals x_hasSent x_isSealed x_metered x_sealedCount bk_counts bk_needs bk_whens bk_sides bk_quantities bk_limits ag_toldLies ag_passedLies ag_words ag_vectors ag_liarOperator ag_rounds mk_entries mk_slots mk_remainders mk_blocks r.2.1 r.2.2.1 mk_entryCount mk_blockCount cv_limits cv_bids cv_offers cv_count cv_allBids cv_allOffers r.2.2.2 cv_sureBids cv_sureOffers cv_priceBids cv_priceOffers cv_volume cv_worth oc_prices oc_volumes oc_filled oc_worth oc_takenSet oc_isDone, hT), 0, 0)) 7 [(0, .ref 17), (2, .int x2)] [] ex (HX x_members x_collaterals x_hasSent x_isSealed x_metered x_sealedCount bk_counts bk_needs bk_whens bk_sides bk_quantities bk_limits ag_toldLies ag_passedLies ag_words ag_vectors ag_liarOperator ag_rounds mk_entries mk_slots mk_remainders mk_blocks mk_blockBids mk_blockOffers mk_entryCount mk_blockCount cv_limits cv_bids cv_offers cv_count cv_allBids cv_allOffers cv_meetingPrice cv_sureBids cv_sureOffers cv_priceBids cv_priceOffers cv_volume cv_worth oc_prices oc_volumes oc_filled oc_worth oc_takenSet oc_isDone, hT) 0 0 (f_mk_findPrices_L7 bk_whens bk_sides bk_quantities mk_blocks mk_blockCount cv_limits cv_bids cv_offers cv_count cv_allBids cv_allOffers n mk_blockBids mk_blockOffers cv_meetingPrice x2) := by
    intro n
    induction n with
    | zero => intro mk_blockBids mk_blockOffers cv_meetingPrice x2; exact mr_none
    | succ n ih =>
      intro mk_blockBids mk_blockOffers cv_meetingPrice x2
      rw [f_mk_findPrices_L7]
      refine mr_iload_n d_mk_findPrices_7 rfl rfl ?_
      refine mr_iconst (v := 3) d_mk_findPrices_8 mc_iconst_3 ?_
      refine mr_icmp_ge (tgt := 45) d_mk_findPrices_9 (by decide) ?_ ?_
      · refine mr_iconst (v := 1) d_mk_findPrices_45 mc_iconst_1 ?_
        exact mr_zret d_mk_findPrices_46 rfl rfl
      · refine mr_aload_n d_mk_findPrices_12 rfl rfl ?_
        refine mr_get K_mk 1 d_mk_findPrices_13 lk_f_mk_17 (by decide) rfl rfl ?_
        refine mr_iload_n d_mk_findPrices_16 rfl rfl ?_
        refine mr_aald d_mk_findPrices_17 (fun _ => rfl) rfl (fun _ => rfl) (fun hc2 => ?_)
        refine mr_aload_n d_mk_findPrices_18 rfl rfl ?_
        refine mr_get K_mk 6 d_mk_findPrices_19 lk_f_mk_35 (by decide) rfl rfl ?_
        refine mr_iload_n d_mk_findPrices_22 rfl rfl ?_
        refine mr_ialdK d_mk_findPrices_23 rfl hc2 ?_
        refine mr_aload_n d_mk_findPrices_24 rfl rfl ?_
        refine mr_get K_mk 7 d_mk_findPrices_25 lk_f_mk_38 (by decide) rfl rfl ?_
        refine mr_iload_n d_mk_findPrices_28 rfl rfl ?_
        refine mr_ialdK d_mk_findPrices_29 rfl hc2 ?_
        refine mr_isub d_mk_findPrices_30 ?_
        refine mz_go (st := []) (e_c_meet (mz_lt hc2)) (fun _ => rfl) U_c_meet (mz_vV d_mk_findPrices_31 U_c_meet rfl lk_m_mk_144 I_c_meet s_c_meet np_c_meet (gt_c (mz_lt hc2)) rfl) (Nat.le_of_ble_eq_true rfl) (by decide) (fun r3 => ?_)
        refine mr_eq (st' := [.int r3.1]) (ex' := ex) (h2 := (HX x_members x_collaterals x_hasSent x_isSealed x_metered x_sealedCount bk_counts bk_needs bk_whens bk_sides bk_quantities bk_limits ag_toldLies ag_passedLies ag_words ag_vectors ag_liarOperator ag_rounds mk_entries mk_slots mk_remainders mk_blocks mk_blockBids mk_blockOffers mk_entryCount mk_blockCount cv_limits cv_bids cv_offers cv_count cv_allBids cv_allOffers (va_up cv_meetingPrice x2.toNatClampNeg r3.2) cv_sureBids cv_sureOffers cv_priceBids cv_priceOffers cv_volume cv_worth oc_prices oc_volumes oc_filled oc_worth oc_takenSet oc_isDone, hT)) (k' := 0) (n' := 0) rfl rfl rfl rfl rfl ?_
        refine mr_if_ne (tgt := 39) d_mk_findPrices_34 (by decide) ?_ ?_
        · refine mr_iinc (v := (x2 + 1)) (lv' := [(2, .int (x2 + 1)), (0, .ref 17)]) d_mk_findPrices_39 rfl rfl (by decide) rfl ?_
          refine mr_goto (tgt := 7) d_mk_findPrices_42 (by decide) ?_
          refine mr_sub (lv' := [(0, .ref 17), (2, .int (x2 + 1))]) [1, 0] rfl ?_
          exact ih _ _ _ _
        · refine mr_iconst (v := 0) d_mk_findPrices_37 mc_iconst_0 ?_
          exact mr_zret d_mk_findPrices_38 rfl rfl
  refine mz_of (by decide) (Nat.le_of_ble_eq_true rfl) ?_
  rw [f_mk_findPrices]
  show mz_A g M_mk_findPrices (mz_rm 3) _ 0 [(0, .ref 17), (1, .int x1)] [] ex (HX x_members x_collaterals x_hasSent x_isSealed x_metered x_sealedCount bk_counts bk_needs bk_whens bk_sides bk_quantities bk_limits ag_toldLies ag_passedLies ag_words ag_vectors ag_liarOperator ag_rounds mk_entries mk_slots mk_remainders mk_blocks mk_blockBids mk_blockOffers mk_entryCount mk_blockCount cv_limits cv_bids cv_offers cv_count cv_allBids cv_allOffers cv_meetingPrice cv_sureBids cv_sureOffers cv_priceBids cv_priceOffers cv_volume cv_worth oc_prices oc_volumes oc_filled oc_worth oc_takenSet oc_isDone, hT) 0 0 _
  refine mr_aload_n d_mk_findPrices_0 rfl rfl ?_
  refine mr_iload_n d_mk_findPrices_1 rfl rfl ?_
  refine mz_go (st := []) e_mk_sumBlocks (fun _ => rfl) U_mk_sumBlocks (mz_vV d_mk_findPrices_2 U_mk_sumBlocks rfl lk_m_mk_140 I_mk_sumBlocks s_mk_sumBlocks np_mk_sumBlocks rfl rfl) (Nat.le_of_ble_eq_true rfl) (by decide) (fun r1 => ?_)
  refine mr_eq (st' := []) (ex' := ex) (h2 := (HX x_members x_collaterals x_hasSent x_isSealed x_metered x_sealedCount bk_counts bk_needs bk_whens bk_sides bk_quantities bk_limits ag_toldLies ag_passedLies ag_words ag_vectors ag_liarOperator ag_rounds mk_entries mk_slots mk_remainders mk_blocks r1.1 r1.2 mk_entryCount mk_blockCount cv_limits cv_bids cv_offers cv_count cv_allBids cv_allOffers cv_meetingPrice cv_sureBids cv_sureOffers cv_priceBids cv_priceOffers cv_volume cv_worth oc_prices oc_volumes oc_filled oc_worth oc_takenSet oc_isDone, hT)) (k' := 0) (n' := 0) rfl rfl rfl rfl rfl ?_
  refine mr_iconst (v := 0) d_mk_findPrices_5 mc_iconst_0 ?_
  refine mr_istore_n (lv' := [(2, .int 0), (0, .ref 17), (1, .int x1)]) d_mk_findPrices_6 rfl (by decide) rfl ?_
  refine mr_sub (lv' := [(0, .ref 17), (2, .int 0)]) [1, 0] rfl ?_
  exact w_L7 1000 _ _ _ _
set_option maxRecDepth 100000 in
set_option maxHeartbeats 4000000 in
theorem e_bk_length {g : mz_G} {ex : Bool} {hT : List mz_E} {x_members : Int32} {x_collaterals : Nat → Int32} {x_hasSent : Nat → Int32} {x_isSealed : Nat → Int32} {x_metered : Nat → Int32} {x_sealedCount : Int32} {bk_counts : Nat → Int32} {bk_needs : Nat → Int64} {bk_whens : Nat → Int32} {bk_sides : Nat → Int32} {bk_quantities : Nat → Int32} {bk_limits : Nat → Int32} {ag_toldLies : Nat → Int32} {ag_passedLies : Nat → Int32} {ag_words : Nat → Int32} {ag_vectors : Nat → Int32} {ag_liarOperator : Int32} {ag_rounds : Int32} {mk_entries : Nat → Int32} {mk_slots : Nat → Int32} {mk_remainders : Nat → Int32} {mk_blocks : Nat → Int32} {mk_blockBids : Nat → Int32} {mk_blockOffers : Nat → Int32} {mk_entryCount : Int32} {mk_blockCount : Int32} {cv_limits : Nat → Nat → Int32} {cv_bids : Nat → Nat → Int32} {cv_offers : Nat → Nat → Int32} {cv_count : Nat → Int32} {cv_allBids : Nat → Int32} {cv_allOffers : Nat → Int32} {cv_meetingPrice : Nat → Int32} {cv_sureBids : Nat → Int32} {cv_sureOffers : Nat → Int32} {cv_priceBids : Nat → Int32} {cv_priceOffers : Nat → Int32} {cv_volume : Nat → Int32} {cv_worth : Nat → Int64} {oc_prices : Nat → Nat → Int32} {oc_volumes : Nat → Nat → Int32} {oc_filled : Nat → Nat → Int32} {oc_worth : Nat → Int64} {oc_takenSet : Nat → Int32} {oc_isDone : Nat → Int32} {x1 : Int32} : mz_M g M_bk_length 2 [.ref 5, .int x1] ex (HX x_members x_collaterals x_hasSent x_isSealed x_metered x_sealedCount bk_counts bk_needs bk_whens bk_sides bk_quantities bk_limits ag_toldLies ag_passedLies ag_words ag_vectors ag_liarOperator ag_rounds mk_entries mk_slots mk_remainders mk_blocks mk_blockBids mk_blockOffers mk_entryCount mk_blockCount cv_limits cv_bids cv_offers cv_count cv_allBids cv_allOffers cv_meetingPrice cv_sureBids cv_sureOffers cv_priceBids cv_priceOffers cv_volume cv_worth oc_prices oc_volumes oc_filled oc_worth oc_takenSet oc_isDone, hT) (f_bk_length bk_whens x1) (fun r => (0, some (.int r), ex, (HX x_members x_collaterals x_hasSent x_isSealed x_metered x_sealedCount bk_counts bk_needs bk_whens bk_sides bk_quantities bk_limits ag_toldLies ag_passedLies ag_words ag_vectors ag_liarOperator ag_rounds mk_entries mk_slots mk_remainders mk_blocks mk_blockBids mk_blockOffers mk_entryCount mk_blockCount cv_limits cv_bids cv_offers cv_count cv_allBids cv_allOffers cv_meetingPrice cv_sureBids cv_sureOffers cv_priceBids cv_priceOffers cv_volume cv_worth oc_prices oc_volumes oc_filled oc_worth oc_takenSet oc_isDone, hT), 0, 0)) := by
  refine mz_of (by decide) (Nat.le_of_ble_eq_true rfl) ?_
  rw [f_bk_length]
  show mz_A g M_bk_length (mz_rm 2) _ 0 [(0, .ref 5), (1, .int x1)] [] ex (HX x_members x_collaterals x_hasSent x_isSealed x_metered x_sealedCount bk_counts bk_needs bk_whens bk_sides bk_quantities bk_limits ag_toldLies ag_passedLies ag_words ag_vectors ag_liarOperator ag_rounds mk_entries mk_slots mk_remainders mk_blocks mk_blockBids mk_blockOffers mk_entryCount mk_blockCount cv_limits cv_bids cv_offers cv_count cv_allBids cv_allOffers cv_meetingPrice cv_sureBids cv_sureOffers cv_priceBids cv_priceOffers cv_volume cv_worth oc_prices oc_volumes oc_filled oc_worth oc_takenSet oc_isDone, hT) 0 0 _
  refine mr_aload_n d_bk_length_0 rfl rfl ?_
  refine mr_get K_bk 2 d_bk_length_1 lk_f_bk_19 (by decide) rfl rfl ?_
  refine mr_iload_n d_bk_length_4 rfl rfl ?_
  refine mr_iald d_bk_length_5 rfl (fun hc1 => ?_)
  refine mz_go (st := []) e_bk_lengthOf (fun _ => rfl) U_bk_lengthOf (mz_vS d_bk_length_6 U_bk_lengthOf lk_m_bk_35 S_bk_lengthOf np_bk_lengthOf) (Nat.le_of_ble_eq_true rfl) (by decide) (fun r2 => ?_)
  refine mr_eq (st' := [.int r2]) (ex' := ex) (h2 := (HX x_members x_collaterals x_hasSent x_isSealed x_metered x_sealedCount bk_counts bk_needs bk_whens bk_sides bk_quantities bk_limits ag_toldLies ag_passedLies ag_words ag_vectors ag_liarOperator ag_rounds mk_entries mk_slots mk_remainders mk_blocks mk_blockBids mk_blockOffers mk_entryCount mk_blockCount cv_limits cv_bids cv_offers cv_count cv_allBids cv_allOffers cv_meetingPrice cv_sureBids cv_sureOffers cv_priceBids cv_priceOffers cv_volume cv_worth oc_prices oc_volumes oc_filled oc_worth oc_takenSet oc_isDone, hT)) (k' := 0) (n' := 0) rfl rfl rfl rfl rfl ?_
  exact mr_iret d_bk_length_9 rfl rfl
set_option maxRecDepth 100000 in
set_option maxHeartbeats 4000000 in
theorem e_mk_loses {g : mz_G} {ex : Bool} {hT : List mz_E} {x_members : Int32} {x_collaterals : Nat → Int32} {x_hasSent : Nat → Int32} {x_isSealed : Nat → Int32} {x_metered : Nat → Int32} {x_sealedCount : Int32} {bk_counts : Nat → Int32} {bk_needs : Nat → Int64} {bk_whens : Nat → Int32} {bk_sides : Nat → Int32} {bk_quantities : Nat → Int32} {bk_limits : Nat → Int32} {ag_toldLies : Nat → Int32} {ag_passedLies : Nat → Int32} {ag_words : Nat → Int32} {ag_vectors : Nat → Int32} {ag_liarOperator : Int32} {ag_rounds : Int32} {mk_entries : Nat → Int32} {mk_slots : Nat → Int32} {mk_remainders : Nat → Int32} {mk_blocks : Nat → Int32} {mk_blockBids : Nat → Int32} {mk_blockOffers : Nat → Int32} {mk_entryCount : Int32} {mk_blockCount : Int32} {cv_limits : Nat → Nat → Int32} {cv_bids : Nat → Nat → Int32} {cv_offers : Nat → Nat → Int32} {cv_count : Nat → Int32} {cv_allBids : Nat → Int32} {cv_allOffers : Nat → Int32} {cv_meetingPrice : Nat → Int32} {cv_sureBids : Nat → Int32} {cv_sureOffers : Nat → Int32} {cv_priceBids : Nat → Int32} {cv_priceOffers : Nat → Int32} {cv_volume : Nat → Int32} {cv_worth : Nat → Int64} {oc_prices : Nat → Nat → Int32} {oc_volumes : Nat → Nat → Int32} {oc_filled : Nat → Nat → Int32} {oc_worth : Nat → Int64} {oc_takenSet : Nat → Int32} {oc_isDone : Nat → Int32} {x1 : Int32} : mz_M g M_mk_loses 3 [.ref 17, .int x1] ex (HX x_members x_collaterals x_hasSent x_isSealed x_metered x_sealedCount bk_counts bk_needs bk_whens bk_sides bk_quantities bk_limits ag_toldLies ag_passedLies ag_words ag_vectors ag_liarOperator ag_rounds mk_entries mk_slots mk_remainders mk_blocks mk_blockBids mk_blockOffers mk_entryCount mk_blockCount cv_limits cv_bids cv_offers cv_count cv_allBids cv_allOffers cv_meetingPrice cv_sureBids cv_sureOffers cv_priceBids cv_priceOffers cv_volume cv_worth oc_prices oc_volumes oc_filled oc_worth oc_takenSet oc_isDone, hT) (f_mk_loses bk_whens bk_sides bk_limits cv_meetingPrice x1) (fun r => (0, some (.int r), ex, (HX x_members x_collaterals x_hasSent x_isSealed x_metered x_sealedCount bk_counts bk_needs bk_whens bk_sides bk_quantities bk_limits ag_toldLies ag_passedLies ag_words ag_vectors ag_liarOperator ag_rounds mk_entries mk_slots mk_remainders mk_blocks mk_blockBids mk_blockOffers mk_entryCount mk_blockCount cv_limits cv_bids cv_offers cv_count cv_allBids cv_allOffers cv_meetingPrice cv_sureBids cv_sureOffers cv_priceBids cv_priceOffers cv_volume cv_worth oc_prices oc_volumes oc_filled oc_worth oc_takenSet oc_isDone, hT), 0, 0)) := by
  have w_L22 : ∀ (n : Nat) (x2 : Int32) (x3 : Int32), mz_A g M_mk_loses (mz_rm 3) (fun r => (0, some (.int r), ex, (HX x_members x_collaterals x_hasSent x_isSealed x_metered x_sealedCount bk_counts bk_needs bk_whens bk_sides bk_quantities bk_limits ag_toldLies ag_passedLies ag_words ag_vectors ag_liarOperator ag_rounds mk_entries mk_slots mk_remainders mk_blocks mk_blockBids mk_blockOffers mk_entryCount mk_blockCount cv_limits cv_bids cv_offers cv_count cv_allBids cv_allOffers cv_meetingPrice cv_sureBids cv_sureOffers cv_priceBids cv_priceOffers cv_volume cv_worth oc_prices oc_volumes oc_filled oc_worth oc_takenSet oc_isDone, hT), 0, 0)) 22 [(0, .ref 17), (1, .int x1), (2, .int x2), (3, .int x3)] [] ex (HX x_members x_collaterals x_hasSent x_isSealed x_metered x_sealedCount bk_counts bk_needs bk_whens bk_sides bk_quantities bk_limits ag_toldLies ag_passedLies ag_words ag_vectors ag_liarOperator ag_rounds mk_entries mk_slots mk_remainders mk_blocks mk_blockBids mk_blockOffers mk_entryCount mk_blockCount cv_limits cv_bids cv_offers cv_count cv_allBids cv_allOffers cv_meetingPrice cv_sureBids cv_sureOffers cv_priceBids cv_priceOffers cv_volume cv_worth oc_prices oc_volumes oc_filled oc_worth oc_takenSet oc_isDone, hT) 0 0 (f_mk_loses_L22 bk_whens bk_sides bk_limits cv_meetingPrice x1 n x2 x3) := by
    intro n
    induction n with
    | zero => intro x2 x3; exact mr_none
    | succ n ih =>
      intro x2 x3
      rw [f_mk_loses_L22]
      refine mr_iload_n d_mk_loses_22 rfl rfl ?_
      refine mr_iconst (v := 3) d_mk_loses_23 mc_iconst_3 ?_
      refine mr_icmp_ge (tgt := 57) d_mk_loses_24 (by decide) ?_ ?_
      · refine mr_aload_n d_mk_loses_57 rfl rfl ?_
        refine mr_get K_mk 0 d_mk_loses_58 lk_f_mk_9 (by decide) rfl rfl ?_
        refine mr_getN K_bk 3 d_mk_loses_61 lk_f_mk_73 (by decide) rfl rfl ?_
        refine mr_iload_n d_mk_loses_64 rfl rfl ?_
        refine mr_iald d_mk_loses_65 rfl (fun hc3 => ?_)
        refine mr_iconst (v := 1) d_mk_loses_66 mc_iconst_1 ?_
        refine mr_icmp_ne (tgt := 82) d_mk_loses_67 (by decide) ?_ ?_
        · refine mr_iload_n d_mk_loses_82 rfl rfl ?_
          refine mr_if_le (tgt := 90) d_mk_loses_83 (by decide) ?_ ?_
          · refine mr_iconst (v := 0) d_mk_loses_90 mc_iconst_0 ?_
            exact mr_zret d_mk_loses_91 rfl rfl
          · refine mr_iconst (v := 1) d_mk_loses_86 mc_iconst_1 ?_
            refine mr_goto (tgt := 91) d_mk_loses_87 (by decide) ?_
            exact mr_zret d_mk_loses_91 rfl rfl
        · refine mr_iload_n d_mk_loses_70 rfl rfl ?_
          refine mr_if_ge (tgt := 78) d_mk_loses_71 (by decide) ?_ ?_
          · refine mr_iconst (v := 0) d_mk_loses_78 mc_iconst_0 ?_
            refine mr_goto (tgt := 91) d_mk_loses_79 (by decide) ?_
            exact mr_zret d_mk_loses_91 rfl rfl
          · refine mr_iconst (v := 1) d_mk_loses_74 mc_iconst_1 ?_
            refine mr_goto (tgt := 91) d_mk_loses_75 (by decide) ?_
            exact mr_zret d_mk_loses_91 rfl rfl
      · refine mr_aload_n d_mk_loses_27 rfl rfl ?_
        refine mr_get K_mk 0 d_mk_loses_28 lk_f_mk_9 (by decide) rfl rfl ?_
        refine mr_iload_n d_mk_loses_31 rfl rfl ?_
        refine mr_iload_n d_mk_loses_32 rfl rfl ?_
        refine mz_go (st := []) e_bk_covers (fun _ => rfl) U_bk_covers (mz_vV d_mk_loses_33 U_bk_covers rfl lk_m_mk_147 I_bk_covers s_bk_covers np_bk_covers rfl rfl) (Nat.le_of_ble_eq_true rfl) (by decide) (fun r4 => ?_)
        refine mr_eq (st' := [.int r4]) (ex' := ex) (h2 := (HX x_members x_collaterals x_hasSent x_isSealed x_metered x_sealedCount bk_counts bk_needs bk_whens bk_sides bk_quantities bk_limits ag_toldLies ag_passedLies ag_words ag_vectors ag_liarOperator ag_rounds mk_entries mk_slots mk_remainders mk_blocks mk_blockBids mk_blockOffers mk_entryCount mk_blockCount cv_limits cv_bids cv_offers cv_count cv_allBids cv_allOffers cv_meetingPrice cv_sureBids cv_sureOffers cv_priceBids cv_priceOffers cv_volume cv_worth oc_prices oc_volumes oc_filled oc_worth oc_takenSet oc_isDone, hT)) (k' := 0) (n' := 0) rfl rfl rfl rfl rfl ?_
        refine mr_if_eq (tgt := 51) d_mk_loses_36 (by decide) ?_ ?_
        · refine mr_iinc (v := (x3 + 1)) (lv' := [(3, .int (x3 + 1)), (0, .ref 17), (1, .int x1), (2, .int x2)]) d_mk_loses_51 rfl rfl (by decide) rfl ?_
          refine mr_goto (tgt := 22) d_mk_loses_54 (by decide) ?_
          refine mr_sub (lv' := [(0, .ref 17), (1, .int x1), (2, .int x2), (3, .int (x3 + 1))]) [1, 2, 3, 0] rfl ?_
          exact ih _ _
        · refine mr_iload_n d_mk_loses_39 rfl rfl ?_
          refine mr_aload_n d_mk_loses_40 rfl rfl ?_
          refine mr_get K_mk 1 d_mk_loses_41 lk_f_mk_17 (by decide) rfl rfl ?_
          refine mr_iload_n d_mk_loses_44 rfl rfl ?_
          refine mr_aald d_mk_loses_45 (fun _ => rfl) rfl (fun _ => rfl) (fun hc5 => ?_)
          refine mr_getN K_c 6 d_mk_loses_46 lk_f_mk_109 (by decide) (gt_c (mz_lt hc5)) rfl ?_
          refine mr_iadd d_mk_loses_49 ?_
          refine mr_istore_n (lv' := [(2, .int (x2 + (cv_meetingPrice x3.toNatClampNeg))), (0, .ref 17), (1, .int x1), (3, .int x3)]) d_mk_loses_50 rfl (by decide) rfl ?_
          refine mr_iinc (v := (x3 + 1)) (lv' := [(3, .int (x3 + 1)), (2, .int (x2 + (cv_meetingPrice x3.toNatClampNeg))), (0, .ref 17), (1, .int x1)]) d_mk_loses_51 rfl rfl (by decide) rfl ?_
          refine mr_goto (tgt := 22) d_mk_loses_54 (by decide) ?_
          refine mr_sub (lv' := [(0, .ref 17), (1, .int x1), (2, .int (x2 + (cv_meetingPrice x3.toNatClampNeg))), (3, .int (x3 + 1))]) [2, 3, 1, 0] rfl ?_
          exact ih _ _
  refine mz_of (by decide) (Nat.le_of_ble_eq_true rfl) ?_
  rw [f_mk_loses]
  show mz_A g M_mk_loses (mz_rm 3) _ 0 [(0, .ref 17), (1, .int x1)] [] ex (HX x_members x_collaterals x_hasSent x_isSealed x_metered x_sealedCount bk_counts bk_needs bk_whens bk_sides bk_quantities bk_limits ag_toldLies ag_passedLies ag_words ag_vectors ag_liarOperator ag_rounds mk_entries mk_slots mk_remainders mk_blocks mk_blockBids mk_blockOffers mk_entryCount mk_blockCount cv_limits cv_bids cv_offers cv_count cv_allBids cv_allOffers cv_meetingPrice cv_sureBids cv_sureOffers cv_priceBids cv_priceOffers cv_volume cv_worth oc_prices oc_volumes oc_filled oc_worth oc_takenSet oc_isDone, hT) 0 0 _
  refine mr_aload_n d_mk_loses_0 rfl rfl ?_
  refine mr_get K_mk 0 d_mk_loses_1 lk_f_mk_9 (by decide) rfl rfl ?_
  refine mr_getN K_bk 5 d_mk_loses_4 lk_f_mk_79 (by decide) rfl rfl ?_
  refine mr_iload_n d_mk_loses_7 rfl rfl ?_
  refine mr_iald d_mk_loses_8 rfl (fun hc1 => ?_)
  refine mr_ineg d_mk_loses_9 ?_
  refine mr_aload_n d_mk_loses_10 rfl rfl ?_
  refine mr_get K_mk 0 d_mk_loses_11 lk_f_mk_9 (by decide) rfl rfl ?_
  refine mr_iload_n d_mk_loses_14 rfl rfl ?_
  refine mz_go (st := [.int (-(bk_limits x1.toNatClampNeg))]) e_bk_length (fun _ => rfl) U_bk_length (mz_vV d_mk_loses_15 U_bk_length rfl lk_m_mk_153 I_bk_length s_bk_length np_bk_length rfl rfl) (Nat.le_of_ble_eq_true rfl) (by decide) (fun r2 => ?_)
  refine mr_eq (st' := [.int r2, .int (-(bk_limits x1.toNatClampNeg))]) (ex' := ex) (h2 := (HX x_members x_collaterals x_hasSent x_isSealed x_metered x_sealedCount bk_counts bk_needs bk_whens bk_sides bk_quantities bk_limits ag_toldLies ag_passedLies ag_words ag_vectors ag_liarOperator ag_rounds mk_entries mk_slots mk_remainders mk_blocks mk_blockBids mk_blockOffers mk_entryCount mk_blockCount cv_limits cv_bids cv_offers cv_count cv_allBids cv_allOffers cv_meetingPrice cv_sureBids cv_sureOffers cv_priceBids cv_priceOffers cv_volume cv_worth oc_prices oc_volumes oc_filled oc_worth oc_takenSet oc_isDone, hT)) (k' := 0) (n' := 0) rfl rfl rfl rfl rfl ?_
  refine mr_imul d_mk_loses_18 ?_
  refine mr_istore_n (lv' := [(2, .int ((-(bk_limits x1.toNatClampNeg)) * r2)), (0, .ref 17), (1, .int x1)]) d_mk_loses_19 rfl (by decide) rfl ?_
  refine mr_iconst (v := 0) d_mk_loses_20 mc_iconst_0 ?_
  refine mr_istore_n (lv' := [(3, .int 0), (2, .int ((-(bk_limits x1.toNatClampNeg)) * r2)), (0, .ref 17), (1, .int x1)]) d_mk_loses_21 rfl (by decide) rfl ?_
  refine mr_sub (lv' := [(0, .ref 17), (1, .int x1), (2, .int ((-(bk_limits x1.toNatClampNeg)) * r2)), (3, .int 0)]) [2, 3, 1, 0] rfl ?_
  exact w_L22 1000 _ _
set_option maxRecDepth 100000 in
set_option maxHeartbeats 4000000 in
theorem e_mk_isFit {g : mz_G} {ex : Bool} {hT : List mz_E} {x_members : Int32} {x_collaterals : Nat → Int32} {x_hasSent : Nat → Int32} {x_isSealed : Nat → Int32} {x_metered : Nat → Int32} {x_sealedCount : Int32} {bk_counts : Nat → Int32} {bk_needs : Nat → Int64} {bk_whens : Nat → Int32} {bk_sides : Nat → Int32} {bk_quantities : Nat → Int32} {bk_limits : Nat → Int32} {ag_toldLies : Nat → Int32} {ag_passedLies : Nat → Int32} {ag_words : Nat → Int32} {ag_vectors : Nat → Int32} {ag_liarOperator : Int32} {ag_rounds : Int32} {mk_entries : Nat → Int32} {mk_slots : Nat → Int32} {mk_remainders : Nat → Int32} {mk_blocks : Nat → Int32} {mk_blockBids : Nat → Int32} {mk_blockOffers : Nat → Int32} {mk_entryCount : Int32} {mk_blockCount : Int32} {cv_limits : Nat → Nat → Int32} {cv_bids : Nat → Nat → Int32} {cv_offers : Nat → Nat → Int32} {cv_count : Nat → Int32} {cv_allBids : Nat → Int32} {cv_allOffers : Nat → Int32} {cv_meetingPrice : Nat → Int32} {cv_sureBids : Nat → Int32} {cv_sureOffers : Nat → Int32} {cv_priceBids : Nat → Int32} {cv_priceOffers : Nat → Int32} {cv_volume : Nat → Int32} {cv_worth : Nat → Int64} {oc_prices : Nat → Nat → Int32} {oc_volumes : Nat → Nat → Int32} {oc_filled : Nat → Nat → Int32} {oc_worth : Nat → Int64} {oc_takenSet : Nat → Int32} {oc_isDone : Nat → Int32} {x1 : Int32} : mz_M g M_mk_isFit 4 [.ref 17, .int x1] ex (HX x_members x_collaterals x_hasSent x_isSealed x_metered x_sealedCount bk_counts bk_needs bk_whens bk_sides bk_quantities bk_limits ag_toldLies ag_passedLies ag_words ag_vectors ag_liarOperator ag_rounds mk_entries mk_slots mk_remainders mk_blocks mk_blockBids mk_blockOffers mk_entryCount mk_blockCount cv_limits cv_bids cv_offers cv_count cv_allBids cv_allOffers cv_meetingPrice cv_sureBids cv_sureOffers cv_priceBids cv_priceOffers cv_volume cv_worth oc_prices oc_volumes oc_filled oc_worth oc_takenSet oc_isDone, hT) (f_mk_isFit bk_whens bk_sides bk_quantities bk_limits mk_blocks mk_blockBids mk_blockOffers mk_blockCount cv_limits cv_bids cv_offers cv_count cv_allBids cv_allOffers cv_meetingPrice x1) (fun r => (0, some (.int r.1), ex, (HX x_members x_collaterals x_hasSent x_isSealed x_metered x_sealedCount bk_counts bk_needs bk_whens bk_sides bk_quantities bk_limits ag_toldLies ag_passedLies ag_words ag_vectors ag_liarOperator ag_rounds mk_entries mk_slots mk_remainders mk_blocks r.2.1 r.2.2.1 mk_entryCount mk_blockCount cv_limits cv_bids cv_offers cv_count cv_allBids cv_allOffers r.2.2.2 cv_sureBids cv_sureOffers cv_priceBids cv_priceOffers cv_volume cv_worth oc_prices oc_volumes oc_filled oc_worth oc_takenSet oc_isDone, hT), 0, 0)) := by
  have w_L12 : ∀ (n : Nat) (mk_blockBids : Nat → Int32) (mk_blockOffers : Nat → Int32) (cv_meetingPrice : Nat → Int32) (x2 : Int32), mz_A g M_mk_isFit (mz_rm 4) (fun r => (0, some (.int r.1), ex, (HX x_members x_collaterals x_hasSent x_isSealed x_metered x_sealedCount bk_counts bk_needs bk_whens bk_sides bk_quantities bk_limits ag_toldLies ag_passedLies ag_words ag_vectors ag_liarOperator ag_rounds mk_entries mk_slots mk_remainders mk_blocks r.2.1 r.2.2.1 mk_entryCount mk_blockCount cv_limits cv_bids cv_offers cv_count cv_allBids cv_allOffers r.2.2.2 cv_sureBids cv_sureOffers cv_priceBids cv_priceOffers cv_volume cv_worth oc_prices oc_volumes oc_filled oc_worth oc_takenSet oc_isDone, hT), 0, 0)) 12 [(0, .ref 17), (1, .int x1), (2, .int x2)] [] ex (HX x_members x_collaterals x_hasSent x_isSealed x_metered x_sealedCount bk_counts bk_needs bk_whens bk_sides bk_quantities bk_limits ag_toldLies ag_passedLies ag_words ag_vectors ag_liarOperator ag_rounds mk_entries mk_slots mk_remainders mk_blocks mk_blockBids mk_blockOffers mk_entryCount mk_blockCount cv_limits cv_bids cv_offers cv_count cv_allBids cv_allOffers cv_meetingPrice cv_sureBids cv_sureOffers cv_priceBids cv_priceOffers cv_volume cv_worth oc_prices oc_volumes oc_filled oc_worth oc_takenSet oc_isDone, hT) 0 0 (f_mk_isFit_L12 bk_whens bk_sides bk_quantities bk_limits mk_blocks mk_blockCount cv_limits cv_bids cv_offers cv_count cv_allBids cv_allOffers x1 n mk_blockBids mk_blockOffers cv_meetingPrice x2) := by
    intro n
    induction n with
    | zero => intro mk_blockBids mk_blockOffers cv_meetingPrice x2; exact mr_none
    | succ n ih =>
      intro mk_blockBids mk_blockOffers cv_meetingPrice x2
      rw [f_mk_isFit_L12]
      refine mr_iload_n d_mk_isFit_12 rfl rfl ?_
      refine mr_aload_n d_mk_isFit_13 rfl rfl ?_
      refine mr_get K_mk 9 d_mk_isFit_14 lk_f_mk_45 (by decide) rfl rfl ?_
      refine mr_icmp_ge (tgt := 49) d_mk_isFit_17 (by decide) ?_ ?_
      · refine mr_iconst (v := 1) d_mk_isFit_49 mc_iconst_1 ?_
        exact mr_zret d_mk_isFit_50 rfl rfl
      · refine mr_iload_n d_mk_isFit_20 rfl rfl ?_
        refine mr_iload_n d_mk_isFit_21 rfl rfl ?_
        refine mz_go (st := []) e_mk_isTaken (fun _ => rfl) U_mk_isTaken (mz_vS d_mk_isFit_22 U_mk_isTaken lk_m_mk_133 S_mk_isTaken np_mk_isTaken) (Nat.le_of_ble_eq_true rfl) (by decide) (fun r2 => ?_)
        refine mr_eq (st' := [.int r2]) (ex' := ex) (h2 := (HX x_members x_collaterals x_hasSent x_isSealed x_metered x_sealedCount bk_counts bk_needs bk_whens bk_sides bk_quantities bk_limits ag_toldLies ag_passedLies ag_words ag_vectors ag_liarOperator ag_rounds mk_entries mk_slots mk_remainders mk_blocks mk_blockBids mk_blockOffers mk_entryCount mk_blockCount cv_limits cv_bids cv_offers cv_count cv_allBids cv_allOffers cv_meetingPrice cv_sureBids cv_sureOffers cv_priceBids cv_priceOffers cv_volume cv_worth oc_prices oc_volumes oc_filled oc_worth oc_takenSet oc_isDone, hT)) (k' := 0) (n' := 0) rfl rfl rfl rfl rfl ?_
        refine mr_if_eq (tgt := 43) d_mk_isFit_25 (by decide) ?_ ?_
        · refine mr_iinc (v := (x2 + 1)) (lv' := [(2, .int (x2 + 1)), (0, .ref 17), (1, .int x1)]) d_mk_isFit_43 rfl rfl (by decide) rfl ?_
          refine mr_goto (tgt := 12) d_mk_isFit_46 (by decide) ?_
          refine mr_sub (lv' := [(0, .ref 17), (1, .int x1), (2, .int (x2 + 1))]) [1, 2, 0] rfl ?_
          exact ih _ _ _ _
        · refine mr_aload_n d_mk_isFit_28 rfl rfl ?_
          refine mr_aload_n d_mk_isFit_29 rfl rfl ?_
          refine mr_get K_mk 5 d_mk_isFit_30 lk_f_mk_32 (by decide) rfl rfl ?_
          refine mr_iload_n d_mk_isFit_33 rfl rfl ?_
          refine mr_iald d_mk_isFit_34 rfl (fun hc3 => ?_)
          refine mz_go (st := []) e_mk_loses (fun _ => rfl) U_mk_loses (mz_vV d_mk_isFit_35 U_mk_loses rfl lk_m_mk_137 I_mk_loses s_mk_loses np_mk_loses rfl rfl) (Nat.le_of_ble_eq_true rfl) (by decide) (fun r4 => ?_)
          refine mr_eq (st' := [.int r4]) (ex' := ex) (h2 := (HX x_members x_collaterals x_hasSent x_isSealed x_metered x_sealedCount bk_counts bk_needs bk_whens bk_sides bk_quantities bk_limits ag_toldLies ag_passedLies ag_words ag_vectors ag_liarOperator ag_rounds mk_entries mk_slots mk_remainders mk_blocks mk_blockBids mk_blockOffers mk_entryCount mk_blockCount cv_limits cv_bids cv_offers cv_count cv_allBids cv_allOffers cv_meetingPrice cv_sureBids cv_sureOffers cv_priceBids cv_priceOffers cv_volume cv_worth oc_prices oc_volumes oc_filled oc_worth oc_takenSet oc_isDone, hT)) (k' := 0) (n' := 0) rfl rfl rfl rfl rfl ?_
          refine mr_if_eq (tgt := 43) d_mk_isFit_38 (by decide) ?_ ?_
          · refine mr_iinc (v := (x2 + 1)) (lv' := [(2, .int (x2 + 1)), (0, .ref 17), (1, .int x1)]) d_mk_isFit_43 rfl rfl (by decide) rfl ?_
            refine mr_goto (tgt := 12) d_mk_isFit_46 (by decide) ?_
            refine mr_sub (lv' := [(0, .ref 17), (1, .int x1), (2, .int (x2 + 1))]) [1, 2, 0] rfl ?_
            exact ih _ _ _ _
          · refine mr_iconst (v := 0) d_mk_isFit_41 mc_iconst_0 ?_
            exact mr_zret d_mk_isFit_42 rfl rfl
  refine mz_of (by decide) (Nat.le_of_ble_eq_true rfl) ?_
  rw [f_mk_isFit]
  show mz_A g M_mk_isFit (mz_rm 4) _ 0 [(0, .ref 17), (1, .int x1)] [] ex (HX x_members x_collaterals x_hasSent x_isSealed x_metered x_sealedCount bk_counts bk_needs bk_whens bk_sides bk_quantities bk_limits ag_toldLies ag_passedLies ag_words ag_vectors ag_liarOperator ag_rounds mk_entries mk_slots mk_remainders mk_blocks mk_blockBids mk_blockOffers mk_entryCount mk_blockCount cv_limits cv_bids cv_offers cv_count cv_allBids cv_allOffers cv_meetingPrice cv_sureBids cv_sureOffers cv_priceBids cv_priceOffers cv_volume cv_worth oc_prices oc_volumes oc_filled oc_worth oc_takenSet oc_isDone, hT) 0 0 _
  refine mr_aload_n d_mk_isFit_0 rfl rfl ?_
  refine mr_iload_n d_mk_isFit_1 rfl rfl ?_
  refine mz_go (st := []) e_mk_findPrices (fun _ => rfl) U_mk_findPrices (mz_vV d_mk_isFit_2 U_mk_findPrices rfl lk_m_mk_90 I_mk_findPrices s_mk_findPrices np_mk_findPrices rfl rfl) (Nat.le_of_ble_eq_true rfl) (by decide) (fun r1 => ?_)
  refine mr_eq (st' := [.int r1.1]) (ex' := ex) (h2 := (HX x_members x_collaterals x_hasSent x_isSealed x_metered x_sealedCount bk_counts bk_needs bk_whens bk_sides bk_quantities bk_limits ag_toldLies ag_passedLies ag_words ag_vectors ag_liarOperator ag_rounds mk_entries mk_slots mk_remainders mk_blocks r1.2.1 r1.2.2.1 mk_entryCount mk_blockCount cv_limits cv_bids cv_offers cv_count cv_allBids cv_allOffers r1.2.2.2 cv_sureBids cv_sureOffers cv_priceBids cv_priceOffers cv_volume cv_worth oc_prices oc_volumes oc_filled oc_worth oc_takenSet oc_isDone, hT)) (k' := 0) (n' := 0) rfl rfl rfl rfl rfl ?_
  refine mr_if_ne (tgt := 10) d_mk_isFit_5 (by decide) ?_ ?_
  · refine mr_iconst (v := 0) d_mk_isFit_10 mc_iconst_0 ?_
    refine mr_istore_n (lv' := [(2, .int 0), (0, .ref 17), (1, .int x1)]) d_mk_isFit_11 rfl (by decide) rfl ?_
    refine mr_sub (lv' := [(0, .ref 17), (1, .int x1), (2, .int 0)]) [1, 2, 0] rfl ?_
    exact w_L12 1000 _ _ _ _
  · refine mr_iconst (v := 0) d_mk_isFit_8 mc_iconst_0 ?_
    exact mr_zret d_mk_isFit_9 rfl rfl
set_option maxRecDepth 100000 in
set_option maxHeartbeats 4000000 in
theorem e_bk_worthOf {g : mz_G} {ex : Bool} {hT : List mz_E} {x_members : Int32} {x_collaterals : Nat → Int32} {x_hasSent : Nat → Int32} {x_isSealed : Nat → Int32} {x_metered : Nat → Int32} {x_sealedCount : Int32} {bk_counts : Nat → Int32} {bk_needs : Nat → Int64} {bk_whens : Nat → Int32} {bk_sides : Nat → Int32} {bk_quantities : Nat → Int32} {bk_limits : Nat → Int32} {ag_toldLies : Nat → Int32} {ag_passedLies : Nat → Int32} {ag_words : Nat → Int32} {ag_vectors : Nat → Int32} {ag_liarOperator : Int32} {ag_rounds : Int32} {mk_entries : Nat → Int32} {mk_slots : Nat → Int32} {mk_remainders : Nat → Int32} {mk_blocks : Nat → Int32} {mk_blockBids : Nat → Int32} {mk_blockOffers : Nat → Int32} {mk_entryCount : Int32} {mk_blockCount : Int32} {cv_limits : Nat → Nat → Int32} {cv_bids : Nat → Nat → Int32} {cv_offers : Nat → Nat → Int32} {cv_count : Nat → Int32} {cv_allBids : Nat → Int32} {cv_allOffers : Nat → Int32} {cv_meetingPrice : Nat → Int32} {cv_sureBids : Nat → Int32} {cv_sureOffers : Nat → Int32} {cv_priceBids : Nat → Int32} {cv_priceOffers : Nat → Int32} {cv_volume : Nat → Int32} {cv_worth : Nat → Int64} {oc_prices : Nat → Nat → Int32} {oc_volumes : Nat → Nat → Int32} {oc_filled : Nat → Nat → Int32} {oc_worth : Nat → Int64} {oc_takenSet : Nat → Int32} {oc_isDone : Nat → Int32} {x1 : Int32} : mz_M g M_bk_worthOf 3 [.ref 5, .int x1] ex (HX x_members x_collaterals x_hasSent x_isSealed x_metered x_sealedCount bk_counts bk_needs bk_whens bk_sides bk_quantities bk_limits ag_toldLies ag_passedLies ag_words ag_vectors ag_liarOperator ag_rounds mk_entries mk_slots mk_remainders mk_blocks mk_blockBids mk_blockOffers mk_entryCount mk_blockCount cv_limits cv_bids cv_offers cv_count cv_allBids cv_allOffers cv_meetingPrice cv_sureBids cv_sureOffers cv_priceBids cv_priceOffers cv_volume cv_worth oc_prices oc_volumes oc_filled oc_worth oc_takenSet oc_isDone, hT) (f_bk_worthOf bk_whens bk_sides bk_quantities bk_limits x1) (fun r => (0, some (.long r), ex, (HX x_members x_collaterals x_hasSent x_isSealed x_metered x_sealedCount bk_counts bk_needs bk_whens bk_sides bk_quantities bk_limits ag_toldLies ag_passedLies ag_words ag_vectors ag_liarOperator ag_rounds mk_entries mk_slots mk_remainders mk_blocks mk_blockBids mk_blockOffers mk_entryCount mk_blockCount cv_limits cv_bids cv_offers cv_count cv_allBids cv_allOffers cv_meetingPrice cv_sureBids cv_sureOffers cv_priceBids cv_priceOffers cv_volume cv_worth oc_prices oc_volumes oc_filled oc_worth oc_takenSet oc_isDone, hT), 0, 0)) := by
  refine mz_of (by decide) (Nat.le_of_ble_eq_true rfl) ?_
  rw [f_bk_worthOf]
  show mz_A g M_bk_worthOf (mz_rm 3) _ 0 [(0, .ref 5), (1, .int x1)] [] ex (HX x_members x_collaterals x_hasSent x_isSealed x_metered x_sealedCount bk_counts bk_needs bk_whens bk_sides bk_quantities bk_limits ag_toldLies ag_passedLies ag_words ag_vectors ag_liarOperator ag_rounds mk_entries mk_slots mk_remainders mk_blocks mk_blockBids mk_blockOffers mk_entryCount mk_blockCount cv_limits cv_bids cv_offers cv_count cv_allBids cv_allOffers cv_meetingPrice cv_sureBids cv_sureOffers cv_priceBids cv_priceOffers cv_volume cv_worth oc_prices oc_volumes oc_filled oc_worth oc_takenSet oc_isDone, hT) 0 0 _
  refine mr_aload_n d_bk_worthOf_0 rfl rfl ?_
  refine mr_get K_bk 4 d_bk_worthOf_1 lk_f_bk_25 (by decide) rfl rfl ?_
  refine mr_iload_n d_bk_worthOf_4 rfl rfl ?_
  refine mr_iald d_bk_worthOf_5 rfl (fun hc1 => ?_)
  refine mr_i2l d_bk_worthOf_6 ?_
  refine mr_aload_n d_bk_worthOf_7 rfl rfl ?_
  refine mr_get K_bk 5 d_bk_worthOf_8 lk_f_bk_28 (by decide) rfl rfl ?_
  refine mr_iload_n d_bk_worthOf_11 rfl rfl ?_
  refine mr_ialdK d_bk_worthOf_12 rfl hc1 ?_
  refine mr_i2l d_bk_worthOf_13 ?_
  refine mr_lmul d_bk_worthOf_14 ?_
  refine mr_aload_n d_bk_worthOf_15 rfl rfl ?_
  refine mr_iload_n d_bk_worthOf_16 rfl rfl ?_
  refine mz_go (st := [.long ((Int32.toInt64 (bk_quantities x1.toNatClampNeg)) * (Int32.toInt64 (bk_limits x1.toNatClampNeg)))]) e_bk_length (fun _ => rfl) U_bk_length (mz_vV d_bk_worthOf_17 U_bk_length rfl lk_m_bk_49 I_bk_length s_bk_length np_bk_length rfl rfl) (Nat.le_of_ble_eq_true rfl) (by decide) (fun r2 => ?_)
  refine mr_eq (st' := [.int r2, .long ((Int32.toInt64 (bk_quantities x1.toNatClampNeg)) * (Int32.toInt64 (bk_limits x1.toNatClampNeg)))]) (ex' := ex) (h2 := (HX x_members x_collaterals x_hasSent x_isSealed x_metered x_sealedCount bk_counts bk_needs bk_whens bk_sides bk_quantities bk_limits ag_toldLies ag_passedLies ag_words ag_vectors ag_liarOperator ag_rounds mk_entries mk_slots mk_remainders mk_blocks mk_blockBids mk_blockOffers mk_entryCount mk_blockCount cv_limits cv_bids cv_offers cv_count cv_allBids cv_allOffers cv_meetingPrice cv_sureBids cv_sureOffers cv_priceBids cv_priceOffers cv_volume cv_worth oc_prices oc_volumes oc_filled oc_worth oc_takenSet oc_isDone, hT)) (k' := 0) (n' := 0) rfl rfl rfl rfl rfl ?_
  refine mr_i2l d_bk_worthOf_20 ?_
  refine mr_lmul d_bk_worthOf_21 ?_
  refine mr_lstore_n (lv' := [(2, .long (((Int32.toInt64 (bk_quantities x1.toNatClampNeg)) * (Int32.toInt64 (bk_limits x1.toNatClampNeg))) * (Int32.toInt64 r2))), (0, .ref 5), (1, .int x1)]) d_bk_worthOf_22 rfl (by decide) rfl ?_
  refine mr_aload_n d_bk_worthOf_23 rfl rfl ?_
  refine mr_get K_bk 3 d_bk_worthOf_24 lk_f_bk_22 (by decide) rfl rfl ?_
  refine mr_iload_n d_bk_worthOf_27 rfl rfl ?_
  refine mr_ialdK d_bk_worthOf_28 rfl hc1 ?_
  refine mr_if_ne (tgt := 36) d_bk_worthOf_29 (by decide) ?_ ?_
  · refine mr_lload_n d_bk_worthOf_36 rfl rfl ?_
    refine mr_lneg d_bk_worthOf_37 ?_
    exact mr_lret d_bk_worthOf_38 rfl rfl
  · refine mr_lload_n d_bk_worthOf_32 rfl rfl ?_
    refine mr_goto (tgt := 38) d_bk_worthOf_33 (by decide) ?_
    exact mr_lret d_bk_worthOf_38 rfl rfl
set_option maxRecDepth 100000 in
set_option maxHeartbeats 4000000 in
theorem e_c_shared_0 {g : mz_G} {ex : Bool} {hT : List mz_E} {x_members : Int32} {x_collaterals : Nat → Int32} {x_hasSent : Nat → Int32} {x_isSealed : Nat → Int32} {x_metered : Nat → Int32} {x_sealedCount : Int32} {bk_counts : Nat → Int32} {bk_needs : Nat → Int64} {bk_whens : Nat → Int32} {bk_sides : Nat → Int32} {bk_quantities : Nat → Int32} {bk_limits : Nat → Int32} {ag_toldLies : Nat → Int32} {ag_passedLies : Nat → Int32} {ag_words : Nat → Int32} {ag_vectors : Nat → Int32} {ag_liarOperator : Int32} {ag_rounds : Int32} {mk_entries : Nat → Int32} {mk_slots : Nat → Int32} {mk_remainders : Nat → Int32} {mk_blocks : Nat → Int32} {mk_blockBids : Nat → Int32} {mk_blockOffers : Nat → Int32} {mk_entryCount : Int32} {mk_blockCount : Int32} {cv_limits : Nat → Nat → Int32} {cv_bids : Nat → Nat → Int32} {cv_offers : Nat → Nat → Int32} {cv_count : Nat → Int32} {cv_allBids : Nat → Int32} {cv_allOffers : Nat → Int32} {cv_meetingPrice : Nat → Int32} {cv_sureBids : Nat → Int32} {cv_sureOffers : Nat → Int32} {cv_priceBids : Nat → Int32} {cv_priceOffers : Nat → Int32} {cv_volume : Nat → Int32} {cv_worth : Nat → Int64} {oc_prices : Nat → Nat → Int32} {oc_volumes : Nat → Nat → Int32} {oc_filled : Nat → Nat → Int32} {oc_worth : Nat → Int64} {oc_takenSet : Nat → Int32} {oc_isDone : Nat → Int32} {x1 : Int32} : mz_M g M_c_shared 0 [.ref 19, .int x1] ex (HX x_members x_collaterals x_hasSent x_isSealed x_metered x_sealedCount bk_counts bk_needs bk_whens bk_sides bk_quantities bk_limits ag_toldLies ag_passedLies ag_words ag_vectors ag_liarOperator ag_rounds mk_entries mk_slots mk_remainders mk_blocks mk_blockBids mk_blockOffers mk_entryCount mk_blockCount cv_limits cv_bids cv_offers cv_count cv_allBids cv_allOffers cv_meetingPrice cv_sureBids cv_sureOffers cv_priceBids cv_priceOffers cv_volume cv_worth oc_prices oc_volumes oc_filled oc_worth oc_takenSet oc_isDone, hT) (f_c_shared (cv_sureBids 0) (cv_sureOffers 0) (cv_volume 0) x1) (fun r => (0, some (.int r), ex, (HX x_members x_collaterals x_hasSent x_isSealed x_metered x_sealedCount bk_counts bk_needs bk_whens bk_sides bk_quantities bk_limits ag_toldLies ag_passedLies ag_words ag_vectors ag_liarOperator ag_rounds mk_entries mk_slots mk_remainders mk_blocks mk_blockBids mk_blockOffers mk_entryCount mk_blockCount cv_limits cv_bids cv_offers cv_count cv_allBids cv_allOffers cv_meetingPrice cv_sureBids cv_sureOffers cv_priceBids cv_priceOffers cv_volume cv_worth oc_prices oc_volumes oc_filled oc_worth oc_takenSet oc_isDone, hT), 0, 0)) := by
  refine mz_of (by decide) (Nat.le_of_ble_eq_true rfl) ?_
  rw [f_c_shared]
  show mz_A g M_c_shared (mz_rm 0) _ 0 [(0, .ref 19), (1, .int x1)] [] ex (HX x_members x_collaterals x_hasSent x_isSealed x_metered x_sealedCount bk_counts bk_needs bk_whens bk_sides bk_quantities bk_limits ag_toldLies ag_passedLies ag_words ag_vectors ag_liarOperator ag_rounds mk_entries mk_slots mk_remainders mk_blocks mk_blockBids mk_blockOffers mk_entryCount mk_blockCount cv_limits cv_bids cv_offers cv_count cv_allBids cv_allOffers cv_meetingPrice cv_sureBids cv_sureOffers cv_priceBids cv_priceOffers cv_volume cv_worth oc_prices oc_volumes oc_filled oc_worth oc_takenSet oc_isDone, hT) 0 0 _
  refine mr_iload_n d_c_shared_0 rfl rfl ?_
  refine mr_if_ne (tgt := 16) d_c_shared_1 (by decide) ?_ ?_
  · refine mr_aload_n d_c_shared_16 rfl rfl ?_
    refine mr_get K_c 11 d_c_shared_17 lk_f_c_71 (by decide) rfl rfl ?_
    refine mr_aload_n d_c_shared_20 rfl rfl ?_
    refine mr_get K_c 8 d_c_shared_21 lk_f_c_55 (by decide) rfl rfl ?_
    refine mr_isub d_c_shared_24 ?_
    exact mr_iret d_c_shared_25 rfl rfl
  · refine mr_aload_n d_c_shared_4 rfl rfl ?_
    refine mr_get K_c 11 d_c_shared_5 lk_f_c_71 (by decide) rfl rfl ?_
    refine mr_aload_n d_c_shared_8 rfl rfl ?_
    refine mr_get K_c 7 d_c_shared_9 lk_f_c_52 (by decide) rfl rfl ?_
    refine mr_isub d_c_shared_12 ?_
    refine mr_goto (tgt := 25) d_c_shared_13 (by decide) ?_
    exact mr_iret d_c_shared_25 rfl rfl
set_option maxRecDepth 100000 in
set_option maxHeartbeats 4000000 in
theorem e_c_shared_1 {g : mz_G} {ex : Bool} {hT : List mz_E} {x_members : Int32} {x_collaterals : Nat → Int32} {x_hasSent : Nat → Int32} {x_isSealed : Nat → Int32} {x_metered : Nat → Int32} {x_sealedCount : Int32} {bk_counts : Nat → Int32} {bk_needs : Nat → Int64} {bk_whens : Nat → Int32} {bk_sides : Nat → Int32} {bk_quantities : Nat → Int32} {bk_limits : Nat → Int32} {ag_toldLies : Nat → Int32} {ag_passedLies : Nat → Int32} {ag_words : Nat → Int32} {ag_vectors : Nat → Int32} {ag_liarOperator : Int32} {ag_rounds : Int32} {mk_entries : Nat → Int32} {mk_slots : Nat → Int32} {mk_remainders : Nat → Int32} {mk_blocks : Nat → Int32} {mk_blockBids : Nat → Int32} {mk_blockOffers : Nat → Int32} {mk_entryCount : Int32} {mk_blockCount : Int32} {cv_limits : Nat → Nat → Int32} {cv_bids : Nat → Nat → Int32} {cv_offers : Nat → Nat → Int32} {cv_count : Nat → Int32} {cv_allBids : Nat → Int32} {cv_allOffers : Nat → Int32} {cv_meetingPrice : Nat → Int32} {cv_sureBids : Nat → Int32} {cv_sureOffers : Nat → Int32} {cv_priceBids : Nat → Int32} {cv_priceOffers : Nat → Int32} {cv_volume : Nat → Int32} {cv_worth : Nat → Int64} {oc_prices : Nat → Nat → Int32} {oc_volumes : Nat → Nat → Int32} {oc_filled : Nat → Nat → Int32} {oc_worth : Nat → Int64} {oc_takenSet : Nat → Int32} {oc_isDone : Nat → Int32} {x1 : Int32} : mz_M g M_c_shared 0 [.ref 23, .int x1] ex (HX x_members x_collaterals x_hasSent x_isSealed x_metered x_sealedCount bk_counts bk_needs bk_whens bk_sides bk_quantities bk_limits ag_toldLies ag_passedLies ag_words ag_vectors ag_liarOperator ag_rounds mk_entries mk_slots mk_remainders mk_blocks mk_blockBids mk_blockOffers mk_entryCount mk_blockCount cv_limits cv_bids cv_offers cv_count cv_allBids cv_allOffers cv_meetingPrice cv_sureBids cv_sureOffers cv_priceBids cv_priceOffers cv_volume cv_worth oc_prices oc_volumes oc_filled oc_worth oc_takenSet oc_isDone, hT) (f_c_shared (cv_sureBids 1) (cv_sureOffers 1) (cv_volume 1) x1) (fun r => (0, some (.int r), ex, (HX x_members x_collaterals x_hasSent x_isSealed x_metered x_sealedCount bk_counts bk_needs bk_whens bk_sides bk_quantities bk_limits ag_toldLies ag_passedLies ag_words ag_vectors ag_liarOperator ag_rounds mk_entries mk_slots mk_remainders mk_blocks mk_blockBids mk_blockOffers mk_entryCount mk_blockCount cv_limits cv_bids cv_offers cv_count cv_allBids cv_allOffers cv_meetingPrice cv_sureBids cv_sureOffers cv_priceBids cv_priceOffers cv_volume cv_worth oc_prices oc_volumes oc_filled oc_worth oc_takenSet oc_isDone, hT), 0, 0)) := by
  refine mz_of (by decide) (Nat.le_of_ble_eq_true rfl) ?_
  rw [f_c_shared]
  show mz_A g M_c_shared (mz_rm 0) _ 0 [(0, .ref 23), (1, .int x1)] [] ex (HX x_members x_collaterals x_hasSent x_isSealed x_metered x_sealedCount bk_counts bk_needs bk_whens bk_sides bk_quantities bk_limits ag_toldLies ag_passedLies ag_words ag_vectors ag_liarOperator ag_rounds mk_entries mk_slots mk_remainders mk_blocks mk_blockBids mk_blockOffers mk_entryCount mk_blockCount cv_limits cv_bids cv_offers cv_count cv_allBids cv_allOffers cv_meetingPrice cv_sureBids cv_sureOffers cv_priceBids cv_priceOffers cv_volume cv_worth oc_prices oc_volumes oc_filled oc_worth oc_takenSet oc_isDone, hT) 0 0 _
  refine mr_iload_n d_c_shared_0 rfl rfl ?_
  refine mr_if_ne (tgt := 16) d_c_shared_1 (by decide) ?_ ?_
  · refine mr_aload_n d_c_shared_16 rfl rfl ?_
    refine mr_get K_c 11 d_c_shared_17 lk_f_c_71 (by decide) rfl rfl ?_
    refine mr_aload_n d_c_shared_20 rfl rfl ?_
    refine mr_get K_c 8 d_c_shared_21 lk_f_c_55 (by decide) rfl rfl ?_
    refine mr_isub d_c_shared_24 ?_
    exact mr_iret d_c_shared_25 rfl rfl
  · refine mr_aload_n d_c_shared_4 rfl rfl ?_
    refine mr_get K_c 11 d_c_shared_5 lk_f_c_71 (by decide) rfl rfl ?_
    refine mr_aload_n d_c_shared_8 rfl rfl ?_
    refine mr_get K_c 7 d_c_shared_9 lk_f_c_52 (by decide) rfl rfl ?_
    refine mr_isub d_c_shared_12 ?_
    refine mr_goto (tgt := 25) d_c_shared_13 (by decide) ?_
    exact mr_iret d_c_shared_25 rfl rfl
set_option maxRecDepth 100000 in
set_option maxHeartbeats 4000000 in
theorem e_c_shared_2 {g : mz_G} {ex : Bool} {hT : List mz_E} {x_members : Int32} {x_collaterals : Nat → Int32} {x_hasSent : Nat → Int32} {x_isSealed : Nat → Int32} {x_metered : Nat → Int32} {x_sealedCount : Int32} {bk_counts : Nat → Int32} {bk_needs : Nat → Int64} {bk_whens : Nat → Int32} {bk_sides : Nat → Int32} {bk_quantities : Nat → Int32} {bk_limits : Nat → Int32} {ag_toldLies : Nat → Int32} {ag_passedLies : Nat → Int32} {ag_words : Nat → Int32} {ag_vectors : Nat → Int32} {ag_liarOperator : Int32} {ag_rounds : Int32} {mk_entries : Nat → Int32} {mk_slots : Nat → Int32} {mk_remainders : Nat → Int32} {mk_blocks : Nat → Int32} {mk_blockBids : Nat → Int32} {mk_blockOffers : Nat → Int32} {mk_entryCount : Int32} {mk_blockCount : Int32} {cv_limits : Nat → Nat → Int32} {cv_bids : Nat → Nat → Int32} {cv_offers : Nat → Nat → Int32} {cv_count : Nat → Int32} {cv_allBids : Nat → Int32} {cv_allOffers : Nat → Int32} {cv_meetingPrice : Nat → Int32} {cv_sureBids : Nat → Int32} {cv_sureOffers : Nat → Int32} {cv_priceBids : Nat → Int32} {cv_priceOffers : Nat → Int32} {cv_volume : Nat → Int32} {cv_worth : Nat → Int64} {oc_prices : Nat → Nat → Int32} {oc_volumes : Nat → Nat → Int32} {oc_filled : Nat → Nat → Int32} {oc_worth : Nat → Int64} {oc_takenSet : Nat → Int32} {oc_isDone : Nat → Int32} {x1 : Int32} : mz_M g M_c_shared 0 [.ref 27, .int x1] ex (HX x_members x_collaterals x_hasSent x_isSealed x_metered x_sealedCount bk_counts bk_needs bk_whens bk_sides bk_quantities bk_limits ag_toldLies ag_passedLies ag_words ag_vectors ag_liarOperator ag_rounds mk_entries mk_slots mk_remainders mk_blocks mk_blockBids mk_blockOffers mk_entryCount mk_blockCount cv_limits cv_bids cv_offers cv_count cv_allBids cv_allOffers cv_meetingPrice cv_sureBids cv_sureOffers cv_priceBids cv_priceOffers cv_volume cv_worth oc_prices oc_volumes oc_filled oc_worth oc_takenSet oc_isDone, hT) (f_c_shared (cv_sureBids 2) (cv_sureOffers 2) (cv_volume 2) x1) (fun r => (0, some (.int r), ex, (HX x_members x_collaterals x_hasSent x_isSealed x_metered x_sealedCount bk_counts bk_needs bk_whens bk_sides bk_quantities bk_limits ag_toldLies ag_passedLies ag_words ag_vectors ag_liarOperator ag_rounds mk_entries mk_slots mk_remainders mk_blocks mk_blockBids mk_blockOffers mk_entryCount mk_blockCount cv_limits cv_bids cv_offers cv_count cv_allBids cv_allOffers cv_meetingPrice cv_sureBids cv_sureOffers cv_priceBids cv_priceOffers cv_volume cv_worth oc_prices oc_volumes oc_filled oc_worth oc_takenSet oc_isDone, hT), 0, 0)) := by
  refine mz_of (by decide) (Nat.le_of_ble_eq_true rfl) ?_
  rw [f_c_shared]
  show mz_A g M_c_shared (mz_rm 0) _ 0 [(0, .ref 27), (1, .int x1)] [] ex (HX x_members x_collaterals x_hasSent x_isSealed x_metered x_sealedCount bk_counts bk_needs bk_whens bk_sides bk_quantities bk_limits ag_toldLies ag_passedLies ag_words ag_vectors ag_liarOperator ag_rounds mk_entries mk_slots mk_remainders mk_blocks mk_blockBids mk_blockOffers mk_entryCount mk_blockCount cv_limits cv_bids cv_offers cv_count cv_allBids cv_allOffers cv_meetingPrice cv_sureBids cv_sureOffers cv_priceBids cv_priceOffers cv_volume cv_worth oc_prices oc_volumes oc_filled oc_worth oc_takenSet oc_isDone, hT) 0 0 _
  refine mr_iload_n d_c_shared_0 rfl rfl ?_
  refine mr_if_ne (tgt := 16) d_c_shared_1 (by decide) ?_ ?_
  · refine mr_aload_n d_c_shared_16 rfl rfl ?_
    refine mr_get K_c 11 d_c_shared_17 lk_f_c_71 (by decide) rfl rfl ?_
    refine mr_aload_n d_c_shared_20 rfl rfl ?_
    refine mr_get K_c 8 d_c_shared_21 lk_f_c_55 (by decide) rfl rfl ?_
    refine mr_isub d_c_shared_24 ?_
    exact mr_iret d_c_shared_25 rfl rfl
  · refine mr_aload_n d_c_shared_4 rfl rfl ?_
    refine mr_get K_c 11 d_c_shared_5 lk_f_c_71 (by decide) rfl rfl ?_
    refine mr_aload_n d_c_shared_8 rfl rfl ?_
    refine mr_get K_c 7 d_c_shared_9 lk_f_c_52 (by decide) rfl rfl ?_
    refine mr_isub d_c_shared_12 ?_
    refine mr_goto (tgt := 25) d_c_shared_13 (by decide) ?_
    exact mr_iret d_c_shared_25 rfl rfl
theorem e_c_shared {g : mz_G} {ex : Bool} {hT : List mz_E} {x_members : Int32} {x_collaterals : Nat → Int32} {x_hasSent : Nat → Int32} {x_isSealed : Nat → Int32} {x_metered : Nat → Int32} {x_sealedCount : Int32} {bk_counts : Nat → Int32} {bk_needs : Nat → Int64} {bk_whens : Nat → Int32} {bk_sides : Nat → Int32} {bk_quantities : Nat → Int32} {bk_limits : Nat → Int32} {ag_toldLies : Nat → Int32} {ag_passedLies : Nat → Int32} {ag_words : Nat → Int32} {ag_vectors : Nat → Int32} {ag_liarOperator : Int32} {ag_rounds : Int32} {mk_entries : Nat → Int32} {mk_slots : Nat → Int32} {mk_remainders : Nat → Int32} {mk_blocks : Nat → Int32} {mk_blockBids : Nat → Int32} {mk_blockOffers : Nat → Int32} {mk_entryCount : Int32} {mk_blockCount : Int32} {cv_limits : Nat → Nat → Int32} {cv_bids : Nat → Nat → Int32} {cv_offers : Nat → Nat → Int32} {cv_count : Nat → Int32} {cv_allBids : Nat → Int32} {cv_allOffers : Nat → Int32} {cv_meetingPrice : Nat → Int32} {cv_sureBids : Nat → Int32} {cv_sureOffers : Nat → Int32} {cv_priceBids : Nat → Int32} {cv_priceOffers : Nat → Int32} {cv_volume : Nat → Int32} {cv_worth : Nat → Int64} {oc_prices : Nat → Nat → Int32} {oc_volumes : Nat → Nat → Int32} {oc_filled : Nat → Nat → Int32} {oc_worth : Nat → Int64} {oc_takenSet : Nat → Int32} {oc_isDone : Nat → Int32} {x1 : Int32} {j : Nat} (hj : j < 3) : mz_M g M_c_shared 0 [.ref (19 + 4 * j), .int x1] ex (HX x_members x_collaterals x_hasSent x_isSealed x_metered x_sealedCount bk_counts bk_needs bk_whens bk_sides bk_quantities bk_limits ag_toldLies ag_passedLies ag_words ag_vectors ag_liarOperator ag_rounds mk_entries mk_slots mk_remainders mk_blocks mk_blockBids mk_blockOffers mk_entryCount mk_blockCount cv_limits cv_bids cv_offers cv_count cv_allBids cv_allOffers cv_meetingPrice cv_sureBids cv_sureOffers cv_priceBids cv_priceOffers cv_volume cv_worth oc_prices oc_volumes oc_filled oc_worth oc_takenSet oc_isDone, hT) (f_c_shared (cv_sureBids j) (cv_sureOffers j) (cv_volume j) x1) (fun r => (0, some (.int r), ex, (HX x_members x_collaterals x_hasSent x_isSealed x_metered x_sealedCount bk_counts bk_needs bk_whens bk_sides bk_quantities bk_limits ag_toldLies ag_passedLies ag_words ag_vectors ag_liarOperator ag_rounds mk_entries mk_slots mk_remainders mk_blocks mk_blockBids mk_blockOffers mk_entryCount mk_blockCount cv_limits cv_bids cv_offers cv_count cv_allBids cv_allOffers cv_meetingPrice cv_sureBids cv_sureOffers cv_priceBids cv_priceOffers cv_volume cv_worth oc_prices oc_volumes oc_filled oc_worth oc_takenSet oc_isDone, hT), 0, 0)) := match j, hj with | 0, _ => e_c_shared_0 | 1, _ => e_c_shared_1 | 2, _ => e_c_shared_2 | j + 3, h => absurd h (by omega)
set_option maxRecDepth 100000 in
set_option maxHeartbeats 4000000 in
theorem e_jm_min {g : mz_G} {ex : Bool} {h : mz_H} {x0 : Int32} {x1 : Int32} : mz_M g M_jm_min 0 [.int x0, .int x1] ex h (f_jm_min x0 x1) (fun r => (0, some (.int r), ex, h, 0, 0)) := by
  refine mz_ofF (by decide +kernel) (Nat.le_of_ble_eq_true rfl) ?_
  rw [f_jm_min]
  show mz_A g M_jm_min (mz_rm 0) _ 0 [(0, .int x0), (1, .int x1)] [] ex h 0 0 _
  refine mr_iload_n d_jm_min_0 rfl rfl ?_
  refine mr_iload_n d_jm_min_1 rfl rfl ?_
  refine mr_icmp_gt (tgt := 9) d_jm_min_2 (by decide) ?_ ?_
  · refine mr_iload_n d_jm_min_9 rfl rfl ?_
    exact mr_iret d_jm_min_10 rfl rfl
  · refine mr_iload_n d_jm_min_5 rfl rfl ?_
    refine mr_goto (tgt := 10) d_jm_min_6 (by decide) ?_
    exact mr_iret d_jm_min_10 rfl rfl
