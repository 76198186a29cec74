set_option maxRecDepth 100000 in
set_option maxHeartbeats 4000000 in
theorem e_c_measure_0 {g : mz_G} {ex : Bool} {hT : List mz_E} {x_members : Int32} {x_collaterals : Nat → Int32} {x_hasSent : Nat → Int32} {x_isSealed : Nat → Int32} {x_metered : Nat → Int32} {x_sealedCount : Int32} {bk_counts : Nat → Int32} {bk_needs : Nat → Int64} {bk_whens : Nat → Int32} {bk_sides : Nat → Int32} {bk_quantities : Nat → Int32} {bk_limits : Nat → Int32} {ag_toldLies : Nat → Int32} {ag_passedLies : Nat → Int32} {ag_words : Nat → Int32} {ag_vectors : Nat → Int32} {ag_liarOperator : Int32} {ag_rounds : Int32} {mk_entries : Nat → Int32} {mk_slots : Nat → Int32} {mk_remainders : Nat → Int32} {mk_blocks : Nat → Int32} {mk_blockBids : Nat → Int32} {mk_blockOffers : Nat → Int32} {mk_entryCount : Int32} {mk_blockCount : Int32} {cv_limits : Nat → Nat → Int32} {cv_bids : Nat → Nat → Int32} {cv_offers : Nat → Nat → Int32} {cv_count : Nat → Int32} {cv_allBids : Nat → Int32} {cv_allOffers : Nat → Int32} {cv_meetingPrice : Nat → Int32} {cv_sureBids : Nat → Int32} {cv_sureOffers : Nat → Int32} {cv_priceBids : Nat → Int32} {cv_priceOffers : Nat → Int32} {cv_volume : Nat → Int32} {cv_worth : Nat → Int64} {oc_prices : Nat → Nat → Int32} {oc_volumes : Nat → Nat → Int32} {oc_filled : Nat → Nat → Int32} {oc_worth : Nat → Int64} {oc_takenSet : Nat → Int32} {oc_isDone : Nat → Int32} {x1 : Int32} {x2 : Int32} : mz_M g M_c_measure 1 [.ref 19, .int x1, .int x2] ex (HX x_members x_collaterals x_hasSent x_isSealed x_metered x_sealedCount bk_counts bk_needs bk_whens bk_sides bk_quantities bk_limits ag_toldLies ag_passedLies ag_words ag_vectors ag_liarOperator ag_rounds mk_entries mk_slots mk_remainders mk_blocks mk_blockBids mk_blockOffers mk_entryCount mk_blockCount cv_limits cv_bids cv_offers cv_count cv_allBids cv_allOffers cv_meetingPrice cv_sureBids cv_sureOffers cv_priceBids cv_priceOffers cv_volume cv_worth oc_prices oc_volumes oc_filled oc_worth oc_takenSet oc_isDone, hT) (f_c_measure (cv_limits 0) (cv_bids 0) (cv_offers 0) (cv_count 0) (cv_meetingPrice 0) (cv_sureBids 0) (cv_sureOffers 0) (cv_priceBids 0) (cv_priceOffers 0) (cv_volume 0) (cv_worth 0) x1 x2) (fun r => (0, none, ex, (HX x_members x_collaterals x_hasSent x_isSealed x_metered x_sealedCount bk_counts bk_needs bk_whens bk_sides bk_quantities bk_limits ag_toldLies ag_passedLies ag_words ag_vectors ag_liarOperator ag_rounds mk_entries mk_slots mk_remainders mk_blocks mk_blockBids mk_blockOffers mk_entryCount mk_blockCount cv_limits cv_bids cv_offers cv_count cv_allBids cv_allOffers cv_meetingPrice (va_up cv_sureBids 0 r.1) (va_up cv_sureOffers 0 r.2.1) (va_up cv_priceBids 0 r.2.2.1) (va_up cv_priceOffers 0 r.2.2.2.1) (va_up cv_volume 0 r.2.2.2.2.1) (va_up cv_worth 0 r.2.2.2.2.2) oc_prices oc_volumes oc_filled oc_worth oc_takenSet oc_isDone, hT), 0, 0)) := by
  have w_L27 : ∀ (n : Nat) (c_sureBids : Int32) (c_sureOffers : Int32) (c_priceBids : Int32) (c_priceOffers : Int32) (c_volume : Int32) (c_worth : Int64) (x3 : Int32), mz_A g M_c_measure (mz_rm 1) (fun r => (0, none, ex, (HX x_members x_collaterals x_hasSent x_isSealed x_metered x_sealedCount bk_counts bk_needs bk_whens bk_sides bk_quantities bk_limits ag_toldLies ag_passedLies ag_words ag_vectors ag_liarOperator ag_rounds mk_entries mk_slots mk_remainders mk_blocks mk_blockBids mk_blockOffers mk_entryCount mk_blockCount cv_limits cv_bids cv_offers cv_count cv_allBids cv_allOffers cv_meetingPrice (va_up cv_sureBids 0 r.1) (va_up cv_sureOffers 0 r.2.1) (va_up cv_priceBids 0 r.2.2.1) (va_up cv_priceOffers 0 r.2.2.2.1) (va_up cv_volume 0 r.2.2.2.2.1) (va_up cv_worth 0 r.2.2.2.2.2) oc_prices oc_volumes oc_filled oc_worth oc_takenSet oc_isDone, hT), 0, 0)) 27 [(0, .ref 19), (3, .int x3)] [] ex (HX x_members x_collaterals x_hasSent x_isSealed x_metered x_sealedCount bk_counts bk_needs bk_whens bk_sides bk_quantities bk_limits ag_toldLies ag_passedLies ag_words ag_vectors ag_liarOperator ag_rounds mk_entries mk_slots mk_remainders mk_blocks mk_blockBids mk_blockOffers mk_entryCount mk_blockCount cv_limits cv_bids cv_offers cv_count cv_allBids cv_allOffers cv_meetingPrice (va_up cv_sureBids 0 c_sureBids) (va_up cv_sureOffers 0 c_sureOffers) (va_up cv_priceBids 0 c_priceBids) (va_up cv_priceOffers 0 c_priceOffers) (va_up cv_volume 0 c_volume) (va_up cv_worth 0 c_worth) oc_prices oc_volumes oc_filled oc_worth oc_takenSet oc_isDone, hT) 0 0 (f_c_measure_L27 (cv_limits 0) (cv_bids 0) (cv_offers 0) (cv_count 0) (cv_meetingPrice 0) n c_sureBids c_sureOffers c_priceBids c_priceOffers c_volume c_worth x3) := by
    intro n
    induction n with
    | zero => intro c_sureBids c_sureOffers c_priceBids c_priceOffers c_volume c_worth x3; exact mr_none
    | succ n ih =>
      intro c_sureBids c_sureOffers c_priceBids c_priceOffers c_volume c_worth x3
      rw [f_c_measure_L27]
      refine mr_iload_n d_c_measure_27 rfl rfl ?_
      refine mr_aload_n d_c_measure_28 rfl rfl ?_
      refine mr_get K_c 3 d_c_measure_29 lk_f_c_21 (by decide) rfl rfl ?_
      refine mr_icmp_ge (tgt := 171) d_c_measure_32 (by decide) ?_ ?_
      · refine mr_aload_n d_c_measure_171 rfl rfl ?_
        refine mr_aload_n d_c_measure_172 rfl rfl ?_
        refine mr_get K_c 7 d_c_measure_173 lk_f_c_52 (by decide) rfl rfl ?_
        refine mr_aload_n d_c_measure_176 rfl rfl ?_
        refine mr_get K_c 9 d_c_measure_177 lk_f_c_58 (by decide) rfl rfl ?_
        refine mr_iadd d_c_measure_180 ?_
        refine mr_aload_n d_c_measure_181 rfl rfl ?_
        refine mr_get K_c 8 d_c_measure_182 lk_f_c_55 (by decide) rfl rfl ?_
        refine mr_aload_n d_c_measure_185 rfl rfl ?_
        refine mr_get K_c 10 d_c_measure_186 lk_f_c_61 (by decide) rfl rfl ?_
        refine mr_iadd d_c_measure_189 ?_
        refine mz_go (st := [.ref 19]) e_jm_min (fun _ => rfl) U_jm_min (mz_vS d_c_measure_190 U_jm_min lk_m_c_68 S_jm_min np_jm_min) (Nat.le_of_ble_eq_true rfl) (by decide) (fun r1 => ?_)
        refine mr_eq (st' := [.int r1, .ref 19]) (ex' := ex) (h2 := (HX x_members x_collaterals x_hasSent x_isSealed x_metered x_sealedCount bk_counts bk_needs bk_whens bk_sides bk_quantities bk_limits ag_toldLies ag_passedLies ag_words ag_vectors ag_liarOperator ag_rounds mk_entries mk_slots mk_remainders mk_blocks mk_blockBids mk_blockOffers mk_entryCount mk_blockCount cv_limits cv_bids cv_offers cv_count cv_allBids cv_allOffers cv_meetingPrice (va_up cv_sureBids 0 c_sureBids) (va_up cv_sureOffers 0 c_sureOffers) (va_up cv_priceBids 0 c_priceBids) (va_up cv_priceOffers 0 c_priceOffers) (va_up cv_volume 0 c_volume) (va_up cv_worth 0 c_worth) oc_prices oc_volumes oc_filled oc_worth oc_takenSet oc_isDone, hT)) (k' := 0) (n' := 0) rfl rfl rfl rfl rfl ?_
        refine mr_put (h2 := (HX x_members x_collaterals x_hasSent x_isSealed x_metered x_sealedCount bk_counts bk_needs bk_whens bk_sides bk_quantities bk_limits ag_toldLies ag_passedLies ag_words ag_vectors ag_liarOperator ag_rounds mk_entries mk_slots mk_remainders mk_blocks mk_blockBids mk_blockOffers mk_entryCount mk_blockCount cv_limits cv_bids cv_offers cv_count cv_allBids cv_allOffers cv_meetingPrice (va_up cv_sureBids 0 c_sureBids) (va_up cv_sureOffers 0 c_sureOffers) (va_up cv_priceBids 0 c_priceBids) (va_up cv_priceOffers 0 c_priceOffers) (va_up cv_volume 0 r1) (va_up cv_worth 0 c_worth) oc_prices oc_volumes oc_filled oc_worth oc_takenSet oc_isDone, hT)) K_c 11 d_c_measure_193 lk_f_c_71 (by decide) rfl rfl rfl (Nat.le_of_ble_eq_true rfl) rfl rfl ?_
        refine mr_aload_n d_c_measure_196 rfl rfl ?_
        refine mr_dup d_c_measure_197 rfl ?_
        refine mr_get K_c 12 d_c_measure_198 lk_f_c_64 (by decide) rfl rfl ?_
        refine mr_aload_n d_c_measure_201 rfl rfl ?_
        refine mr_iconst (v := 0) d_c_measure_202 mc_iconst_0 ?_
        refine mz_go (st := [.long c_worth, .ref 19]) e_c_shared_0 (fun _ => rfl) U_c_shared (mz_vV d_c_measure_203 U_c_shared rfl lk_m_c_74 I_c_shared s_c_shared np_c_shared rfl rfl) (Nat.le_of_ble_eq_true rfl) (by decide) (fun r2 => ?_)
        refine mr_eq (st' := [.int r2, .long c_worth, .ref 19]) (ex' := ex) (h2 := (HX x_members x_collaterals x_hasSent x_isSealed x_metered x_sealedCount bk_counts bk_needs bk_whens bk_sides bk_quantities bk_limits ag_toldLies ag_passedLies ag_words ag_vectors ag_liarOperator ag_rounds mk_entries mk_slots mk_remainders mk_blocks mk_blockBids mk_blockOffers mk_entryCount mk_blockCount cv_limits cv_bids cv_offers cv_count cv_allBids cv_allOffers cv_meetingPrice (va_up cv_sureBids 0 c_sureBids) (va_up cv_sureOffers 0 c_sureOffers) (va_up cv_priceBids 0 c_priceBids) (va_up cv_priceOffers 0 c_priceOffers) (va_up cv_volume 0 r1) (va_up cv_worth 0 c_worth) oc_prices oc_volumes oc_filled oc_worth oc_takenSet oc_isDone, hT)) (k' := 0) (n' := 0) rfl rfl rfl rfl rfl ?_
        refine mr_i2l d_c_measure_206 ?_
        refine mr_aload_n d_c_measure_207 rfl rfl ?_
        refine mr_get K_c 6 d_c_measure_208 lk_f_c_47 (by decide) rfl rfl ?_
        refine mr_i2l d_c_measure_211 ?_
        refine mr_lmul d_c_measure_212 ?_
        refine mr_aload_n d_c_measure_213 rfl rfl ?_
        refine mr_iconst (v := 1) d_c_measure_214 mc_iconst_1 ?_
        refine mz_go (st := [.long ((Int32.toInt64 r2) * (Int32.toInt64 (cv_meetingPrice 0))), .long c_worth, .ref 19]) e_c_shared_0 (fun _ => rfl) U_c_shared (mz_vV d_c_measure_215 U_c_shared rfl lk_m_c_74 I_c_shared s_c_shared np_c_shared rfl rfl) (Nat.le_of_ble_eq_true rfl) (by decide) (fun r3 => ?_)
        refine mr_eq (st' := [.int r3, .long ((Int32.toInt64 r2) * (Int32.toInt64 (cv_meetingPrice 0))), .long c_worth, .ref 19]) (ex' := ex) (h2 := (HX x_members x_collaterals x_hasSent x_isSealed x_metered x_sealedCount bk_counts bk_needs bk_whens bk_sides bk_quantities bk_limits ag_toldLies ag_passedLies ag_words ag_vectors ag_liarOperator ag_rounds mk_entries mk_slots mk_remainders mk_blocks mk_blockBids mk_blockOffers mk_entryCount mk_blockCount cv_limits cv_bids cv_offers cv_count cv_allBids cv_allOffers cv_meetingPrice (va_up cv_sureBids 0 c_sureBids) (va_up cv_sureOffers 0 c_sureOffers) (va_up cv_priceBids 0 c_priceBids) (va_up cv_priceOffers 0 c_priceOffers) (va_up cv_volume 0 r1) (va_up cv_worth 0 c_worth) oc_prices oc_volumes oc_filled oc_worth oc_takenSet oc_isDone, hT)) (k' := 0) (n' := 0) rfl rfl rfl rfl rfl ?_
        refine mr_i2l d_c_measure_218 ?_
        refine mr_aload_n d_c_measure_219 rfl rfl ?_
        refine mr_get K_c 6 d_c_measure_220 lk_f_c_47 (by decide) rfl rfl ?_
        refine mr_i2l d_c_measure_223 ?_
        refine mr_lmul d_c_measure_224 ?_
        refine mr_lsub d_c_measure_225 ?_
        refine mr_ladd d_c_measure_226 ?_
        refine mr_put (h2 := (HX x_members x_collaterals x_hasSent x_isSealed x_metered x_sealedCount bk_counts bk_needs bk_whens bk_sides bk_quantities bk_limits ag_toldLies ag_passedLies ag_words ag_vectors ag_liarOperator ag_rounds mk_entries mk_slots mk_remainders mk_blocks mk_blockBids mk_blockOffers mk_entryCount mk_blockCount cv_limits cv_bids cv_offers cv_count cv_allBids cv_allOffers cv_meetingPrice (va_up cv_sureBids 0 c_sureBids) (va_up cv_sureOffers 0 c_sureOffers) (va_up cv_priceBids 0 c_priceBids) (va_up cv_priceOffers 0 c_priceOffers) (va_up cv_volume 0 r1) (va_up cv_worth 0 (c_worth + (((Int32.toInt64 r2) * (Int32.toInt64 (cv_meetingPrice 0))) - ((Int32.toInt64 r3) * (Int32.toInt64 (cv_meetingPrice 0)))))) oc_prices oc_volumes oc_filled oc_worth oc_takenSet oc_isDone, hT)) K_c 12 d_c_measure_227 lk_f_c_64 (by decide) rfl rfl rfl (Nat.le_of_ble_eq_true rfl) rfl rfl ?_
        exact mr_vret d_c_measure_230 rfl rfl
      · refine mr_aload_n d_c_measure_35 rfl rfl ?_
        refine mr_get K_c 0 d_c_measure_36 lk_f_c_9 (by decide) rfl rfl ?_
        refine mr_iload_n d_c_measure_39 rfl rfl ?_
        refine mr_iald d_c_measure_40 rfl (fun hc4 => ?_)
        refine mr_aload_n d_c_measure_41 rfl rfl ?_
        refine mr_get K_c 6 d_c_measure_42 lk_f_c_47 (by decide) rfl rfl ?_
        refine mr_icmp_le (tgt := 90) d_c_measure_45 (by decide) ?_ ?_
        · refine mr_aload_n d_c_measure_90 rfl rfl ?_
          refine mr_get K_c 0 d_c_measure_91 lk_f_c_9 (by decide) rfl rfl ?_
          refine mr_iload_n d_c_measure_94 rfl rfl ?_
          refine mr_ialdK d_c_measure_95 rfl hc4 ?_
          refine mr_aload_n d_c_measure_96 rfl rfl ?_
          refine mr_get K_c 6 d_c_measure_97 lk_f_c_47 (by decide) rfl rfl ?_
          refine mr_icmp_ge (tgt := 145) d_c_measure_100 (by decide) ?_ ?_
          · refine mr_aload_n d_c_measure_145 rfl rfl ?_
            refine mr_aload_n d_c_measure_146 rfl rfl ?_
            refine mr_get K_c 1 d_c_measure_147 lk_f_c_15 (by decide) rfl rfl ?_
            refine mr_iload_n d_c_measure_150 rfl rfl ?_
            refine mr_ialdK d_c_measure_151 rfl hc4 ?_
            refine mr_put (h2 := (HX x_members x_collaterals x_hasSent x_isSealed x_metered x_sealedCount bk_counts bk_needs bk_whens bk_sides bk_quantities bk_limits ag_toldLies ag_passedLies ag_words ag_vectors ag_liarOperator ag_rounds mk_entries mk_slots mk_remainders mk_blocks mk_blockBids mk_blockOffers mk_entryCount mk_blockCount cv_limits cv_bids cv_offers cv_count cv_allBids cv_allOffers cv_meetingPrice (va_up cv_sureBids 0 c_sureBids) (va_up cv_sureOffers 0 c_sureOffers) (va_up cv_priceBids 0 ((cv_bids 0) x3.toNatClampNeg)) (va_up cv_priceOffers 0 c_priceOffers) (va_up cv_volume 0 c_volume) (va_up cv_worth 0 c_worth) oc_prices oc_volumes oc_filled oc_worth oc_takenSet oc_isDone, hT)) K_c 9 d_c_measure_152 lk_f_c_58 (by decide) rfl rfl rfl (Nat.le_of_ble_eq_true rfl) rfl rfl ?_
            refine mr_aload_n d_c_measure_155 rfl rfl ?_
            refine mr_aload_n d_c_measure_156 rfl rfl ?_
            refine mr_get K_c 2 d_c_measure_157 lk_f_c_18 (by decide) rfl rfl ?_
            refine mr_iload_n d_c_measure_160 rfl rfl ?_
            refine mr_ialdK d_c_measure_161 rfl hc4 ?_
            refine mr_put (h2 := (HX x_members x_collaterals x_hasSent x_isSealed x_metered x_sealedCount bk_counts bk_needs bk_whens bk_sides bk_quantities bk_limits ag_toldLies ag_passedLies ag_words ag_vectors ag_liarOperator ag_rounds mk_entries mk_slots mk_remainders mk_blocks mk_blockBids mk_blockOffers mk_entryCount mk_blockCount cv_limits cv_bids cv_offers cv_count cv_allBids cv_allOffers cv_meetingPrice (va_up cv_sureBids 0 c_sureBids) (va_up cv_sureOffers 0 c_sureOffers) (va_up cv_priceBids 0 ((cv_bids 0) x3.toNatClampNeg)) (va_up cv_priceOffers 0 ((cv_offers 0) x3.toNatClampNeg)) (va_up cv_volume 0 c_volume) (va_up cv_worth 0 c_worth) oc_prices oc_volumes oc_filled oc_worth oc_takenSet oc_isDone, hT)) K_c 10 d_c_measure_162 lk_f_c_61 (by decide) rfl rfl rfl (Nat.le_of_ble_eq_true rfl) rfl rfl ?_
            refine mr_iinc (v := (x3 + 1)) (lv' := [(3, .int (x3 + 1)), (0, .ref 19)]) d_c_measure_165 rfl rfl (by decide) rfl ?_
            refine mr_goto (tgt := 27) d_c_measure_168 (by decide) ?_
            refine mr_sub (lv' := [(0, .ref 19), (3, .int (x3 + 1))]) [1, 0] rfl ?_
            exact ih _ _ _ _ _ _ _
          · refine mr_aload_n d_c_measure_103 rfl rfl ?_
            refine mr_dup d_c_measure_104 rfl ?_
            refine mr_get K_c 8 d_c_measure_105 lk_f_c_55 (by decide) rfl rfl ?_
            refine mr_aload_n d_c_measure_108 rfl rfl ?_
            refine mr_get K_c 2 d_c_measure_109 lk_f_c_18 (by decide) rfl rfl ?_
            refine mr_iload_n d_c_measure_112 rfl rfl ?_
            refine mr_ialdK d_c_measure_113 rfl hc4 ?_
            refine mr_iadd d_c_measure_114 ?_
            refine mr_put (h2 := (HX x_members x_collaterals x_hasSent x_isSealed x_metered x_sealedCount bk_counts bk_needs bk_whens bk_sides bk_quantities bk_limits ag_toldLies ag_passedLies ag_words ag_vectors ag_liarOperator ag_rounds mk_entries mk_slots mk_remainders mk_blocks mk_blockBids mk_blockOffers mk_entryCount mk_blockCount cv_limits cv_bids cv_offers cv_count cv_allBids cv_allOffers cv_meetingPrice (va_up cv_sureBids 0 c_sureBids) (va_up cv_sureOffers 0 (c_sureOffers + ((cv_offers 0) x3.toNatClampNeg))) (va_up cv_priceBids 0 c_priceBids) (va_up cv_priceOffers 0 c_priceOffers) (va_up cv_volume 0 c_volume) (va_up cv_worth 0 c_worth) oc_prices oc_volumes oc_filled oc_worth oc_takenSet oc_isDone, hT)) K_c 8 d_c_measure_115 lk_f_c_55 (by decide) rfl rfl rfl (Nat.le_of_ble_eq_true rfl) rfl rfl ?_
            refine mr_aload_n d_c_measure_118 rfl rfl ?_
            refine mr_dup d_c_measure_119 rfl ?_
            refine mr_get K_c 12 d_c_measure_120 lk_f_c_64 (by decide) rfl rfl ?_
            refine mr_aload_n d_c_measure_123 rfl rfl ?_
            refine mr_get K_c 2 d_c_measure_124 lk_f_c_18 (by decide) rfl rfl ?_
            refine mr_iload_n d_c_measure_127 rfl rfl ?_
            refine mr_ialdK d_c_measure_128 rfl hc4 ?_
            refine mr_i2l d_c_measure_129 ?_
            refine mr_aload_n d_c_measure_130 rfl rfl ?_
            refine mr_get K_c 0 d_c_measure_131 lk_f_c_9 (by decide) rfl rfl ?_
            refine mr_iload_n d_c_measure_134 rfl rfl ?_
            refine mr_ialdK d_c_measure_135 rfl hc4 ?_
            refine mr_i2l d_c_measure_136 ?_
            refine mr_lmul d_c_measure_137 ?_
            refine mr_lsub d_c_measure_138 ?_
            refine mr_put (h2 := (HX x_members x_collaterals x_hasSent x_isSealed x_metered x_sealedCount bk_counts bk_needs bk_whens bk_sides bk_quantities bk_limits ag_toldLies ag_passedLies ag_words ag_vectors ag_liarOperator ag_rounds mk_entries mk_slots mk_remainders mk_blocks mk_blockBids mk_blockOffers mk_entryCount mk_blockCount cv_limits cv_bids cv_offers cv_count cv_allBids cv_allOffers cv_meetingPrice (va_up cv_sureBids 0 c_sureBids) (va_up cv_sureOffers 0 (c_sureOffers + ((cv_offers 0) x3.toNatClampNeg))) (va_up cv_priceBids 0 c_priceBids) (va_up cv_priceOffers 0 c_priceOffers) (va_up cv_volume 0 c_volume) (va_up cv_worth 0 (c_worth - ((Int32.toInt64 ((cv_offers 0) x3.toNatClampNeg)) * (Int32.toInt64 ((cv_limits 0) x3.toNatClampNeg))))) oc_prices oc_volumes oc_filled oc_worth oc_takenSet oc_isDone, hT)) K_c 12 d_c_measure_139 lk_f_c_64 (by decide) rfl rfl rfl (Nat.le_of_ble_eq_true rfl) rfl rfl ?_
            refine mr_goto (tgt := 165) d_c_measure_142 (by decide) ?_
            refine mr_iinc (v := (x3 + 1)) (lv' := [(3, .int (x3 + 1)), (0, .ref 19)]) d_c_measure_165 rfl rfl (by decide) rfl ?_
            refine mr_goto (tgt := 27) d_c_measure_168 (by decide) ?_
            refine mr_sub (lv' := [(0, .ref 19), (3, .int (x3 + 1))]) [1, 0] rfl ?_
            exact ih _ _ _ _ _ _ _
        · refine mr_aload_n d_c_measure_48 rfl rfl ?_
          refine mr_dup d_c_measure_49 rfl ?_
          refine mr_get K_c 7 d_c_measure_50 lk_f_c_52 (by decide) rfl rfl ?_
          refine mr_aload_n d_c_measure_53 rfl rfl ?_
          refine mr_get K_c 1 d_c_measure_54 lk_f_c_15 (by decide) rfl rfl ?_
          refine mr_iload_n d_c_measure_57 rfl rfl ?_
          refine mr_ialdK d_c_measure_58 rfl hc4 ?_
          refine mr_iadd d_c_measure_59 ?_
          refine mr_put (h2 := (HX x_members x_collaterals x_hasSent x_isSealed x_metered x_sealedCount bk_counts bk_needs bk_whens bk_sides bk_quantities bk_limits ag_toldLies ag_passedLies ag_words ag_vectors ag_liarOperator ag_rounds mk_entries mk_slots mk_remainders mk_blocks mk_blockBids mk_blockOffers mk_entryCount mk_blockCount cv_limits cv_bids cv_offers cv_count cv_allBids cv_allOffers cv_meetingPrice (va_up cv_sureBids 0 (c_sureBids + ((cv_bids 0) x3.toNatClampNeg))) (va_up cv_sureOffers 0 c_sureOffers) (va_up cv_priceBids 0 c_priceBids) (va_up cv_priceOffers 0 c_priceOffers) (va_up cv_volume 0 c_volume) (va_up cv_worth 0 c_worth) oc_prices oc_volumes oc_filled oc_worth oc_takenSet oc_isDone, hT)) K_c 7 d_c_measure_60 lk_f_c_52 (by decide) rfl rfl rfl (Nat.le_of_ble_eq_true rfl) rfl rfl ?_
          refine mr_aload_n d_c_measure_63 rfl rfl ?_
          refine mr_dup d_c_measure_64 rfl ?_
          refine mr_get K_c 12 d_c_measure_65 lk_f_c_64 (by decide) rfl rfl ?_
          refine mr_aload_n d_c_measure_68 rfl rfl ?_
          refine mr_get K_c 1 d_c_measure_69 lk_f_c_15 (by decide) rfl rfl ?_
          refine mr_iload_n d_c_measure_72 rfl rfl ?_
          refine mr_ialdK d_c_measure_73 rfl hc4 ?_
          refine mr_i2l d_c_measure_74 ?_
          refine mr_aload_n d_c_measure_75 rfl rfl ?_
          refine mr_get K_c 0 d_c_measure_76 lk_f_c_9 (by decide) rfl rfl ?_
          refine mr_iload_n d_c_measure_79 rfl rfl ?_
          refine mr_ialdK d_c_measure_80 rfl hc4 ?_
          refine mr_i2l d_c_measure_81 ?_
          refine mr_lmul d_c_measure_82 ?_
          refine mr_ladd d_c_measure_83 ?_
          refine mr_put (h2 := (HX x_members x_collaterals x_hasSent x_isSealed x_metered x_sealedCount bk_counts bk_needs bk_whens bk_sides bk_quantities bk_limits ag_toldLies ag_passedLies ag_words ag_vectors ag_liarOperator ag_rounds mk_entries mk_slots mk_remainders mk_blocks mk_blockBids mk_blockOffers mk_entryCount mk_blockCount cv_limits cv_bids cv_offers cv_count cv_allBids cv_allOffers cv_meetingPrice (va_up cv_sureBids 0 (c_sureBids + ((cv_bids 0) x3.toNatClampNeg))) (va_up cv_sureOffers 0 c_sureOffers) (va_up cv_priceBids 0 c_priceBids) (va_up cv_priceOffers 0 c_priceOffers) (va_up cv_volume 0 c_volume) (va_up cv_worth 0 (c_worth + ((Int32.toInt64 ((cv_bids 0) x3.toNatClampNeg)) * (Int32.toInt64 ((cv_limits 0) x3.toNatClampNeg))))) oc_prices oc_volumes oc_filled oc_worth oc_takenSet oc_isDone, hT)) K_c 12 d_c_measure_84 lk_f_c_64 (by decide) rfl rfl rfl (Nat.le_of_ble_eq_true rfl) rfl rfl ?_
          refine mr_goto (tgt := 165) d_c_measure_87 (by decide) ?_
          refine mr_iinc (v := (x3 + 1)) (lv' := [(3, .int (x3 + 1)), (0, .ref 19)]) d_c_measure_165 rfl rfl (by decide) rfl ?_
          refine mr_goto (tgt := 27) d_c_measure_168 (by decide) ?_
          refine mr_sub (lv' := [(0, .ref 19), (3, .int (x3 + 1))]) [1, 0] rfl ?_
          exact ih _ _ _ _ _ _ _
  refine mz_of (by decide) (Nat.le_of_ble_eq_true rfl) ?_
  rw [f_c_measure]
  show mz_A g M_c_measure (mz_rm 1) _ 0 [(0, .ref 19), (1, .int x1), (2, .int x2)] [] ex (HX x_members x_collaterals x_hasSent x_isSealed x_metered x_sealedCount bk_counts bk_needs bk_whens bk_sides bk_quantities bk_limits ag_toldLies ag_passedLies ag_words ag_vectors ag_liarOperator ag_rounds mk_entries mk_slots mk_remainders mk_blocks mk_blockBids mk_blockOffers mk_entryCount mk_blockCount cv_limits cv_bids cv_offers cv_count cv_allBids cv_allOffers cv_meetingPrice cv_sureBids cv_sureOffers cv_priceBids cv_priceOffers cv_volume cv_worth oc_prices oc_volumes oc_filled oc_worth oc_takenSet oc_isDone, hT) 0 0 _
  refine mr_aload_n d_c_measure_0 rfl rfl ?_
  refine mr_iload_n d_c_measure_1 rfl rfl ?_
  refine mr_put (h2 := (HX x_members x_collaterals x_hasSent x_isSealed x_metered x_sealedCount bk_counts bk_needs bk_whens bk_sides bk_quantities bk_limits ag_toldLies ag_passedLies ag_words ag_vectors ag_liarOperator ag_rounds mk_entries mk_slots mk_remainders mk_blocks mk_blockBids mk_blockOffers mk_entryCount mk_blockCount cv_limits cv_bids cv_offers cv_count cv_allBids cv_allOffers cv_meetingPrice (va_up cv_sureBids 0 x1) cv_sureOffers cv_priceBids cv_priceOffers cv_volume cv_worth oc_prices oc_volumes oc_filled oc_worth oc_takenSet oc_isDone, hT)) K_c 7 d_c_measure_2 lk_f_c_52 (by decide) rfl rfl rfl (Nat.le_of_ble_eq_true rfl) rfl rfl ?_
  refine mr_aload_n d_c_measure_5 rfl rfl ?_
  refine mr_iload_n d_c_measure_6 rfl rfl ?_
  refine mr_put (h2 := (HX x_members x_collaterals x_hasSent x_isSealed x_metered x_sealedCount bk_counts bk_needs bk_whens bk_sides bk_quantities bk_limits ag_toldLies ag_passedLies ag_words ag_vectors ag_liarOperator ag_rounds mk_entries mk_slots mk_remainders mk_blocks mk_blockBids mk_blockOffers mk_entryCount mk_blockCount cv_limits cv_bids cv_offers cv_count cv_allBids cv_allOffers cv_meetingPrice (va_up cv_sureBids 0 x1) (va_up cv_sureOffers 0 x2) cv_priceBids cv_priceOffers cv_volume cv_worth oc_prices oc_volumes oc_filled oc_worth oc_takenSet oc_isDone, hT)) K_c 8 d_c_measure_7 lk_f_c_55 (by decide) rfl rfl rfl (Nat.le_of_ble_eq_true rfl) rfl rfl ?_
  refine mr_aload_n d_c_measure_10 rfl rfl ?_
  refine mr_iconst (v := 0) d_c_measure_11 mc_iconst_0 ?_
  refine mr_put (h2 := (HX x_members x_collaterals x_hasSent x_isSealed x_metered x_sealedCount bk_counts bk_needs bk_whens bk_sides bk_quantities bk_limits ag_toldLies ag_passedLies ag_words ag_vectors ag_liarOperator ag_rounds mk_entries mk_slots mk_remainders mk_blocks mk_blockBids mk_blockOffers mk_entryCount mk_blockCount cv_limits cv_bids cv_offers cv_count cv_allBids cv_allOffers cv_meetingPrice (va_up cv_sureBids 0 x1) (va_up cv_sureOffers 0 x2) (va_up cv_priceBids 0 0) cv_priceOffers cv_volume cv_worth oc_prices oc_volumes oc_filled oc_worth oc_takenSet oc_isDone, hT)) K_c 9 d_c_measure_12 lk_f_c_58 (by decide) rfl rfl rfl (Nat.le_of_ble_eq_true rfl) rfl rfl ?_
  refine mr_aload_n d_c_measure_15 rfl rfl ?_
  refine mr_iconst (v := 0) d_c_measure_16 mc_iconst_0 ?_
  refine mr_put (h2 := (HX x_members x_collaterals x_hasSent x_isSealed x_metered x_sealedCount bk_counts bk_needs bk_whens bk_sides bk_quantities bk_limits ag_toldLies ag_passedLies ag_words ag_vectors ag_liarOperator ag_rounds mk_entries mk_slots mk_remainders mk_blocks mk_blockBids mk_blockOffers mk_entryCount mk_blockCount cv_limits cv_bids cv_offers cv_count cv_allBids cv_allOffers cv_meetingPrice (va_up cv_sureBids 0 x1) (va_up cv_sureOffers 0 x2) (va_up cv_priceBids 0 0) (va_up cv_priceOffers 0 0) cv_volume cv_worth oc_prices oc_volumes oc_filled oc_worth oc_takenSet oc_isDone, hT)) K_c 10 d_c_measure_17 lk_f_c_61 (by decide) rfl rfl rfl (Nat.le_of_ble_eq_true rfl) rfl rfl ?_
  refine mr_aload_n d_c_measure_20 rfl rfl ?_
  refine mr_lconst (v := 0) d_c_measure_21 mc_lconst_0 ?_
  refine mr_put (h2 := (HX x_members x_collaterals x_hasSent x_isSealed x_metered x_sealedCount bk_counts bk_needs bk_whens bk_sides bk_quantities bk_limits ag_toldLies ag_passedLies ag_words ag_vectors ag_liarOperator ag_rounds mk_entries mk_slots mk_remainders mk_blocks mk_blockBids mk_blockOffers mk_entryCount mk_blockCount cv_limits cv_bids cv_offers cv_count cv_allBids cv_allOffers cv_meetingPrice (va_up cv_sureBids 0 x1) (va_up cv_sureOffers 0 x2) (va_up cv_priceBids 0 0) (va_up cv_priceOffers 0 0) cv_volume (va_up cv_worth 0 0) oc_prices oc_volumes oc_filled oc_worth oc_takenSet oc_isDone, hT)) K_c 12 d_c_measure_22 lk_f_c_64 (by decide) rfl rfl rfl (Nat.le_of_ble_eq_true rfl) rfl rfl ?_
  refine mr_iconst (v := 0) d_c_measure_25 mc_iconst_0 ?_
  refine mr_istore_n (lv' := [(3, .int 0), (0, .ref 19), (1, .int x1), (2, .int x2)]) d_c_measure_26 rfl (by decide) rfl ?_
  refine mr_sub (lv' := [(0, .ref 19), (3, .int 0)]) [1, 0] rfl ?_
  exact w_L27 1000 _ _ _ _ _ _ _
set_option maxRecDepth 100000 in
set_option maxHeartbeats 4000000 in
theorem e_c_measure_1 {g : mz_G} {ex : Bool} {hT : List mz_E} {x_members : Int32} {x_collaterals : Nat → Int32} {x_hasSent : Nat → Int32} {x_isSealed : Nat → Int32} {x_metered : Nat → Int32} {x_sealedCount : Int32} {bk_counts : Nat → Int32} {bk_needs : Nat → Int64} {bk_whens : Nat → Int32} {bk_sides : Nat → Int32} {bk_quantities : Nat → Int32} {bk_limits : Nat → Int32} {ag_toldLies : Nat → Int32} {ag_passedLies : Nat → Int32} {ag_words : Nat → Int32} {ag_vectors : Nat → Int32} {ag_liarOperator : Int32} {ag_rounds : Int32} {mk_entries : Nat → Int32} {mk_slots : Nat → Int32} {mk_remainders : Nat → Int32} {mk_blocks : Nat → Int32} {mk_blockBids : Nat → Int32} {mk_blockOffers : Nat → Int32} {mk_entryCount : Int32} {mk_blockCount : Int32} {cv_limits : Nat → Nat → Int32} {cv_bids : Nat → Nat → Int32} {cv_offers : Nat → Nat → Int32} {cv_count : Nat → Int32} {cv_allBids : Nat → Int32} {cv_allOffers : Nat → Int32} {cv_meetingPrice : Nat → Int32} {cv_sureBids : Nat → Int32} {cv_sureOffers : Nat → Int32} {cv_priceBids : Nat → Int32} {cv_priceOffers : Nat → Int32} {cv_volume : Nat → Int32} {cv_worth : Nat → Int64} {oc_prices : Nat → Nat → Int32} {oc_volumes : Nat → Nat → Int32} {oc_filled : Nat → Nat → Int32} {oc_worth : Nat → Int64} {oc_takenSet : Nat → Int32} {oc_isDone : Nat → Int32} {x1 : Int32} {x2 : Int32} : mz_M g M_c_measure 1 [.ref 23, .int x1, .int x2] ex (HX x_members x_collaterals x_hasSent x_isSealed x_metered x_sealedCount bk_counts bk_needs bk_whens bk_sides bk_quantities bk_limits ag_toldLies ag_passedLies ag_words ag_vectors ag_liarOperator ag_rounds mk_entries mk_slots mk_remainders mk_blocks mk_blockBids mk_blockOffers mk_entryCount mk_blockCount cv_limits cv_bids cv_offers cv_count cv_allBids cv_allOffers cv_meetingPrice cv_sureBids cv_sureOffers cv_priceBids cv_priceOffers cv_volume cv_worth oc_prices oc_volumes oc_filled oc_worth oc_takenSet oc_isDone, hT) (f_c_measure (cv_limits 1) (cv_bids 1) (cv_offers 1) (cv_count 1) (cv_meetingPrice 1) (cv_sureBids 1) (cv_sureOffers 1) (cv_priceBids 1) (cv_priceOffers 1) (cv_volume 1) (cv_worth 1) x1 x2) (fun r => (0, none, ex, (HX x_members x_collaterals x_hasSent x_isSealed x_metered x_sealedCount bk_counts bk_needs bk_whens bk_sides bk_quantities bk_limits ag_toldLies ag_passedLies ag_words ag_vectors ag_liarOperator ag_rounds mk_entries mk_slots mk_remainders mk_blocks mk_blockBids mk_blockOffers mk_entryCount mk_blockCount cv_limits cv_bids cv_offers cv_count cv_allBids cv_allOffers cv_meetingPrice (va_up cv_sureBids 1 r.1) (va_up cv_sureOffers 1 r.2.1) (va_up cv_priceBids 1 r.2.2.1) (va_up cv_priceOffers 1 r.2.2.2.1) (va_up cv_volume 1 r.2.2.2.2.1) (va_up cv_worth 1 r.2.2.2.2.2) oc_prices oc_volumes oc_filled oc_worth oc_takenSet oc_isDone, hT), 0, 0)) := by
  have w_L27 : ∀ (n : Nat) (c_sureBids : Int32) (c_sureOffers : Int32) (c_priceBids : Int32) (c_priceOffers : Int32) (c_volume : Int32) (c_worth : Int64) (x3 : Int32), mz_A g M_c_measure (mz_rm 1) (fun r => (0, none, ex, (HX x_members x_collaterals x_hasSent x_isSealed x_metered x_sealedCount bk_counts bk_needs bk_whens bk_sides bk_quantities bk_limits ag_toldLies ag_passedLies ag_words ag_vectors ag_liarOperator ag_rounds mk_entries mk_slots mk_remainders mk_blocks mk_blockBids mk_blockOffers mk_entryCount mk_blockCount cv_limits cv_bids cv_offers cv_count cv_allBids cv_allOffers cv_meetingPrice (va_up cv_sureBids 1 r.1) (va_up cv_sureOffers 1 r.2.1) (va_up cv_priceBids 1 r.2.2.1) (va_up cv_priceOffers 1 r.2.2.2.1) (va_up cv_volume 1 r.2.2.2.2.1) (va_up cv_worth 1 r.2.2.2.2.2) oc_prices oc_volumes oc_filled oc_worth oc_takenSet oc_isDone, hT), 0, 0)) 27 [(0, .ref 23), (3, .int x3)] [] ex (HX x_members x_collaterals x_hasSent x_isSealed x_metered x_sealedCount bk_counts bk_needs bk_whens bk_sides bk_quantities bk_limits ag_toldLies ag_passedLies ag_words ag_vectors ag_liarOperator ag_rounds mk_entries mk_slots mk_remainders mk_blocks mk_blockBids mk_blockOffers mk_entryCount mk_blockCount cv_limits cv_bids cv_offers cv_count cv_allBids cv_allOffers cv_meetingPrice (va_up cv_sureBids 1 c_sureBids) (va_up cv_sureOffers 1 c_sureOffers) (va_up cv_priceBids 1 c_priceBids) (va_up cv_priceOffers 1 c_priceOffers) (va_up cv_volume 1 c_volume) (va_up cv_worth 1 c_worth) oc_prices oc_volumes oc_filled oc_worth oc_takenSet oc_isDone, hT) 0 0 (f_c_measure_L27 (cv_limits 1) (cv_bids 1) (cv_offers 1) (cv_count 1) (cv_meetingPrice 1) n c_sureBids c_sureOffers c_priceBids c_priceOffers c_volume c_worth x3) := by
    intro n
    induction n with
    | zero => intro c_sureBids c_sureOffers c_priceBids c_priceOffers c_volume c_worth x3; exact mr_none
    | succ n ih =>
      intro c_sureBids c_sureOffers c_priceBids c_priceOffers c_volume c_worth x3
      rw [f_c_measure_L27]
      refine mr_iload_n d_c_measure_27 rfl rfl ?_
      refine mr_aload_n d_c_measure_28 rfl rfl ?_
      refine mr_get K_c 3 d_c_measure_29 lk_f_c_21 (by decide) rfl rfl ?_
      refine mr_icmp_ge (tgt := 171) d_c_measure_32 (by decide) ?_ ?_
      · refine mr_aload_n d_c_measure_171 rfl rfl ?_
        refine mr_aload_n d_c_measure_172 rfl rfl ?_
        refine mr_get K_c 7 d_c_measure_173 lk_f_c_52 (by decide) rfl rfl ?_
        refine mr_aload_n d_c_measure_176 rfl rfl ?_
        refine mr_get K_c 9 d_c_measure_177 lk_f_c_58 (by decide) rfl rfl ?_
        refine mr_iadd d_c_measure_180 ?_
        refine mr_aload_n d_c_measure_181 rfl rfl ?_
        refine mr_get K_c 8 d_c_measure_182 lk_f_c_55 (by decide) rfl rfl ?_
        refine mr_aload_n d_c_measure_185 rfl rfl ?_
        refine mr_get K_c 10 d_c_measure_186 lk_f_c_61 (by decide) rfl rfl ?_
        refine mr_iadd d_c_measure_189 ?_
        refine mz_go (st := [.ref 23]) e_jm_min (fun _ => rfl) U_jm_min (mz_vS d_c_measure_190 U_jm_min lk_m_c_68 S_jm_min np_jm_min) (Nat.le_of_ble_eq_true rfl) (by decide) (fun r1 => ?_)
        refine mr_eq (st' := [.int r1, .ref 23]) (ex' := ex) (h2 := (HX x_members x_collaterals x_hasSent x_isSealed x_metered x_sealedCount bk_counts bk_needs bk_whens bk_sides bk_quantities bk_limits ag_toldLies ag_passedLies ag_words ag_vectors ag_liarOperator ag_rounds mk_entries mk_slots mk_remainders mk_blocks mk_blockBids mk_blockOffers mk_entryCount mk_blockCount cv_limits cv_bids cv_offers cv_count cv_allBids cv_allOffers cv_meetingPrice (va_up cv_sureBids 1 c_sureBids) (va_up cv_sureOffers 1 c_sureOffers) (va_up cv_priceBids 1 c_priceBids) (va_up cv_priceOffers 1 c_priceOffers) (va_up cv_volume 1 c_volume) (va_up cv_worth 1 c_worth) oc_prices oc_volumes oc_filled oc_worth oc_takenSet oc_isDone, hT)) (k' := 0) (n' := 0) rfl rfl rfl rfl rfl ?_
        refine mr_put (h2 := (HX x_members x_collaterals x_hasSent x_isSealed x_metered x_sealedCount bk_counts bk_needs bk_whens bk_sides bk_quantities bk_limits ag_toldLies ag_passedLies ag_words ag_vectors ag_liarOperator ag_rounds mk_entries mk_slots mk_remainders mk_blocks mk_blockBids mk_blockOffers mk_entryCount mk_blockCount cv_limits cv_bids cv_offers cv_count cv_allBids cv_allOffers cv_meetingPrice (va_up cv_sureBids 1 c_sureBids) (va_up cv_sureOffers 1 c_sureOffers) (va_up cv_priceBids 1 c_priceBids) (va_up cv_priceOffers 1 c_priceOffers) (va_up cv_volume 1 r1) (va_up cv_worth 1 c_worth) oc_prices oc_volumes oc_filled oc_worth oc_takenSet oc_isDone, hT)) K_c 11 d_c_measure_193 lk_f_c_71 (by decide) rfl rfl rfl (Nat.le_of_ble_eq_true rfl) rfl rfl ?_
        refine mr_aload_n d_c_measure_196 rfl rfl ?_
        refine mr_dup d_c_measure_197 rfl ?_
        refine mr_get K_c 12 d_c_measure_198 lk_f_c_64 (by decide) rfl rfl ?_
        refine mr_aload_n d_c_measure_201 rfl rfl ?_
        refine mr_iconst (v := 0) d_c_measure_202 mc_iconst_0 ?_
        refine mz_go (st := [.long c_worth, .ref 23]) e_c_shared_1 (fun _ => rfl) U_c_shared (mz_vV d_c_measure_203 U_c_shared rfl lk_m_c_74 I_c_shared s_c_shared np_c_shared rfl rfl) (Nat.le_of_ble_eq_true rfl) (by decide) (fun r2 => ?_)
        refine mr_eq (st' := [.int r2, .long c_worth, .ref 23]) (ex' := ex) (h2 := (HX x_members x_collaterals x_hasSent x_isSealed x_metered x_sealedCount bk_counts bk_needs bk_whens bk_sides bk_quantities bk_limits ag_toldLies ag_passedLies ag_words ag_vectors ag_liarOperator ag_rounds mk_entries mk_slots mk_remainders mk_blocks mk_blockBids mk_blockOffers mk_entryCount mk_blockCount cv_limits cv_bids cv_offers cv_count cv_allBids cv_allOffers cv_meetingPrice (va_up cv_sureBids 1 c_sureBids) (va_up cv_sureOffers 1 c_sureOffers) (va_up cv_priceBids 1 c_priceBids) (va_up cv_priceOffers 1 c_priceOffers) (va_up cv_volume 1 r1) (va_up cv_worth 1 c_worth) oc_prices oc_volumes oc_filled oc_worth oc_takenSet oc_isDone, hT)) (k' := 0) (n' := 0) rfl rfl rfl rfl rfl ?_
        refine mr_i2l d_c_measure_206 ?_
        refine mr_aload_n d_c_measure_207 rfl rfl ?_
        refine mr_get K_c 6 d_c_measure_208 lk_f_c_47 (by decide) rfl rfl ?_
        refine mr_i2l d_c_measure_211 ?_
        refine mr_lmul d_c_measure_212 ?_
        refine mr_aload_n d_c_measure_213 rfl rfl ?_
        refine mr_iconst (v := 1) d_c_measure_214 mc_iconst_1 ?_
        refine mz_go (st := [.long ((Int32.toInt64 r2) * (Int32.toInt64 (cv_meetingPrice 1))), .long c_worth, .ref 23]) e_c_shared_1 (fun _ => rfl) U_c_shared (mz_vV d_c_measure_215 U_c_shared rfl lk_m_c_74 I_c_shared s_c_shared np_c_shared rfl rfl) (Nat.le_of_ble_eq_true rfl) (by decide) (fun r3 => ?_)
        refine mr_eq (st' := [.int r3, .long ((Int32.toInt64 r2) * (Int32.toInt64 (cv_meetingPrice 1))), .long c_worth, .ref 23]) (ex' := ex) (h2 := (HX x_members x_collaterals x_hasSent x_isSealed x_metered x_sealedCount bk_counts bk_needs bk_whens bk_sides bk_quantities bk_limits ag_toldLies ag_passedLies ag_words ag_vectors ag_liarOperator ag_rounds mk_entries mk_slots mk_remainders mk_blocks mk_blockBids mk_blockOffers mk_entryCount mk_blockCount cv_limits cv_bids cv_offers cv_count cv_allBids cv_allOffers cv_meetingPrice (va_up cv_sureBids 1 c_sureBids) (va_up cv_sureOffers 1 c_sureOffers) (va_up cv_priceBids 1 c_priceBids) (va_up cv_priceOffers 1 c_priceOffers) (va_up cv_volume 1 r1) (va_up cv_worth 1 c_worth) oc_prices oc_volumes oc_filled oc_worth oc_takenSet oc_isDone, hT)) (k' := 0) (n' := 0) rfl rfl rfl rfl rfl ?_
        refine mr_i2l d_c_measure_218 ?_
        refine mr_aload_n d_c_measure_219 rfl rfl ?_
        refine mr_get K_c 6 d_c_measure_220 lk_f_c_47 (by decide) rfl rfl ?_
        refine mr_i2l d_c_measure_223 ?_
        refine mr_lmul d_c_measure_224 ?_
        refine mr_lsub d_c_measure_225 ?_
        refine mr_ladd d_c_measure_226 ?_
        refine mr_put (h2 := (HX x_members x_collaterals x_hasSent x_isSealed x_metered x_sealedCount bk_counts bk_needs bk_whens bk_sides bk_quantities bk_limits ag_toldLies ag_passedLies ag_words ag_vectors ag_liarOperator ag_rounds mk_entries mk_slots mk_remainders mk_blocks mk_blockBids mk_blockOffers mk_entryCount mk_blockCount cv_limits cv_bids cv_offers cv_count cv_allBids cv_allOffers cv_meetingPrice (va_up cv_sureBids 1 c_sureBids) (va_up cv_sureOffers 1 c_sureOffers) (va_up cv_priceBids 1 c_priceBids) (va_up cv_priceOffers 1 c_priceOffers) (va_up cv_volume 1 r1) (va_up cv_worth 1 (c_worth + (((Int32.toInt64 r2) * (Int32.toInt64 (cv_meetingPrice 1))) - ((Int32.toInt64 r3) * (Int32.toInt64 (cv_meetingPrice 1)))))) oc_prices oc_volumes oc_filled oc_worth oc_takenSet oc_isDone, hT)) K_c 12 d_c_measure_227 lk_f_c_64 (by decide) rfl rfl rfl (Nat.le_of_ble_eq_true rfl) rfl rfl ?_
        exact mr_vret d_c_measure_230 rfl rfl
      · refine mr_aload_n d_c_measure_35 rfl rfl ?_
        refine mr_get K_c 0 d_c_measure_36 lk_f_c_9 (by decide) rfl rfl ?_
        refine mr_iload_n d_c_measure_39 rfl rfl ?_
        refine mr_iald d_c_measure_40 rfl (fun hc4 => ?_)
        refine mr_aload_n d_c_measure_41 rfl rfl ?_
        refine mr_get K_c 6 d_c_measure_42 lk_f_c_47 (by decide) rfl rfl ?_
        refine mr_icmp_le (tgt := 90) d_c_measure_45 (by decide) ?_ ?_
        · refine mr_aload_n d_c_measure_90 rfl rfl ?_
          refine mr_get K_c 0 d_c_measure_91 lk_f_c_9 (by decide) rfl rfl ?_
          refine mr_iload_n d_c_measure_94 rfl rfl ?_
          refine mr_ialdK d_c_measure_95 rfl hc4 ?_
          refine mr_aload_n d_c_measure_96 rfl rfl ?_
          refine mr_get K_c 6 d_c_measure_97 lk_f_c_47 (by decide) rfl rfl ?_
          refine mr_icmp_ge (tgt := 145) d_c_measure_100 (by decide) ?_ ?_
          · refine mr_aload_n d_c_measure_145 rfl rfl ?_
            refine mr_aload_n d_c_measure_146 rfl rfl ?_
            refine mr_get K_c 1 d_c_measure_147 lk_f_c_15 (by decide) rfl rfl ?_
            refine mr_iload_n d_c_measure_150 rfl rfl ?_
            refine mr_ialdK d_c_measure_151 rfl hc4 ?_
            refine mr_put (h2 := (HX x_members x_collaterals x_hasSent x_isSealed x_metered x_sealedCount bk_counts bk_needs bk_whens bk_sides bk_quantities bk_limits ag_toldLies ag_passedLies ag_words ag_vectors ag_liarOperator ag_rounds mk_entries mk_slots mk_remainders mk_blocks mk_blockBids mk_blockOffers mk_entryCount mk_blockCount cv_limits cv_bids cv_offers cv_count cv_allBids cv_allOffers cv_meetingPrice (va_up cv_sureBids 1 c_sureBids) (va_up cv_sureOffers 1 c_sureOffers) (va_up cv_priceBids 1 ((cv_bids 1) x3.toNatClampNeg)) (va_up cv_priceOffers 1 c_priceOffers) (va_up cv_volume 1 c_volume) (va_up cv_worth 1 c_worth) oc_prices oc_volumes oc_filled oc_worth oc_takenSet oc_isDone, hT)) K_c 9 d_c_measure_152 lk_f_c_58 (by decide) rfl rfl rfl (Nat.le_of_ble_eq_true rfl) rfl rfl ?_
            refine mr_aload_n d_c_measure_155 rfl rfl ?_
            refine mr_aload_n d_c_measure_156 rfl rfl ?_
            refine mr_get K_c 2 d_c_measure_157 lk_f_c_18 (by decide) rfl rfl ?_
            refine mr_iload_n d_c_measure_160 rfl rfl ?_
            refine mr_ialdK d_c_measure_161 rfl hc4 ?_
            refine mr_put (h2 := (HX x_members x_collaterals x_hasSent x_isSealed x_metered x_sealedCount bk_counts bk_needs bk_whens bk_sides bk_quantities bk_limits ag_toldLies ag_passedLies ag_words ag_vectors ag_liarOperator ag_rounds mk_entries mk_slots mk_remainders mk_blocks mk_blockBids mk_blockOffers mk_entryCount mk_blockCount cv_limits cv_bids cv_offers cv_count cv_allBids cv_allOffers cv_meetingPrice (va_up cv_sureBids 1 c_sureBids) (va_up cv_sureOffers 1 c_sureOffers) (va_up cv_priceBids 1 ((cv_bids 1) x3.toNatClampNeg)) (va_up cv_priceOffers 1 ((cv_offers 1) x3.toNatClampNeg)) (va_up cv_volume 1 c_volume) (va_up cv_worth 1 c_worth) oc_prices oc_volumes oc_filled oc_worth oc_takenSet oc_isDone, hT)) K_c 10 d_c_measure_162 lk_f_c_61 (by decide) rfl rfl rfl (Nat.le_of_ble_eq_true rfl) rfl rfl ?_
            refine mr_iinc (v := (x3 + 1)) (lv' := [(3, .int (x3 + 1)), (0, .ref 23)]) d_c_measure_165 rfl rfl (by decide) rfl ?_
            refine mr_goto (tgt := 27) d_c_measure_168 (by decide) ?_
            refine mr_sub (lv' := [(0, .ref 23), (3, .int (x3 + 1))]) [1, 0] rfl ?_
            exact ih _ _ _ _ _ _ _
          · refine mr_aload_n d_c_measure_103 rfl rfl ?_
            refine mr_dup d_c_measure_104 rfl ?_
            refine mr_get K_c 8 d_c_measure_105 lk_f_c_55 (by decide) rfl rfl ?_
            refine mr_aload_n d_c_measure_108 rfl rfl ?_
            refine mr_get K_c 2 d_c_measure_109 lk_f_c_18 (by decide) rfl rfl ?_
            refine mr_iload_n d_c_measure_112 rfl rfl ?_
            refine mr_ialdK d_c_measure_113 rfl hc4 ?_
            refine mr_iadd d_c_measure_114 ?_
            refine mr_put (h2 := (HX x_members x_collaterals x_hasSent x_isSealed x_metered x_sealedCount bk_counts bk_needs bk_whens bk_sides bk_quantities bk_limits ag_toldLies ag_passedLies ag_words ag_vectors ag_liarOperator ag_rounds mk_entries mk_slots mk_remainders mk_blocks mk_blockBids mk_blockOffers mk_entryCount mk_blockCount cv_limits cv_bids cv_offers cv_count cv_allBids cv_allOffers cv_meetingPrice (va_up cv_sureBids 1 c_sureBids) (va_up cv_sureOffers 1 (c_sureOffers + ((cv_offers 1) x3.toNatClampNeg))) (va_up cv_priceBids 1 c_priceBids) (va_up cv_priceOffers 1 c_priceOffers) (va_up cv_volume 1 c_volume) (va_up cv_worth 1 c_worth) oc_prices oc_volumes oc_filled oc_worth oc_takenSet oc_isDone, hT)) K_c 8 d_c_measure_115 lk_f_c_55 (by decide) rfl rfl rfl (Nat.le_of_ble_eq_true rfl) rfl rfl ?_
            refine mr_aload_n d_c_measure_118 rfl rfl ?_
            refine mr_dup d_c_measure_119 rfl ?_
            refine mr_get K_c 12 d_c_measure_120 lk_f_c_64 (by decide) rfl rfl ?_
            refine mr_aload_n d_c_measure_123 rfl rfl ?_
            refine mr_get K_c 2 d_c_measure_124 lk_f_c_18 (by decide) rfl rfl ?_
            refine mr_iload_n d_c_measure_127 rfl rfl ?_
            refine mr_ialdK d_c_measure_128 rfl hc4 ?_
            refine mr_i2l d_c_measure_129 ?_
            refine mr_aload_n d_c_measure_130 rfl rfl ?_
            refine mr_get K_c 0 d_c_measure_131 lk_f_c_9 (by decide) rfl rfl ?_
            refine mr_iload_n d_c_measure_134 rfl rfl ?_
            refine mr_ialdK d_c_measure_135 rfl hc4 ?_
            refine mr_i2l d_c_measure_136 ?_
            refine mr_lmul d_c_measure_137 ?_
            refine mr_lsub d_c_measure_138 ?_
            refine mr_put (h2 := (HX x_members x_collaterals x_hasSent x_isSealed x_metered x_sealedCount bk_counts bk_needs bk_whens bk_sides bk_quantities bk_limits ag_toldLies ag_passedLies ag_words ag_vectors ag_liarOperator ag_rounds mk_entries mk_slots mk_remainders mk_blocks mk_blockBids mk_blockOffers mk_entryCount mk_blockCount cv_limits cv_bids cv_offers cv_count cv_allBids cv_allOffers cv_meetingPrice (va_up cv_sureBids 1 c_sureBids) (va_up cv_sureOffers 1 (c_sureOffers + ((cv_offers 1) x3.toNatClampNeg))) (va_up cv_priceBids 1 c_priceBids) (va_up cv_priceOffers 1 c_priceOffers) (va_up cv_volume 1 c_volume) (va_up cv_worth 1 (c_worth - ((Int32.toInt64 ((cv_offers 1) x3.toNatClampNeg)) * (Int32.toInt64 ((cv_limits 1) x3.toNatClampNeg))))) oc_prices oc_volumes oc_filled oc_worth oc_takenSet oc_isDone, hT)) K_c 12 d_c_measure_139 lk_f_c_64 (by decide) rfl rfl rfl (Nat.le_of_ble_eq_true rfl) rfl rfl ?_
            refine mr_goto (tgt := 165) d_c_measure_142 (by decide) ?_
            refine mr_iinc (v := (x3 + 1)) (lv' := [(3, .int (x3 + 1)), (0, .ref 23)]) d_c_measure_165 rfl rfl (by decide) rfl ?_
            refine mr_goto (tgt := 27) d_c_measure_168 (by decide) ?_
            refine mr_sub (lv' := [(0, .ref 23), (3, .int (x3 + 1))]) [1, 0] rfl ?_
            exact ih _ _ _ _ _ _ _
        · refine mr_aload_n d_c_measure_48 rfl rfl ?_
          refine mr_dup d_c_measure_49 rfl ?_
          refine mr_get K_c 7 d_c_measure_50 lk_f_c_52 (by decide) rfl rfl ?_
          refine mr_aload_n d_c_measure_53 rfl rfl ?_
          refine mr_get K_c 1 d_c_measure_54 lk_f_c_15 (by decide) rfl rfl ?_
          refine mr_iload_n d_c_measure_57 rfl rfl ?_
          refine mr_ialdK d_c_measure_58 rfl hc4 ?_
          refine mr_iadd d_c_measure_59 ?_
          refine mr_put (h2 := (HX x_members x_collaterals x_hasSent x_isSealed x_metered x_sealedCount bk_counts bk_needs bk_whens bk_sides bk_quantities bk_limits ag_toldLies ag_passedLies ag_words ag_vectors ag_liarOperator ag_rounds mk_entries mk_slots mk_remainders mk_blocks mk_blockBids mk_blockOffers mk_entryCount mk_blockCount cv_limits cv_bids cv_offers cv_count cv_allBids cv_allOffers cv_meetingPrice (va_up cv_sureBids 1 (c_sureBids + ((cv_bids 1) x3.toNatClampNeg))) (va_up cv_sureOffers 1 c_sureOffers) (va_up cv_priceBids 1 c_priceBids) (va_up cv_priceOffers 1 c_priceOffers) (va_up cv_volume 1 c_volume) (va_up cv_worth 1 c_worth) oc_prices oc_volumes oc_filled oc_worth oc_takenSet oc_isDone, hT)) K_c 7 d_c_measure_60 lk_f_c_52 (by decide) rfl rfl rfl (Nat.le_of_ble_eq_true rfl) rfl rfl ?_
          refine mr_aload_n d_c_measure_63 rfl rfl ?_
          refine mr_dup d_c_measure_64 rfl ?_
          refine mr_get K_c 12 d_c_measure_65 lk_f_c_64 (by decide) rfl rfl ?_
          refine mr_aload_n d_c_measure_68 rfl rfl ?_
          refine mr_get K_c 1 d_c_measure_69 lk_f_c_15 (by decide) rfl rfl ?_
          refine mr_iload_n d_c_measure_72 rfl rfl ?_
          refine mr_ialdK d_c_measure_73 rfl hc4 ?_
          refine mr_i2l d_c_measure_74 ?_
          refine mr_aload_n d_c_measure_75 rfl rfl ?_
          refine mr_get K_c 0 d_c_measure_76 lk_f_c_9 (by decide) rfl rfl ?_
          refine mr_iload_n d_c_measure_79 rfl rfl ?_
          refine mr_ialdK d_c_measure_80 rfl hc4 ?_
          refine mr_i2l d_c_measure_81 ?_
          refine mr_lmul d_c_measure_82 ?_
          refine mr_ladd d_c_measure_83 ?_
          refine mr_put (h2 := (HX x_members x_collaterals x_hasSent x_isSealed x_metered x_sealedCount bk_counts bk_needs bk_whens bk_sides bk_quantities bk_limits ag_toldLies ag_passedLies ag_words ag_vectors ag_liarOperator ag_rounds mk_entries mk_slots mk_remainders mk_blocks mk_blockBids mk_blockOffers mk_entryCount mk_blockCount cv_limits cv_bids cv_offers cv_count cv_allBids cv_allOffers cv_meetingPrice (va_up cv_sureBids 1 (c_sureBids + ((cv_bids 1) x3.toNatClampNeg))) (va_up cv_sureOffers 1 c_sureOffers) (va_up cv_priceBids 1 c_priceBids) (va_up cv_priceOffers 1 c_priceOffers) (va_up cv_volume 1 c_volume) (va_up cv_worth 1 (c_worth + ((Int32.toInt64 ((cv_bids 1) x3.toNatClampNeg)) * (Int32.toInt64 ((cv_limits 1) x3.toNatClampNeg))))) oc_prices oc_volumes oc_filled oc_worth oc_takenSet oc_isDone, hT)) K_c 12 d_c_measure_84 lk_f_c_64 (by decide) rfl rfl rfl (Nat.le_of_ble_eq_true rfl) rfl rfl ?_
          refine mr_goto (tgt := 165) d_c_measure_87 (by decide) ?_
          refine mr_iinc (v := (x3 + 1)) (lv' := [(3, .int (x3 + 1)), (0, .ref 23)]) d_c_measure_165 rfl rfl (by decide) rfl ?_
          refine mr_goto (tgt := 27) d_c_measure_168 (by decide) ?_
          refine mr_sub (lv' := [(0, .ref 23), (3, .int (x3 + 1))]) [1, 0] rfl ?_
          exact ih _ _ _ _ _ _ _
  refine mz_of (by decide) (Nat.le_of_ble_eq_true rfl) ?_
  rw [f_c_measure]
  show mz_A g M_c_measure (mz_rm 1) _ 0 [(0, .ref 23), (1, .int x1), (2, .int x2)] [] ex (HX x_members x_collaterals x_hasSent x_isSealed x_metered x_sealedCount bk_counts bk_needs bk_whens bk_sides bk_quantities bk_limits ag_toldLies ag_passedLies ag_words ag_vectors ag_liarOperator ag_rounds mk_entries mk_slots mk_remainders mk_blocks mk_blockBids mk_blockOffers mk_entryCount mk_blockCount cv_limits cv_bids cv_offers cv_count cv_allBids cv_allOffers cv_meetingPrice cv_sureBids cv_sureOffers cv_priceBids cv_priceOffers cv_volume cv_worth oc_prices oc_volumes oc_filled oc_worth oc_takenSet oc_isDone, hT) 0 0 _
  refine mr_aload_n d_c_measure_0 rfl rfl ?_
  refine mr_iload_n d_c_measure_1 rfl rfl ?_
  refine mr_put (h2 := (HX x_members x_collaterals x_hasSent x_isSealed x_metered x_sealedCount bk_counts bk_needs bk_whens bk_sides bk_quantities bk_limits ag_toldLies ag_passedLies ag_words ag_vectors ag_liarOperator ag_rounds mk_entries mk_slots mk_remainders mk_blocks mk_blockBids mk_blockOffers mk_entryCount mk_blockCount cv_limits cv_bids cv_offers cv_count cv_allBids cv_allOffers cv_meetingPrice (va_up cv_sureBids 1 x1) cv_sureOffers cv_priceBids cv_priceOffers cv_volume cv_worth oc_prices oc_volumes oc_filled oc_worth oc_takenSet oc_isDone, hT)) K_c 7 d_c_measure_2 lk_f_c_52 (by decide) rfl rfl rfl (Nat.le_of_ble_eq_true rfl) rfl rfl ?_
  refine mr_aload_n d_c_measure_5 rfl rfl ?_
  refine mr_iload_n d_c_measure_6 rfl rfl ?_
  refine mr_put (h2 := (HX x_members x_collaterals x_hasSent x_isSealed x_metered x_sealedCount bk_counts bk_needs bk_whens bk_sides bk_quantities bk_limits ag_toldLies ag_passedLies ag_words ag_vectors ag_liarOperator ag_rounds mk_entries mk_slots mk_remainders mk_blocks mk_blockBids mk_blockOffers mk_entryCount mk_blockCount cv_limits cv_bids cv_offers cv_count cv_allBids cv_allOffers cv_meetingPrice (va_up cv_sureBids 1 x1) (va_up cv_sureOffers 1 x2) cv_priceBids cv_priceOffers cv_volume cv_worth oc_prices oc_volumes oc_filled oc_worth oc_takenSet oc_isDone, hT)) K_c 8 d_c_measure_7 lk_f_c_55 (by decide) rfl rfl rfl (Nat.le_of_ble_eq_true rfl) rfl rfl ?_
  refine mr_aload_n d_c_measure_10 rfl rfl ?_
  refine mr_iconst (v := 0) d_c_measure_11 mc_iconst_0 ?_
  refine mr_put (h2 := (HX x_members x_collaterals x_hasSent x_isSealed x_metered x_sealedCount bk_counts bk_needs bk_whens bk_sides bk_quantities bk_limits ag_toldLies ag_passedLies ag_words ag_vectors ag_liarOperator ag_rounds mk_entries mk_slots mk_remainders mk_blocks mk_blockBids mk_blockOffers mk_entryCount mk_blockCount cv_limits cv_bids cv_offers cv_count cv_allBids cv_allOffers cv_meetingPrice (va_up cv_sureBids 1 x1) (va_up cv_sureOffers 1 x2) (va_up cv_priceBids 1 0) cv_priceOffers cv_volume cv_worth oc_prices oc_volumes oc_filled oc_worth oc_takenSet oc_isDone, hT)) K_c 9 d_c_measure_12 lk_f_c_58 (by decide) rfl rfl rfl (Nat.le_of_ble_eq_true rfl) rfl rfl ?_
  refine mr_aload_n d_c_measure_15 rfl rfl ?_
  refine mr_iconst (v := 0) d_c_measure_16 mc_iconst_0 ?_
  refine mr_put (h2 := (HX x_members x_collaterals x_hasSent x_isSealed x_metered x_sealedCount bk_counts bk_needs bk_whens bk_sides bk_quantities bk_limits ag_toldLies ag_passedLies ag_words ag_vectors ag_liarOperator ag_rounds mk_entries mk_slots mk_remainders mk_blocks mk_blockBids mk_blockOffers mk_entryCount mk_blockCount cv_limits cv_bids cv_offers cv_count cv_allBids cv_allOffers cv_meetingPrice (va_up cv_sureBids 1 x1) (va_up cv_sureOffers 1 x2) (va_up cv_priceBids 1 0) (va_up cv_priceOffers 1 0) cv_volume cv_worth oc_prices oc_volumes oc_filled oc_worth oc_takenSet oc_isDone, hT)) K_c 10 d_c_measure_17 lk_f_c_61 (by decide) rfl rfl rfl (Nat.le_of_ble_eq_true rfl) rfl rfl ?_
  refine mr_aload_n d_c_measure_20 rfl rfl ?_
  refine mr_lconst (v := 0) d_c_measure_21 mc_lconst_0 ?_
  refine mr_put (h2 := (HX x_members x_collaterals x_hasSent x_isSealed x_metered x_sealedCount bk_counts bk_needs bk_whens bk_sides bk_quantities bk_limits ag_toldLies ag_passedLies ag_words ag_vectors ag_liarOperator ag_rounds mk_entries mk_slots mk_remainders mk_blocks mk_blockBids mk_blockOffers mk_entryCount mk_blockCount cv_limits cv_bids cv_offers cv_count cv_allBids cv_allOffers cv_meetingPrice (va_up cv_sureBids 1 x1) (va_up cv_sureOffers 1 x2) (va_up cv_priceBids 1 0) (va_up cv_priceOffers 1 0) cv_volume (va_up cv_worth 1 0) oc_prices oc_volumes oc_filled oc_worth oc_takenSet oc_isDone, hT)) K_c 12 d_c_measure_22 lk_f_c_64 (by decide) rfl rfl rfl (Nat.le_of_ble_eq_true rfl) rfl rfl ?_
  refine mr_iconst (v := 0) d_c_measure_25 mc_iconst_0 ?_
  refine mr_istore_n (lv' := [(3, .int 0), (0, .ref 23), (1, .int x1), (2, .int x2)]) d_c_measure_26 rfl (by decide) rfl ?_
  refine mr_sub (lv' := [(0, .ref 23), (3, .int 0)]) [1, 0] rfl ?_
  exact w_L27 1000 _ _ _ _ _ _ _
set_option maxRecDepth 100000 in
set_option maxHeartbeats 4000000 in
theorem e_c_measure_2 {g : mz_G} {ex : Bool} {hT : List mz_E} {x_members : Int32} {x_collaterals : Nat → Int32} {x_hasSent : Nat → Int32} {x_isSealed : Nat → Int32} {x_metered : Nat → Int32} {x_sealedCount : Int32} {bk_counts : Nat → Int32} {bk_needs : Nat → Int64} {bk_whens : Nat → Int32} {bk_sides : Nat → Int32} {bk_quantities : Nat → Int32} {bk_limits : Nat → Int32} {ag_toldLies : Nat → Int32} {ag_passedLies : Nat → Int32} {ag_words : Nat → Int32} {ag_vectors : Nat → Int32} {ag_liarOperator : Int32} {ag_rounds : Int32} {mk_entries : Nat → Int32} {mk_slots : Nat → Int32} {mk_remainders : Nat → Int32} {mk_blocks : Nat → Int32} {mk_blockBids : Nat → Int32} {mk_blockOffers : Nat → Int32} {mk_entryCount : Int32} {mk_blockCount : Int32} {cv_limits : Nat → Nat → Int32} {cv_bids : Nat → Nat → Int32} {cv_offers : Nat → Nat → Int32} {cv_count : Nat → Int32} {cv_allBids : Nat → Int32} {cv_allOffers : Nat → Int32} {cv_meetingPrice : Nat → Int32} {cv_sureBids : Nat → Int32} {cv_sureOffers : Nat → Int32} {cv_priceBids : Nat → Int32} {cv_priceOffers : Nat → Int32} {cv_volume : Nat → Int32} {cv_worth : Nat → Int64} {oc_prices : Nat → Nat → Int32} {oc_volumes : Nat → Nat → Int32} {oc_filled : Nat → Nat → Int32} {oc_worth : Nat → Int64} {oc_takenSet : Nat → Int32} {oc_isDone : Nat → Int32} {x1 : Int32} {x2 : Int32} : mz_M g M_c_measure 1 [.ref 27, .int x1, .int x2] ex (HX x_members x_collaterals x_hasSent x_isSealed x_metered x_sealedCount bk_counts bk_needs bk_whens bk_sides bk_quantities bk_limits ag_toldLies ag_passedLies ag_words ag_vectors ag_liarOperator ag_rounds mk_entries mk_slots mk_remainders mk_blocks mk_blockBids mk_blockOffers mk_entryCount mk_blockCount cv_limits cv_bids cv_offers cv_count cv_allBids cv_allOffers cv_meetingPrice cv_sureBids cv_sureOffers cv_priceBids cv_priceOffers cv_volume cv_worth oc_prices oc_volumes oc_filled oc_worth oc_takenSet oc_isDone, hT) (f_c_measure (cv_limits 2) (cv_bids 2) (cv_offers 2) (cv_count 2) (cv_meetingPrice 2) (cv_sureBids 2) (cv_sureOffers 2) (cv_priceBids 2) (cv_priceOffers 2) (cv_volume 2) (cv_worth 2) x1 x2) (fun r => (0, none, ex, (HX x_members x_collaterals x_hasSent x_isSealed x_metered x_sealedCount bk_counts bk_needs bk_whens bk_sides bk_quantities bk_limits ag_toldLies ag_passedLies ag_words ag_vectors ag_liarOperator ag_rounds mk_entries mk_slots mk_remainders mk_blocks mk_blockBids mk_blockOffers mk_entryCount mk_blockCount cv_limits cv_bids cv_offers cv_count cv_allBids cv_allOffers cv_meetingPrice (va_up cv_sureBids 2 r.1) (va_up cv_sureOffers 2 r.2.1) (va_up cv_priceBids 2 r.2.2.1) (va_up cv_priceOffers 2 r.2.2.2.1) (va_up cv_volume 2 r.2.2.2.2.1) (va_up cv_worth 2 r.2.2.2.2.2) oc_prices oc_volumes oc_filled oc_worth oc_takenSet oc_isDone, hT), 0, 0)) := by
  have w_L27 : ∀ (n : Nat) (c_sureBids : Int32) (c_sureOffers : Int32) (c_priceBids : Int32) (c_priceOffers : Int32) (c_volume : Int32) (c_worth : Int64) (x3 : Int32), mz_A g M_c_measure (mz_rm 1) (fun r => (0, none, ex, (HX x_members x_collaterals x_hasSent x_isSealed x_metered x_sealedCount bk_counts bk_needs bk_whens bk_sides bk_quantities bk_limits ag_toldLies ag_passedLies ag_words ag_vectors ag_liarOperator ag_rounds mk_entries mk_slots mk_remainders mk_blocks mk_blockBids mk_blockOffers mk_entryCount mk_blockCount cv_limits cv_bids cv_offers cv_count cv_allBids cv_allOffers cv_meetingPrice (va_up cv_sureBids 2 r.1) (va_up cv_sureOffers 2 r.2.1) (va_up cv_priceBids 2 r.2.2.1) (va_up cv_priceOffers 2 r.2.2.2.1) (va_up cv_volume 2 r.2.2.2.2.1) (va_up cv_worth 2 r.2.2.2.2.2) oc_prices oc_volumes oc_filled oc_worth oc_takenSet oc_isDone, hT), 0, 0)) 27 [(0, .ref 27), (3, .int x3)] [] ex (HX x_members x_collaterals x_hasSent x_isSealed x_metered x_sealedCount bk_counts bk_needs bk_whens bk_sides bk_quantities bk_limits ag_toldLies ag_passedLies ag_words ag_vectors ag_liarOperator ag_rounds mk_entries mk_slots mk_remainders mk_blocks mk_blockBids mk_blockOffers mk_entryCount mk_blockCount cv_limits cv_bids cv_offers cv_count cv_allBids cv_allOffers cv_meetingPrice (va_up cv_sureBids 2 c_sureBids) (va_up cv_sureOffers 2 c_sureOffers) (va_up cv_priceBids 2 c_priceBids) (va_up cv_priceOffers 2 c_priceOffers) (va_up cv_volume 2 c_volume) (va_up cv_worth 2 c_worth) oc_prices oc_volumes oc_filled oc_worth oc_takenSet oc_isDone, hT) 0 0 (f_c_measure_L27 (cv_limits 2) (cv_bids 2) (cv_offers 2) (cv_count 2) (cv_meetingPrice 2) n c_sureBids c_sureOffers c_priceBids c_priceOffers c_volume c_worth x3) := by
    intro n
    induction n with
    | zero => intro c_sureBids c_sureOffers c_priceBids c_priceOffers c_volume c_worth x3; exact mr_none
    | succ n ih =>
      intro c_sureBids c_sureOffers c_priceBids c_priceOffers c_volume c_worth x3
      rw [f_c_measure_L27]
      refine mr_iload_n d_c_measure_27 rfl rfl ?_
      refine mr_aload_n d_c_measure_28 rfl rfl ?_
      refine mr_get K_c 3 d_c_measure_29 lk_f_c_21 (by decide) rfl rfl ?_
      refine mr_icmp_ge (tgt := 171) d_c_measure_32 (by decide) ?_ ?_
      · refine mr_aload_n d_c_measure_171 rfl rfl ?_
        refine mr_aload_n d_c_measure_172 rfl rfl ?_
        refine mr_get K_c 7 d_c_measure_173 lk_f_c_52 (by decide) rfl rfl ?_
        refine mr_aload_n d_c_measure_176 rfl rfl ?_
        refine mr_get K_c 9 d_c_measure_177 lk_f_c_58 (by decide) rfl rfl ?_
        refine mr_iadd d_c_measure_180 ?_
        refine mr_aload_n d_c_measure_181 rfl rfl ?_
        refine mr_get K_c 8 d_c_measure_182 lk_f_c_55 (by decide) rfl rfl ?_
        refine mr_aload_n d_c_measure_185 rfl rfl ?_
        refine mr_get K_c 10 d_c_measure_186 lk_f_c_61 (by decide) rfl rfl ?_
        refine mr_iadd d_c_measure_189 ?_
        refine mz_go (st := [.ref 27]) e_jm_min (fun _ => rfl) U_jm_min (mz_vS d_c_measure_190 U_jm_min lk_m_c_68 S_jm_min np_jm_min) (Nat.le_of_ble_eq_true rfl) (by decide) (fun r1 => ?_)
        refine mr_eq (st' := [.int r1, .ref 27]) (ex' := ex) (h2 := (HX x_members x_collaterals x_hasSent x_isSealed x_metered x_sealedCount bk_counts bk_needs bk_whens bk_sides bk_quantities bk_limits ag_toldLies ag_passedLies ag_words ag_vectors ag_liarOperator ag_rounds mk_entries mk_slots mk_remainders mk_blocks mk_blockBids mk_blockOffers mk_entryCount mk_blockCount cv_limits cv_bids cv_offers cv_count cv_allBids cv_allOffers cv_meetingPrice (va_up cv_sureBids 2 c_sureBids) (va_up cv_sureOffers 2 c_sureOffers) (va_up cv_priceBids 2 c_priceBids) (va_up cv_priceOffers 2 c_priceOffers) (va_up cv_volume 2 c_volume) (va_up cv_worth 2 c_worth) oc_prices oc_volumes oc_filled oc_worth oc_takenSet oc_isDone, hT)) (k' := 0) (n' := 0) rfl rfl rfl rfl rfl ?_
        refine mr_put (h2 := (HX x_members x_collaterals x_hasSent x_isSealed x_metered x_sealedCount bk_counts bk_needs bk_whens bk_sides bk_quantities bk_limits ag_toldLies ag_passedLies ag_words ag_vectors ag_liarOperator ag_rounds mk_entries mk_slots mk_remainders mk_blocks mk_blockBids mk_blockOffers mk_entryCount mk_blockCount cv_limits cv_bids cv_offers cv_count cv_allBids cv_allOffers cv_meetingPrice (va_up cv_sureBids 2 c_sureBids) (va_up cv_sureOffers 2 c_sureOffers) (va_up cv_priceBids 2 c_priceBids) (va_up cv_priceOffers 2 c_priceOffers) (va_up cv_volume 2 r1) (va_up cv_worth 2 c_worth) oc_prices oc_volumes oc_filled oc_worth oc_takenSet oc_isDone, hT)) K_c 11 d_c_measure_193 lk_f_c_71 (by decide) rfl rfl rfl (Nat.le_of_ble_eq_true rfl) rfl rfl ?_
        refine mr_aload_n d_c_measure_196 rfl rfl ?_
        refine mr_dup d_c_measure_197 rfl ?_
        refine mr_get K_c 12 d_c_measure_198 lk_f_c_64 (by decide) rfl rfl ?_
        refine mr_aload_n d_c_measure_201 rfl rfl ?_
        refine mr_iconst (v := 0) d_c_measure_202 mc_iconst_0 ?_
        refine mz_go (st := [.long c_worth, .ref 27]) e_c_shared_2 (fun _ => rfl) U_c_shared (mz_vV d_c_measure_203 U_c_shared rfl lk_m_c_74 I_c_shared s_c_shared np_c_shared rfl rfl) (Nat.le_of_ble_eq_true rfl) (by decide) (fun r2 => ?_)
        refine mr_eq (st' := [.int r2, .long c_worth, .ref 27]) (ex' := ex) (h2 := (HX x_members x_collaterals x_hasSent x_isSealed x_metered x_sealedCount bk_counts bk_needs bk_whens bk_sides bk_quantities bk_limits ag_toldLies ag_passedLies ag_words ag_vectors ag_liarOperator ag_rounds mk_entries mk_slots mk_remainders mk_blocks mk_blockBids mk_blockOffers mk_entryCount mk_blockCount cv_limits cv_bids cv_offers cv_count cv_allBids cv_allOffers cv_meetingPrice (va_up cv_sureBids 2 c_sureBids) (va_up cv_sureOffers 2 c_sureOffers) (va_up cv_priceBids 2 c_priceBids) (va_up cv_priceOffers 2 c_priceOffers) (va_up cv_volume 2 r1) (va_up cv_worth 2 c_worth) oc_prices oc_volumes oc_filled oc_worth oc_takenSet oc_isDone, hT)) (k' := 0) (n' := 0) rfl rfl rfl rfl rfl ?_
        refine mr_i2l d_c_measure_206 ?_
        refine mr_aload_n d_c_measure_207 rfl rfl ?_
        refine mr_get K_c 6 d_c_measure_208 lk_f_c_47 (by decide) rfl rfl ?_
        refine mr_i2l d_c_measure_211 ?_
        refine mr_lmul d_c_measure_212 ?_
        refine mr_aload_n d_c_measure_213 rfl rfl ?_
        refine mr_iconst (v := 1) d_c_measure_214 mc_iconst_1 ?_
        refine mz_go (st := [.long ((Int32.toInt64 r2) * (Int32.toInt64 (cv_meetingPrice 2))), .long c_worth, .ref 27]) e_c_shared_2 (fun _ => rfl) U_c_shared (mz_vV d_c_measure_215 U_c_shared rfl lk_m_c_74 I_c_shared s_c_shared np_c_shared rfl rfl) (Nat.le_of_ble_eq_true rfl) (by decide) (fun r3 => ?_)
        refine mr_eq (st' := [.int r3, .long ((Int32.toInt64 r2) * (Int32.toInt64 (cv_meetingPrice 2))), .long c_worth, .ref 27]) (ex' := ex) (h2 := (HX x_members x_collaterals x_hasSent x_isSealed x_metered x_sealedCount bk_counts bk_needs bk_whens bk_sides bk_quantities bk_limits ag_toldLies ag_passedLies ag_words ag_vectors ag_liarOperator ag_rounds mk_entries mk_slots mk_remainders mk_blocks mk_blockBids mk_blockOffers mk_entryCount mk_blockCount cv_limits cv_bids cv_offers cv_count cv_allBids cv_allOffers cv_meetingPrice (va_up cv_sureBids 2 c_sureBids) (va_up cv_sureOffers 2 c_sureOffers) (va_up cv_priceBids 2 c_priceBids) (va_up cv_priceOffers 2 c_priceOffers) (va_up cv_volume 2 r1) (va_up cv_worth 2 c_worth) oc_prices oc_volumes oc_filled oc_worth oc_takenSet oc_isDone, hT)) (k' := 0) (n' := 0) rfl rfl rfl rfl rfl ?_
        refine mr_i2l d_c_measure_218 ?_
        refine mr_aload_n d_c_measure_219 rfl rfl ?_
        refine mr_get K_c 6 d_c_measure_220 lk_f_c_47 (by decide) rfl rfl ?_
        refine mr_i2l d_c_measure_223 ?_
        refine mr_lmul d_c_measure_224 ?_
        refine mr_lsub d_c_measure_225 ?_
        refine mr_ladd d_c_measure_226 ?_
        refine mr_put (h2 := (HX x_members x_collaterals x_hasSent x_isSealed x_metered x_sealedCount bk_counts bk_needs bk_whens bk_sides bk_quantities bk_limits ag_toldLies ag_passedLies ag_words ag_vectors ag_liarOperator ag_rounds mk_entries mk_slots mk_remainders mk_blocks mk_blockBids mk_blockOffers mk_entryCount mk_blockCount cv_limits cv_bids cv_offers cv_count cv_allBids cv_allOffers cv_meetingPrice (va_up cv_sureBids 2 c_sureBids) (va_up cv_sureOffers 2 c_sureOffers) (va_up cv_priceBids 2 c_priceBids) (va_up cv_priceOffers 2 c_priceOffers) (va_up cv_volume 2 r1) (va_up cv_worth 2 (c_worth + (((Int32.toInt64 r2) * (Int32.toInt64 (cv_meetingPrice 2))) - ((Int32.toInt64 r3) * (Int32.toInt64 (cv_meetingPrice 2)))))) oc_prices oc_volumes oc_filled oc_worth oc_takenSet oc_isDone, hT)) K_c 12 d_c_measure_227 lk_f_c_64 (by decide) rfl rfl rfl (Nat.le_of_ble_eq_true rfl) rfl rfl ?_
        exact mr_vret d_c_measure_230 rfl rfl
      · refine mr_aload_n d_c_measure_35 rfl rfl ?_
        refine mr_get K_c 0 d_c_measure_36 lk_f_c_9 (by decide) rfl rfl ?_
        refine mr_iload_n d_c_measure_39 rfl rfl ?_
        refine mr_iald d_c_measure_40 rfl (fun hc4 => ?_)
        refine mr_aload_n d_c_measure_41 rfl rfl ?_
        refine mr_get K_c 6 d_c_measure_42 lk_f_c_47 (by decide) rfl rfl ?_
        refine mr_icmp_le (tgt := 90) d_c_measure_45 (by decide) ?_ ?_
        · refine mr_aload_n d_c_measure_90 rfl rfl ?_
          refine mr_get K_c 0 d_c_measure_91 lk_f_c_9 (by decide) rfl rfl ?_
          refine mr_iload_n d_c_measure_94 rfl rfl ?_
          refine mr_ialdK d_c_measure_95 rfl hc4 ?_
          refine mr_aload_n d_c_measure_96 rfl rfl ?_
          refine mr_get K_c 6 d_c_measure_97 lk_f_c_47 (by decide) rfl rfl ?_
          refine mr_icmp_ge (tgt := 145) d_c_measure_100 (by decide) ?_ ?_
          · refine mr_aload_n d_c_measure_145 rfl rfl ?_
            refine mr_aload_n d_c_measure_146 rfl rfl ?_
            refine mr_get K_c 1 d_c_measure_147 lk_f_c_15 (by decide) rfl rfl ?_
            refine mr_iload_n d_c_measure_150 rfl rfl ?_
            refine mr_ialdK d_c_measure_151 rfl hc4 ?_
            refine mr_put (h2 := (HX x_members x_collaterals x_hasSent x_isSealed x_metered x_sealedCount bk_counts bk_needs bk_whens bk_sides bk_quantities bk_limits ag_toldLies ag_passedLies ag_words ag_vectors ag_liarOperator ag_rounds mk_entries mk_slots mk_remainders mk_blocks mk_blockBids mk_blockOffers mk_entryCount mk_blockCount cv_limits cv_bids cv_offers cv_count cv_allBids cv_allOffers cv_meetingPrice (va_up cv_sureBids 2 c_sureBids) (va_up cv_sureOffers 2 c_sureOffers) (va_up cv_priceBids 2 ((cv_bids 2) x3.toNatClampNeg)) (va_up cv_priceOffers 2 c_priceOffers) (va_up cv_volume 2 c_volume) (va_up cv_worth 2 c_worth) oc_prices oc_volumes oc_filled oc_worth oc_takenSet oc_isDone, hT)) K_c 9 d_c_measure_152 lk_f_c_58 (by decide) rfl rfl rfl (Nat.le_of_ble_eq_true rfl) rfl rfl ?_
            refine mr_aload_n d_c_measure_155 rfl rfl ?_
            refine mr_aload_n d_c_measure_156 rfl rfl ?_
            refine mr_get K_c 2 d_c_measure_157 lk_f_c_18 (by decide) rfl rfl ?_
            refine mr_iload_n d_c_measure_160 rfl rfl ?_
            refine mr_ialdK d_c_measure_161 rfl hc4 ?_
            refine mr_put (h2 := (HX x_members x_collaterals x_hasSent x_isSealed x_metered x_sealedCount bk_counts bk_needs bk_whens bk_sides bk_quantities bk_limits ag_toldLies ag_passedLies ag_words ag_vectors ag_liarOperator ag_rounds mk_entries mk_slots mk_remainders mk_blocks mk_blockBids mk_blockOffers mk_entryCount mk_blockCount cv_limits cv_bids cv_offers cv_count cv_allBids cv_allOffers cv_meetingPrice (va_up cv_sureBids 2 c_sureBids) (va_up cv_sureOffers 2 c_sureOffers) (va_up cv_priceBids 2 ((cv_bids 2) x3.toNatClampNeg)) (va_up cv_priceOffers 2 ((cv_offers 2) x3.toNatClampNeg)) (va_up cv_volume 2 c_volume) (va_up cv_worth 2 c_worth) oc_prices oc_volumes oc_filled oc_worth oc_takenSet oc_isDone, hT)) K_c 10 d_c_measure_162 lk_f_c_61 (by decide) rfl rfl rfl (Nat.le_of_ble_eq_true rfl) rfl rfl ?_
            refine mr_iinc (v := (x3 + 1)) (lv' := [(3, .int (x3 + 1)), (0, .ref 27)]) d_c_measure_165 rfl rfl (by decide) rfl ?_
            refine mr_goto (tgt := 27) d_c_measure_168 (by decide) ?_
            refine mr_sub (lv' := [(0, .ref 27), (3, .int (x3 + 1))]) [1, 0] rfl ?_
            exact ih _ _ _ _ _ _ _
          · refine mr_aload_n d_c_measure_103 rfl rfl ?_
            refine mr_dup d_c_measure_104 rfl ?_
            refine mr_get K_c 8 d_c_measure_105 lk_f_c_55 (by decide) rfl rfl ?_
            refine mr_aload_n d_c_measure_108 rfl rfl ?_
            refine mr_get K_c 2 d_c_measure_109 lk_f_c_18 (by decide) rfl rfl ?_
            refine mr_iload_n d_c_measure_112 rfl rfl ?_
            refine mr_ialdK d_c_measure_113 rfl hc4 ?_
            refine mr_iadd d_c_measure_114 ?_
            refine mr_put (h2 := (HX x_members x_collaterals x_hasSent x_isSealed x_metered x_sealedCount bk_counts bk_needs bk_whens bk_sides bk_quantities bk_limits ag_toldLies ag_passedLies ag_words ag_vectors ag_liarOperator ag_rounds mk_entries mk_slots mk_remainders mk_blocks mk_blockBids mk_blockOffers mk_entryCount mk_blockCount cv_limits cv_bids cv_offers cv_count cv_allBids cv_allOffers cv_meetingPrice (va_up cv_sureBids 2 c_sureBids) (va_up cv_sureOffers 2 (c_sureOffers + ((cv_offers 2) x3.toNatClampNeg))) (va_up cv_priceBids 2 c_priceBids) (va_up cv_priceOffers 2 c_priceOffers) (va_up cv_volume 2 c_volume) (va_up cv_worth 2 c_worth) oc_prices oc_volumes oc_filled oc_worth oc_takenSet oc_isDone, hT)) K_c 8 d_c_measure_115 lk_f_c_55 (by decide) rfl rfl rfl (Nat.le_of_ble_eq_true rfl) rfl rfl ?_
            refine mr_aload_n d_c_measure_118 rfl rfl ?_
            refine mr_dup d_c_measure_119 rfl ?_
            refine mr_get K_c 12 d_c_measure_120 lk_f_c_64 (by decide) rfl rfl ?_
            refine mr_aload_n d_c_measure_123 rfl rfl ?_
            refine mr_get K_c 2 d_c_measure_124 lk_f_c_18 (by decide) rfl rfl ?_
            refine mr_iload_n d_c_measure_127 rfl rfl ?_
            refine mr_ialdK d_c_measure_128 rfl hc4 ?_
            refine mr_i2l d_c_measure_129 ?_
            refine mr_aload_n d_c_measure_130 rfl rfl ?_
            refine mr_get K_c 0 d_c_measure_131 lk_f_c_9 (by decide) rfl rfl ?_
            refine mr_iload_n d_c_measure_134 rfl rfl ?_
            refine mr_ialdK d_c_measure_135 rfl hc4 ?_
            refine mr_i2l d_c_measure_136 ?_
            refine mr_lmul d_c_measure_137 ?_
            refine mr_lsub d_c_measure_138 ?_
            refine mr_put (h2 := (HX x_members x_collaterals x_hasSent x_isSealed x_metered x_sealedCount bk_counts bk_needs bk_whens bk_sides bk_quantities bk_limits ag_toldLies ag_passedLies ag_words ag_vectors ag_liarOperator ag_rounds mk_entries mk_slots mk_remainders mk_blocks mk_blockBids mk_blockOffers mk_entryCount mk_blockCount cv_limits cv_bids cv_offers cv_count cv_allBids cv_allOffers cv_meetingPrice (va_up cv_sureBids 2 c_sureBids) (va_up cv_sureOffers 2 (c_sureOffers + ((cv_offers 2) x3.toNatClampNeg))) (va_up cv_priceBids 2 c_priceBids) (va_up cv_priceOffers 2 c_priceOffers) (va_up cv_volume 2 c_volume) (va_up cv_worth 2 (c_worth - ((Int32.toInt64 ((cv_offers 2) x3.toNatClampNeg)) * (Int32.toInt64 ((cv_limits 2) x3.toNatClampNeg))))) oc_prices oc_volumes oc_filled oc_worth oc_takenSet oc_isDone, hT)) K_c 12 d_c_measure_139 lk_f_c_64 (by decide) rfl rfl rfl (Nat.le_of_ble_eq_true rfl) rfl rfl ?_
            refine mr_goto (tgt := 165) d_c_measure_142 (by decide) ?_
            refine mr_iinc (v := (x3 + 1)) (lv' := [(3, .int (x3 + 1)), (0, .ref 27)]) d_c_measure_165 rfl rfl (by decide) rfl ?_
            refine mr_goto (tgt := 27) d_c_measure_168 (by decide) ?_
            refine mr_sub (lv' := [(0, .ref 27), (3, .int (x3 + 1))]) [1, 0] rfl ?_
            exact ih _ _ _ _ _ _ _
        · refine mr_aload_n d_c_measure_48 rfl rfl ?_
          refine mr_dup d_c_measure_49 rfl ?_
          refine mr_get K_c 7 d_c_measure_50 lk_f_c_52 (by decide) rfl rfl ?_
          refine mr_aload_n d_c_measure_53 rfl rfl ?_
          refine mr_get K_c 1 d_c_measure_54 lk_f_c_15 (by decide) rfl rfl ?_
          refine mr_iload_n d_c_measure_57 rfl rfl ?_
          refine mr_ialdK d_c_measure_58 rfl hc4 ?_
          refine mr_iadd d_c_measure_59 ?_
          refine mr_put (h2 := (HX x_members x_collaterals x_hasSent x_isSealed x_metered x_sealedCount bk_counts bk_needs bk_whens bk_sides bk_quantities bk_limits ag_toldLies ag_passedLies ag_words ag_vectors ag_liarOperator ag_rounds mk_entries mk_slots mk_remainders mk_blocks mk_blockBids mk_blockOffers mk_entryCount mk_blockCount cv_limits cv_bids cv_offers cv_count cv_allBids cv_allOffers cv_meetingPrice (va_up cv_sureBids 2 (c_sureBids + ((cv_bids 2) x3.toNatClampNeg))) (va_up cv_sureOffers 2 c_sureOffers) (va_up cv_priceBids 2 c_priceBids) (va_up cv_priceOffers 2 c_priceOffers) (va_up cv_volume 2 c_volume) (va_up cv_worth 2 c_worth) oc_prices oc_volumes oc_filled oc_worth oc_takenSet oc_isDone, hT)) K_c 7 d_c_measure_60 lk_f_c_52 (by decide) rfl rfl rfl (Nat.le_of_ble_eq_true rfl) rfl rfl ?_
          refine mr_aload_n d_c_measure_63 rfl rfl ?_
          refine mr_dup d_c_measure_64 rfl ?_
          refine mr_get K_c 12 d_c_measure_65 lk_f_c_64 (by decide) rfl rfl ?_
          refine mr_aload_n d_c_measure_68 rfl rfl ?_
          refine mr_get K_c 1 d_c_measure_69 lk_f_c_15 (by decide) rfl rfl ?_
          refine mr_iload_n d_c_measure_72 rfl rfl ?_
          refine mr_ialdK d_c_measure_73 rfl hc4 ?_
          refine mr_i2l d_c_measure_74 ?_
          refine mr_aload_n d_c_measure_75 rfl rfl ?_
          refine mr_get K_c 0 d_c_measure_76 lk_f_c_9 (by decide) rfl rfl ?_
          refine mr_iload_n d_c_measure_79 rfl rfl ?_
          refine mr_ialdK d_c_measure_80 rfl hc4 ?_
          refine mr_i2l d_c_measure_81 ?_
          refine mr_lmul d_c_measure_82 ?_
          refine mr_ladd d_c_measure_83 ?_
          refine mr_put (h2 := (HX x_members x_collaterals x_hasSent x_isSealed x_metered x_sealedCount bk_counts bk_needs bk_whens bk_sides bk_quantities bk_limits ag_toldLies ag_passedLies ag_words ag_vectors ag_liarOperator ag_rounds mk_entries mk_slots mk_remainders mk_blocks mk_blockBids mk_blockOffers mk_entryCount mk_blockCount cv_limits cv_bids cv_offers cv_count cv_allBids cv_allOffers cv_meetingPrice (va_up cv_sureBids 2 (c_sureBids + ((cv_bids 2) x3.toNatClampNeg))) (va_up cv_sureOffers 2 c_sureOffers) (va_up cv_priceBids 2 c_priceBids) (va_up cv_priceOffers 2 c_priceOffers) (va_up cv_volume 2 c_volume) (va_up cv_worth 2 (c_worth + ((Int32.toInt64 ((cv_bids 2) x3.toNatClampNeg)) * (Int32.toInt64 ((cv_limits 2) x3.toNatClampNeg))))) oc_prices oc_volumes oc_filled oc_worth oc_takenSet oc_isDone, hT)) K_c 12 d_c_measure_84 lk_f_c_64 (by decide) rfl rfl rfl (Nat.le_of_ble_eq_true rfl) rfl rfl ?_
          refine mr_goto (tgt := 165) d_c_measure_87 (by decide) ?_
          refine mr_iinc (v := (x3 + 1)) (lv' := [(3, .int (x3 + 1)), (0, .ref 27)]) d_c_measure_165 rfl rfl (by decide) rfl ?_
          refine mr_goto (tgt := 27) d_c_measure_168 (by decide) ?_
          refine mr_sub (lv' := [(0, .ref 27), (3, .int (x3 + 1))]) [1, 0] rfl ?_
          exact ih _ _ _ _ _ _ _
  refine mz_of (by decide) (Nat.le_of_ble_eq_true rfl) ?_
  rw [f_c_measure]
  show mz_A g M_c_measure (mz_rm 1) _ 0 [(0, .ref 27), (1, .int x1), (2, .int x2)] [] ex (HX x_members x_collaterals x_hasSent x_isSealed x_metered x_sealedCount bk_counts bk_needs bk_whens bk_sides bk_quantities bk_limits ag_toldLies ag_passedLies ag_words ag_vectors ag_liarOperator ag_rounds mk_entries mk_slots mk_remainders mk_blocks mk_blockBids mk_blockOffers mk_entryCount mk_blockCount cv_limits cv_bids cv_offers cv_count cv_allBids cv_allOffers cv_meetingPrice cv_sureBids cv_sureOffers cv_priceBids cv_priceOffers cv_volume cv_worth oc_prices oc_volumes oc_filled oc_worth oc_takenSet oc_isDone, hT) 0 0 _
  refine mr_aload_n d_c_measure_0 rfl rfl ?_
  refine mr_iload_n d_c_measure_1 rfl rfl ?_
  refine mr_put (h2 := (HX x_members x_collaterals x_hasSent x_isSealed x_metered x_sealedCount bk_counts bk_needs bk_whens bk_sides bk_quantities bk_limits ag_toldLies ag_passedLies ag_words ag_vectors ag_liarOperator ag_rounds mk_entries mk_slots mk_remainders mk_blocks mk_blockBids mk_blockOffers mk_entryCount mk_blockCount cv_limits cv_bids cv_offers cv_count cv_allBids cv_allOffers cv_meetingPrice (va_up cv_sureBids 2 x1) cv_sureOffers cv_priceBids cv_priceOffers cv_volume cv_worth oc_prices oc_volumes oc_filled oc_worth oc_takenSet oc_isDone, hT)) K_c 7 d_c_measure_2 lk_f_c_52 (by decide) rfl rfl rfl (Nat.le_of_ble_eq_true rfl) rfl rfl ?_
  refine mr_aload_n d_c_measure_5 rfl rfl ?_
  refine mr_iload_n d_c_measure_6 rfl rfl ?_
  refine mr_put (h2 := (HX x_members x_collaterals x_hasSent x_isSealed x_metered x_sealedCount bk_counts bk_needs bk_whens bk_sides bk_quantities bk_limits ag_toldLies ag_passedLies ag_words ag_vectors ag_liarOperator ag_rounds mk_entries mk_slots mk_remainders mk_blocks mk_blockBids mk_blockOffers mk_entryCount mk_blockCount cv_limits cv_bids cv_offers cv_count cv_allBids cv_allOffers cv_meetingPrice (va_up cv_sureBids 2 x1) (va_up cv_sureOffers 2 x2) cv_priceBids cv_priceOffers cv_volume cv_worth oc_prices oc_volumes oc_filled oc_worth oc_takenSet oc_isDone, hT)) K_c 8 d_c_measure_7 lk_f_c_55 (by decide) rfl rfl rfl (Nat.le_of_ble_eq_true rfl) rfl rfl ?_
  refine mr_aload_n d_c_measure_10 rfl rfl ?_
  refine mr_iconst (v := 0) d_c_measure_11 mc_iconst_0 ?_
  refine mr_put (h2 := (HX x_members x_collaterals x_hasSent x_isSealed x_metered x_sealedCount bk_counts bk_needs bk_whens bk_sides bk_quantities bk_limits ag_toldLies ag_passedLies ag_words ag_vectors ag_liarOperator ag_rounds mk_entries mk_slots mk_remainders mk_blocks mk_blockBids mk_blockOffers mk_entryCount mk_blockCount cv_limits cv_bids cv_offers cv_count cv_allBids cv_allOffers cv_meetingPrice (va_up cv_sureBids 2 x1) (va_up cv_sureOffers 2 x2) (va_up cv_priceBids 2 0) cv_priceOffers cv_volume cv_worth oc_prices oc_volumes oc_filled oc_worth oc_takenSet oc_isDone, hT)) K_c 9 d_c_measure_12 lk_f_c_58 (by decide) rfl rfl rfl (Nat.le_of_ble_eq_true rfl) rfl rfl ?_
  refine mr_aload_n d_c_measure_15 rfl rfl ?_
  refine mr_iconst (v := 0) d_c_measure_16 mc_iconst_0 ?_
  refine mr_put (h2 := (HX x_members x_collaterals x_hasSent x_isSealed x_metered x_sealedCount bk_counts bk_needs bk_whens bk_sides bk_quantities bk_limits ag_toldLies ag_passedLies ag_words ag_vectors ag_liarOperator ag_rounds mk_entries mk_slots mk_remainders mk_blocks mk_blockBids mk_blockOffers mk_entryCount mk_blockCount cv_limits cv_bids cv_offers cv_count cv_allBids cv_allOffers cv_meetingPrice (va_up cv_sureBids 2 x1) (va_up cv_sureOffers 2 x2) (va_up cv_priceBids 2 0) (va_up cv_priceOffers 2 0) cv_volume cv_worth oc_prices oc_volumes oc_filled oc_worth oc_takenSet oc_isDone, hT)) K_c 10 d_c_measure_17 lk_f_c_61 (by decide) rfl rfl rfl (Nat.le_of_ble_eq_true rfl) rfl rfl ?_
  refine mr_aload_n d_c_measure_20 rfl rfl ?_
  refine mr_lconst (v := 0) d_c_measure_21 mc_lconst_0 ?_
  refine mr_put (h2 := (HX x_members x_collaterals x_hasSent x_isSealed x_metered x_sealedCount bk_counts bk_needs bk_whens bk_sides bk_quantities bk_limits ag_toldLies ag_passedLies ag_words ag_vectors ag_liarOperator ag_rounds mk_entries mk_slots mk_remainders mk_blocks mk_blockBids mk_blockOffers mk_entryCount mk_blockCount cv_limits cv_bids cv_offers cv_count cv_allBids cv_allOffers cv_meetingPrice (va_up cv_sureBids 2 x1) (va_up cv_sureOffers 2 x2) (va_up cv_priceBids 2 0) (va_up cv_priceOffers 2 0) cv_volume (va_up cv_worth 2 0) oc_prices oc_volumes oc_filled oc_worth oc_takenSet oc_isDone, hT)) K_c 12 d_c_measure_22 lk_f_c_64 (by decide) rfl rfl rfl (Nat.le_of_ble_eq_true rfl) rfl rfl ?_
  refine mr_iconst (v := 0) d_c_measure_25 mc_iconst_0 ?_
  refine mr_istore_n (lv' := [(3, .int 0), (0, .ref 27), (1, .int x1), (2, .int x2)]) d_c_measure_26 rfl (by decide) rfl ?_
  refine mr_sub (lv' := [(0, .ref 27), (3, .int 0)]) [1, 0] rfl ?_
  exact w_L27 1000 _ _ _ _ _ _ _
theorem e_c_measure {g : mz_G} {ex : Bool} {hT : List mz_E} {x_members : Int32} {x_collaterals : Nat → Int32} {x_hasSent : Nat → Int32} {x_isSealed : Nat → Int32} {x_metered : Nat → Int32} {x_sealedCount : Int32} {bk_counts : Nat → Int32} {bk_needs : Nat → Int64} {bk_whens : Nat → Int32} {bk_sides : Nat → Int32} {bk_quantities : Nat → Int32} {bk_limits : Nat → Int32} {ag_toldLies : Nat → Int32} {ag_passedLies : Nat → Int32} {ag_words : Nat → Int32} {ag_vectors : Nat → Int32} {ag_liarOperator : Int32} {ag_rounds : Int32} {mk_entries : Nat → Int32} {mk_slots : Nat → Int32} {mk_remainders : Nat → Int32} {mk_blocks : Nat → Int32} {mk_blockBids : Nat → Int32} {mk_blockOffers : Nat → Int32} {mk_entryCount : Int32} {mk_blockCount : Int32} {cv_limits : Nat → Nat → Int32} {cv_bids : Nat → Nat → Int32} {cv_offers : Nat → Nat → Int32} {cv_count : Nat → Int32} {cv_allBids : Nat → Int32} {cv_allOffers : Nat → Int32} {cv_meetingPrice : Nat → Int32} {cv_sureBids : Nat → Int32} {cv_sureOffers : Nat → Int32} {cv_priceBids : Nat → Int32} {cv_priceOffers : Nat → Int32} {cv_volume : Nat → Int32} {cv_worth : Nat → Int64} {oc_prices : Nat → Nat → Int32} {oc_volumes : Nat → Nat → Int32} {oc_filled : Nat → Nat → Int32} {oc_worth : Nat → Int64} {oc_takenSet : Nat → Int32} {oc_isDone : Nat → Int32} {x1 : Int32} {x2 : Int32} {j : Nat} (hj : j < 3) : mz_M g M_c_measure 1 [.ref (19 + 4 * j), .int x1, .int x2] ex (HX x_members x_collaterals x_hasSent x_isSealed x_metered x_sealedCount bk_counts bk_needs bk_whens bk_sides bk_quantities bk_limits ag_toldLies ag_passedLies ag_words ag_vectors ag_liarOperator ag_rounds mk_entries mk_slots mk_remainders mk_blocks mk_blockBids mk_blockOffers mk_entryCount mk_blockCount cv_limits cv_bids cv_offers cv_count cv_allBids cv_allOffers cv_meetingPrice cv_sureBids cv_sureOffers cv_priceBids cv_priceOffers cv_volume cv_worth oc_prices oc_volumes oc_filled oc_worth oc_takenSet oc_isDone, hT) (f_c_measure (cv_limits j) (cv_bids j) (cv_offers j) (cv_count j) (cv_meetingPrice j) (cv_sureBids j) (cv_sureOffers j) (cv_priceBids j) (cv_priceOffers j) (cv_volume j) (cv_worth j) x1 x2) (fun r => (0, none, ex, (HX x_members x_collaterals x_hasSent x_isSealed x_metered x_sealedCount bk_counts bk_needs bk_whens bk_sides bk_quantities bk_limits ag_toldLies ag_passedLies ag_words ag_vectors ag_liarOperator ag_rounds mk_entries mk_slots mk_remainders mk_blocks mk_blockBids mk_blockOffers mk_entryCount mk_blockCount cv_limits cv_bids cv_offers cv_count cv_allBids cv_allOffers cv_meetingPrice (va_up cv_sureBids j r.1) (va_up cv_sureOffers j r.2.1) (va_up cv_priceBids j r.2.2.1) (va_up cv_priceOffers j r.2.2.2.1) (va_up cv_volume j r.2.2.2.2.1) (va_up cv_worth j r.2.2.2.2.2) oc_prices oc_volumes oc_filled oc_worth oc_takenSet oc_isDone, hT), 0, 0)) := match j, hj with | 0, _ => e_c_measure_0 | 1, _ => e_c_measure_1 | 2, _ => e_c_measure_2 | j + 3, h => absurd h (by omega)
set_option maxRecDepth 100000 in
set_option maxHeartbeats 4000000 in
theorem e_mk_worthOfSet {g : mz_G} {ex : Bool} {hT : List mz_E} {x_members : Int32} {x_collaterals : Nat → Int32} {x_hasSent : Nat → Int32} {x_isSealed : Nat → Int32} {x_metered : Nat → Int32} {x_sealedCount : Int32} {bk_counts : Nat → Int32} {bk_needs : Nat → Int64} {bk_whens : Nat → Int32} {bk_sides : Nat → Int32} {bk_quantities : Nat → Int32} {bk_limits : Nat → Int32} {ag_toldLies : Nat → Int32} {ag_passedLies : Nat → Int32} {ag_words : Nat → Int32} {ag_vectors : Nat → Int32} {ag_liarOperator : Int32} {ag_rounds : Int32} {mk_entries : Nat → Int32} {mk_slots : Nat → Int32} {mk_remainders : Nat → Int32} {mk_blocks : Nat → Int32} {mk_blockBids : Nat → Int32} {mk_blockOffers : Nat → Int32} {mk_entryCount : Int32} {mk_blockCount : Int32} {cv_limits : Nat → Nat → Int32} {cv_bids : Nat → Nat → Int32} {cv_offers : Nat → Nat → Int32} {cv_count : Nat → Int32} {cv_allBids : Nat → Int32} {cv_allOffers : Nat → Int32} {cv_meetingPrice : Nat → Int32} {cv_sureBids : Nat → Int32} {cv_sureOffers : Nat → Int32} {cv_priceBids : Nat → Int32} {cv_priceOffers : Nat → Int32} {cv_volume : Nat → Int32} {cv_worth : Nat → Int64} {oc_prices : Nat → Nat → Int32} {oc_volumes : Nat → Nat → Int32} {oc_filled : Nat → Nat → Int32} {oc_worth : Nat → Int64} {oc_takenSet : Nat → Int32} {oc_isDone : Nat → Int32} {x1 : Int32} : mz_M g M_mk_worthOfSet 4 [.ref 17, .int x1] ex (HX x_members x_collaterals x_hasSent x_isSealed x_metered x_sealedCount bk_counts bk_needs bk_whens bk_sides bk_quantities bk_limits ag_toldLies ag_passedLies ag_words ag_vectors ag_liarOperator ag_rounds mk_entries mk_slots mk_remainders mk_blocks mk_blockBids mk_blockOffers mk_entryCount mk_blockCount cv_limits cv_bids cv_offers cv_count cv_allBids cv_allOffers cv_meetingPrice cv_sureBids cv_sureOffers cv_priceBids cv_priceOffers cv_volume cv_worth oc_prices oc_volumes oc_filled oc_worth oc_takenSet oc_isDone, hT) (f_mk_worthOfSet bk_whens bk_sides bk_quantities bk_limits mk_blocks mk_blockBids mk_blockOffers mk_blockCount cv_limits cv_bids cv_offers cv_count cv_meetingPrice cv_sureBids cv_sureOffers cv_priceBids cv_priceOffers cv_volume cv_worth x1) (fun r => (0, some (.long r.1), ex, (HX x_members x_collaterals x_hasSent x_isSealed x_metered x_sealedCount bk_counts bk_needs bk_whens bk_sides bk_quantities bk_limits ag_toldLies ag_passedLies ag_words ag_vectors ag_liarOperator ag_rounds mk_entries mk_slots mk_remainders mk_blocks mk_blockBids mk_blockOffers mk_entryCount mk_blockCount cv_limits cv_bids cv_offers cv_count cv_allBids cv_allOffers cv_meetingPrice r.2.1 r.2.2.1 r.2.2.2.1 r.2.2.2.2.1 r.2.2.2.2.2.1 r.2.2.2.2.2.2 oc_prices oc_volumes oc_filled oc_worth oc_takenSet oc_isDone, hT), 0, 0)) := by
  have w_L57 : ∀ (n : Nat) (cv_sureBids : Nat → Int32) (cv_sureOffers : Nat → Int32) (cv_priceBids : Nat → Int32) (cv_priceOffers : Nat → Int32) (cv_volume : Nat → Int32) (cv_worth : Nat → Int64) (x2 : Int64) (x4 : Int32), mz_A g M_mk_worthOfSet (mz_rm 4) (fun r => (0, some (.long r.1), ex, (HX x_members x_collaterals x_hasSent x_isSealed x_metered x_sealedCount bk_counts bk_needs bk_whens bk_sides bk_quantities bk_limits ag_toldLies ag_passedLies ag_words ag_vectors ag_liarOperator ag_rounds mk_entries mk_slots mk_remainders mk_blocks mk_blockBids mk_blockOffers mk_entryCount mk_blockCount cv_limits cv_bids cv_offers cv_count cv_allBids cv_allOffers cv_meetingPrice r.2.1 r.2.2.1 r.2.2.2.1 r.2.2.2.2.1 r.2.2.2.2.2.1 r.2.2.2.2.2.2 oc_prices oc_volumes oc_filled oc_worth oc_takenSet oc_isDone, hT), 0, 0)) 57 [(0, .ref 17), (1, .int x1), (2, .long x2), (4, .int x4)] [] ex (HX x_members x_collaterals x_hasSent x_isSealed x_metered x_sealedCount bk_counts bk_needs bk_whens bk_sides bk_quantities bk_limits ag_toldLies ag_passedLies ag_words ag_vectors ag_liarOperator ag_rounds mk_entries mk_slots mk_remainders mk_blocks mk_blockBids mk_blockOffers mk_entryCount mk_blockCount cv_limits cv_bids cv_offers cv_count cv_allBids cv_allOffers cv_meetingPrice cv_sureBids cv_sureOffers cv_priceBids cv_priceOffers cv_volume cv_worth oc_prices oc_volumes oc_filled oc_worth oc_takenSet oc_isDone, hT) 0 0 (f_mk_worthOfSet_L57 bk_whens bk_sides bk_quantities bk_limits mk_blocks mk_blockBids mk_blockOffers mk_blockCount cv_limits cv_bids cv_offers cv_count cv_meetingPrice x1 n cv_sureBids cv_sureOffers cv_priceBids cv_priceOffers cv_volume cv_worth x2 x4) := by
    intro n
    induction n with
    | zero => intro cv_sureBids cv_sureOffers cv_priceBids cv_priceOffers cv_volume cv_worth x2 x4; exact mr_none
    | succ n ih =>
      intro cv_sureBids cv_sureOffers cv_priceBids cv_priceOffers cv_volume cv_worth x2 x4
      rw [f_mk_worthOfSet_L57]
      refine mr_iload d_mk_worthOfSet_57 rfl ?_
      refine mr_aload_n d_mk_worthOfSet_59 rfl rfl ?_
      refine mr_get K_mk 9 d_mk_worthOfSet_60 lk_f_mk_45 (by decide) rfl rfl ?_
      refine mr_icmp_ge (tgt := 98) d_mk_worthOfSet_63 (by decide) ?_ ?_
      · refine mr_lload_n d_mk_worthOfSet_98 rfl rfl ?_
        exact mr_lret d_mk_worthOfSet_99 rfl rfl
      · refine mr_iload_n d_mk_worthOfSet_66 rfl rfl ?_
        refine mr_iload d_mk_worthOfSet_67 rfl ?_
        refine mz_go (st := []) e_mk_isTaken (fun _ => rfl) U_mk_isTaken (mz_vS d_mk_worthOfSet_69 U_mk_isTaken lk_m_mk_133 S_mk_isTaken np_mk_isTaken) (Nat.le_of_ble_eq_true rfl) (by decide) (fun r3 => ?_)
        refine mr_eq (st' := [.int r3]) (ex' := ex) (h2 := (HX x_members x_collaterals x_hasSent x_isSealed x_metered x_sealedCount bk_counts bk_needs bk_whens bk_sides bk_quantities bk_limits ag_toldLies ag_passedLies ag_words ag_vectors ag_liarOperator ag_rounds mk_entries mk_slots mk_remainders mk_blocks mk_blockBids mk_blockOffers mk_entryCount mk_blockCount cv_limits cv_bids cv_offers cv_count cv_allBids cv_allOffers cv_meetingPrice cv_sureBids cv_sureOffers cv_priceBids cv_priceOffers cv_volume cv_worth oc_prices oc_volumes oc_filled oc_worth oc_takenSet oc_isDone, hT)) (k' := 0) (n' := 0) rfl rfl rfl rfl rfl ?_
        refine mr_if_eq (tgt := 92) d_mk_worthOfSet_72 (by decide) ?_ ?_
        · refine mr_iinc (v := (x4 + 1)) (lv' := [(4, .int (x4 + 1)), (0, .ref 17), (1, .int x1), (2, .long x2)]) d_mk_worthOfSet_92 rfl rfl (by decide) rfl ?_
          refine mr_goto (tgt := 57) d_mk_worthOfSet_95 (by decide) ?_
          refine mr_sub (lv' := [(0, .ref 17), (1, .int x1), (2, .long x2), (4, .int (x4 + 1))]) [1, 2, 3, 0] rfl ?_
          exact ih _ _ _ _ _ _ _ _
        · refine mr_lload_n d_mk_worthOfSet_75 rfl rfl ?_
          refine mr_aload_n d_mk_worthOfSet_76 rfl rfl ?_
          refine mr_get K_mk 0 d_mk_worthOfSet_77 lk_f_mk_9 (by decide) rfl rfl ?_
          refine mr_aload_n d_mk_worthOfSet_80 rfl rfl ?_
          refine mr_get K_mk 5 d_mk_worthOfSet_81 lk_f_mk_32 (by decide) rfl rfl ?_
          refine mr_iload d_mk_worthOfSet_84 rfl ?_
          refine mr_iald d_mk_worthOfSet_86 rfl (fun hc4 => ?_)
          refine mz_go (st := [.long x2]) e_bk_worthOf (fun _ => rfl) U_bk_worthOf (mz_vV d_mk_worthOfSet_87 U_bk_worthOf rfl lk_m_mk_161 I_bk_worthOf s_bk_worthOf np_bk_worthOf rfl rfl) (Nat.le_of_ble_eq_true rfl) (by decide) (fun r5 => ?_)
          refine mr_eq (st' := [.long r5, .long x2]) (ex' := ex) (h2 := (HX x_members x_collaterals x_hasSent x_isSealed x_metered x_sealedCount bk_counts bk_needs bk_whens bk_sides bk_quantities bk_limits ag_toldLies ag_passedLies ag_words ag_vectors ag_liarOperator ag_rounds mk_entries mk_slots mk_remainders mk_blocks mk_blockBids mk_blockOffers mk_entryCount mk_blockCount cv_limits cv_bids cv_offers cv_count cv_allBids cv_allOffers cv_meetingPrice cv_sureBids cv_sureOffers cv_priceBids cv_priceOffers cv_volume cv_worth oc_prices oc_volumes oc_filled oc_worth oc_takenSet oc_isDone, hT)) (k' := 0) (n' := 0) rfl rfl rfl rfl rfl ?_
          refine mr_ladd d_mk_worthOfSet_90 ?_
          refine mr_lstore_n (lv' := [(2, .long (x2 + r5)), (0, .ref 17), (1, .int x1), (4, .int x4)]) d_mk_worthOfSet_91 rfl (by decide) rfl ?_
          refine mr_iinc (v := (x4 + 1)) (lv' := [(4, .int (x4 + 1)), (2, .long (x2 + r5)), (0, .ref 17), (1, .int x1)]) d_mk_worthOfSet_92 rfl rfl (by decide) rfl ?_
          refine mr_goto (tgt := 57) d_mk_worthOfSet_95 (by decide) ?_
          refine mr_sub (lv' := [(0, .ref 17), (1, .int x1), (2, .long (x2 + r5)), (4, .int (x4 + 1))]) [2, 3, 1, 0] rfl ?_
          exact ih _ _ _ _ _ _ _ _
  have w_L5 : ∀ (n : Nat) (cv_sureBids : Nat → Int32) (cv_sureOffers : Nat → Int32) (cv_priceBids : Nat → Int32) (cv_priceOffers : Nat → Int32) (cv_volume : Nat → Int32) (cv_worth : Nat → Int64) (x2 : Int64) (x4 : Int32), mz_A g M_mk_worthOfSet (mz_rm 4) (fun r => (0, some (.long r.1), ex, (HX x_members x_collaterals x_hasSent x_isSealed x_metered x_sealedCount bk_counts bk_needs bk_whens bk_sides bk_quantities bk_limits ag_toldLies ag_passedLies ag_words ag_vectors ag_liarOperator ag_rounds mk_entries mk_slots mk_remainders mk_blocks mk_blockBids mk_blockOffers mk_entryCount mk_blockCount cv_limits cv_bids cv_offers cv_count cv_allBids cv_allOffers cv_meetingPrice r.2.1 r.2.2.1 r.2.2.2.1 r.2.2.2.2.1 r.2.2.2.2.2.1 r.2.2.2.2.2.2 oc_prices oc_volumes oc_filled oc_worth oc_takenSet oc_isDone, hT), 0, 0)) 5 [(0, .ref 17), (1, .int x1), (2, .long x2), (4, .int x4)] [] ex (HX x_members x_collaterals x_hasSent x_isSealed x_metered x_sealedCount bk_counts bk_needs bk_whens bk_sides bk_quantities bk_limits ag_toldLies ag_passedLies ag_words ag_vectors ag_liarOperator ag_rounds mk_entries mk_slots mk_remainders mk_blocks mk_blockBids mk_blockOffers mk_entryCount mk_blockCount cv_limits cv_bids cv_offers cv_count cv_allBids cv_allOffers cv_meetingPrice cv_sureBids cv_sureOffers cv_priceBids cv_priceOffers cv_volume cv_worth oc_prices oc_volumes oc_filled oc_worth oc_takenSet oc_isDone, hT) 0 0 (f_mk_worthOfSet_L5 bk_whens bk_sides bk_quantities bk_limits mk_blocks mk_blockBids mk_blockOffers mk_blockCount cv_limits cv_bids cv_offers cv_count cv_meetingPrice x1 n cv_sureBids cv_sureOffers cv_priceBids cv_priceOffers cv_volume cv_worth x2 x4) := by
    intro n
    induction n with
    | zero => intro cv_sureBids cv_sureOffers cv_priceBids cv_priceOffers cv_volume cv_worth x2 x4; exact mr_none
    | succ n ih =>
      intro cv_sureBids cv_sureOffers cv_priceBids cv_priceOffers cv_volume cv_worth x2 x4
      rw [f_mk_worthOfSet_L5]
      refine mr_iload d_mk_worthOfSet_5 rfl ?_
      refine mr_iconst (v := 3) d_mk_worthOfSet_7 mc_iconst_3 ?_
      refine mr_icmp_ge (tgt := 54) d_mk_worthOfSet_8 (by decide) ?_ ?_
      · refine mr_iconst (v := 0) d_mk_worthOfSet_54 mc_iconst_0 ?_
        refine mr_istore (lv' := [(4, .int 0), (0, .ref 17), (1, .int x1), (2, .long x2)]) d_mk_worthOfSet_55 (by decide) rfl ?_
        refine mr_sub (lv' := [(0, .ref 17), (1, .int x1), (2, .long x2), (4, .int 0)]) [1, 2, 3, 0] rfl ?_
        exact w_L57 1000 _ _ _ _ _ _ _ _
      · refine mr_aload_n d_mk_worthOfSet_11 rfl rfl ?_
        refine mr_get K_mk 1 d_mk_worthOfSet_12 lk_f_mk_17 (by decide) rfl rfl ?_
        refine mr_iload d_mk_worthOfSet_15 rfl ?_
        refine mr_aald d_mk_worthOfSet_17 (fun _ => rfl) rfl (fun _ => rfl) (fun hc1 => ?_)
        refine mr_aload_n d_mk_worthOfSet_18 rfl rfl ?_
        refine mr_get K_mk 6 d_mk_worthOfSet_19 lk_f_mk_35 (by decide) rfl rfl ?_
        refine mr_iload d_mk_worthOfSet_22 rfl ?_
        refine mr_ialdK d_mk_worthOfSet_24 rfl hc1 ?_
        refine mr_aload_n d_mk_worthOfSet_25 rfl rfl ?_
        refine mr_get K_mk 7 d_mk_worthOfSet_26 lk_f_mk_38 (by decide) rfl rfl ?_
        refine mr_iload d_mk_worthOfSet_29 rfl ?_
        refine mr_ialdK d_mk_worthOfSet_31 rfl hc1 ?_
        refine mz_go (st := []) (e_c_measure (mz_lt hc1)) (fun _ => rfl) U_c_measure (mz_vV d_mk_worthOfSet_32 U_c_measure rfl lk_m_mk_157 I_c_measure s_c_measure np_c_measure (gt_c (mz_lt hc1)) rfl) (Nat.le_of_ble_eq_true rfl) (by decide) (fun r2 => ?_)
        refine mr_eq (st' := []) (ex' := ex) (h2 := (HX x_members x_collaterals x_hasSent x_isSealed x_metered x_sealedCount bk_counts bk_needs bk_whens bk_sides bk_quantities bk_limits ag_toldLies ag_passedLies ag_words ag_vectors ag_liarOperator ag_rounds mk_entries mk_slots mk_remainders mk_blocks mk_blockBids mk_blockOffers mk_entryCount mk_blockCount cv_limits cv_bids cv_offers cv_count cv_allBids cv_allOffers cv_meetingPrice (va_up cv_sureBids x4.toNatClampNeg r2.1) (va_up cv_sureOffers x4.toNatClampNeg r2.2.1) (va_up cv_priceBids x4.toNatClampNeg r2.2.2.1) (va_up cv_priceOffers x4.toNatClampNeg r2.2.2.2.1) (va_up cv_volume x4.toNatClampNeg r2.2.2.2.2.1) (va_up cv_worth x4.toNatClampNeg r2.2.2.2.2.2) oc_prices oc_volumes oc_filled oc_worth oc_takenSet oc_isDone, hT)) (k' := 0) (n' := 0) rfl rfl rfl rfl rfl ?_
        refine mr_lload_n d_mk_worthOfSet_35 rfl rfl ?_
        refine mr_aload_n d_mk_worthOfSet_36 rfl rfl ?_
        refine mr_get K_mk 1 d_mk_worthOfSet_37 lk_f_mk_17 (by decide) rfl rfl ?_
        refine mr_iload d_mk_worthOfSet_40 rfl ?_
        refine mr_aaldK d_mk_worthOfSet_42 (fun _ => rfl) rfl hc1 rfl ?_
        refine mr_getN K_c 12 d_mk_worthOfSet_43 lk_f_mk_160 (by decide) (gt_c (mz_lt hc1)) rfl ?_
        refine mr_ladd d_mk_worthOfSet_46 ?_
        refine mr_lstore_n (lv' := [(2, .long (x2 + ((va_up cv_worth x4.toNatClampNeg r2.2.2.2.2.2) x4.toNatClampNeg))), (0, .ref 17), (1, .int x1), (4, .int x4)]) d_mk_worthOfSet_47 rfl (by decide) rfl ?_
        refine mr_iinc (v := (x4 + 1)) (lv' := [(4, .int (x4 + 1)), (2, .long (x2 + ((va_up cv_worth x4.toNatClampNeg r2.2.2.2.2.2) x4.toNatClampNeg))), (0, .ref 17), (1, .int x1)]) d_mk_worthOfSet_48 rfl rfl (by decide) rfl ?_
        refine mr_goto (tgt := 5) d_mk_worthOfSet_51 (by decide) ?_
        refine mr_sub (lv' := [(0, .ref 17), (1, .int x1), (2, .long (x2 + ((va_up cv_worth x4.toNatClampNeg r2.2.2.2.2.2) x4.toNatClampNeg))), (4, .int (x4 + 1))]) [2, 3, 1, 0] rfl ?_
        exact ih _ _ _ _ _ _ _ _
  refine mz_of (by decide) (Nat.le_of_ble_eq_true rfl) ?_
  rw [f_mk_worthOfSet]
  show mz_A g M_mk_worthOfSet (mz_rm 4) _ 0 [(0, .ref 17), (1, .int x1)] [] ex (HX x_members x_collaterals x_hasSent x_isSealed x_metered x_sealedCount bk_counts bk_needs bk_whens bk_sides bk_quantities bk_limits ag_toldLies ag_passedLies ag_words ag_vectors ag_liarOperator ag_rounds mk_entries mk_slots mk_remainders mk_blocks mk_blockBids mk_blockOffers mk_entryCount mk_blockCount cv_limits cv_bids cv_offers cv_count cv_allBids cv_allOffers cv_meetingPrice cv_sureBids cv_sureOffers cv_priceBids cv_priceOffers cv_volume cv_worth oc_prices oc_volumes oc_filled oc_worth oc_takenSet oc_isDone, hT) 0 0 _
  refine mr_lconst (v := 0) d_mk_worthOfSet_0 mc_lconst_0 ?_
  refine mr_lstore_n (lv' := [(2, .long 0), (0, .ref 17), (1, .int x1)]) d_mk_worthOfSet_1 rfl (by decide) rfl ?_
  refine mr_iconst (v := 0) d_mk_worthOfSet_2 mc_iconst_0 ?_
  refine mr_istore (lv' := [(4, .int 0), (2, .long 0), (0, .ref 17), (1, .int x1)]) d_mk_worthOfSet_3 (by decide) rfl ?_
  refine mr_sub (lv' := [(0, .ref 17), (1, .int x1), (2, .long 0), (4, .int 0)]) [2, 3, 1, 0] rfl ?_
  exact w_L5 1000 _ _ _ _ _ _ _ _
set_option maxRecDepth 100000 in
set_option maxHeartbeats 4000000 in
theorem e_mk_bestSet {g : mz_G} {ex : Bool} {hT : List mz_E} {x_members : Int32} {x_collaterals : Nat → Int32} {x_hasSent : Nat → Int32} {x_isSealed : Nat → Int32} {x_metered : Nat → Int32} {x_sealedCount : Int32} {bk_counts : Nat → Int32} {bk_needs : Nat → Int64} {bk_whens : Nat → Int32} {bk_sides : Nat → Int32} {bk_quantities : Nat → Int32} {bk_limits : Nat → Int32} {ag_toldLies : Nat → Int32} {ag_passedLies : Nat → Int32} {ag_words : Nat → Int32} {ag_vectors : Nat → Int32} {ag_liarOperator : Int32} {ag_rounds : Int32} {mk_entries : Nat → Int32} {mk_slots : Nat → Int32} {mk_remainders : Nat → Int32} {mk_blocks : Nat → Int32} {mk_blockBids : Nat → Int32} {mk_blockOffers : Nat → Int32} {mk_entryCount : Int32} {mk_blockCount : Int32} {cv_limits : Nat → Nat → Int32} {cv_bids : Nat → Nat → Int32} {cv_offers : Nat → Nat → Int32} {cv_count : Nat → Int32} {cv_allBids : Nat → Int32} {cv_allOffers : Nat → Int32} {cv_meetingPrice : Nat → Int32} {cv_sureBids : Nat → Int32} {cv_sureOffers : Nat → Int32} {cv_priceBids : Nat → Int32} {cv_priceOffers : Nat → Int32} {cv_volume : Nat → Int32} {cv_worth : Nat → Int64} {oc_prices : Nat → Nat → Int32} {oc_volumes : Nat → Nat → Int32} {oc_filled : Nat → Nat → Int32} {oc_worth : Nat → Int64} {oc_takenSet : Nat → Int32} {oc_isDone : Nat → Int32} : mz_M g M_mk_bestSet 5 [.ref 17] ex (HX x_members x_collaterals x_hasSent x_isSealed x_metered x_sealedCount bk_counts bk_needs bk_whens bk_sides bk_quantities bk_limits ag_toldLies ag_passedLies ag_words ag_vectors ag_liarOperator ag_rounds mk_entries mk_slots mk_remainders mk_blocks mk_blockBids mk_blockOffers mk_entryCount mk_blockCount cv_limits cv_bids cv_offers cv_count cv_allBids cv_allOffers cv_meetingPrice cv_sureBids cv_sureOffers cv_priceBids cv_priceOffers cv_volume cv_worth oc_prices oc_volumes oc_filled oc_worth oc_takenSet oc_isDone, hT) (f_mk_bestSet bk_whens bk_sides bk_quantities bk_limits mk_blocks mk_blockBids mk_blockOffers mk_blockCount cv_limits cv_bids cv_offers cv_count cv_allBids cv_allOffers cv_meetingPrice cv_sureBids cv_sureOffers cv_priceBids cv_priceOffers cv_volume cv_worth) (fun r => (0, some (.int r.1), ex, (HX x_members x_collaterals x_hasSent x_isSealed x_metered x_sealedCount bk_counts bk_needs bk_whens bk_sides bk_quantities bk_limits ag_toldLies ag_passedLies ag_words ag_vectors ag_liarOperator ag_rounds mk_entries mk_slots mk_remainders mk_blocks r.2.1 r.2.2.1 mk_entryCount mk_blockCount cv_limits cv_bids cv_offers cv_count cv_allBids cv_allOffers r.2.2.2.1 r.2.2.2.2.1 r.2.2.2.2.2.1 r.2.2.2.2.2.2.1 r.2.2.2.2.2.2.2.1 r.2.2.2.2.2.2.2.2.1 r.2.2.2.2.2.2.2.2.2 oc_prices oc_volumes oc_filled oc_worth oc_takenSet oc_isDone, hT), 0, 0)) := by
  have w_L17 : ∀ (n : Nat) (mk_blockBids : Nat → Int32) (mk_blockOffers : Nat → Int32) (cv_meetingPrice : Nat → Int32) (cv_sureBids : Nat → Int32) (cv_sureOffers : Nat → Int32) (cv_priceBids : Nat → Int32) (cv_priceOffers : Nat → Int32) (cv_volume : Nat → Int32) (cv_worth : Nat → Int64) (x1 : Int32) (x2 : Int64) (x4 : Int32), mz_A g M_mk_bestSet (mz_rm 5) (fun r => (0, some (.int r.1), ex, (HX x_members x_collaterals x_hasSent x_isSealed x_metered x_sealedCount bk_counts bk_needs bk_whens bk_sides bk_quantities bk_limits ag_toldLies ag_passedLies ag_words ag_vectors ag_liarOperator ag_rounds mk_entries mk_slots mk_remainders mk_blocks r.2.1 r.2.2.1 mk_entryCount mk_blockCount cv_limits cv_bids cv_offers cv_count cv_allBids cv_allOffers r.2.2.2.1 r.2.2.2.2.1 r.2.2.2.2.2.1 r.2.2.2.2.2.2.1 r.2.2.2.2.2.2.2.1 r.2.2.2.2.2.2.2.2.1 r.2.2.2.2.2.2.2.2.2 oc_prices oc_volumes oc_filled oc_worth oc_takenSet oc_isDone, hT), 0, 0)) 17 [(0, .ref 17), (1, .int x1), (2, .long x2), (4, .int x4)] [] ex (HX x_members x_collaterals x_hasSent x_isSealed x_metered x_sealedCount bk_counts bk_needs bk_whens bk_sides bk_quantities bk_limits ag_toldLies ag_passedLies ag_words ag_vectors ag_liarOperator ag_rounds mk_entries mk_slots mk_remainders mk_blocks mk_blockBids mk_blockOffers mk_entryCount mk_blockCount cv_limits cv_bids cv_offers cv_count cv_allBids cv_allOffers cv_meetingPrice cv_sureBids cv_sureOffers cv_priceBids cv_priceOffers cv_volume cv_worth oc_prices oc_volumes oc_filled oc_worth oc_takenSet oc_isDone, hT) 0 0 (f_mk_bestSet_L17 bk_whens bk_sides bk_quantities bk_limits mk_blocks mk_blockCount cv_limits cv_bids cv_offers cv_count cv_allBids cv_allOffers n mk_blockBids mk_blockOffers cv_meetingPrice cv_sureBids cv_sureOffers cv_priceBids cv_priceOffers cv_volume cv_worth x1 x2 x4) := by
    intro n
    induction n with
    | zero => intro mk_blockBids mk_blockOffers cv_meetingPrice cv_sureBids cv_sureOffers cv_priceBids cv_priceOffers cv_volume cv_worth x1 x2 x4; exact mr_none
    | succ n ih =>
      intro mk_blockBids mk_blockOffers cv_meetingPrice cv_sureBids cv_sureOffers cv_priceBids cv_priceOffers cv_volume cv_worth x1 x2 x4
      rw [f_mk_bestSet_L17]
      refine mr_iload d_mk_bestSet_17 rfl ?_
      refine mr_iconst (v := 1) d_mk_bestSet_19 mc_iconst_1 ?_
      refine mr_aload_n d_mk_bestSet_20 rfl rfl ?_
      refine mr_get K_mk 9 d_mk_bestSet_21 lk_f_mk_45 (by decide) rfl rfl ?_
      refine mr_ishl d_mk_bestSet_24 ?_
      refine mr_icmp_ge (tgt := 64) d_mk_bestSet_25 (by decide) ?_ ?_
      · refine mr_iload_n d_mk_bestSet_64 rfl rfl ?_
        exact mr_iret d_mk_bestSet_65 rfl rfl
      · refine mr_aload_n d_mk_bestSet_28 rfl rfl ?_
        refine mr_iload d_mk_bestSet_29 rfl ?_
        refine mz_go (st := []) e_mk_isFit (fun _ => rfl) U_mk_isFit (mz_vV d_mk_bestSet_31 U_mk_isFit rfl lk_m_mk_130 I_mk_isFit s_mk_isFit np_mk_isFit rfl rfl) (Nat.le_of_ble_eq_true rfl) (by decide) (fun r3 => ?_)
        refine mr_eq (st' := [.int r3.1]) (ex' := ex) (h2 := (HX x_members x_collaterals x_hasSent x_isSealed x_metered x_sealedCount bk_counts bk_needs bk_whens bk_sides bk_quantities bk_limits ag_toldLies ag_passedLies ag_words ag_vectors ag_liarOperator ag_rounds mk_entries mk_slots mk_remainders mk_blocks r3.2.1 r3.2.2.1 mk_entryCount mk_blockCount cv_limits cv_bids cv_offers cv_count cv_allBids cv_allOffers r3.2.2.2 cv_sureBids cv_sureOffers cv_priceBids cv_priceOffers cv_volume cv_worth oc_prices oc_volumes oc_filled oc_worth oc_takenSet oc_isDone, hT)) (k' := 0) (n' := 0) rfl rfl rfl rfl rfl ?_
        refine mr_if_eq (tgt := 58) d_mk_bestSet_34 (by decide) ?_ ?_
        · refine mr_iinc (v := (x4 + 1)) (lv' := [(4, .int (x4 + 1)), (0, .ref 17), (1, .int x1), (2, .long x2)]) d_mk_bestSet_58 rfl rfl (by decide) rfl ?_
          refine mr_goto (tgt := 17) d_mk_bestSet_61 (by decide) ?_
          refine mr_sub (lv' := [(0, .ref 17), (1, .int x1), (2, .long x2), (4, .int (x4 + 1))]) [1, 2, 3, 0] rfl ?_
          exact ih _ _ _ _ _ _ _ _ _ _ _ _
        · refine mr_aload_n d_mk_bestSet_37 rfl rfl ?_
          refine mr_iload d_mk_bestSet_38 rfl ?_
          refine mz_go (st := []) e_mk_worthOfSet (fun _ => rfl) U_mk_worthOfSet (mz_vV d_mk_bestSet_40 U_mk_worthOfSet rfl lk_m_mk_93 I_mk_worthOfSet s_mk_worthOfSet np_mk_worthOfSet rfl rfl) (Nat.le_of_ble_eq_true rfl) (by decide) (fun r4 => ?_)
          refine mr_eq (st' := [.long r4.1]) (ex' := ex) (h2 := (HX x_members x_collaterals x_hasSent x_isSealed x_metered x_sealedCount bk_counts bk_needs bk_whens bk_sides bk_quantities bk_limits ag_toldLies ag_passedLies ag_words ag_vectors ag_liarOperator ag_rounds mk_entries mk_slots mk_remainders mk_blocks r3.2.1 r3.2.2.1 mk_entryCount mk_blockCount cv_limits cv_bids cv_offers cv_count cv_allBids cv_allOffers r3.2.2.2 r4.2.1 r4.2.2.1 r4.2.2.2.1 r4.2.2.2.2.1 r4.2.2.2.2.2.1 r4.2.2.2.2.2.2 oc_prices oc_volumes oc_filled oc_worth oc_takenSet oc_isDone, hT)) (k' := 0) (n' := 0) rfl rfl rfl rfl rfl ?_
          refine mr_lstore (lv' := [(5, .long r4.1), (0, .ref 17), (1, .int x1), (2, .long x2), (4, .int x4)]) d_mk_bestSet_43 (by decide) rfl ?_
          refine mr_lload d_mk_bestSet_45 rfl ?_
          refine mr_lload_n d_mk_bestSet_47 rfl rfl ?_
          refine mr_lcmp d_mk_bestSet_48 ?_
          refine mr_if_le (tgt := 58) d_mk_bestSet_49 (by decide) ?_ ?_
          · refine mr_iinc (v := (x4 + 1)) (lv' := [(4, .int (x4 + 1)), (5, .long r4.1), (0, .ref 17), (1, .int x1), (2, .long x2)]) d_mk_bestSet_58 rfl rfl (by decide) rfl ?_
            refine mr_goto (tgt := 17) d_mk_bestSet_61 (by decide) ?_
            refine mr_sub (lv' := [(0, .ref 17), (1, .int x1), (2, .long x2), (4, .int (x4 + 1))]) [2, 3, 4, 0] rfl ?_
            exact ih _ _ _ _ _ _ _ _ _ _ _ _
          · refine mr_lload d_mk_bestSet_52 rfl ?_
            refine mr_lstore_n (lv' := [(2, .long r4.1), (5, .long r4.1), (0, .ref 17), (1, .int x1), (4, .int x4)]) d_mk_bestSet_54 rfl (by decide) rfl ?_
            refine mr_iload d_mk_bestSet_55 rfl ?_
            refine mr_istore_n (lv' := [(1, .int x4), (2, .long r4.1), (5, .long r4.1), (0, .ref 17), (4, .int x4)]) d_mk_bestSet_57 rfl (by decide) rfl ?_
            refine mr_iinc (v := (x4 + 1)) (lv' := [(4, .int (x4 + 1)), (1, .int x4), (2, .long r4.1), (5, .long r4.1), (0, .ref 17)]) d_mk_bestSet_58 rfl rfl (by decide) rfl ?_
            refine mr_goto (tgt := 17) d_mk_bestSet_61 (by decide) ?_
            refine mr_sub (lv' := [(0, .ref 17), (1, .int x4), (2, .long r4.1), (4, .int (x4 + 1))]) [4, 1, 2, 0] rfl ?_
            exact ih _ _ _ _ _ _ _ _ _ _ _ _
  refine mz_of (by decide) (Nat.le_of_ble_eq_true rfl) ?_
  rw [f_mk_bestSet]
  show mz_A g M_mk_bestSet (mz_rm 5) _ 0 [(0, .ref 17)] [] ex (HX x_members x_collaterals x_hasSent x_isSealed x_metered x_sealedCount bk_counts bk_needs bk_whens bk_sides bk_quantities bk_limits ag_toldLies ag_passedLies ag_words ag_vectors ag_liarOperator ag_rounds mk_entries mk_slots mk_remainders mk_blocks mk_blockBids mk_blockOffers mk_entryCount mk_blockCount cv_limits cv_bids cv_offers cv_count cv_allBids cv_allOffers cv_meetingPrice cv_sureBids cv_sureOffers cv_priceBids cv_priceOffers cv_volume cv_worth oc_prices oc_volumes oc_filled oc_worth oc_takenSet oc_isDone, hT) 0 0 _
  refine mr_iconst (v := 0) d_mk_bestSet_0 mc_iconst_0 ?_
  refine mr_istore_n (lv' := [(1, .int 0), (0, .ref 17)]) d_mk_bestSet_1 rfl (by decide) rfl ?_
  refine mr_aload_n d_mk_bestSet_2 rfl rfl ?_
  refine mr_iload_n d_mk_bestSet_3 rfl rfl ?_
  refine mz_go (st := []) e_mk_findPrices (fun _ => rfl) U_mk_findPrices (mz_vV d_mk_bestSet_4 U_mk_findPrices rfl lk_m_mk_90 I_mk_findPrices s_mk_findPrices np_mk_findPrices rfl rfl) (Nat.le_of_ble_eq_true rfl) (by decide) (fun r1 => ?_)
  refine mr_eq (st' := [.int r1.1]) (ex' := ex) (h2 := (HX x_members x_collaterals x_hasSent x_isSealed x_metered x_sealedCount bk_counts bk_needs bk_whens bk_sides bk_quantities bk_limits ag_toldLies ag_passedLies ag_words ag_vectors ag_liarOperator ag_rounds mk_entries mk_slots mk_remainders mk_blocks r1.2.1 r1.2.2.1 mk_entryCount mk_blockCount cv_limits cv_bids cv_offers cv_count cv_allBids cv_allOffers r1.2.2.2 cv_sureBids cv_sureOffers cv_priceBids cv_priceOffers cv_volume cv_worth oc_prices oc_volumes oc_filled oc_worth oc_takenSet oc_isDone, hT)) (k' := 0) (n' := 0) rfl rfl rfl rfl rfl ?_
  refine mr_pop d_mk_bestSet_7 rfl ?_
  refine mr_aload_n d_mk_bestSet_8 rfl rfl ?_
  refine mr_iload_n d_mk_bestSet_9 rfl rfl ?_
  refine mz_go (st := []) e_mk_worthOfSet (fun _ => rfl) U_mk_worthOfSet (mz_vV d_mk_bestSet_10 U_mk_worthOfSet rfl lk_m_mk_93 I_mk_worthOfSet s_mk_worthOfSet np_mk_worthOfSet rfl rfl) (Nat.le_of_ble_eq_true rfl) (by decide) (fun r2 => ?_)
  refine mr_eq (st' := [.long r2.1]) (ex' := ex) (h2 := (HX x_members x_collaterals x_hasSent x_isSealed x_metered x_sealedCount bk_counts bk_needs bk_whens bk_sides bk_quantities bk_limits ag_toldLies ag_passedLies ag_words ag_vectors ag_liarOperator ag_rounds mk_entries mk_slots mk_remainders mk_blocks r1.2.1 r1.2.2.1 mk_entryCount mk_blockCount cv_limits cv_bids cv_offers cv_count cv_allBids cv_allOffers r1.2.2.2 r2.2.1 r2.2.2.1 r2.2.2.2.1 r2.2.2.2.2.1 r2.2.2.2.2.2.1 r2.2.2.2.2.2.2 oc_prices oc_volumes oc_filled oc_worth oc_takenSet oc_isDone, hT)) (k' := 0) (n' := 0) rfl rfl rfl rfl rfl ?_
  refine mr_lstore_n (lv' := [(2, .long r2.1), (1, .int 0), (0, .ref 17)]) d_mk_bestSet_13 rfl (by decide) rfl ?_
  refine mr_iconst (v := 1) d_mk_bestSet_14 mc_iconst_1 ?_
  refine mr_istore (lv' := [(4, .int 1), (2, .long r2.1), (1, .int 0), (0, .ref 17)]) d_mk_bestSet_15 (by decide) rfl ?_
  refine mr_sub (lv' := [(0, .ref 17), (1, .int 0), (2, .long r2.1), (4, .int 1)]) [3, 2, 1, 0] rfl ?_
  exact w_L17 1000 _ _ _ _ _ _ _ _ _ _ _ _
set_option maxRecDepth 100000 in
set_option maxHeartbeats 4000000 in
theorem e_mk_isSure {g : mz_G} {ex : Bool} {hT : List mz_E} {x_members : Int32} {x_collaterals : Nat → Int32} {x_hasSent : Nat → Int32} {x_isSealed : Nat → Int32} {x_metered : Nat → Int32} {x_sealedCount : Int32} {bk_counts : Nat → Int32} {bk_needs : Nat → Int64} {bk_whens : Nat → Int32} {bk_sides : Nat → Int32} {bk_quantities : Nat → Int32} {bk_limits : Nat → Int32} {ag_toldLies : Nat → Int32} {ag_passedLies : Nat → Int32} {ag_words : Nat → Int32} {ag_vectors : Nat → Int32} {ag_liarOperator : Int32} {ag_rounds : Int32} {mk_entries : Nat → Int32} {mk_slots : Nat → Int32} {mk_remainders : Nat → Int32} {mk_blocks : Nat → Int32} {mk_blockBids : Nat → Int32} {mk_blockOffers : Nat → Int32} {mk_entryCount : Int32} {mk_blockCount : Int32} {cv_limits : Nat → Nat → Int32} {cv_bids : Nat → Nat → Int32} {cv_offers : Nat → Nat → Int32} {cv_count : Nat → Int32} {cv_allBids : Nat → Int32} {cv_allOffers : Nat → Int32} {cv_meetingPrice : Nat → Int32} {cv_sureBids : Nat → Int32} {cv_sureOffers : Nat → Int32} {cv_priceBids : Nat → Int32} {cv_priceOffers : Nat → Int32} {cv_volume : Nat → Int32} {cv_worth : Nat → Int64} {oc_prices : Nat → Nat → Int32} {oc_volumes : Nat → Nat → Int32} {oc_filled : Nat → Nat → Int32} {oc_worth : Nat → Int64} {oc_takenSet : Nat → Int32} {oc_isDone : Nat → Int32} {x1 : Int32} : mz_M g M_mk_isSure 0 [.ref 17, .int x1] ex (HX x_members x_collaterals x_hasSent x_isSealed x_metered x_sealedCount bk_counts bk_needs bk_whens bk_sides bk_quantities bk_limits ag_toldLies ag_passedLies ag_words ag_vectors ag_liarOperator ag_rounds mk_entries mk_slots mk_remainders mk_blocks mk_blockBids mk_blockOffers mk_entryCount mk_blockCount cv_limits cv_bids cv_offers cv_count cv_allBids cv_allOffers cv_meetingPrice cv_sureBids cv_sureOffers cv_priceBids cv_priceOffers cv_volume cv_worth oc_prices oc_volumes oc_filled oc_worth oc_takenSet oc_isDone, hT) (f_mk_isSure bk_whens bk_sides bk_limits cv_meetingPrice x1) (fun r => (0, some (.int r), ex, (HX x_members x_collaterals x_hasSent x_isSealed x_metered x_sealedCount bk_counts bk_needs bk_whens bk_sides bk_quantities bk_limits ag_toldLies ag_passedLies ag_words ag_vectors ag_liarOperator ag_rounds mk_entries mk_slots mk_remainders mk_blocks mk_blockBids mk_blockOffers mk_entryCount mk_blockCount cv_limits cv_bids cv_offers cv_count cv_allBids cv_allOffers cv_meetingPrice cv_sureBids cv_sureOffers cv_priceBids cv_priceOffers cv_volume cv_worth oc_prices oc_volumes oc_filled oc_worth oc_takenSet oc_isDone, hT), 0, 0)) := by
  refine mz_of (by decide) (Nat.le_of_ble_eq_true rfl) ?_
  rw [f_mk_isSure]
  show mz_A g M_mk_isSure (mz_rm 0) _ 0 [(0, .ref 17), (1, .int x1)] [] ex (HX x_members x_collaterals x_hasSent x_isSealed x_metered x_sealedCount bk_counts bk_needs bk_whens bk_sides bk_quantities bk_limits ag_toldLies ag_passedLies ag_words ag_vectors ag_liarOperator ag_rounds mk_entries mk_slots mk_remainders mk_blocks mk_blockBids mk_blockOffers mk_entryCount mk_blockCount cv_limits cv_bids cv_offers cv_count cv_allBids cv_allOffers cv_meetingPrice cv_sureBids cv_sureOffers cv_priceBids cv_priceOffers cv_volume cv_worth oc_prices oc_volumes oc_filled oc_worth oc_takenSet oc_isDone, hT) 0 0 _
  refine mr_aload_n d_mk_isSure_0 rfl rfl ?_
  refine mr_get K_mk 0 d_mk_isSure_1 lk_f_mk_9 (by decide) rfl rfl ?_
  refine mr_getN K_bk 5 d_mk_isSure_4 lk_f_mk_79 (by decide) rfl rfl ?_
  refine mr_iload_n d_mk_isSure_7 rfl rfl ?_
  refine mr_iald d_mk_isSure_8 rfl (fun hc1 => ?_)
  refine mr_aload_n d_mk_isSure_9 rfl rfl ?_
  refine mr_get K_mk 1 d_mk_isSure_10 lk_f_mk_17 (by decide) rfl rfl ?_
  refine mr_aload_n d_mk_isSure_13 rfl rfl ?_
  refine mr_get K_mk 0 d_mk_isSure_14 lk_f_mk_9 (by decide) rfl rfl ?_
  refine mr_getN K_bk 2 d_mk_isSure_17 lk_f_mk_70 (by decide) rfl rfl ?_
  refine mr_iload_n d_mk_isSure_20 rfl rfl ?_
  refine mr_ialdK d_mk_isSure_21 rfl hc1 ?_
  refine mr_aald d_mk_isSure_22 (fun _ => rfl) rfl (fun _ => rfl) (fun hc2 => ?_)
  refine mr_getN K_c 6 d_mk_isSure_23 lk_f_mk_109 (by decide) (gt_c (mz_lt hc2)) rfl ?_
  refine mr_isub d_mk_isSure_26 ?_
  refine mr_istore_n (lv' := [(2, .int ((bk_limits x1.toNatClampNeg) - (cv_meetingPrice ((bk_whens x1.toNatClampNeg).toNatClampNeg)))), (0, .ref 17), (1, .int x1)]) d_mk_isSure_27 rfl (by decide) rfl ?_
  refine mr_aload_n d_mk_isSure_28 rfl rfl ?_
  refine mr_get K_mk 0 d_mk_isSure_29 lk_f_mk_9 (by decide) rfl rfl ?_
  refine mr_getN K_bk 3 d_mk_isSure_32 lk_f_mk_73 (by decide) rfl rfl ?_
  refine mr_iload_n d_mk_isSure_35 rfl rfl ?_
  refine mr_ialdK d_mk_isSure_36 rfl hc1 ?_
  refine mr_if_ne (tgt := 52) d_mk_isSure_37 (by decide) ?_ ?_
  · refine mr_iload_n d_mk_isSure_52 rfl rfl ?_
    refine mr_if_ge (tgt := 60) d_mk_isSure_53 (by decide) ?_ ?_
    · refine mr_iconst (v := 0) d_mk_isSure_60 mc_iconst_0 ?_
      exact mr_zret d_mk_isSure_61 rfl rfl
    · refine mr_iconst (v := 1) d_mk_isSure_56 mc_iconst_1 ?_
      refine mr_goto (tgt := 61) d_mk_isSure_57 (by decide) ?_
      exact mr_zret d_mk_isSure_61 rfl rfl
  · refine mr_iload_n d_mk_isSure_40 rfl rfl ?_
    refine mr_if_le (tgt := 48) d_mk_isSure_41 (by decide) ?_ ?_
    · refine mr_iconst (v := 0) d_mk_isSure_48 mc_iconst_0 ?_
      refine mr_goto (tgt := 61) d_mk_isSure_49 (by decide) ?_
      exact mr_zret d_mk_isSure_61 rfl rfl
    · refine mr_iconst (v := 1) d_mk_isSure_44 mc_iconst_1 ?_
      refine mr_goto (tgt := 61) d_mk_isSure_45 (by decide) ?_
      exact mr_zret d_mk_isSure_61 rfl rfl
set_option maxRecDepth 100000 in
set_option maxHeartbeats 4000000 in
theorem e_mk_giveWhole_0 {g : mz_G} {ex : Bool} {hT : List mz_E} {x_members : Int32} {x_collaterals : Nat → Int32} {x_hasSent : Nat → Int32} {x_isSealed : Nat → Int32} {x_metered : Nat → Int32} {x_sealedCount : Int32} {bk_counts : Nat → Int32} {bk_needs : Nat → Int64} {bk_whens : Nat → Int32} {bk_sides : Nat → Int32} {bk_quantities : Nat → Int32} {bk_limits : Nat → Int32} {ag_toldLies : Nat → Int32} {ag_passedLies : Nat → Int32} {ag_words : Nat → Int32} {ag_vectors : Nat → Int32} {ag_liarOperator : Int32} {ag_rounds : Int32} {mk_entries : Nat → Int32} {mk_slots : Nat → Int32} {mk_remainders : Nat → Int32} {mk_blocks : Nat → Int32} {mk_blockBids : Nat → Int32} {mk_blockOffers : Nat → Int32} {mk_entryCount : Int32} {mk_blockCount : Int32} {cv_limits : Nat → Nat → Int32} {cv_bids : Nat → Nat → Int32} {cv_offers : Nat → Nat → Int32} {cv_count : Nat → Int32} {cv_allBids : Nat → Int32} {cv_allOffers : Nat → Int32} {cv_meetingPrice : Nat → Int32} {cv_sureBids : Nat → Int32} {cv_sureOffers : Nat → Int32} {cv_priceBids : Nat → Int32} {cv_priceOffers : Nat → Int32} {cv_volume : Nat → Int32} {cv_worth : Nat → Int64} {oc_prices : Nat → Nat → Int32} {oc_volumes : Nat → Nat → Int32} {oc_filled : Nat → Nat → Int32} {oc_worth : Nat → Int64} {oc_takenSet : Nat → Int32} {oc_isDone : Nat → Int32} {x2 : Int32} : mz_M g M_mk_giveWhole 1 [.ref 17, .ref 38, .int x2] ex (HX x_members x_collaterals x_hasSent x_isSealed x_metered x_sealedCount bk_counts bk_needs bk_whens bk_sides bk_quantities bk_limits ag_toldLies ag_passedLies ag_words ag_vectors ag_liarOperator ag_rounds mk_entries mk_slots mk_remainders mk_blocks mk_blockBids mk_blockOffers mk_entryCount mk_blockCount cv_limits cv_bids cv_offers cv_count cv_allBids cv_allOffers cv_meetingPrice cv_sureBids cv_sureOffers cv_priceBids cv_priceOffers cv_volume cv_worth oc_prices oc_volumes oc_filled oc_worth oc_takenSet oc_isDone, hT) (f_mk_giveWhole bk_whens bk_sides bk_quantities bk_limits mk_entries mk_slots mk_entryCount mk_blockCount cv_meetingPrice (oc_filled 0) x2) (fun r => (0, none, ex, (HX x_members x_collaterals x_hasSent x_isSealed x_metered x_sealedCount bk_counts bk_needs bk_whens bk_sides bk_quantities bk_limits ag_toldLies ag_passedLies ag_words ag_vectors ag_liarOperator ag_rounds mk_entries mk_slots mk_remainders mk_blocks mk_blockBids mk_blockOffers mk_entryCount mk_blockCount cv_limits cv_bids cv_offers cv_count cv_allBids cv_allOffers cv_meetingPrice cv_sureBids cv_sureOffers cv_priceBids cv_priceOffers cv_volume cv_worth oc_prices oc_volumes (va_up oc_filled 0 r) oc_worth oc_takenSet oc_isDone, hT), 0, 0)) := by
  have w_b73 : ∀ (K5 : (Nat → Int32) → Int32 → Int32 → Option ((Nat → Int32))), (∀ (o_filled : Nat → Int32) (x3 : Int32) (x4 : Int32), mz_A g M_mk_giveWhole (mz_rm 1) (fun r => (0, none, ex, (HX x_members x_collaterals x_hasSent x_isSealed x_metered x_sealedCount bk_counts bk_needs bk_whens bk_sides bk_quantities bk_limits ag_toldLies ag_passedLies ag_words ag_vectors ag_liarOperator ag_rounds mk_entries mk_slots mk_remainders mk_blocks mk_blockBids mk_blockOffers mk_entryCount mk_blockCount cv_limits cv_bids cv_offers cv_count cv_allBids cv_allOffers cv_meetingPrice cv_sureBids cv_sureOffers cv_priceBids cv_priceOffers cv_volume cv_worth oc_prices oc_volumes (va_up oc_filled 0 r) oc_worth oc_takenSet oc_isDone, hT), 0, 0)) 5 [(0, .ref 17), (1, .ref 38), (2, .int x2), (3, .int x3), (4, .int x4)] [] ex (HX x_members x_collaterals x_hasSent x_isSealed x_metered x_sealedCount bk_counts bk_needs bk_whens bk_sides bk_quantities bk_limits ag_toldLies ag_passedLies ag_words ag_vectors ag_liarOperator ag_rounds mk_entries mk_slots mk_remainders mk_blocks mk_blockBids mk_blockOffers mk_entryCount mk_blockCount cv_limits cv_bids cv_offers cv_count cv_allBids cv_allOffers cv_meetingPrice cv_sureBids cv_sureOffers cv_priceBids cv_priceOffers cv_volume cv_worth oc_prices oc_volumes (va_up oc_filled 0 o_filled) oc_worth oc_takenSet oc_isDone, hT) 0 0 (K5 o_filled x3 x4)) → ∀ (o_filled : Nat → Int32) (x3 : Int32) (x4 : Int32) (x5 : Int32), mz_A g M_mk_giveWhole (mz_rm 1) (fun r => (0, none, ex, (HX x_members x_collaterals x_hasSent x_isSealed x_metered x_sealedCount bk_counts bk_needs bk_whens bk_sides bk_quantities bk_limits ag_toldLies ag_passedLies ag_words ag_vectors ag_liarOperator ag_rounds mk_entries mk_slots mk_remainders mk_blocks mk_blockBids mk_blockOffers mk_entryCount mk_blockCount cv_limits cv_bids cv_offers cv_count cv_allBids cv_allOffers cv_meetingPrice cv_sureBids cv_sureOffers cv_priceBids cv_priceOffers cv_volume cv_worth oc_prices oc_volumes (va_up oc_filled 0 r) oc_worth oc_takenSet oc_isDone, hT), 0, 0)) 73 [(0, .ref 17), (1, .ref 38), (2, .int x2), (3, .int x3), (4, .int x4), (5, .int x5)] [] ex (HX x_members x_collaterals x_hasSent x_isSealed x_metered x_sealedCount bk_counts bk_needs bk_whens bk_sides bk_quantities bk_limits ag_toldLies ag_passedLies ag_words ag_vectors ag_liarOperator ag_rounds mk_entries mk_slots mk_remainders mk_blocks mk_blockBids mk_blockOffers mk_entryCount mk_blockCount cv_limits cv_bids cv_offers cv_count cv_allBids cv_allOffers cv_meetingPrice cv_sureBids cv_sureOffers cv_priceBids cv_priceOffers cv_volume cv_worth oc_prices oc_volumes (va_up oc_filled 0 o_filled) oc_worth oc_takenSet oc_isDone, hT) 0 0 (f_mk_giveWhole_b73 bk_whens bk_sides bk_quantities bk_limits mk_entries mk_slots mk_entryCount mk_blockCount cv_meetingPrice x2 K5 o_filled x3 x4 x5) := by
    intro K5 hK5 o_filled x3 x4 x5
    rw [f_mk_giveWhole_b73]
    refine mr_aload_n d_mk_giveWhole_73 rfl rfl ?_
    refine mr_getN K_o 2 d_mk_giveWhole_74 lk_f_mk_167 (by decide) rfl rfl ?_
    refine mr_aload_n d_mk_giveWhole_77 rfl rfl ?_
    refine mr_get K_mk 3 d_mk_giveWhole_78 lk_f_mk_26 (by decide) rfl rfl ?_
    refine mr_iload d_mk_giveWhole_81 rfl ?_
    refine mr_iald d_mk_giveWhole_83 rfl (fun hc5 => ?_)
    refine mr_iload d_mk_giveWhole_84 rfl ?_
    refine mr_if_eq (tgt := 107) d_mk_giveWhole_86 (by decide) ?_ ?_
    · refine mr_iconst (v := 0) d_mk_giveWhole_107 mc_iconst_0 ?_
      refine mr_iast (h2 := (HX x_members x_collaterals x_hasSent x_isSealed x_metered x_sealedCount bk_counts bk_needs bk_whens bk_sides bk_quantities bk_limits ag_toldLies ag_passedLies ag_words ag_vectors ag_liarOperator ag_rounds mk_entries mk_slots mk_remainders mk_blocks mk_blockBids mk_blockOffers mk_entryCount mk_blockCount cv_limits cv_bids cv_offers cv_count cv_allBids cv_allOffers cv_meetingPrice cv_sureBids cv_sureOffers cv_priceBids cv_priceOffers cv_volume cv_worth oc_prices oc_volumes (va_up oc_filled 0 (upd o_filled (mk_slots x4.toNatClampNeg).toNatClampNeg 0)) oc_worth oc_takenSet oc_isDone, hT)) d_mk_giveWhole_108 rfl rfl (fun hc6 => ?_)
      refine mr_iinc (v := (x4 + 1)) (lv' := [(4, .int (x4 + 1)), (0, .ref 17), (1, .ref 38), (2, .int x2), (3, .int x3), (5, .int x5)]) d_mk_giveWhole_109 rfl rfl (by decide) rfl ?_
      refine mr_goto (tgt := 5) d_mk_giveWhole_112 (by decide) ?_
      refine mr_sub (lv' := [(0, .ref 17), (1, .ref 38), (2, .int x2), (3, .int x3), (4, .int (x4 + 1))]) [1, 2, 3, 4, 0] rfl ?_
      exact hK5 _ _ _
    · refine mr_aload_n d_mk_giveWhole_89 rfl rfl ?_
      refine mr_get K_mk 0 d_mk_giveWhole_90 lk_f_mk_9 (by decide) rfl rfl ?_
      refine mr_getN K_bk 4 d_mk_giveWhole_93 lk_f_mk_76 (by decide) rfl rfl ?_
      refine mr_aload_n d_mk_giveWhole_96 rfl rfl ?_
      refine mr_get K_mk 2 d_mk_giveWhole_97 lk_f_mk_22 (by decide) rfl rfl ?_
      refine mr_iload d_mk_giveWhole_100 rfl ?_
      refine mr_ialdK d_mk_giveWhole_102 rfl hc5 ?_
      refine mr_iald d_mk_giveWhole_103 rfl (fun hc7 => ?_)
      refine mr_goto (tgt := 108) d_mk_giveWhole_104 (by decide) ?_
      refine mr_iast (h2 := (HX x_members x_collaterals x_hasSent x_isSealed x_metered x_sealedCount bk_counts bk_needs bk_whens bk_sides bk_quantities bk_limits ag_toldLies ag_passedLies ag_words ag_vectors ag_liarOperator ag_rounds mk_entries mk_slots mk_remainders mk_blocks mk_blockBids mk_blockOffers mk_entryCount mk_blockCount cv_limits cv_bids cv_offers cv_count cv_allBids cv_allOffers cv_meetingPrice cv_sureBids cv_sureOffers cv_priceBids cv_priceOffers cv_volume cv_worth oc_prices oc_volumes (va_up oc_filled 0 (upd o_filled (mk_slots x4.toNatClampNeg).toNatClampNeg (bk_quantities (mk_entries x4.toNatClampNeg).toNatClampNeg))) oc_worth oc_takenSet oc_isDone, hT)) d_mk_giveWhole_108 rfl rfl (fun hc8 => ?_)
      refine mr_iinc (v := (x4 + 1)) (lv' := [(4, .int (x4 + 1)), (0, .ref 17), (1, .ref 38), (2, .int x2), (3, .int x3), (5, .int x5)]) d_mk_giveWhole_109 rfl rfl (by decide) rfl ?_
      refine mr_goto (tgt := 5) d_mk_giveWhole_112 (by decide) ?_
      refine mr_sub (lv' := [(0, .ref 17), (1, .ref 38), (2, .int x2), (3, .int x3), (4, .int (x4 + 1))]) [1, 2, 3, 4, 0] rfl ?_
      exact hK5 _ _ _
  have w_b52 : ∀ (K5 : (Nat → Int32) → Int32 → Int32 → Option ((Nat → Int32))), (∀ (o_filled : Nat → Int32) (x3 : Int32) (x4 : Int32), mz_A g M_mk_giveWhole (mz_rm 1) (fun r => (0, none, ex, (HX x_members x_collaterals x_hasSent x_isSealed x_metered x_sealedCount bk_counts bk_needs bk_whens bk_sides bk_quantities bk_limits ag_toldLies ag_passedLies ag_words ag_vectors ag_liarOperator ag_rounds mk_entries mk_slots mk_remainders mk_blocks mk_blockBids mk_blockOffers mk_entryCount mk_blockCount cv_limits cv_bids cv_offers cv_count cv_allBids cv_allOffers cv_meetingPrice cv_sureBids cv_sureOffers cv_priceBids cv_priceOffers cv_volume cv_worth oc_prices oc_volumes (va_up oc_filled 0 r) oc_worth oc_takenSet oc_isDone, hT), 0, 0)) 5 [(0, .ref 17), (1, .ref 38), (2, .int x2), (3, .int x3), (4, .int x4)] [] ex (HX x_members x_collaterals x_hasSent x_isSealed x_metered x_sealedCount bk_counts bk_needs bk_whens bk_sides bk_quantities bk_limits ag_toldLies ag_passedLies ag_words ag_vectors ag_liarOperator ag_rounds mk_entries mk_slots mk_remainders mk_blocks mk_blockBids mk_blockOffers mk_entryCount mk_blockCount cv_limits cv_bids cv_offers cv_count cv_allBids cv_allOffers cv_meetingPrice cv_sureBids cv_sureOffers cv_priceBids cv_priceOffers cv_volume cv_worth oc_prices oc_volumes (va_up oc_filled 0 o_filled) oc_worth oc_takenSet oc_isDone, hT) 0 0 (K5 o_filled x3 x4)) → ∀ (o_filled : Nat → Int32) (x3 : Int32) (x4 : Int32) (s0 : Int32), mz_A g M_mk_giveWhole (mz_rm 1) (fun r => (0, none, ex, (HX x_members x_collaterals x_hasSent x_isSealed x_metered x_sealedCount bk_counts bk_needs bk_whens bk_sides bk_quantities bk_limits ag_toldLies ag_passedLies ag_words ag_vectors ag_liarOperator ag_rounds mk_entries mk_slots mk_remainders mk_blocks mk_blockBids mk_blockOffers mk_entryCount mk_blockCount cv_limits cv_bids cv_offers cv_count cv_allBids cv_allOffers cv_meetingPrice cv_sureBids cv_sureOffers cv_priceBids cv_priceOffers cv_volume cv_worth oc_prices oc_volumes (va_up oc_filled 0 r) oc_worth oc_takenSet oc_isDone, hT), 0, 0)) 52 [(0, .ref 17), (1, .ref 38), (2, .int x2), (3, .int x3), (4, .int x4)] [.int s0] ex (HX x_members x_collaterals x_hasSent x_isSealed x_metered x_sealedCount bk_counts bk_needs bk_whens bk_sides bk_quantities bk_limits ag_toldLies ag_passedLies ag_words ag_vectors ag_liarOperator ag_rounds mk_entries mk_slots mk_remainders mk_blocks mk_blockBids mk_blockOffers mk_entryCount mk_blockCount cv_limits cv_bids cv_offers cv_count cv_allBids cv_allOffers cv_meetingPrice cv_sureBids cv_sureOffers cv_priceBids cv_priceOffers cv_volume cv_worth oc_prices oc_volumes (va_up oc_filled 0 o_filled) oc_worth oc_takenSet oc_isDone, hT) 0 0 (f_mk_giveWhole_b52 bk_whens bk_sides bk_quantities bk_limits mk_entries mk_slots mk_entryCount mk_blockCount cv_meetingPrice x2 K5 o_filled x3 x4 s0) := by
    intro K5 hK5 o_filled x3 x4 s0
    rw [f_mk_giveWhole_b52]
    refine mr_istore (lv' := [(5, .int s0), (0, .ref 17), (1, .ref 38), (2, .int x2), (3, .int x3), (4, .int x4)]) d_mk_giveWhole_52 (by decide) rfl ?_
    refine mr_iinc (v := (x3 + 1)) (lv' := [(3, .int (x3 + 1)), (5, .int s0), (0, .ref 17), (1, .ref 38), (2, .int x2), (4, .int x4)]) d_mk_giveWhole_54 rfl rfl (by decide) rfl ?_
    refine mr_goto (tgt := 73) d_mk_giveWhole_57 (by decide) ?_
    refine mr_sub (lv' := [(0, .ref 17), (1, .ref 38), (2, .int x2), (3, .int (x3 + 1)), (4, .int x4), (5, .int s0)]) [2, 3, 4, 0, 5, 1] rfl ?_
    exact w_b73 _ hK5 _ _ _ _
  have w_b51 : ∀ (K5 : (Nat → Int32) → Int32 → Int32 → Option ((Nat → Int32))), (∀ (o_filled : Nat → Int32) (x3 : Int32) (x4 : Int32), mz_A g M_mk_giveWhole (mz_rm 1) (fun r => (0, none, ex, (HX x_members x_collaterals x_hasSent x_isSealed x_metered x_sealedCount bk_counts bk_needs bk_whens bk_sides bk_quantities bk_limits ag_toldLies ag_passedLies ag_words ag_vectors ag_liarOperator ag_rounds mk_entries mk_slots mk_remainders mk_blocks mk_blockBids mk_blockOffers mk_entryCount mk_blockCount cv_limits cv_bids cv_offers cv_count cv_allBids cv_allOffers cv_meetingPrice cv_sureBids cv_sureOffers cv_priceBids cv_priceOffers cv_volume cv_worth oc_prices oc_volumes (va_up oc_filled 0 r) oc_worth oc_takenSet oc_isDone, hT), 0, 0)) 5 [(0, .ref 17), (1, .ref 38), (2, .int x2), (3, .int x3), (4, .int x4)] [] ex (HX x_members x_collaterals x_hasSent x_isSealed x_metered x_sealedCount bk_counts bk_needs bk_whens bk_sides bk_quantities bk_limits ag_toldLies ag_passedLies ag_words ag_vectors ag_liarOperator ag_rounds mk_entries mk_slots mk_remainders mk_blocks mk_blockBids mk_blockOffers mk_entryCount mk_blockCount cv_limits cv_bids cv_offers cv_count cv_allBids cv_allOffers cv_meetingPrice cv_sureBids cv_sureOffers cv_priceBids cv_priceOffers cv_volume cv_worth oc_prices oc_volumes (va_up oc_filled 0 o_filled) oc_worth oc_takenSet oc_isDone, hT) 0 0 (K5 o_filled x3 x4)) → ∀ (o_filled : Nat → Int32) (x3 : Int32) (x4 : Int32), mz_A g M_mk_giveWhole (mz_rm 1) (fun r => (0, none, ex, (HX x_members x_collaterals x_hasSent x_isSealed x_metered x_sealedCount bk_counts bk_needs bk_whens bk_sides bk_quantities bk_limits ag_toldLies ag_passedLies ag_words ag_vectors ag_liarOperator ag_rounds mk_entries mk_slots mk_remainders mk_blocks mk_blockBids mk_blockOffers mk_entryCount mk_blockCount cv_limits cv_bids cv_offers cv_count cv_allBids cv_allOffers cv_meetingPrice cv_sureBids cv_sureOffers cv_priceBids cv_priceOffers cv_volume cv_worth oc_prices oc_volumes (va_up oc_filled 0 r) oc_worth oc_takenSet oc_isDone, hT), 0, 0)) 51 [(0, .ref 17), (1, .ref 38), (2, .int x2), (3, .int x3), (4, .int x4)] [] ex (HX x_members x_collaterals x_hasSent x_isSealed x_metered x_sealedCount bk_counts bk_needs bk_whens bk_sides bk_quantities bk_limits ag_toldLies ag_passedLies ag_words ag_vectors ag_liarOperator ag_rounds mk_entries mk_slots mk_remainders mk_blocks mk_blockBids mk_blockOffers mk_entryCount mk_blockCount cv_limits cv_bids cv_offers cv_count cv_allBids cv_allOffers cv_meetingPrice cv_sureBids cv_sureOffers cv_priceBids cv_priceOffers cv_volume cv_worth oc_prices oc_volumes (va_up oc_filled 0 o_filled) oc_worth oc_takenSet oc_isDone, hT) 0 0 (f_mk_giveWhole_b51 bk_whens bk_sides bk_quantities bk_limits mk_entries mk_slots mk_entryCount mk_blockCount cv_meetingPrice x2 K5 o_filled x3 x4) := by
    intro K5 hK5 o_filled x3 x4
    rw [f_mk_giveWhole_b51]
    refine mr_iconst (v := 0) d_mk_giveWhole_51 mc_iconst_0 ?_
    exact w_b52 _ hK5 _ _ _ _
  have w_L5 : ∀ (n : Nat) (o_filled : Nat → Int32) (x3 : Int32) (x4 : Int32), mz_A g M_mk_giveWhole (mz_rm 1) (fun r => (0, none, ex, (HX x_members x_collaterals x_hasSent x_isSealed x_metered x_sealedCount bk_counts bk_needs bk_whens bk_sides bk_quantities bk_limits ag_toldLies ag_passedLies ag_words ag_vectors ag_liarOperator ag_rounds mk_entries mk_slots mk_remainders mk_blocks mk_blockBids mk_blockOffers mk_entryCount mk_blockCount cv_limits cv_bids cv_offers cv_count cv_allBids cv_allOffers cv_meetingPrice cv_sureBids cv_sureOffers cv_priceBids cv_priceOffers cv_volume cv_worth oc_prices oc_volumes (va_up oc_filled 0 r) oc_worth oc_takenSet oc_isDone, hT), 0, 0)) 5 [(0, .ref 17), (1, .ref 38), (2, .int x2), (3, .int x3), (4, .int x4)] [] ex (HX x_members x_collaterals x_hasSent x_isSealed x_metered x_sealedCount bk_counts bk_needs bk_whens bk_sides bk_quantities bk_limits ag_toldLies ag_passedLies ag_words ag_vectors ag_liarOperator ag_rounds mk_entries mk_slots mk_remainders mk_blocks mk_blockBids mk_blockOffers mk_entryCount mk_blockCount cv_limits cv_bids cv_offers cv_count cv_allBids cv_allOffers cv_meetingPrice cv_sureBids cv_sureOffers cv_priceBids cv_priceOffers cv_volume cv_worth oc_prices oc_volumes (va_up oc_filled 0 o_filled) oc_worth oc_takenSet oc_isDone, hT) 0 0 (f_mk_giveWhole_L5 bk_whens bk_sides bk_quantities bk_limits mk_entries mk_slots mk_entryCount mk_blockCount cv_meetingPrice x2 n o_filled x3 x4) := by
    intro n
    induction n with
    | zero => intro o_filled x3 x4; exact mr_none
    | succ n ih =>
      intro o_filled x3 x4
      rw [f_mk_giveWhole_L5]
      refine mr_iload d_mk_giveWhole_5 rfl ?_
      refine mr_aload_n d_mk_giveWhole_7 rfl rfl ?_
      refine mr_get K_mk 8 d_mk_giveWhole_8 lk_f_mk_41 (by decide) rfl rfl ?_
      refine mr_icmp_ge (tgt := 115) d_mk_giveWhole_11 (by decide) ?_ ?_
      · exact mr_vret d_mk_giveWhole_115 rfl rfl
      · refine mr_aload_n d_mk_giveWhole_14 rfl rfl ?_
        refine mr_get K_mk 0 d_mk_giveWhole_15 lk_f_mk_9 (by decide) rfl rfl ?_
        refine mr_aload_n d_mk_giveWhole_18 rfl rfl ?_
        refine mr_get K_mk 2 d_mk_giveWhole_19 lk_f_mk_22 (by decide) rfl rfl ?_
        refine mr_iload d_mk_giveWhole_22 rfl ?_
        refine mr_iald d_mk_giveWhole_24 rfl (fun hc1 => ?_)
        refine mz_go (st := []) e_bk_isBlock (fun _ => rfl) U_bk_isBlock (mz_vV d_mk_giveWhole_25 U_bk_isBlock rfl lk_m_mk_66 I_bk_isBlock s_bk_isBlock np_bk_isBlock rfl rfl) (Nat.le_of_ble_eq_true rfl) (by decide) (fun r2 => ?_)
        refine mr_eq (st' := [.int r2]) (ex' := ex) (h2 := (HX x_members x_collaterals x_hasSent x_isSealed x_metered x_sealedCount bk_counts bk_needs bk_whens bk_sides bk_quantities bk_limits ag_toldLies ag_passedLies ag_words ag_vectors ag_liarOperator ag_rounds mk_entries mk_slots mk_remainders mk_blocks mk_blockBids mk_blockOffers mk_entryCount mk_blockCount cv_limits cv_bids cv_offers cv_count cv_allBids cv_allOffers cv_meetingPrice cv_sureBids cv_sureOffers cv_priceBids cv_priceOffers cv_volume cv_worth oc_prices oc_volumes (va_up oc_filled 0 o_filled) oc_worth oc_takenSet oc_isDone, hT)) (k' := 0) (n' := 0) rfl rfl rfl rfl rfl ?_
        refine mr_if_eq (tgt := 60) d_mk_giveWhole_28 (by decide) ?_ ?_
        · refine mr_aload_n d_mk_giveWhole_60 rfl rfl ?_
          refine mr_aload_n d_mk_giveWhole_61 rfl rfl ?_
          refine mr_get K_mk 2 d_mk_giveWhole_62 lk_f_mk_22 (by decide) rfl rfl ?_
          refine mr_iload d_mk_giveWhole_65 rfl ?_
          refine mr_ialdK d_mk_giveWhole_67 rfl hc1 ?_
          refine mz_go (st := []) e_mk_isSure (fun _ => rfl) U_mk_isSure (mz_vV d_mk_giveWhole_68 U_mk_isSure rfl lk_m_mk_164 I_mk_isSure s_mk_isSure np_mk_isSure rfl rfl) (Nat.le_of_ble_eq_true rfl) (by decide) (fun r3 => ?_)
          refine mr_eq (st' := [.int r3]) (ex' := ex) (h2 := (HX x_members x_collaterals x_hasSent x_isSealed x_metered x_sealedCount bk_counts bk_needs bk_whens bk_sides bk_quantities bk_limits ag_toldLies ag_passedLies ag_words ag_vectors ag_liarOperator ag_rounds mk_entries mk_slots mk_remainders mk_blocks mk_blockBids mk_blockOffers mk_entryCount mk_blockCount cv_limits cv_bids cv_offers cv_count cv_allBids cv_allOffers cv_meetingPrice cv_sureBids cv_sureOffers cv_priceBids cv_priceOffers cv_volume cv_worth oc_prices oc_volumes (va_up oc_filled 0 o_filled) oc_worth oc_takenSet oc_isDone, hT)) (k' := 0) (n' := 0) rfl rfl rfl rfl rfl ?_
          refine mr_istore (lv' := [(5, .int r3), (0, .ref 17), (1, .ref 38), (2, .int x2), (3, .int x3), (4, .int x4)]) d_mk_giveWhole_71 (by decide) rfl ?_
          refine mr_sub (lv' := [(0, .ref 17), (1, .ref 38), (2, .int x2), (3, .int x3), (4, .int x4), (5, .int r3)]) [1, 2, 3, 4, 5, 0] rfl ?_
          exact w_b73 _ ih _ _ _ _
        · refine mr_iload_n d_mk_giveWhole_31 rfl rfl ?_
          refine mr_aload_n d_mk_giveWhole_32 rfl rfl ?_
          refine mr_get K_mk 9 d_mk_giveWhole_33 lk_f_mk_45 (by decide) rfl rfl ?_
          refine mr_icmp_ge (tgt := 51) d_mk_giveWhole_36 (by decide) ?_ ?_
          · exact w_b51 _ ih _ _ _
          · refine mr_iload_n d_mk_giveWhole_39 rfl rfl ?_
            refine mr_iload_n d_mk_giveWhole_40 rfl rfl ?_
            refine mz_go (st := []) e_mk_isTaken (fun _ => rfl) U_mk_isTaken (mz_vS d_mk_giveWhole_41 U_mk_isTaken lk_m_mk_133 S_mk_isTaken np_mk_isTaken) (Nat.le_of_ble_eq_true rfl) (by decide) (fun r4 => ?_)
            refine mr_eq (st' := [.int r4]) (ex' := ex) (h2 := (HX x_members x_collaterals x_hasSent x_isSealed x_metered x_sealedCount bk_counts bk_needs bk_whens bk_sides bk_quantities bk_limits ag_toldLies ag_passedLies ag_words ag_vectors ag_liarOperator ag_rounds mk_entries mk_slots mk_remainders mk_blocks mk_blockBids mk_blockOffers mk_entryCount mk_blockCount cv_limits cv_bids cv_offers cv_count cv_allBids cv_allOffers cv_meetingPrice cv_sureBids cv_sureOffers cv_priceBids cv_priceOffers cv_volume cv_worth oc_prices oc_volumes (va_up oc_filled 0 o_filled) oc_worth oc_takenSet oc_isDone, hT)) (k' := 0) (n' := 0) rfl rfl rfl rfl rfl ?_
            refine mr_if_eq (tgt := 51) d_mk_giveWhole_44 (by decide) ?_ ?_
            · exact w_b51 _ ih _ _ _
            · refine mr_iconst (v := 1) d_mk_giveWhole_47 mc_iconst_1 ?_
              refine mr_goto (tgt := 52) d_mk_giveWhole_48 (by decide) ?_
              exact w_b52 _ ih _ _ _ _
  refine mz_of (by decide) (Nat.le_of_ble_eq_true rfl) ?_
  rw [f_mk_giveWhole]
  show mz_A g M_mk_giveWhole (mz_rm 1) _ 0 [(0, .ref 17), (1, .ref 38), (2, .int x2)] [] ex (HX x_members x_collaterals x_hasSent x_isSealed x_metered x_sealedCount bk_counts bk_needs bk_whens bk_sides bk_quantities bk_limits ag_toldLies ag_passedLies ag_words ag_vectors ag_liarOperator ag_rounds mk_entries mk_slots mk_remainders mk_blocks mk_blockBids mk_blockOffers mk_entryCount mk_blockCount cv_limits cv_bids cv_offers cv_count cv_allBids cv_allOffers cv_meetingPrice cv_sureBids cv_sureOffers cv_priceBids cv_priceOffers cv_volume cv_worth oc_prices oc_volumes oc_filled oc_worth oc_takenSet oc_isDone, hT) 0 0 _
  refine mr_iconst (v := 0) d_mk_giveWhole_0 mc_iconst_0 ?_
  refine mr_istore_n (lv' := [(3, .int 0), (0, .ref 17), (1, .ref 38), (2, .int x2)]) d_mk_giveWhole_1 rfl (by decide) rfl ?_
  refine mr_iconst (v := 0) d_mk_giveWhole_2 mc_iconst_0 ?_
  refine mr_istore (lv' := [(4, .int 0), (3, .int 0), (0, .ref 17), (1, .ref 38), (2, .int x2)]) d_mk_giveWhole_3 (by decide) rfl ?_
  refine mr_sub (lv' := [(0, .ref 17), (1, .ref 38), (2, .int x2), (3, .int 0), (4, .int 0)]) [2, 3, 4, 1, 0] rfl ?_
  exact w_L5 1000 _ _ _
set_option maxRecDepth 100000 in
set_option maxHeartbeats 4000000 in
theorem e_mk_giveWhole_1 {g : mz_G} {ex : Bool} {hT : List mz_E} {x_members : Int32} {x_collaterals : Nat → Int32} {x_hasSent : Nat → Int32} {x_isSealed : Nat → Int32} {x_metered : Nat → Int32} {x_sealedCount : Int32} {bk_counts : Nat → Int32} {bk_needs : Nat → Int64} {bk_whens : Nat → Int32} {bk_sides : Nat → Int32} {bk_quantities : Nat → Int32} {bk_limits : Nat → Int32} {ag_toldLies : Nat → Int32} {ag_passedLies : Nat → Int32} {ag_words : Nat → Int32} {ag_vectors : Nat → Int32} {ag_liarOperator : Int32} {ag_rounds : Int32} {mk_entries : Nat → Int32} {mk_slots : Nat → Int32} {mk_remainders : Nat → Int32} {mk_blocks : Nat → Int32} {mk_blockBids : Nat → Int32} {mk_blockOffers : Nat → Int32} {mk_entryCount : Int32} {mk_blockCount : Int32} {cv_limits : Nat → Nat → Int32} {cv_bids : Nat → Nat → Int32} {cv_offers : Nat → Nat → Int32} {cv_count : Nat → Int32} {cv_allBids : Nat → Int32} {cv_allOffers : Nat → Int32} {cv_meetingPrice : Nat → Int32} {cv_sureBids : Nat → Int32} {cv_sureOffers : Nat → Int32} {cv_priceBids : Nat → Int32} {cv_priceOffers : Nat → Int32} {cv_volume : Nat → Int32} {cv_worth : Nat → Int64} {oc_prices : Nat → Nat → Int32} {oc_volumes : Nat → Nat → Int32} {oc_filled : Nat → Nat → Int32} {oc_worth : Nat → Int64} {oc_takenSet : Nat → Int32} {oc_isDone : Nat → Int32} {x2 : Int32} : mz_M g M_mk_giveWhole 1 [.ref 17, .ref 42, .int x2] ex (HX x_members x_collaterals x_hasSent x_isSealed x_metered x_sealedCount bk_counts bk_needs bk_whens bk_sides bk_quantities bk_limits ag_toldLies ag_passedLies ag_words ag_vectors ag_liarOperator ag_rounds mk_entries mk_slots mk_remainders mk_blocks mk_blockBids mk_blockOffers mk_entryCount mk_blockCount cv_limits cv_bids cv_offers cv_count cv_allBids cv_allOffers cv_meetingPrice cv_sureBids cv_sureOffers cv_priceBids cv_priceOffers cv_volume cv_worth oc_prices oc_volumes oc_filled oc_worth oc_takenSet oc_isDone, hT) (f_mk_giveWhole bk_whens bk_sides bk_quantities bk_limits mk_entries mk_slots mk_entryCount mk_blockCount cv_meetingPrice (oc_filled 1) x2) (fun r => (0, none, ex, (HX x_members x_collaterals x_hasSent x_isSealed x_metered x_sealedCount bk_counts bk_needs bk_whens bk_sides bk_quantities bk_limits ag_toldLies ag_passedLies ag_words ag_vectors ag_liarOperator ag_rounds mk_entries mk_slots mk_remainders mk_blocks mk_blockBids mk_blockOffers mk_entryCount mk_blockCount cv_limits cv_bids cv_offers cv_count cv_allBids cv_allOffers cv_meetingPrice cv_sureBids cv_sureOffers cv_priceBids cv_priceOffers cv_volume cv_worth oc_prices oc_volumes (va_up oc_filled 1 r) oc_worth oc_takenSet oc_isDone, hT), 0, 0)) := by
  have w_b73 : ∀ (K5 : (Nat → Int32) → Int32 → Int32 → Option ((Nat → Int32))), (∀ (o_filled : Nat → Int32) (x3 : Int32) (x4 : Int32), mz_A g M_mk_giveWhole (mz_rm 1) (fun r => (0, none, ex, (HX x_members x_collaterals x_hasSent x_isSealed x_metered x_sealedCount bk_counts bk_needs bk_whens bk_sides bk_quantities bk_limits ag_toldLies ag_passedLies ag_words ag_vectors ag_liarOperator ag_rounds mk_entries mk_slots mk_remainders mk_blocks mk_blockBids mk_blockOffers mk_entryCount mk_blockCount cv_limits cv_bids cv_offers cv_count cv_allBids cv_allOffers cv_meetingPrice cv_sureBids cv_sureOffers cv_priceBids cv_priceOffers cv_volume cv_worth oc_prices oc_volumes (va_up oc_filled 1 r) oc_worth oc_takenSet oc_isDone, hT), 0, 0)) 5 [(0, .ref 17), (1, .ref 42), (2, .int x2), (3, .int x3), (4, .int x4)] [] ex (HX x_members x_collaterals x_hasSent x_isSealed x_metered x_sealedCount bk_counts bk_needs bk_whens bk_sides bk_quantities bk_limits ag_toldLies ag_passedLies ag_words ag_vectors ag_liarOperator ag_rounds mk_entries mk_slots mk_remainders mk_blocks mk_blockBids mk_blockOffers mk_entryCount mk_blockCount cv_limits cv_bids cv_offers cv_count cv_allBids cv_allOffers cv_meetingPrice cv_sureBids cv_sureOffers cv_priceBids cv_priceOffers cv_volume cv_worth oc_prices oc_volumes (va_up oc_filled 1 o_filled) oc_worth oc_takenSet oc_isDone, hT) 0 0 (K5 o_filled x3 x4)) → ∀ (o_filled : Nat → Int32) (x3 : Int32) (x4 : Int32) (x5 : Int32), mz_A g M_mk_giveWhole (mz_rm 1) (fun r => (0, none, ex, (HX x_members x_collaterals x_hasSent x_isSealed x_metered x_sealedCount bk_counts bk_needs bk_whens bk_sides bk_quantities bk_limits ag_toldLies ag_passedLies ag_words ag_vectors ag_liarOperator ag_rounds mk_entries mk_slots mk_remainders mk_blocks mk_blockBids mk_blockOffers mk_entryCount mk_blockCount cv_limits cv_bids cv_offers cv_count cv_allBids cv_allOffers cv_meetingPrice cv_sureBids cv_sureOffers cv_priceBids cv_priceOffers cv_volume cv_worth oc_prices oc_volumes (va_up oc_filled 1 r) oc_worth oc_takenSet oc_isDone, hT), 0, 0)) 73 [(0, .ref 17), (1, .ref 42), (2, .int x2), (3, .int x3), (4, .int x4), (5, .int x5)] [] ex (HX x_members x_collaterals x_hasSent x_isSealed x_metered x_sealedCount bk_counts bk_needs bk_whens bk_sides bk_quantities bk_limits ag_toldLies ag_passedLies ag_words ag_vectors ag_liarOperator ag_rounds mk_entries mk_slots mk_remainders mk_blocks mk_blockBids mk_blockOffers mk_entryCount mk_blockCount cv_limits cv_bids cv_offers cv_count cv_allBids cv_allOffers cv_meetingPrice cv_sureBids cv_sureOffers cv_priceBids cv_priceOffers cv_volume cv_worth oc_prices oc_volumes (va_up oc_filled 1 o_filled) oc_worth oc_takenSet oc_isDone, hT) 0 0 (f_mk_giveWhole_b73 bk_whens bk_sides bk_quantities bk_limits mk_entries mk_slots mk_entryCount mk_blockCount cv_meetingPrice x2 K5 o_filled x3 x4 x5) := by
    intro K5 hK5 o_filled x3 x4 x5
    rw [f_mk_giveWhole_b73]
    refine mr_aload_n d_mk_giveWhole_73 rfl rfl ?_
    refine mr_getN K_o 2 d_mk_giveWhole_74 lk_f_mk_167 (by decide) rfl rfl ?_
    refine mr_aload_n d_mk_giveWhole_77 rfl rfl ?_
    refine mr_get K_mk 3 d_mk_giveWhole_78 lk_f_mk_26 (by decide) rfl rfl ?_
    refine mr_iload d_mk_giveWhole_81 rfl ?_
    refine mr_iald d_mk_giveWhole_83 rfl (fun hc5 => ?_)
    refine mr_iload d_mk_giveWhole_84 rfl ?_
    refine mr_if_eq (tgt := 107) d_mk_giveWhole_86 (by decide) ?_ ?_
    · refine mr_iconst (v := 0) d_mk_giveWhole_107 mc_iconst_0 ?_
      refine mr_iast (h2 := (HX x_members x_collaterals x_hasSent x_isSealed x_metered x_sealedCount bk_counts bk_needs bk_whens bk_sides bk_quantities bk_limits ag_toldLies ag_passedLies ag_words ag_vectors ag_liarOperator ag_rounds mk_entries mk_slots mk_remainders mk_blocks mk_blockBids mk_blockOffers mk_entryCount mk_blockCount cv_limits cv_bids cv_offers cv_count cv_allBids cv_allOffers cv_meetingPrice cv_sureBids cv_sureOffers cv_priceBids cv_priceOffers cv_volume cv_worth oc_prices oc_volumes (va_up oc_filled 1 (upd o_filled (mk_slots x4.toNatClampNeg).toNatClampNeg 0)) oc_worth oc_takenSet oc_isDone, hT)) d_mk_giveWhole_108 rfl rfl (fun hc6 => ?_)
      refine mr_iinc (v := (x4 + 1)) (lv' := [(4, .int (x4 + 1)), (0, .ref 17), (1, .ref 42), (2, .int x2), (3, .int x3), (5, .int x5)]) d_mk_giveWhole_109 rfl rfl (by decide) rfl ?_
      refine mr_goto (tgt := 5) d_mk_giveWhole_112 (by decide) ?_
      refine mr_sub (lv' := [(0, .ref 17), (1, .ref 42), (2, .int x2), (3, .int x3), (4, .int (x4 + 1))]) [1, 2, 3, 4, 0] rfl ?_
      exact hK5 _ _ _
    · refine mr_aload_n d_mk_giveWhole_89 rfl rfl ?_
      refine mr_get K_mk 0 d_mk_giveWhole_90 lk_f_mk_9 (by decide) rfl rfl ?_
      refine mr_getN K_bk 4 d_mk_giveWhole_93 lk_f_mk_76 (by decide) rfl rfl ?_
      refine mr_aload_n d_mk_giveWhole_96 rfl rfl ?_
      refine mr_get K_mk 2 d_mk_giveWhole_97 lk_f_mk_22 (by decide) rfl rfl ?_
      refine mr_iload d_mk_giveWhole_100 rfl ?_
      refine mr_ialdK d_mk_giveWhole_102 rfl hc5 ?_
      refine mr_iald d_mk_giveWhole_103 rfl (fun hc7 => ?_)
      refine mr_goto (tgt := 108) d_mk_giveWhole_104 (by decide) ?_
      refine mr_iast (h2 := (HX x_members x_collaterals x_hasSent x_isSealed x_metered x_sealedCount bk_counts bk_needs bk_whens bk_sides bk_quantities bk_limits ag_toldLies ag_passedLies ag_words ag_vectors ag_liarOperator ag_rounds mk_entries mk_slots mk_remainders mk_blocks mk_blockBids mk_blockOffers mk_entryCount mk_blockCount cv_limits cv_bids cv_offers cv_count cv_allBids cv_allOffers cv_meetingPrice cv_sureBids cv_sureOffers cv_priceBids cv_priceOffers cv_volume cv_worth oc_prices oc_volumes (va_up oc_filled 1 (upd o_filled (mk_slots x4.toNatClampNeg).toNatClampNeg (bk_quantities (mk_entries x4.toNatClampNeg).toNatClampNeg))) oc_worth oc_takenSet oc_isDone, hT)) d_mk_giveWhole_108 rfl rfl (fun hc8 => ?_)
      refine mr_iinc (v := (x4 + 1)) (lv' := [(4, .int (x4 + 1)), (0, .ref 17), (1, .ref 42), (2, .int x2), (3, .int x3), (5, .int x5)]) d_mk_giveWhole_109 rfl rfl (by decide) rfl ?_
      refine mr_goto (tgt := 5) d_mk_giveWhole_112 (by decide) ?_
      refine mr_sub (lv' := [(0, .ref 17), (1, .ref 42), (2, .int x2), (3, .int x3), (4, .int (x4 + 1))]) [1, 2, 3, 4, 0] rfl ?_
      exact hK5 _ _ _
  have w_b52 : ∀ (K5 : (Nat → Int32) → Int32 → Int32 → Option ((Nat → Int32))), (∀ (o_filled : Nat → Int32) (x3 : Int32) (x4 : Int32), mz_A g M_mk_giveWhole (mz_rm 1) (fun r => (0, none, ex, (HX x_members x_collaterals x_hasSent x_isSealed x_metered x_sealedCount bk_counts bk_needs bk_whens bk_sides bk_quantities bk_limits ag_toldLies ag_passedLies ag_words ag_vectors ag_liarOperator ag_rounds mk_entries mk_slots mk_remainders mk_blocks mk_blockBids mk_blockOffers mk_entryCount mk_blockCount cv_limits cv_bids cv_offers cv_count cv_allBids cv_allOffers cv_meetingPrice cv_sureBids cv_sureOffers cv_priceBids cv_priceOffers cv_volume cv_worth oc_prices oc_volumes (va_up oc_filled 1 r) oc_worth oc_takenSet oc_isDone, hT), 0, 0)) 5 [(0, .ref 17), (1, .ref 42), (2, .int x2), (3, .int x3), (4, .int x4)] [] ex (HX x_members x_collaterals x_hasSent x_isSealed x_metered x_sealedCount bk_counts bk_needs bk_whens bk_sides bk_quantities bk_limits ag_toldLies ag_passedLies ag_words ag_vectors ag_liarOperator ag_rounds mk_entries mk_slots mk_remainders mk_blocks mk_blockBids mk_blockOffers mk_entryCount mk_blockCount cv_limits cv_bids cv_offers cv_count cv_allBids cv_allOffers cv_meetingPrice cv_sureBids cv_sureOffers cv_priceBids cv_priceOffers cv_volume cv_worth oc_prices oc_volumes (va_up oc_filled 1 o_filled) oc_worth oc_takenSet oc_isDone, hT) 0 0 (K5 o_filled x3 x4)) → ∀ (o_filled : Nat → Int32) (x3 : Int32) (x4 : Int32) (s0 : Int32), mz_A g M_mk_giveWhole (mz_rm 1) (fun r => (0, none, ex, (HX x_members x_collaterals x_hasSent x_isSealed x_metered x_sealedCount bk_counts bk_needs bk_whens bk_sides bk_quantities bk_limits ag_toldLies ag_passedLies ag_words ag_vectors ag_liarOperator ag_rounds mk_entries mk_slots mk_remainders mk_blocks mk_blockBids mk_blockOffers mk_entryCount mk_blockCount cv_limits cv_bids cv_offers cv_count cv_allBids cv_allOffers cv_meetingPrice cv_sureBids cv_sureOffers cv_priceBids cv_priceOffers cv_volume cv_worth oc_prices oc_volumes (va_up oc_filled 1 r) oc_worth oc_takenSet oc_isDone, hT), 0, 0)) 52 [(0, .ref 17), (1, .ref 42), (2, .int x2), (3, .int x3), (4, .int x4)] [.int s0] ex (HX x_members x_collaterals x_hasSent x_isSealed x_metered x_sealedCount bk_counts bk_needs bk_whens bk_sides bk_quantities bk_limits ag_toldLies ag_passedLies ag_words ag_vectors ag_liarOperator ag_rounds mk_entries mk_slots mk_remainders mk_blocks mk_blockBids mk_blockOffers mk_entryCount mk_blockCount cv_limits cv_bids cv_offers cv_count cv_allBids cv_allOffers cv_meetingPrice cv_sureBids cv_sureOffers cv_priceBids cv_priceOffers cv_volume cv_worth oc_prices oc_volumes (va_up oc_filled 1 o_filled) oc_worth oc_takenSet oc_isDone, hT) 0 0 (f_mk_giveWhole_b52 bk_whens bk_sides bk_quantities bk_limits mk_entries mk_slots mk_entryCount mk_blockCount cv_meetingPrice x2 K5 o_filled x3 x4 s0) := by
    intro K5 hK5 o_filled x3 x4 s0
    rw [f_mk_giveWhole_b52]
    refine mr_istore (lv' := [(5, .int s0), (0, .ref 17), (1, .ref 42), (2, .int x2), (3, .int x3), (4, .int x4)]) d_mk_giveWhole_52 (by decide) rfl ?_
    refine mr_iinc (v := (x3 + 1)) (lv' := [(3, .int (x3 + 1)), (5, .int s0), (0, .ref 17), (1, .ref 42), (2, .int x2), (4, .int x4)]) d_mk_giveWhole_54 rfl rfl (by decide) rfl ?_
    refine mr_goto (tgt := 73) d_mk_giveWhole_57 (by decide) ?_
    refine mr_sub (lv' := [(0, .ref 17), (1, .ref 42), (2, .int x2), (3, .int (x3 + 1)), (4, .int x4), (5, .int s0)]) [2, 3, 4, 0, 5, 1] rfl ?_
    exact w_b73 _ hK5 _ _ _ _
  have w_b51 : ∀ (K5 : (Nat → Int32) → Int32 → Int32 → Option ((Nat → Int32))), (∀ (o_filled : Nat → Int32) (x3 : Int32) (x4 : Int32), mz_A g M_mk_giveWhole (mz_rm 1) (fun r => (0, none, ex, (HX x_members x_collaterals x_hasSent x_isSealed x_metered x_sealedCount bk_counts bk_needs bk_whens bk_sides bk_quantities bk_limits ag_toldLies ag_passedLies ag_words ag_vectors ag_liarOperator ag_rounds mk_entries mk_slots mk_remainders mk_blocks mk_blockBids mk_blockOffers mk_entryCount mk_blockCount cv_limits cv_bids cv_offers cv_count cv_allBids cv_allOffers cv_meetingPrice cv_sureBids cv_sureOffers cv_priceBids cv_priceOffers cv_volume cv_worth oc_prices oc_volumes (va_up oc_filled 1 r) oc_worth oc_takenSet oc_isDone, hT), 0, 0)) 5 [(0, .ref 17), (1, .ref 42), (2, .int x2), (3, .int x3), (4, .int x4)] [] ex (HX x_members x_collaterals x_hasSent x_isSealed x_metered x_sealedCount bk_counts bk_needs bk_whens bk_sides bk_quantities bk_limits ag_toldLies ag_passedLies ag_words ag_vectors ag_liarOperator ag_rounds mk_entries mk_slots mk_remainders mk_blocks mk_blockBids mk_blockOffers mk_entryCount mk_blockCount cv_limits cv_bids cv_offers cv_count cv_allBids cv_allOffers cv_meetingPrice cv_sureBids cv_sureOffers cv_priceBids cv_priceOffers cv_volume cv_worth oc_prices oc_volumes (va_up oc_filled 1 o_filled) oc_worth oc_takenSet oc_isDone, hT) 0 0 (K5 o_filled x3 x4)) → ∀ (o_filled : Nat → Int32) (x3 : Int32) (x4 : Int32), mz_A g M_mk_giveWhole (mz_rm 1) (fun r => (0, none, ex, (HX x_members x_collaterals x_hasSent x_isSealed x_metered x_sealedCount bk_counts bk_needs bk_whens bk_sides bk_quantities bk_limits ag_toldLies ag_passedLies ag_words ag_vectors ag_liarOperator ag_rounds mk_entries mk_slots mk_remainders mk_blocks mk_blockBids mk_blockOffers mk_entryCount mk_blockCount cv_limits cv_bids cv_offers cv_count cv_allBids cv_allOffers cv_meetingPrice cv_sureBids cv_sureOffers cv_priceBids cv_priceOffers cv_volume cv_worth oc_prices oc_volumes (va_up oc_filled 1 r) oc_worth oc_takenSet oc_isDone, hT), 0, 0)) 51 [(0, .ref 17), (1, .ref 42), (2, .int x2), (3, .int x3), (4, .int x4)] [] ex (HX x_members x_collaterals x_hasSent x_isSealed x_metered x_sealedCount bk_counts bk_needs bk_whens bk_sides bk_quantities bk_limits ag_toldLies ag_passedLies ag_words ag_vectors ag_liarOperator ag_rounds mk_entries mk_slots mk_remainders mk_blocks mk_blockBids mk_blockOffers mk_entryCount mk_blockCount cv_limits cv_bids cv_offers cv_count cv_allBids cv_allOffers cv_meetingPrice cv_sureBids cv_sureOffers cv_priceBids cv_priceOffers cv_volume cv_worth oc_prices oc_volumes (va_up oc_filled 1 o_filled) oc_worth oc_takenSet oc_isDone, hT) 0 0 (f_mk_giveWhole_b51 bk_whens bk_sides bk_quantities bk_limits mk_entries mk_slots mk_entryCount mk_blockCount cv_meetingPrice x2 K5 o_filled x3 x4) := by
    intro K5 hK5 o_filled x3 x4
    rw [f_mk_giveWhole_b51]
    refine mr_iconst (v := 0) d_mk_giveWhole_51 mc_iconst_0 ?_
    exact w_b52 _ hK5 _ _ _ _
  have w_L5 : ∀ (n : Nat) (o_filled : Nat → Int32) (x3 : Int32) (x4 : Int32), mz_A g M_mk_giveWhole (mz_rm 1) (fun r => (0, none, ex, (HX x_members x_collaterals x_hasSent x_isSealed x_metered x_sealedCount bk_counts bk_needs bk_whens bk_sides bk_quantities bk_limits ag_toldLies ag_passedLies ag_words ag_vectors ag_liarOperator ag_rounds mk_entries mk_slots mk_remainders mk_blocks mk_blockBids mk_blockOffers mk_entryCount mk_blockCount cv_limits cv_bids cv_offers cv_count cv_allBids cv_allOffers cv_meetingPrice cv_sureBids cv_sureOffers cv_priceBids cv_priceOffers cv_volume cv_worth oc_prices oc_volumes (va_up oc_filled 1 r) oc_worth oc_takenSet oc_isDone, hT), 0, 0)) 5 [(0, .ref 17), (1, .ref 42), (2, .int x2), (3, .int x3), (4, .int x4)] [] ex (HX x_members x_collaterals x_hasSent x_isSealed x_metered x_sealedCount bk_counts bk_needs bk_whens bk_sides bk_quantities bk_limits ag_toldLies ag_passedLies ag_words ag_vectors ag_liarOperator ag_rounds mk_entries mk_slots mk_remainders mk_blocks mk_blockBids mk_blockOffers mk_entryCount mk_blockCount cv_limits cv_bids cv_offers cv_count cv_allBids cv_allOffers cv_meetingPrice cv_sureBids cv_sureOffers cv_priceBids cv_priceOffers cv_volume cv_worth oc_prices oc_volumes (va_up oc_filled 1 o_filled) oc_worth oc_takenSet oc_isDone, hT) 0 0 (f_mk_giveWhole_L5 bk_whens bk_sides bk_quantities bk_limits mk_entries mk_slots mk_entryCount mk_blockCount cv_meetingPrice x2 n o_filled x3 x4) := by
    intro n
    induction n with
    | zero => intro o_filled x3 x4; exact mr_none
    | succ n ih =>
      intro o_filled x3 x4
      rw [f_mk_giveWhole_L5]
      refine mr_iload d_mk_giveWhole_5 rfl ?_
      refine mr_aload_n d_mk_giveWhole_7 rfl rfl ?_
      refine mr_get K_mk 8 d_mk_giveWhole_8 lk_f_mk_41 (by decide) rfl rfl ?_
      refine mr_icmp_ge (tgt := 115) d_mk_giveWhole_11 (by decide) ?_ ?_
      · exact mr_vret d_mk_giveWhole_115 rfl rfl
      · refine mr_aload_n d_mk_giveWhole_14 rfl rfl ?_
        refine mr_get K_mk 0 d_mk_giveWhole_15 lk_f_mk_9 (by decide) rfl rfl ?_
        refine mr_aload_n d_mk_giveWhole_18 rfl rfl ?_
        refine mr_get K_mk 2 d_mk_giveWhole_19 lk_f_mk_22 (by decide) rfl rfl ?_
        refine mr_iload d_mk_giveWhole_22 rfl ?_
        refine mr_iald d_mk_giveWhole_24 rfl (fun hc1 => ?_)
        refine mz_go (st := []) e_bk_isBlock (fun _ => rfl) U_bk_isBlock (mz_vV d_mk_giveWhole_25 U_bk_isBlock rfl lk_m_mk_66 I_bk_isBlock s_bk_isBlock np_bk_isBlock rfl rfl) (Nat.le_of_ble_eq_true rfl) (by decide) (fun r2 => ?_)
        refine mr_eq (st' := [.int r2]) (ex' := ex) (h2 := (HX x_members x_collaterals x_hasSent x_isSealed x_metered x_sealedCount bk_counts bk_needs bk_whens bk_sides bk_quantities bk_limits ag_toldLies ag_passedLies ag_words ag_vectors ag_liarOperator ag_rounds mk_entries mk_slots mk_remainders mk_blocks mk_blockBids mk_blockOffers mk_entryCount mk_blockCount cv_limits cv_bids cv_offers cv_count cv_allBids cv_allOffers cv_meetingPrice cv_sureBids cv_sureOffers cv_priceBids cv_priceOffers cv_volume cv_worth oc_prices oc_volumes (va_up oc_filled 1 o_filled) oc_worth oc_takenSet oc_isDone, hT)) (k' := 0) (n' := 0) rfl rfl rfl rfl rfl ?_
        refine mr_if_eq (tgt := 60) d_mk_giveWhole_28 (by decide) ?_ ?_
        · refine mr_aload_n d_mk_giveWhole_60 rfl rfl ?_
          refine mr_aload_n d_mk_giveWhole_61 rfl rfl ?_
          refine mr_get K_mk 2 d_mk_giveWhole_62 lk_f_mk_22 (by decide) rfl rfl ?_
          refine mr_iload d_mk_giveWhole_65 rfl ?_
          refine mr_ialdK d_mk_giveWhole_67 rfl hc1 ?_
          refine mz_go (st := []) e_mk_isSure (fun _ => rfl) U_mk_isSure (mz_vV d_mk_giveWhole_68 U_mk_isSure rfl lk_m_mk_164 I_mk_isSure s_mk_isSure np_mk_isSure rfl rfl) (Nat.le_of_ble_eq_true rfl) (by decide) (fun r3 => ?_)
          refine mr_eq (st' := [.int r3]) (ex' := ex) (h2 := (HX x_members x_collaterals x_hasSent x_isSealed x_metered x_sealedCount bk_counts bk_needs bk_whens bk_sides bk_quantities bk_limits ag_toldLies ag_passedLies ag_words ag_vectors ag_liarOperator ag_rounds mk_entries mk_slots mk_remainders mk_blocks mk_blockBids mk_blockOffers mk_entryCount mk_blockCount cv_limits cv_bids cv_offers cv_count cv_allBids cv_allOffers cv_meetingPrice cv_sureBids cv_sureOffers cv_priceBids cv_priceOffers cv_volume cv_worth oc_prices oc_volumes (va_up oc_filled 1 o_filled) oc_worth oc_takenSet oc_isDone, hT)) (k' := 0) (n' := 0) rfl rfl rfl rfl rfl ?_
          refine mr_istore (lv' := [(5, .int r3), (0, .ref 17), (1, .ref 42), (2, .int x2), (3, .int x3), (4, .int x4)]) d_mk_giveWhole_71 (by decide) rfl ?_
          refine mr_sub (lv' := [(0, .ref 17), (1, .ref 42), (2, .int x2), (3, .int x3), (4, .int x4), (5, .int r3)]) [1, 2, 3, 4, 5, 0] rfl ?_
          exact w_b73 _ ih _ _ _ _
        · refine mr_iload_n d_mk_giveWhole_31 rfl rfl ?_
          refine mr_aload_n d_mk_giveWhole_32 rfl rfl ?_
          refine mr_get K_mk 9 d_mk_giveWhole_33 lk_f_mk_45 (by decide) rfl rfl ?_
          refine mr_icmp_ge (tgt := 51) d_mk_giveWhole_36 (by decide) ?_ ?_
          · exact w_b51 _ ih _ _ _
          · refine mr_iload_n d_mk_giveWhole_39 rfl rfl ?_
            refine mr_iload_n d_mk_giveWhole_40 rfl rfl ?_
            refine mz_go (st := []) e_mk_isTaken (fun _ => rfl) U_mk_isTaken (mz_vS d_mk_giveWhole_41 U_mk_isTaken lk_m_mk_133 S_mk_isTaken np_mk_isTaken) (Nat.le_of_ble_eq_true rfl) (by decide) (fun r4 => ?_)
            refine mr_eq (st' := [.int r4]) (ex' := ex) (h2 := (HX x_members x_collaterals x_hasSent x_isSealed x_metered x_sealedCount bk_counts bk_needs bk_whens bk_sides bk_quantities bk_limits ag_toldLies ag_passedLies ag_words ag_vectors ag_liarOperator ag_rounds mk_entries mk_slots mk_remainders mk_blocks mk_blockBids mk_blockOffers mk_entryCount mk_blockCount cv_limits cv_bids cv_offers cv_count cv_allBids cv_allOffers cv_meetingPrice cv_sureBids cv_sureOffers cv_priceBids cv_priceOffers cv_volume cv_worth oc_prices oc_volumes (va_up oc_filled 1 o_filled) oc_worth oc_takenSet oc_isDone, hT)) (k' := 0) (n' := 0) rfl rfl rfl rfl rfl ?_
            refine mr_if_eq (tgt := 51) d_mk_giveWhole_44 (by decide) ?_ ?_
            · exact w_b51 _ ih _ _ _
            · refine mr_iconst (v := 1) d_mk_giveWhole_47 mc_iconst_1 ?_
              refine mr_goto (tgt := 52) d_mk_giveWhole_48 (by decide) ?_
              exact w_b52 _ ih _ _ _ _
  refine mz_of (by decide) (Nat.le_of_ble_eq_true rfl) ?_
  rw [f_mk_giveWhole]
  show mz_A g M_mk_giveWhole (mz_rm 1) _ 0 [(0, .ref 17), (1, .ref 42), (2, .int x2)] [] ex (HX x_members x_collaterals x_hasSent x_isSealed x_metered x_sealedCount bk_counts bk_needs bk_whens bk_sides bk_quantities bk_limits ag_toldLies ag_passedLies ag_words ag_vectors ag_liarOperator ag_rounds mk_entries mk_slots mk_remainders mk_blocks mk_blockBids mk_blockOffers mk_entryCount mk_blockCount cv_limits cv_bids cv_offers cv_count cv_allBids cv_allOffers cv_meetingPrice cv_sureBids cv_sureOffers cv_priceBids cv_priceOffers cv_volume cv_worth oc_prices oc_volumes oc_filled oc_worth oc_takenSet oc_isDone, hT) 0 0 _
  refine mr_iconst (v := 0) d_mk_giveWhole_0 mc_iconst_0 ?_
  refine mr_istore_n (lv' := [(3, .int 0), (0, .ref 17), (1, .ref 42), (2, .int x2)]) d_mk_giveWhole_1 rfl (by decide) rfl ?_
  refine mr_iconst (v := 0) d_mk_giveWhole_2 mc_iconst_0 ?_
  refine mr_istore (lv' := [(4, .int 0), (3, .int 0), (0, .ref 17), (1, .ref 42), (2, .int x2)]) d_mk_giveWhole_3 (by decide) rfl ?_
  refine mr_sub (lv' := [(0, .ref 17), (1, .ref 42), (2, .int x2), (3, .int 0), (4, .int 0)]) [2, 3, 4, 1, 0] rfl ?_
  exact w_L5 1000 _ _ _
set_option maxRecDepth 100000 in
set_option maxHeartbeats 4000000 in
theorem e_mk_giveWhole_2 {g : mz_G} {ex : Bool} {hT : List mz_E} {x_members : Int32} {x_collaterals : Nat → Int32} {x_hasSent : Nat → Int32} {x_isSealed : Nat → Int32} {x_metered : Nat → Int32} {x_sealedCount : Int32} {bk_counts : Nat → Int32} {bk_needs : Nat → Int64} {bk_whens : Nat → Int32} {bk_sides : Nat → Int32} {bk_quantities : Nat → Int32} {bk_limits : Nat → Int32} {ag_toldLies : Nat → Int32} {ag_passedLies : Nat → Int32} {ag_words : Nat → Int32} {ag_vectors : Nat → Int32} {ag_liarOperator : Int32} {ag_rounds : Int32} {mk_entries : Nat → Int32} {mk_slots : Nat → Int32} {mk_remainders : Nat → Int32} {mk_blocks : Nat → Int32} {mk_blockBids : Nat → Int32} {mk_blockOffers : Nat → Int32} {mk_entryCount : Int32} {mk_blockCount : Int32} {cv_limits : Nat → Nat → Int32} {cv_bids : Nat → Nat → Int32} {cv_offers : Nat → Nat → Int32} {cv_count : Nat → Int32} {cv_allBids : Nat → Int32} {cv_allOffers : Nat → Int32} {cv_meetingPrice : Nat → Int32} {cv_sureBids : Nat → Int32} {cv_sureOffers : Nat → Int32} {cv_priceBids : Nat → Int32} {cv_priceOffers : Nat → Int32} {cv_volume : Nat → Int32} {cv_worth : Nat → Int64} {oc_prices : Nat → Nat → Int32} {oc_volumes : Nat → Nat → Int32} {oc_filled : Nat → Nat → Int32} {oc_worth : Nat → Int64} {oc_takenSet : Nat → Int32} {oc_isDone : Nat → Int32} {x2 : Int32} : mz_M g M_mk_giveWhole 1 [.ref 17, .ref 46, .int x2] ex (HX x_members x_collaterals x_hasSent x_isSealed x_metered x_sealedCount bk_counts bk_needs bk_whens bk_sides bk_quantities bk_limits ag_toldLies ag_passedLies ag_words ag_vectors ag_liarOperator ag_rounds mk_entries mk_slots mk_remainders mk_blocks mk_blockBids mk_blockOffers mk_entryCount mk_blockCount cv_limits cv_bids cv_offers cv_count cv_allBids cv_allOffers cv_meetingPrice cv_sureBids cv_sureOffers cv_priceBids cv_priceOffers cv_volume cv_worth oc_prices oc_volumes oc_filled oc_worth oc_takenSet oc_isDone, hT) (f_mk_giveWhole bk_whens bk_sides bk_quantities bk_limits mk_entries mk_slots mk_entryCount mk_blockCount cv_meetingPrice (oc_filled 2) x2) (fun r => (0, none, ex, (HX x_members x_collaterals x_hasSent x_isSealed x_metered x_sealedCount bk_counts bk_needs bk_whens bk_sides bk_quantities bk_limits ag_toldLies ag_passedLies ag_words ag_vectors ag_liarOperator ag_rounds mk_entries mk_slots mk_remainders mk_blocks mk_blockBids mk_blockOffers mk_entryCount mk_blockCount cv_limits cv_bids cv_offers cv_count cv_allBids cv_allOffers cv_meetingPrice cv_sureBids cv_sureOffers cv_priceBids cv_priceOffers cv_volume cv_worth oc_prices oc_volumes (va_up oc_filled 2 r) oc_worth oc_takenSet oc_isDone, hT), 0, 0)) := by
  have w_b73 : ∀ (K5 : (Nat → Int32) → Int32 → Int32 → Option ((Nat → Int32))), (∀ (o_filled : Nat → Int32) (x3 : Int32) (x4 : Int32), mz_A g M_mk_giveWhole (mz_rm 1) (fun r => (0, none, ex, (HX x_members x_collaterals x_hasSent x_isSealed x_metered x_sealedCount bk_counts bk_needs bk_whens bk_sides bk_quantities bk_limits ag_toldLies ag_passedLies ag_words ag_vectors ag_liarOperator ag_rounds mk_entries mk_slots mk_remainders mk_blocks mk_blockBids mk_blockOffers mk_entryCount mk_blockCount cv_limits cv_bids cv_offers cv_count cv_allBids cv_allOffers cv_meetingPrice cv_sureBids cv_sureOffers cv_priceBids cv_priceOffers cv_volume cv_worth oc_prices oc_volumes (va_up oc_filled 2 r) oc_worth oc_takenSet oc_isDone, hT), 0, 0)) 5 [(0, .ref 17), (1, .ref 46), (2, .int x2), (3, .int x3), (4, .int x4)] [] ex (HX x_members x_collaterals x_hasSent x_isSealed x_metered x_sealedCount bk_counts bk_needs bk_whens bk_sides bk_quantities bk_limits ag_toldLies ag_passedLies ag_words ag_vectors ag_liarOperator ag_rounds mk_entries mk_slots mk_remainders mk_blocks mk_blockBids mk_blockOffers mk_entryCount mk_blockCount cv_limits cv_bids cv_offers cv_count cv_allBids cv_allOffers cv_meetingPrice cv_sureBids cv_sureOffers cv_priceBids cv_priceOffers cv_volume cv_worth oc_prices oc_volumes (va_up oc_filled 2 o_filled) oc_worth oc_takenSet oc_isDone, hT) 0 0 (K5 o_filled x3 x4)) → ∀ (o_filled : Nat → Int32) (x3 : Int32) (x4 : Int32) (x5 : Int32), mz_A g M_mk_giveWhole (mz_rm 1) (fun r => (0, none, ex, (HX x_members x_collaterals x_hasSent x_isSealed x_metered x_sealedCount bk_counts bk_needs bk_whens bk_sides bk_quantities bk_limits ag_toldLies ag_passedLies ag_words ag_vectors ag_liarOperator ag_rounds mk_entries mk_slots mk_remainders mk_blocks mk_blockBids mk_blockOffers mk_entryCount mk_blockCount cv_limits cv_bids cv_offers cv_count cv_allBids cv_allOffers cv_meetingPrice cv_sureBids cv_sureOffers cv_priceBids cv_priceOffers cv_volume cv_worth oc_prices oc_volumes (va_up oc_filled 2 r) oc_worth oc_takenSet oc_isDone, hT), 0, 0)) 73 [(0, .ref 17), (1, .ref 46), (2, .int x2), (3, .int x3), (4, .int x4), (5, .int x5)] [] ex (HX x_members x_collaterals x_hasSent x_isSealed x_metered x_sealedCount bk_counts bk_needs bk_whens bk_sides bk_quantities bk_limits ag_toldLies ag_passedLies ag_words ag_vectors ag_liarOperator ag_rounds mk_entries mk_slots mk_remainders mk_blocks mk_blockBids mk_blockOffers mk_entryCount mk_blockCount cv_limits cv_bids cv_offers cv_count cv_allBids cv_allOffers cv_meetingPrice cv_sureBids cv_sureOffers cv_priceBids cv_priceOffers cv_volume cv_worth oc_prices oc_volumes (va_up oc_filled 2 o_filled) oc_worth oc_takenSet oc_isDone, hT) 0 0 (f_mk_giveWhole_b73 bk_whens bk_sides bk_quantities bk_limits mk_entries mk_slots mk_entryCount mk_blockCount cv_meetingPrice x2 K5 o_filled x3 x4 x5) := by
    intro K5 hK5 o_filled x3 x4 x5
    rw [f_mk_giveWhole_b73]
    refine mr_aload_n d_mk_giveWhole_73 rfl rfl ?_
    refine mr_getN K_o 2 d_mk_giveWhole_74 lk_f_mk_167 (by decide) rfl rfl ?_
    refine mr_aload_n d_mk_giveWhole_77 rfl rfl ?_
    refine mr_get K_mk 3 d_mk_giveWhole_78 lk_f_mk_26 (by decide) rfl rfl ?_
    refine mr_iload d_mk_giveWhole_81 rfl ?_
    refine mr_iald d_mk_giveWhole_83 rfl (fun hc5 => ?_)
    refine mr_iload d_mk_giveWhole_84 rfl ?_
    refine mr_if_eq (tgt := 107) d_mk_giveWhole_86 (by decide) ?_ ?_
    · refine mr_iconst (v := 0) d_mk_giveWhole_107 mc_iconst_0 ?_
      refine mr_iast (h2 := (HX x_members x_collaterals x_hasSent x_isSealed x_metered x_sealedCount bk_counts bk_needs bk_whens bk_sides bk_quantities bk_limits ag_toldLies ag_passedLies ag_words ag_vectors ag_liarOperator ag_rounds mk_entries mk_slots mk_remainders mk_blocks mk_blockBids mk_blockOffers mk_entryCount mk_blockCount cv_limits cv_bids cv_offers cv_count cv_allBids cv_allOffers cv_meetingPrice cv_sureBids cv_sureOffers cv_priceBids cv_priceOffers cv_volume cv_worth oc_prices oc_volumes (va_up oc_filled 2 (upd o_filled (mk_slots x4.toNatClampNeg).toNatClampNeg 0)) oc_worth oc_takenSet oc_isDone, hT)) d_mk_giveWhole_108 rfl rfl (fun hc6 => ?_)
      refine mr_iinc (v := (x4 + 1)) (lv' := [(4, .int (x4 + 1)), (0, .ref 17), (1, .ref 46), (2, .int x2), (3, .int x3), (5, .int x5)]) d_mk_giveWhole_109 rfl rfl (by decide) rfl ?_
      refine mr_goto (tgt := 5) d_mk_giveWhole_112 (by decide) ?_
      refine mr_sub (lv' := [(0, .ref 17), (1, .ref 46), (2, .int x2), (3, .int x3), (4, .int (x4 + 1))]) [1, 2, 3, 4, 0] rfl ?_
      exact hK5 _ _ _
    · refine mr_aload_n d_mk_giveWhole_89 rfl rfl ?_
      refine mr_get K_mk 0 d_mk_giveWhole_90 lk_f_mk_9 (by decide) rfl rfl ?_
      refine mr_getN K_bk 4 d_mk_giveWhole_93 lk_f_mk_76 (by decide) rfl rfl ?_
      refine mr_aload_n d_mk_giveWhole_96 rfl rfl ?_
      refine mr_get K_mk 2 d_mk_giveWhole_97 lk_f_mk_22 (by decide) rfl rfl ?_
      refine mr_iload d_mk_giveWhole_100 rfl ?_
      refine mr_ialdK d_mk_giveWhole_102 rfl hc5 ?_
      refine mr_iald d_mk_giveWhole_103 rfl (fun hc7 => ?_)
      refine mr_goto (tgt := 108) d_mk_giveWhole_104 (by decide) ?_
      refine mr_iast (h2 := (HX x_members x_collaterals x_hasSent x_isSealed x_metered x_sealedCount bk_counts bk_needs bk_whens bk_sides bk_quantities bk_limits ag_toldLies ag_passedLies ag_words ag_vectors ag_liarOperator ag_rounds mk_entries mk_slots mk_remainders mk_blocks mk_blockBids mk_blockOffers mk_entryCount mk_blockCount cv_limits cv_bids cv_offers cv_count cv_allBids cv_allOffers cv_meetingPrice cv_sureBids cv_sureOffers cv_priceBids cv_priceOffers cv_volume cv_worth oc_prices oc_volumes (va_up oc_filled 2 (upd o_filled (mk_slots x4.toNatClampNeg).toNatClampNeg (bk_quantities (mk_entries x4.toNatClampNeg).toNatClampNeg))) oc_worth oc_takenSet oc_isDone, hT)) d_mk_giveWhole_108 rfl rfl (fun hc8 => ?_)
      refine mr_iinc (v := (x4 + 1)) (lv' := [(4, .int (x4 + 1)), (0, .ref 17), (1, .ref 46), (2, .int x2), (3, .int x3), (5, .int x5)]) d_mk_giveWhole_109 rfl rfl (by decide) rfl ?_
      refine mr_goto (tgt := 5) d_mk_giveWhole_112 (by decide) ?_
      refine mr_sub (lv' := [(0, .ref 17), (1, .ref 46), (2, .int x2), (3, .int x3), (4, .int (x4 + 1))]) [1, 2, 3, 4, 0] rfl ?_
      exact hK5 _ _ _
  have w_b52 : ∀ (K5 : (Nat → Int32) → Int32 → Int32 → Option ((Nat → Int32))), (∀ (o_filled : Nat → Int32) (x3 : Int32) (x4 : Int32), mz_A g M_mk_giveWhole (mz_rm 1) (fun r => (0, none, ex, (HX x_members x_collaterals x_hasSent x_isSealed x_metered x_sealedCount bk_counts bk_needs bk_whens bk_sides bk_quantities bk_limits ag_toldLies ag_passedLies ag_words ag_vectors ag_liarOperator ag_rounds mk_entries mk_slots mk_remainders mk_blocks mk_blockBids mk_blockOffers mk_entryCount mk_blockCount cv_limits cv_bids cv_offers cv_count cv_allBids cv_allOffers cv_meetingPrice cv_sureBids cv_sureOffers cv_priceBids cv_priceOffers cv_volume cv_worth oc_prices oc_volumes (va_up oc_filled 2 r) oc_worth oc_takenSet oc_isDone, hT), 0, 0)) 5 [(0, .ref 17), (1, .ref 46), (2, .int x2), (3, .int x3), (4, .int x4)] [] ex (HX x_members x_collaterals x_hasSent x_isSealed x_metered x_sealedCount bk_counts bk_needs bk_whens bk_sides bk_quantities bk_limits ag_toldLies ag_passedLies ag_words ag_vectors ag_liarOperator ag_rounds mk_entries mk_slots mk_remainders mk_blocks mk_blockBids mk_blockOffers mk_entryCount mk_blockCount cv_limits cv_bids cv_offers cv_count cv_allBids cv_allOffers cv_meetingPrice cv_sureBids cv_sureOffers cv_priceBids cv_priceOffers cv_volume cv_worth oc_prices oc_volumes (va_up oc_filled 2 o_filled) oc_worth oc_takenSet oc_isDone, hT) 0 0 (K5 o_filled x3 x4)) → ∀ (o_filled : Nat → Int32) (x3 : Int32) (x4 : Int32) (s0 : Int32), mz_A g M_mk_giveWhole (mz_rm 1) (fun r => (0, none, ex, (HX x_members x_collaterals x_hasSent x_isSealed x_metered x_sealedCount bk_counts bk_needs bk_whens bk_sides bk_quantities bk_limits ag_toldLies ag_passedLies ag_words ag_vectors ag_liarOperator ag_rounds mk_entries mk_slots mk_remainders mk_blocks mk_blockBids mk_blockOffers mk_entryCount mk_blockCount cv_limits cv_bids cv_offers cv_count cv_allBids cv_allOffers cv_meetingPrice cv_sureBids cv_sureOffers cv_priceBids cv_priceOffers cv_volume cv_worth oc_prices oc_volumes (va_up oc_filled 2 r) oc_worth oc_takenSet oc_isDone, hT), 0, 0)) 52 [(0, .ref 17), (1, .ref 46), (2, .int x2), (3, .int x3), (4, .int x4)] [.int s0] ex (HX x_members x_collaterals x_hasSent x_isSealed x_metered x_sealedCount bk_counts bk_needs bk_whens bk_sides bk_quantities bk_limits ag_toldLies ag_passedLies ag_words ag_vectors ag_liarOperator ag_rounds mk_entries mk_slots mk_remainders mk_blocks mk_blockBids mk_blockOffers mk_entryCount mk_blockCount cv_limits cv_bids cv_offers cv_count cv_allBids cv_allOffers cv_meetingPrice cv_sureBids cv_sureOffers cv_priceBids cv_priceOffers cv_volume cv_worth oc_prices oc_volumes (va_up oc_filled 2 o_filled) oc_worth oc_takenSet oc_isDone, hT) 0 0 (f_mk_giveWhole_b52 bk_whens bk_sides bk_quantities bk_limits mk_entries mk_slots mk_entryCount mk_blockCount cv_meetingPrice x2 K5 o_filled x3 x4 s0) := by
    intro K5 hK5 o_filled x3 x4 s0
    rw [f_mk_giveWhole_b52]
    refine mr_istore (lv' := [(5, .int s0), (0, .ref 17), (1, .ref 46), (2, .int x2), (3, .int x3), (4, .int x4)]) d_mk_giveWhole_52 (by decide) rfl ?_
    refine mr_iinc (v := (x3 + 1)) (lv' := [(3, .int (x3 + 1)), (5, .int s0), (0, .ref 17), (1, .ref 46), (2, .int x2), (4, .int x4)]) d_mk_giveWhole_54 rfl rfl (by decide) rfl ?_
    refine mr_goto (tgt := 73) d_mk_giveWhole_57 (by decide) ?_
    refine mr_sub (lv' := [(0, .ref 17), (1, .ref 46), (2, .int x2), (3, .int (x3 + 1)), (4, .int x4), (5, .int s0)]) [2, 3, 4, 0, 5, 1] rfl ?_
    exact w_b73 _ hK5 _ _ _ _
  have w_b51 : ∀ (K5 : (Nat → Int32) → Int32 → Int32 → Option ((Nat → Int32))), (∀ (o_filled : Nat → Int32) (x3 : Int32) (x4 : Int32), mz_A g M_mk_giveWhole (mz_rm 1) (fun r => (0, none, ex, (HX x_members x_collaterals x_hasSent x_isSealed x_metered x_sealedCount bk_counts bk_needs bk_whens bk_sides bk_quantities bk_limits ag_toldLies ag_passedLies ag_words ag_vectors ag_liarOperator ag_rounds mk_entries mk_slots mk_remainders mk_blocks mk_blockBids mk_blockOffers mk_entryCount mk_blockCount cv_limits cv_bids cv_offers cv_count cv_allBids cv_allOffers cv_meetingPrice cv_sureBids cv_sureOffers cv_priceBids cv_priceOffers cv_volume cv_worth oc_prices oc_volumes (va_up oc_filled 2 r) oc_worth oc_takenSet oc_isDone, hT), 0, 0)) 5 [(0, .ref 17), (1, .ref 46), (2, .int x2), (3, .int x3), (4, .int x4)] [] ex (HX x_members x_collaterals x_hasSent x_isSealed x_metered x_sealedCount bk_counts bk_needs bk_whens bk_sides bk_quantities bk_limits ag_toldLies ag_passedLies ag_words ag_vectors ag_liarOperator ag_rounds mk_entries mk_slots mk_remainders mk_blocks mk_blockBids mk_blockOffers mk_entryCount mk_blockCount cv_limits cv_bids cv_offers cv_count cv_allBids cv_allOffers cv_meetingPrice cv_sureBids cv_sureOffers cv_priceBids cv_priceOffers cv_volume cv_worth oc_prices oc_volumes (va_up oc_filled 2 o_filled) oc_worth oc_takenSet oc_isDone, hT) 0 0 (K5 o_filled x3 x4)) → ∀ (o_filled : Nat → Int32) (x3 : Int32) (x4 : Int32), mz_A g M_mk_giveWhole (mz_rm 1) (fun r => (0, none, ex, (HX x_members x_collaterals x_hasSent x_isSealed x_metered x_sealedCount bk_counts bk_needs bk_whens bk_sides bk_quantities bk_limits ag_toldLies ag_passedLies ag_words ag_vectors ag_liarOperator ag_rounds mk_entries mk_slots mk_remainders mk_blocks mk_blockBids mk_blockOffers mk_entryCount mk_blockCount cv_limits cv_bids cv_offers cv_count cv_allBids cv_allOffers cv_meetingPrice cv_sureBids cv_sureOffers cv_priceBids cv_priceOffers cv_volume cv_worth oc_prices oc_volumes (va_up oc_filled 2 r) oc_worth oc_takenSet oc_isDone, hT), 0, 0)) 51 [(0, .ref 17), (1, .ref 46), (2, .int x2), (3, .int x3), (4, .int x4)] [] ex (HX x_members x_collaterals x_hasSent x_isSealed x_metered x_sealedCount bk_counts bk_needs bk_whens bk_sides bk_quantities bk_limits ag_toldLies ag_passedLies ag_words ag_vectors ag_liarOperator ag_rounds mk_entries mk_slots mk_remainders mk_blocks mk_blockBids mk_blockOffers mk_entryCount mk_blockCount cv_limits cv_bids cv_offers cv_count cv_allBids cv_allOffers cv_meetingPrice cv_sureBids cv_sureOffers cv_priceBids cv_priceOffers cv_volume cv_worth oc_prices oc_volumes (va_up oc_filled 2 o_filled) oc_worth oc_takenSet oc_isDone, hT) 0 0 (f_mk_giveWhole_b51 bk_whens bk_sides bk_quantities bk_limits mk_entries mk_slots mk_entryCount mk_blockCount cv_meetingPrice x2 K5 o_filled x3 x4) := by
    intro K5 hK5 o_filled x3 x4
    rw [f_mk_giveWhole_b51]
    refine mr_iconst (v := 0) d_mk_giveWhole_51 mc_iconst_0 ?_
    exact w_b52 _ hK5 _ _ _ _
  have w_L5 : ∀ (n : Nat) (o_filled : Nat → Int32) (x3 : Int32) (x4 : Int32), mz_A g M_mk_giveWhole (mz_rm 1) (fun r => (0, none, ex, (HX x_members x_collaterals x_hasSent x_isSealed x_metered x_sealedCount bk_counts bk_needs bk_whens bk_sides bk_quantities bk_limits ag_toldLies ag_passedLies ag_words ag_vectors ag_liarOperator ag_rounds mk_entries mk_slots mk_remainders mk_blocks mk_blockBids mk_blockOffers mk_entryCount mk_blockCount cv_limits cv_bids cv_offers cv_count cv_allBids cv_allOffers cv_meetingPrice cv_sureBids cv_sureOffers cv_priceBids cv_priceOffers cv_volume cv_worth oc_prices oc_volumes (va_up oc_filled 2 r) oc_worth oc_takenSet oc_isDone, hT), 0, 0)) 5 [(0, .ref 17), (1, .ref 46), (2, .int x2), (3, .int x3), (4, .int x4)] [] ex (HX x_members x_collaterals x_hasSent x_isSealed x_metered x_sealedCount bk_counts bk_needs bk_whens bk_sides bk_quantities bk_limits ag_toldLies ag_passedLies ag_words ag_vectors ag_liarOperator ag_rounds mk_entries mk_slots mk_remainders mk_blocks mk_blockBids mk_blockOffers mk_entryCount mk_blockCount cv_limits cv_bids cv_offers cv_count cv_allBids cv_allOffers cv_meetingPrice cv_sureBids cv_sureOffers cv_priceBids cv_priceOffers cv_volume cv_worth oc_prices oc_volumes (va_up oc_filled 2 o_filled) oc_worth oc_takenSet oc_isDone, hT) 0 0 (f_mk_giveWhole_L5 bk_whens bk_sides bk_quantities bk_limits mk_entries mk_slots mk_entryCount mk_blockCount cv_meetingPrice x2 n o_filled x3 x4) := by
    intro n
    induction n with
    | zero => intro o_filled x3 x4; exact mr_none
    | succ n ih =>
      intro o_filled x3 x4
      rw [f_mk_giveWhole_L5]
      refine mr_iload d_mk_giveWhole_5 rfl ?_
      refine mr_aload_n d_mk_giveWhole_7 rfl rfl ?_
      refine mr_get K_mk 8 d_mk_giveWhole_8 lk_f_mk_41 (by decide) rfl rfl ?_
      refine mr_icmp_ge (tgt := 115) d_mk_giveWhole_11 (by decide) ?_ ?_
      · exact mr_vret d_mk_giveWhole_115 rfl rfl
      · refine mr_aload_n d_mk_giveWhole_14 rfl rfl ?_
        refine mr_get K_mk 0 d_mk_giveWhole_15 lk_f_mk_9 (by decide) rfl rfl ?_
        refine mr_aload_n d_mk_giveWhole_18 rfl rfl ?_
        refine mr_get K_mk 2 d_mk_giveWhole_19 lk_f_mk_22 (by decide) rfl rfl ?_
        refine mr_iload d_mk_giveWhole_22 rfl ?_
        refine mr_iald d_mk_giveWhole_24 rfl (fun hc1 => ?_)
        refine mz_go (st := []) e_bk_isBlock (fun _ => rfl) U_bk_isBlock (mz_vV d_mk_giveWhole_25 U_bk_isBlock rfl lk_m_mk_66 I_bk_isBlock s_bk_isBlock np_bk_isBlock rfl rfl) (Nat.le_of_ble_eq_true rfl) (by decide) (fun r2 => ?_)
        refine mr_eq (st' := [.int r2]) (ex' := ex) (h2 := (HX x_members x_collaterals x_hasSent x_isSealed x_metered x_sealedCount bk_counts bk_needs bk_whens bk_sides bk_quantities bk_limits ag_toldLies ag_passedLies ag_words ag_vectors ag_liarOperator ag_rounds mk_entries mk_slots mk_remainders mk_blocks mk_blockBids mk_blockOffers mk_entryCount mk_blockCount cv_limits cv_bids cv_offers cv_count cv_allBids cv_allOffers cv_meetingPrice cv_sureBids cv_sureOffers cv_priceBids cv_priceOffers cv_volume cv_worth oc_prices oc_volumes (va_up oc_filled 2 o_filled) oc_worth oc_takenSet oc_isDone, hT)) (k' := 0) (n' := 0) rfl rfl rfl rfl rfl ?_
        refine mr_if_eq (tgt := 60) d_mk_giveWhole_28 (by decide) ?_ ?_
        · refine mr_aload_n d_mk_giveWhole_60 rfl rfl ?_
          refine mr_aload_n d_mk_giveWhole_61 rfl rfl ?_
          refine mr_get K_mk 2 d_mk_giveWhole_62 lk_f_mk_22 (by decide) rfl rfl ?_
          refine mr_iload d_mk_giveWhole_65 rfl ?_
          refine mr_ialdK d_mk_giveWhole_67 rfl hc1 ?_
          refine mz_go (st := []) e_mk_isSure (fun _ => rfl) U_mk_isSure (mz_vV d_mk_giveWhole_68 U_mk_isSure rfl lk_m_mk_164 I_mk_isSure s_mk_isSure np_mk_isSure rfl rfl) (Nat.le_of_ble_eq_true rfl) (by decide) (fun r3 => ?_)
          refine mr_eq (st' := [.int r3]) (ex' := ex) (h2 := (HX x_members x_collaterals x_hasSent x_isSealed x_metered x_sealedCount bk_counts bk_needs bk_whens bk_sides bk_quantities bk_limits ag_toldLies ag_passedLies ag_words ag_vectors ag_liarOperator ag_rounds mk_entries mk_slots mk_remainders mk_blocks mk_blockBids mk_blockOffers mk_entryCount mk_blockCount cv_limits cv_bids cv_offers cv_count cv_allBids cv_allOffers cv_meetingPrice cv_sureBids cv_sureOffers cv_priceBids cv_priceOffers cv_volume cv_worth oc_prices oc_volumes (va_up oc_filled 2 o_filled) oc_worth oc_takenSet oc_isDone, hT)) (k' := 0) (n' := 0) rfl rfl rfl rfl rfl ?_
          refine mr_istore (lv' := [(5, .int r3), (0, .ref 17), (1, .ref 46), (2, .int x2), (3, .int x3), (4, .int x4)]) d_mk_giveWhole_71 (by decide) rfl ?_
          refine mr_sub (lv' := [(0, .ref 17), (1, .ref 46), (2, .int x2), (3, .int x3), (4, .int x4), (5, .int r3)]) [1, 2, 3, 4, 5, 0] rfl ?_
          exact w_b73 _ ih _ _ _ _
        · refine mr_iload_n d_mk_giveWhole_31 rfl rfl ?_
          refine mr_aload_n d_mk_giveWhole_32 rfl rfl ?_
          refine mr_get K_mk 9 d_mk_giveWhole_33 lk_f_mk_45 (by decide) rfl rfl ?_
          refine mr_icmp_ge (tgt := 51) d_mk_giveWhole_36 (by decide) ?_ ?_
          · exact w_b51 _ ih _ _ _
          · refine mr_iload_n d_mk_giveWhole_39 rfl rfl ?_
            refine mr_iload_n d_mk_giveWhole_40 rfl rfl ?_
            refine mz_go (st := []) e_mk_isTaken (fun _ => rfl) U_mk_isTaken (mz_vS d_mk_giveWhole_41 U_mk_isTaken lk_m_mk_133 S_mk_isTaken np_mk_isTaken) (Nat.le_of_ble_eq_true rfl) (by decide) (fun r4 => ?_)
            refine mr_eq (st' := [.int r4]) (ex' := ex) (h2 := (HX x_members x_collaterals x_hasSent x_isSealed x_metered x_sealedCount bk_counts bk_needs bk_whens bk_sides bk_quantities bk_limits ag_toldLies ag_passedLies ag_words ag_vectors ag_liarOperator ag_rounds mk_entries mk_slots mk_remainders mk_blocks mk_blockBids mk_blockOffers mk_entryCount mk_blockCount cv_limits cv_bids cv_offers cv_count cv_allBids cv_allOffers cv_meetingPrice cv_sureBids cv_sureOffers cv_priceBids cv_priceOffers cv_volume cv_worth oc_prices oc_volumes (va_up oc_filled 2 o_filled) oc_worth oc_takenSet oc_isDone, hT)) (k' := 0) (n' := 0) rfl rfl rfl rfl rfl ?_
            refine mr_if_eq (tgt := 51) d_mk_giveWhole_44 (by decide) ?_ ?_
            · exact w_b51 _ ih _ _ _
            · refine mr_iconst (v := 1) d_mk_giveWhole_47 mc_iconst_1 ?_
              refine mr_goto (tgt := 52) d_mk_giveWhole_48 (by decide) ?_
              exact w_b52 _ ih _ _ _ _
  refine mz_of (by decide) (Nat.le_of_ble_eq_true rfl) ?_
  rw [f_mk_giveWhole]
  show mz_A g M_mk_giveWhole (mz_rm 1) _ 0 [(0, .ref 17), (1, .ref 46), (2, .int x2)] [] ex (HX x_members x_collaterals x_hasSent x_isSealed x_metered x_sealedCount bk_counts bk_needs bk_whens bk_sides bk_quantities bk_limits ag_toldLies ag_passedLies ag_words ag_vectors ag_liarOperator ag_rounds mk_entries mk_slots mk_remainders mk_blocks mk_blockBids mk_blockOffers mk_entryCount mk_blockCount cv_limits cv_bids cv_offers cv_count cv_allBids cv_allOffers cv_meetingPrice cv_sureBids cv_sureOffers cv_priceBids cv_priceOffers cv_volume cv_worth oc_prices oc_volumes oc_filled oc_worth oc_takenSet oc_isDone, hT) 0 0 _
  refine mr_iconst (v := 0) d_mk_giveWhole_0 mc_iconst_0 ?_
  refine mr_istore_n (lv' := [(3, .int 0), (0, .ref 17), (1, .ref 46), (2, .int x2)]) d_mk_giveWhole_1 rfl (by decide) rfl ?_
  refine mr_iconst (v := 0) d_mk_giveWhole_2 mc_iconst_0 ?_
  refine mr_istore (lv' := [(4, .int 0), (3, .int 0), (0, .ref 17), (1, .ref 46), (2, .int x2)]) d_mk_giveWhole_3 (by decide) rfl ?_
  refine mr_sub (lv' := [(0, .ref 17), (1, .ref 46), (2, .int x2), (3, .int 0), (4, .int 0)]) [2, 3, 4, 1, 0] rfl ?_
  exact w_L5 1000 _ _ _
set_option maxRecDepth 100000 in
set_option maxHeartbeats 4000000 in
theorem e_mk_giveWhole_3 {g : mz_G} {ex : Bool} {hT : List mz_E} {x_members : Int32} {x_collaterals : Nat → Int32} {x_hasSent : Nat → Int32} {x_isSealed : Nat → Int32} {x_metered : Nat → Int32} {x_sealedCount : Int32} {bk_counts : Nat → Int32} {bk_needs : Nat → Int64} {bk_whens : Nat → Int32} {bk_sides : Nat → Int32} {bk_quantities : Nat → Int32} {bk_limits : Nat → Int32} {ag_toldLies : Nat → Int32} {ag_passedLies : Nat → Int32} {ag_words : Nat → Int32} {ag_vectors : Nat → Int32} {ag_liarOperator : Int32} {ag_rounds : Int32} {mk_entries : Nat → Int32} {mk_slots : Nat → Int32} {mk_remainders : Nat → Int32} {mk_blocks : Nat → Int32} {mk_blockBids : Nat → Int32} {mk_blockOffers : Nat → Int32} {mk_entryCount : Int32} {mk_blockCount : Int32} {cv_limits : Nat → Nat → Int32} {cv_bids : Nat → Nat → Int32} {cv_offers : Nat → Nat → Int32} {cv_count : Nat → Int32} {cv_allBids : Nat → Int32} {cv_allOffers : Nat → Int32} {cv_meetingPrice : Nat → Int32} {cv_sureBids : Nat → Int32} {cv_sureOffers : Nat → Int32} {cv_priceBids : Nat → Int32} {cv_priceOffers : Nat → Int32} {cv_volume : Nat → Int32} {cv_worth : Nat → Int64} {oc_prices : Nat → Nat → Int32} {oc_volumes : Nat → Nat → Int32} {oc_filled : Nat → Nat → Int32} {oc_worth : Nat → Int64} {oc_takenSet : Nat → Int32} {oc_isDone : Nat → Int32} {x2 : Int32} : mz_M g M_mk_giveWhole 1 [.ref 17, .ref 50, .int x2] ex (HX x_members x_collaterals x_hasSent x_isSealed x_metered x_sealedCount bk_counts bk_needs bk_whens bk_sides bk_quantities bk_limits ag_toldLies ag_passedLies ag_words ag_vectors ag_liarOperator ag_rounds mk_entries mk_slots mk_remainders mk_blocks mk_blockBids mk_blockOffers mk_entryCount mk_blockCount cv_limits cv_bids cv_offers cv_count cv_allBids cv_allOffers cv_meetingPrice cv_sureBids cv_sureOffers cv_priceBids cv_priceOffers cv_volume cv_worth oc_prices oc_volumes oc_filled oc_worth oc_takenSet oc_isDone, hT) (f_mk_giveWhole bk_whens bk_sides bk_quantities bk_limits mk_entries mk_slots mk_entryCount mk_blockCount cv_meetingPrice (oc_filled 3) x2) (fun r => (0, none, ex, (HX x_members x_collaterals x_hasSent x_isSealed x_metered x_sealedCount bk_counts bk_needs bk_whens bk_sides bk_quantities bk_limits ag_toldLies ag_passedLies ag_words ag_vectors ag_liarOperator ag_rounds mk_entries mk_slots mk_remainders mk_blocks mk_blockBids mk_blockOffers mk_entryCount mk_blockCount cv_limits cv_bids cv_offers cv_count cv_allBids cv_allOffers cv_meetingPrice cv_sureBids cv_sureOffers cv_priceBids cv_priceOffers cv_volume cv_worth oc_prices oc_volumes (va_up oc_filled 3 r) oc_worth oc_takenSet oc_isDone, hT), 0, 0)) := by
  have w_b73 : ∀ (K5 : (Nat → Int32) → Int32 → Int32 → Option ((Nat → Int32))), (∀ (o_filled : Nat → Int32) (x3 : Int32) (x4 : Int32), mz_A g M_mk_giveWhole (mz_rm 1) (fun r => (0, none, ex, (HX x_members x_collaterals x_hasSent x_isSealed x_metered x_sealedCount bk_counts bk_needs bk_whens bk_sides bk_quantities bk_limits ag_toldLies ag_passedLies ag_words ag_vectors ag_liarOperator ag_rounds mk_entries mk_slots mk_remainders mk_blocks mk_blockBids mk_blockOffers mk_entryCount mk_blockCount cv_limits cv_bids cv_offers cv_count cv_allBids cv_allOffers cv_meetingPrice cv_sureBids cv_sureOffers cv_priceBids cv_priceOffers cv_volume cv_worth oc_prices oc_volumes (va_up oc_filled 3 r) oc_worth oc_takenSet oc_isDone, hT), 0, 0)) 5 [(0, .ref 17), (1, .ref 50), (2, .int x2), (3, .int x3), (4, .int x4)] [] ex (HX x_members x_collaterals x_hasSent x_isSealed x_metered x_sealedCount bk_counts bk_needs bk_whens bk_sides bk_quantities bk_limits ag_toldLies ag_passedLies ag_words ag_vectors ag_liarOperator ag_rounds mk_entries mk_slots mk_remainders mk_blocks mk_blockBids mk_blockOffers mk_entryCount mk_blockCount cv_limits cv_bids cv_offers cv_count cv_allBids cv_allOffers cv_meetingPrice cv_sureBids cv_sureOffers cv_priceBids cv_priceOffers cv_volume cv_worth oc_prices oc_volumes (va_up oc_filled 3 o_filled) oc_worth oc_takenSet oc_isDone, hT) 0 0 (K5 o_filled x3 x4)) → ∀ (o_filled : Nat → Int32) (x3 : Int32) (x4 : Int32) (x5 : Int32), mz_A g M_mk_giveWhole (mz_rm 1) (fun r => (0, none, ex, (HX x_members x_collaterals x_hasSent x_isSealed x_metered x_sealedCount bk_counts bk_needs bk_whens bk_sides bk_quantities bk_limits ag_toldLies ag_passedLies ag_words ag_vectors ag_liarOperator ag_rounds mk_entries mk_slots mk_remainders mk_blocks mk_blockBids mk_blockOffers mk_entryCount mk_blockCount cv_limits cv_bids cv_offers cv_count cv_allBids cv_allOffers cv_meetingPrice cv_sureBids cv_sureOffers cv_priceBids cv_priceOffers cv_volume cv_worth oc_prices oc_volumes (va_up oc_filled 3 r) oc_worth oc_takenSet oc_isDone, hT), 0, 0)) 73 [(0, .ref 17), (1, .ref 50), (2, .int x2), (3, .int x3), (4, .int x4), (5, .int x5)] [] ex (HX x_members x_collaterals x_hasSent x_isSealed x_metered x_sealedCount bk_counts bk_needs bk_whens bk_sides bk_quantities bk_limits ag_toldLies ag_passedLies ag_words ag_vectors ag_liarOperator ag_rounds mk_entries mk_slots mk_remainders mk_blocks mk_blockBids mk_blockOffers mk_entryCount mk_blockCount cv_limits cv_bids cv_offers cv_count cv_allBids cv_allOffers cv_meetingPrice cv_sureBids cv_sureOffers cv_priceBids cv_priceOffers cv_volume cv_worth oc_prices oc_volumes (va_up oc_filled 3 o_filled) oc_worth oc_takenSet oc_isDone, hT) 0 0 (f_mk_giveWhole_b73 bk_whens bk_sides bk_quantities bk_limits mk_entries mk_slots mk_entryCount mk_blockCount cv_meetingPrice x2 K5 o_filled x3 x4 x5) := by
    intro K5 hK5 o_filled x3 x4 x5
    rw [f_mk_giveWhole_b73]
    refine mr_aload_n d_mk_giveWhole_73 rfl rfl ?_
    refine mr_getN K_o 2 d_mk_giveWhole_74 lk_f_mk_167 (by decide) rfl rfl ?_
    refine mr_aload_n d_mk_giveWhole_77 rfl rfl ?_
    refine mr_get K_mk 3 d_mk_giveWhole_78 lk_f_mk_26 (by decide) rfl rfl ?_
    refine mr_iload d_mk_giveWhole_81 rfl ?_
    refine mr_iald d_mk_giveWhole_83 rfl (fun hc5 => ?_)
    refine mr_iload d_mk_giveWhole_84 rfl ?_
    refine mr_if_eq (tgt := 107) d_mk_giveWhole_86 (by decide) ?_ ?_
    · refine mr_iconst (v := 0) d_mk_giveWhole_107 mc_iconst_0 ?_
      refine mr_iast (h2 := (HX x_members x_collaterals x_hasSent x_isSealed x_metered x_sealedCount bk_counts bk_needs bk_whens bk_sides bk_quantities bk_limits ag_toldLies ag_passedLies ag_words ag_vectors ag_liarOperator ag_rounds mk_entries mk_slots mk_remainders mk_blocks mk_blockBids mk_blockOffers mk_entryCount mk_blockCount cv_limits cv_bids cv_offers cv_count cv_allBids cv_allOffers cv_meetingPrice cv_sureBids cv_sureOffers cv_priceBids cv_priceOffers cv_volume cv_worth oc_prices oc_volumes (va_up oc_filled 3 (upd o_filled (mk_slots x4.toNatClampNeg).toNatClampNeg 0)) oc_worth oc_takenSet oc_isDone, hT)) d_mk_giveWhole_108 rfl rfl (fun hc6 => ?_)
      refine mr_iinc (v := (x4 + 1)) (lv' := [(4, .int (x4 + 1)), (0, .ref 17), (1, .ref 50), (2, .int x2), (3, .int x3), (5, .int x5)]) d_mk_giveWhole_109 rfl rfl (by decide) rfl ?_
      refine mr_goto (tgt := 5) d_mk_giveWhole_112 (by decide) ?_
      refine mr_sub (lv' := [(0, .ref 17), (1, .ref 50), (2, .int x2), (3, .int x3), (4, .int (x4 + 1))]) [1, 2, 3, 4, 0] rfl ?_
      exact hK5 _ _ _
    · refine mr_aload_n d_mk_giveWhole_89 rfl rfl ?_
      refine mr_get K_mk 0 d_mk_giveWhole_90 lk_f_mk_9 (by decide) rfl rfl ?_
      refine mr_getN K_bk 4 d_mk_giveWhole_93 lk_f_mk_76 (by decide) rfl rfl ?_
      refine mr_aload_n d_mk_giveWhole_96 rfl rfl ?_
      refine mr_get K_mk 2 d_mk_giveWhole_97 lk_f_mk_22 (by decide) rfl rfl ?_
      refine mr_iload d_mk_giveWhole_100 rfl ?_
      refine mr_ialdK d_mk_giveWhole_102 rfl hc5 ?_
      refine mr_iald d_mk_giveWhole_103 rfl (fun hc7 => ?_)
      refine mr_goto (tgt := 108) d_mk_giveWhole_104 (by decide) ?_
      refine mr_iast (h2 := (HX x_members x_collaterals x_hasSent x_isSealed x_metered x_sealedCount bk_counts bk_needs bk_whens bk_sides bk_quantities bk_limits ag_toldLies ag_passedLies ag_words ag_vectors ag_liarOperator ag_rounds mk_entries mk_slots mk_remainders mk_blocks mk_blockBids mk_blockOffers mk_entryCount mk_blockCount cv_limits cv_bids cv_offers cv_count cv_allBids cv_allOffers cv_meetingPrice cv_sureBids cv_sureOffers cv_priceBids cv_priceOffers cv_volume cv_worth oc_prices oc_volumes (va_up oc_filled 3 (upd o_filled (mk_slots x4.toNatClampNeg).toNatClampNeg (bk_quantities (mk_entries x4.toNatClampNeg).toNatClampNeg))) oc_worth oc_takenSet oc_isDone, hT)) d_mk_giveWhole_108 rfl rfl (fun hc8 => ?_)
      refine mr_iinc (v := (x4 + 1)) (lv' := [(4, .int (x4 + 1)), (0, .ref 17), (1, .ref 50), (2, .int x2), (3, .int x3), (5, .int x5)]) d_mk_giveWhole_109 rfl rfl (by decide) rfl ?_
      refine mr_goto (tgt := 5) d_mk_giveWhole_112 (by decide) ?_
      refine mr_sub (lv' := [(0, .ref 17), (1, .ref 50), (2, .int x2), (3, .int x3), (4, .int (x4 + 1))]) [1, 2, 3, 4, 0] rfl ?_
      exact hK5 _ _ _
  have w_b52 : ∀ (K5 : (Nat → Int32) → Int32 → Int32 → Option ((Nat → Int32))), (∀ (o_filled : Nat → Int32) (x3 : Int32) (x4 : Int32), mz_A g M_mk_giveWhole (mz_rm 1) (fun r => (0, none, ex, (HX x_members x_collaterals x_hasSent x_isSealed x_metered x_sealedCount bk_counts bk_needs bk_whens bk_sides bk_quantities bk_limits ag_toldLies ag_passedLies ag_words ag_vectors ag_liarOperator ag_rounds mk_entries mk_slots mk_remainders mk_blocks mk_blockBids mk_blockOffers mk_entryCount mk_blockCount cv_limits cv_bids cv_offers cv_count cv_allBids cv_allOffers cv_meetingPrice cv_sureBids cv_sureOffers cv_priceBids cv_priceOffers cv_volume cv_worth oc_prices oc_volumes (va_up oc_filled 3 r) oc_worth oc_takenSet oc_isDone, hT), 0, 0)) 5 [(0, .ref 17), (1, .ref 50), (2, .int x2), (3, .int x3), (4, .int x4)] [] ex (HX x_members x_collaterals x_hasSent x_isSealed x_metered x_sealedCount bk_counts bk_needs bk_whens bk_sides bk_quantities bk_limits ag_toldLies ag_passedLies ag_words ag_vectors ag_liarOperator ag_rounds mk_entries mk_slots mk_remainders mk_blocks mk_blockBids mk_blockOffers mk_entryCount mk_blockCount cv_limits cv_bids cv_offers cv_count cv_allBids cv_allOffers cv_meetingPrice cv_sureBids cv_sureOffers cv_priceBids cv_priceOffers cv_volume cv_worth oc_prices oc_volumes (va_up oc_filled 3 o_filled) oc_worth oc_takenSet oc_isDone, hT) 0 0 (K5 o_filled x3 x4)) → ∀ (o_filled : Nat → Int32) (x3 : Int32) (x4 : Int32) (s0 : Int32), mz_A g M_mk_giveWhole (mz_rm 1) (fun r => (0, none, ex, (HX x_members x_collaterals x_hasSent x_isSealed x_metered x_sealedCount bk_counts bk_needs bk_whens bk_sides bk_quantities bk_limits ag_toldLies ag_passedLies ag_words ag_vectors ag_liarOperator ag_rounds mk_entries mk_slots mk_remainders mk_blocks mk_blockBids mk_blockOffers mk_entryCount mk_blockCount cv_limits cv_bids cv_offers cv_count cv_allBids cv_allOffers cv_meetingPrice cv_sureBids cv_sureOffers cv_priceBids cv_priceOffers cv_volume cv_worth oc_prices oc_volumes (va_up oc_filled 3 r) oc_worth oc_takenSet oc_isDone, hT), 0, 0)) 52 [(0, .ref 17), (1, .ref 50), (2, .int x2), (3, .int x3), (4, .int x4)] [.int s0] ex (HX x_members x_collaterals x_hasSent x_isSealed x_metered x_sealedCount bk_counts bk_needs bk_whens bk_sides bk_quantities bk_limits ag_toldLies ag_passedLies ag_words ag_vectors ag_liarOperator ag_rounds mk_entries mk_slots mk_remainders mk_blocks mk_blockBids mk_blockOffers mk_entryCount mk_blockCount cv_limits cv_bids cv_offers cv_count cv_allBids cv_allOffers cv_meetingPrice cv_sureBids cv_sureOffers cv_priceBids cv_priceOffers cv_volume cv_worth oc_prices oc_volumes (va_up oc_filled 3 o_filled) oc_worth oc_takenSet oc_isDone, hT) 0 0 (f_mk_giveWhole_b52 bk_whens bk_sides bk_quantities bk_limits mk_entries mk_slots mk_entryCount mk_blockCount cv_meetingPrice x2 K5 o_filled x3 x4 s0) := by
    intro K5 hK5 o_filled x3 x4 s0
    rw [f_mk_giveWhole_b52]
    refine mr_istore (lv' := [(5, .int s0), (0, .ref 17), (1, .ref 50), (2, .int x2), (3, .int x3), (4, .int x4)]) d_mk_giveWhole_52 (by decide) rfl ?_
    refine mr_iinc (v := (x3 + 1)) (lv' := [(3, .int (x3 + 1)), (5, .int s0), (0, .ref 17), (1, .ref 50), (2, .int x2), (4, .int x4)]) d_mk_giveWhole_54 rfl rfl (by decide) rfl ?_
    refine mr_goto (tgt := 73) d_mk_giveWhole_57 (by decide) ?_
    refine mr_sub (lv' := [(0, .ref 17), (1, .ref 50), (2, .int x2), (3, .int (x3 + 1)), (4, .int x4), (5, .int s0)]) [2, 3, 4, 0, 5, 1] rfl ?_
    exact w_b73 _ hK5 _ _ _ _
  have w_b51 : ∀ (K5 : (Nat → Int32) → Int32 → Int32 → Option ((Nat → Int32))), (∀ (o_filled : Nat → Int32) (x3 : Int32) (x4 : Int32), mz_A g M_mk_giveWhole (mz_rm 1) (fun r => (0, none, ex, (HX x_members x_collaterals x_hasSent x_isSealed x_metered x_sealedCount bk_counts bk_needs bk_whens bk_sides bk_quantities bk_limits ag_toldLies ag_passedLies ag_words ag_vectors ag_liarOperator ag_rounds mk_entries mk_slots mk_remainders mk_blocks mk_blockBids mk_blockOffers mk_entryCount mk_blockCount cv_limits cv_bids cv_offers cv_count cv_allBids cv_allOffers cv_meetingPrice cv_sureBids cv_sureOffers cv_priceBids cv_priceOffers cv_volume cv_worth oc_prices oc_volumes (va_up oc_filled 3 r) oc_worth oc_takenSet oc_isDone, hT), 0, 0)) 5 [(0, .ref 17), (1, .ref 50), (2, .int x2), (3, .int x3), (4, .int x4)] [] ex (HX x_members x_collaterals x_hasSent x_isSealed x_metered x_sealedCount bk_counts bk_needs bk_whens bk_sides bk_quantities bk_limits ag_toldLies ag_passedLies ag_words ag_vectors ag_liarOperator ag_rounds mk_entries mk_slots mk_remainders mk_blocks mk_blockBids mk_blockOffers mk_entryCount mk_blockCount cv_limits cv_bids cv_offers cv_count cv_allBids cv_allOffers cv_meetingPrice cv_sureBids cv_sureOffers cv_priceBids cv_priceOffers cv_volume cv_worth oc_prices oc_volumes (va_up oc_filled 3 o_filled) oc_worth oc_takenSet oc_isDone, hT) 0 0 (K5 o_filled x3 x4)) → ∀ (o_filled : Nat → Int32) (x3 : Int32) (x4 : Int32), mz_A g M_mk_giveWhole (mz_rm 1) (fun r => (0, none, ex, (HX x_members x_collaterals x_hasSent x_isSealed x_metered x_sealedCount bk_counts bk_needs bk_whens bk_sides bk_quantities bk_limits ag_toldLies ag_passedLies ag_words ag_vectors ag_liarOperator ag_rounds mk_entries mk_slots mk_remainders mk_blocks mk_blockBids mk_blockOffers mk_entryCount mk_blockCount cv_limits cv_bids cv_offers cv_count cv_allBids cv_allOffers cv_meetingPrice cv_sureBids cv_sureOffers cv_priceBids cv_priceOffers cv_volume cv_worth oc_prices oc_volumes (va_up oc_filled 3 r) oc_worth oc_takenSet oc_isDone, hT), 0, 0)) 51 [(0, .ref 17), (1, .ref 50), (2, .int x2), (3, .int x3), (4, .int x4)] [] ex (HX x_members x_collaterals x_hasSent x_isSealed x_metered x_sealedCount bk_counts bk_needs bk_whens bk_sides bk_quantities bk_limits ag_toldLies ag_passedLies ag_words ag_vectors ag_liarOperator ag_rounds mk_entries mk_slots mk_remainders mk_blocks mk_blockBids mk_blockOffers mk_entryCount mk_blockCount cv_limits cv_bids cv_offers cv_count cv_allBids cv_allOffers cv_meetingPrice cv_sureBids cv_sureOffers cv_priceBids cv_priceOffers cv_volume cv_worth oc_prices oc_volumes (va_up oc_filled 3 o_filled) oc_worth oc_takenSet oc_isDone, hT) 0 0 (f_mk_giveWhole_b51 bk_whens bk_sides bk_quantities bk_limits mk_entries mk_slots mk_entryCount mk_blockCount cv_meetingPrice x2 K5 o_filled x3 x4) := by
    intro K5 hK5 o_filled x3 x4
    rw [f_mk_giveWhole_b51]
    refine mr_iconst (v := 0) d_mk_giveWhole_51 mc_iconst_0 ?_
    exact w_b52 _ hK5 _ _ _ _
  have w_L5 : ∀ (n : Nat) (o_filled : Nat → Int32) (x3 : Int32) (x4 : Int32), mz_A g M_mk_giveWhole (mz_rm 1) (fun r => (0, none, ex, (HX x_members x_collaterals x_hasSent x_isSealed x_metered x_sealedCount bk_counts bk_needs bk_whens bk_sides bk_quantities bk_limits ag_toldLies ag_passedLies ag_words ag_vectors ag_liarOperator ag_rounds mk_entries mk_slots mk_remainders mk_blocks mk_blockBids mk_blockOffers mk_entryCount mk_blockCount cv_limits cv_bids cv_offers cv_count cv_allBids cv_allOffers cv_meetingPrice cv_sureBids cv_sureOffers cv_priceBids cv_priceOffers cv_volume cv_worth oc_prices oc_volumes (va_up oc_filled 3 r) oc_worth oc_takenSet oc_isDone, hT), 0, 0)) 5 [(0, .ref 17), (1, .ref 50), (2, .int x2), (3, .int x3), (4, .int x4)] [] ex (HX x_members x_collaterals x_hasSent x_isSealed x_metered x_sealedCount bk_counts bk_needs bk_whens bk_sides bk_quantities bk_limits ag_toldLies ag_passedLies ag_words ag_vectors ag_liarOperator ag_rounds mk_entries mk_slots mk_remainders mk_blocks mk_blockBids mk_blockOffers mk_entryCount mk_blockCount cv_limits cv_bids cv_offers cv_count cv_allBids cv_allOffers cv_meetingPrice cv_sureBids cv_sureOffers cv_priceBids cv_priceOffers cv_volume cv_worth oc_prices oc_volumes (va_up oc_filled 3 o_filled) oc_worth oc_takenSet oc_isDone, hT) 0 0 (f_mk_giveWhole_L5 bk_whens bk_sides bk_quantities bk_limits mk_entries mk_slots mk_entryCount mk_blockCount cv_meetingPrice x2 n o_filled x3 x4) := by
    intro n
    induction n with
    | zero => intro o_filled x3 x4; exact mr_none
    | succ n ih =>
      intro o_filled x3 x4
      rw [f_mk_giveWhole_L5]
      refine mr_iload d_mk_giveWhole_5 rfl ?_
      refine mr_aload_n d_mk_giveWhole_7 rfl rfl ?_
      refine mr_get K_mk 8 d_mk_giveWhole_8 lk_f_mk_41 (by decide) rfl rfl ?_
      refine mr_icmp_ge (tgt := 115) d_mk_giveWhole_11 (by decide) ?_ ?_
      · exact mr_vret d_mk_giveWhole_115 rfl rfl
      · refine mr_aload_n d_mk_giveWhole_14 rfl rfl ?_
        refine mr_get K_mk 0 d_mk_giveWhole_15 lk_f_mk_9 (by decide) rfl rfl ?_
        refine mr_aload_n d_mk_giveWhole_18 rfl rfl ?_
        refine mr_get K_mk 2 d_mk_giveWhole_19 lk_f_mk_22 (by decide) rfl rfl ?_
        refine mr_iload d_mk_giveWhole_22 rfl ?_
        refine mr_iald d_mk_giveWhole_24 rfl (fun hc1 => ?_)
        refine mz_go (st := []) e_bk_isBlock (fun _ => rfl) U_bk_isBlock (mz_vV d_mk_giveWhole_25 U_bk_isBlock rfl lk_m_mk_66 I_bk_isBlock s_bk_isBlock np_bk_isBlock rfl rfl) (Nat.le_of_ble_eq_true rfl) (by decide) (fun r2 => ?_)
        refine mr_eq (st' := [.int r2]) (ex' := ex) (h2 := (HX x_members x_collaterals x_hasSent x_isSealed x_metered x_sealedCount bk_counts bk_needs bk_whens bk_sides bk_quantities bk_limits ag_toldLies ag_passedLies ag_words ag_vectors ag_liarOperator ag_rounds mk_entries mk_slots mk_remainders mk_blocks mk_blockBids mk_blockOffers mk_entryCount mk_blockCount cv_limits cv_bids cv_offers cv_count cv_allBids cv_allOffers cv_meetingPrice cv_sureBids cv_sureOffers cv_priceBids cv_priceOffers cv_volume cv_worth oc_prices oc_volumes (va_up oc_filled 3 o_filled) oc_worth oc_takenSet oc_isDone, hT)) (k' := 0) (n' := 0) rfl rfl rfl rfl rfl ?_
        refine mr_if_eq (tgt := 60) d_mk_giveWhole_28 (by decide) ?_ ?_
        · refine mr_aload_n d_mk_giveWhole_60 rfl rfl ?_
          refine mr_aload_n d_mk_giveWhole_61 rfl rfl ?_
          refine mr_get K_mk 2 d_mk_giveWhole_62 lk_f_mk_22 (by decide) rfl rfl ?_
          refine mr_iload d_mk_giveWhole_65 rfl ?_
          refine mr_ialdK d_mk_giveWhole_67 rfl hc1 ?_
          refine mz_go (st := []) e_mk_isSure (fun _ => rfl) U_mk_isSure (mz_vV d_mk_giveWhole_68 U_mk_isSure rfl lk_m_mk_164 I_mk_isSure s_mk_isSure np_mk_isSure rfl rfl) (Nat.le_of_ble_eq_true rfl) (by decide) (fun r3 => ?_)
          refine mr_eq (st' := [.int r3]) (ex' := ex) (h2 := (HX x_members x_collaterals x_hasSent x_isSealed x_metered x_sealedCount bk_counts bk_needs bk_whens bk_sides bk_quantities bk_limits ag_toldLies ag_passedLies ag_words ag_vectors ag_liarOperator ag_rounds mk_entries mk_slots mk_remainders mk_blocks mk_blockBids mk_blockOffers mk_entryCount mk_blockCount cv_limits cv_bids cv_offers cv_count cv_allBids cv_allOffers cv_meetingPrice cv_sureBids cv_sureOffers cv_priceBids cv_priceOffers cv_volume cv_worth oc_prices oc_volumes (va_up oc_filled 3 o_filled) oc_worth oc_takenSet oc_isDone, hT)) (k' := 0) (n' := 0) rfl rfl rfl rfl rfl ?_
          refine mr_istore (lv' := [(5, .int r3), (0, .ref 17), (1, .ref 50), (2, .int x2), (3, .int x3), (4, .int x4)]) d_mk_giveWhole_71 (by decide) rfl ?_
          refine mr_sub (lv' := [(0, .ref 17), (1, .ref 50), (2, .int x2), (3, .int x3), (4, .int x4), (5, .int r3)]) [1, 2, 3, 4, 5, 0] rfl ?_
          exact w_b73 _ ih _ _ _ _
        · refine mr_iload_n d_mk_giveWhole_31 rfl rfl ?_
          refine mr_aload_n d_mk_giveWhole_32 rfl rfl ?_
          refine mr_get K_mk 9 d_mk_giveWhole_33 lk_f_mk_45 (by decide) rfl rfl ?_
          refine mr_icmp_ge (tgt := 51) d_mk_giveWhole_36 (by decide) ?_ ?_
          · exact w_b51 _ ih _ _ _
          · refine mr_iload_n d_mk_giveWhole_39 rfl rfl ?_
            refine mr_iload_n d_mk_giveWhole_40 rfl rfl ?_
            refine mz_go (st := []) e_mk_isTaken (fun _ => rfl) U_mk_isTaken (mz_vS d_mk_giveWhole_41 U_mk_isTaken lk_m_mk_133 S_mk_isTaken np_mk_isTaken) (Nat.le_of_ble_eq_true rfl) (by decide) (fun r4 => ?_)
            refine mr_eq (st' := [.int r4]) (ex' := ex) (h2 := (HX x_members x_collaterals x_hasSent x_isSealed x_metered x_sealedCount bk_counts bk_needs bk_whens bk_sides bk_quantities bk_limits ag_toldLies ag_passedLies ag_words ag_vectors ag_liarOperator ag_rounds mk_entries mk_slots mk_remainders mk_blocks mk_blockBids mk_blockOffers mk_entryCount mk_blockCount cv_limits cv_bids cv_offers cv_count cv_allBids cv_allOffers cv_meetingPrice cv_sureBids cv_sureOffers cv_priceBids cv_priceOffers cv_volume cv_worth oc_prices oc_volumes (va_up oc_filled 3 o_filled) oc_worth oc_takenSet oc_isDone, hT)) (k' := 0) (n' := 0) rfl rfl rfl rfl rfl ?_
            refine mr_if_eq (tgt := 51) d_mk_giveWhole_44 (by decide) ?_ ?_
            · exact w_b51 _ ih _ _ _
            · refine mr_iconst (v := 1) d_mk_giveWhole_47 mc_iconst_1 ?_
              refine mr_goto (tgt := 52) d_mk_giveWhole_48 (by decide) ?_
              exact w_b52 _ ih _ _ _ _
  refine mz_of (by decide) (Nat.le_of_ble_eq_true rfl) ?_
  rw [f_mk_giveWhole]
  show mz_A g M_mk_giveWhole (mz_rm 1) _ 0 [(0, .ref 17), (1, .ref 50), (2, .int x2)] [] ex (HX x_members x_collaterals x_hasSent x_isSealed x_metered x_sealedCount bk_counts bk_needs bk_whens bk_sides bk_quantities bk_limits ag_toldLies ag_passedLies ag_words ag_vectors ag_liarOperator ag_rounds mk_entries mk_slots mk_remainders mk_blocks mk_blockBids mk_blockOffers mk_entryCount mk_blockCount cv_limits cv_bids cv_offers cv_count cv_allBids cv_allOffers cv_meetingPrice cv_sureBids cv_sureOffers cv_priceBids cv_priceOffers cv_volume cv_worth oc_prices oc_volumes oc_filled oc_worth oc_takenSet oc_isDone, hT) 0 0 _
  refine mr_iconst (v := 0) d_mk_giveWhole_0 mc_iconst_0 ?_
  refine mr_istore_n (lv' := [(3, .int 0), (0, .ref 17), (1, .ref 50), (2, .int x2)]) d_mk_giveWhole_1 rfl (by decide) rfl ?_
  refine mr_iconst (v := 0) d_mk_giveWhole_2 mc_iconst_0 ?_
  refine mr_istore (lv' := [(4, .int 0), (3, .int 0), (0, .ref 17), (1, .ref 50), (2, .int x2)]) d_mk_giveWhole_3 (by decide) rfl ?_
  refine mr_sub (lv' := [(0, .ref 17), (1, .ref 50), (2, .int x2), (3, .int 0), (4, .int 0)]) [2, 3, 4, 1, 0] rfl ?_
  exact w_L5 1000 _ _ _
theorem e_mk_giveWhole {g : mz_G} {ex : Bool} {hT : List mz_E} {x_members : Int32} {x_collaterals : Nat → Int32} {x_hasSent : Nat → Int32} {x_isSealed : Nat → Int32} {x_metered : Nat → Int32} {x_sealedCount : Int32} {bk_counts : Nat → Int32} {bk_needs : Nat → Int64} {bk_whens : Nat → Int32} {bk_sides : Nat → Int32} {bk_quantities : Nat → Int32} {bk_limits : Nat → Int32} {ag_toldLies : Nat → Int32} {ag_passedLies : Nat → Int32} {ag_words : Nat → Int32} {ag_vectors : Nat → Int32} {ag_liarOperator : Int32} {ag_rounds : Int32} {mk_entries : Nat → Int32} {mk_slots : Nat → Int32} {mk_remainders : Nat → Int32} {mk_blocks : Nat → Int32} {mk_blockBids : Nat → Int32} {mk_blockOffers : Nat → Int32} {mk_entryCount : Int32} {mk_blockCount : Int32} {cv_limits : Nat → Nat → Int32} {cv_bids : Nat → Nat → Int32} {cv_offers : Nat → Nat → Int32} {cv_count : Nat → Int32} {cv_allBids : Nat → Int32} {cv_allOffers : Nat → Int32} {cv_meetingPrice : Nat → Int32} {cv_sureBids : Nat → Int32} {cv_sureOffers : Nat → Int32} {cv_priceBids : Nat → Int32} {cv_priceOffers : Nat → Int32} {cv_volume : Nat → Int32} {cv_worth : Nat → Int64} {oc_prices : Nat → Nat → Int32} {oc_volumes : Nat → Nat → Int32} {oc_filled : Nat → Nat → Int32} {oc_worth : Nat → Int64} {oc_takenSet : Nat → Int32} {oc_isDone : Nat → Int32} {x2 : Int32} {j : Nat} (hj : j < 4) : mz_M g M_mk_giveWhole 1 [.ref 17, .ref (38 + 4 * j), .int x2] ex (HX x_members x_collaterals x_hasSent x_isSealed x_metered x_sealedCount bk_counts bk_needs bk_whens bk_sides bk_quantities bk_limits ag_toldLies ag_passedLies ag_words ag_vectors ag_liarOperator ag_rounds mk_entries mk_slots mk_remainders mk_blocks mk_blockBids mk_blockOffers mk_entryCount mk_blockCount cv_limits cv_bids cv_offers cv_count cv_allBids cv_allOffers cv_meetingPrice cv_sureBids cv_sureOffers cv_priceBids cv_priceOffers cv_volume cv_worth oc_prices oc_volumes oc_filled oc_worth oc_takenSet oc_isDone, hT) (f_mk_giveWhole bk_whens bk_sides bk_quantities bk_limits mk_entries mk_slots mk_entryCount mk_blockCount cv_meetingPrice (oc_filled j) x2) (fun r => (0, none, ex, (HX x_members x_collaterals x_hasSent x_isSealed x_metered x_sealedCount bk_counts bk_needs bk_whens bk_sides bk_quantities bk_limits ag_toldLies ag_passedLies ag_words ag_vectors ag_liarOperator ag_rounds mk_entries mk_slots mk_remainders mk_blocks mk_blockBids mk_blockOffers mk_entryCount mk_blockCount cv_limits cv_bids cv_offers cv_count cv_allBids cv_allOffers cv_meetingPrice cv_sureBids cv_sureOffers cv_priceBids cv_priceOffers cv_volume cv_worth oc_prices oc_volumes (va_up oc_filled j r) oc_worth oc_takenSet oc_isDone, hT), 0, 0)) := match j, hj with | 0, _ => e_mk_giveWhole_0 | 1, _ => e_mk_giveWhole_1 | 2, _ => e_mk_giveWhole_2 | 3, _ => e_mk_giveWhole_3 | j + 4, h => absurd h (by omega)
set_option maxRecDepth 100000 in
set_option maxHeartbeats 4000000 in
theorem e_c_quantityAtPrice_0 {g : mz_G} {ex : Bool} {hT : List mz_E} {x_members : Int32} {x_collaterals : Nat → Int32} {x_hasSent : Nat → Int32} {x_isSealed : Nat → Int32} {x_metered : Nat → Int32} {x_sealedCount : Int32} {bk_counts : Nat → Int32} {bk_needs : Nat → Int64} {bk_whens : Nat → Int32} {bk_sides : Nat → Int32} {bk_quantities : Nat → Int32} {bk_limits : Nat → Int32} {ag_toldLies : Nat → Int32} {ag_passedLies : Nat → Int32} {ag_words : Nat → Int32} {ag_vectors : Nat → Int32} {ag_liarOperator : Int32} {ag_rounds : Int32} {mk_entries : Nat → Int32} {mk_slots : Nat → Int32} {mk_remainders : Nat → Int32} {mk_blocks : Nat → Int32} {mk_blockBids : Nat → Int32} {mk_blockOffers : Nat → Int32} {mk_entryCount : Int32} {mk_blockCount : Int32} {cv_limits : Nat → Nat → Int32} {cv_bids : Nat → Nat → Int32} {cv_offers : Nat → Nat → Int32} {cv_count : Nat → Int32} {cv_allBids : Nat → Int32} {cv_allOffers : Nat → Int32} {cv_meetingPrice : Nat → Int32} {cv_sureBids : Nat → Int32} {cv_sureOffers : Nat → Int32} {cv_priceBids : Nat → Int32} {cv_priceOffers : Nat → Int32} {cv_volume : Nat → Int32} {cv_worth : Nat → Int64} {oc_prices : Nat → Nat → Int32} {oc_volumes : Nat → Nat → Int32} {oc_filled : Nat → Nat → Int32} {oc_worth : Nat → Int64} {oc_takenSet : Nat → Int32} {oc_isDone : Nat → Int32} {x1 : Int32} : mz_M g M_c_quantityAtPrice 0 [.ref 19, .int x1] ex (HX x_members x_collaterals x_hasSent x_isSealed x_metered x_sealedCount bk_counts bk_needs bk_whens bk_sides bk_quantities bk_limits ag_toldLies ag_passedLies ag_words ag_vectors ag_liarOperator ag_rounds mk_entries mk_slots mk_remainders mk_blocks mk_blockBids mk_blockOffers mk_entryCount mk_blockCount cv_limits cv_bids cv_offers cv_count cv_allBids cv_allOffers cv_meetingPrice cv_sureBids cv_sureOffers cv_priceBids cv_priceOffers cv_volume cv_worth oc_prices oc_volumes oc_filled oc_worth oc_takenSet oc_isDone, hT) (f_c_quantityAtPrice (cv_priceBids 0) (cv_priceOffers 0) x1) (fun r => (0, some (.int r), ex, (HX x_members x_collaterals x_hasSent x_isSealed x_metered x_sealedCount bk_counts bk_needs bk_whens bk_sides bk_quantities bk_limits ag_toldLies ag_passedLies ag_words ag_vectors ag_liarOperator ag_rounds mk_entries mk_slots mk_remainders mk_blocks mk_blockBids mk_blockOffers mk_entryCount mk_blockCount cv_limits cv_bids cv_offers cv_count cv_allBids cv_allOffers cv_meetingPrice cv_sureBids cv_sureOffers cv_priceBids cv_priceOffers cv_volume cv_worth oc_prices oc_volumes oc_filled oc_worth oc_takenSet oc_isDone, hT), 0, 0)) := by
  refine mz_of (by decide) (Nat.le_of_ble_eq_true rfl) ?_
  rw [f_c_quantityAtPrice]
  show mz_A g M_c_quantityAtPrice (mz_rm 0) _ 0 [(0, .ref 19), (1, .int x1)] [] ex (HX x_members x_collaterals x_hasSent x_isSealed x_metered x_sealedCount bk_counts bk_needs bk_whens bk_sides bk_quantities bk_limits ag_toldLies ag_passedLies ag_words ag_vectors ag_liarOperator ag_rounds mk_entries mk_slots mk_remainders mk_blocks mk_blockBids mk_blockOffers mk_entryCount mk_blockCount cv_limits cv_bids cv_offers cv_count cv_allBids cv_allOffers cv_meetingPrice cv_sureBids cv_sureOffers cv_priceBids cv_priceOffers cv_volume cv_worth oc_prices oc_volumes oc_filled oc_worth oc_takenSet oc_isDone, hT) 0 0 _
  refine mr_iload_n d_c_quantityAtPrice_0 rfl rfl ?_
  refine mr_if_ne (tgt := 11) d_c_quantityAtPrice_1 (by decide) ?_ ?_
  · refine mr_aload_n d_c_quantityAtPrice_11 rfl rfl ?_
    refine mr_get K_c 10 d_c_quantityAtPrice_12 lk_f_c_61 (by decide) rfl rfl ?_
    exact mr_iret d_c_quantityAtPrice_15 rfl rfl
  · refine mr_aload_n d_c_quantityAtPrice_4 rfl rfl ?_
    refine mr_get K_c 9 d_c_quantityAtPrice_5 lk_f_c_58 (by decide) rfl rfl ?_
    refine mr_goto (tgt := 15) d_c_quantityAtPrice_8 (by decide) ?_
    exact mr_iret d_c_quantityAtPrice_15 rfl rfl
set_option maxRecDepth 100000 in
set_option maxHeartbeats 4000000 in
theorem e_c_quantityAtPrice_1 {g : mz_G} {ex : Bool} {hT : List mz_E} {x_members : Int32} {x_collaterals : Nat → Int32} {x_hasSent : Nat → Int32} {x_isSealed : Nat → Int32} {x_metered : Nat → Int32} {x_sealedCount : Int32} {bk_counts : Nat → Int32} {bk_needs : Nat → Int64} {bk_whens : Nat → Int32} {bk_sides : Nat → Int32} {bk_quantities : Nat → Int32} {bk_limits : Nat → Int32} {ag_toldLies : Nat → Int32} {ag_passedLies : Nat → Int32} {ag_words : Nat → Int32} {ag_vectors : Nat → Int32} {ag_liarOperator : Int32} {ag_rounds : Int32} {mk_entries : Nat → Int32} {mk_slots : Nat → Int32} {mk_remainders : Nat → Int32} {mk_blocks : Nat → Int32} {mk_blockBids : Nat → Int32} {mk_blockOffers : Nat → Int32} {mk_entryCount : Int32} {mk_blockCount : Int32} {cv_limits : Nat → Nat → Int32} {cv_bids : Nat → Nat → Int32} {cv_offers : Nat → Nat → Int32} {cv_count : Nat → Int32} {cv_allBids : Nat → Int32} {cv_allOffers : Nat → Int32} {cv_meetingPrice : Nat → Int32} {cv_sureBids : Nat → Int32} {cv_sureOffers : Nat → Int32} {cv_priceBids : Nat → Int32} {cv_priceOffers : Nat → Int32} {cv_volume : Nat → Int32} {cv_worth : Nat → Int64} {oc_prices : Nat → Nat → Int32} {oc_volumes : Nat → Nat → Int32} {oc_filled : Nat → Nat → Int32} {oc_worth : Nat → Int64} {oc_takenSet : Nat → Int32} {oc_isDone : Nat → Int32} {x1 : Int32} : mz_M g M_c_quantityAtPrice 0 [.ref 23, .int x1] ex (HX x_members x_collaterals x_hasSent x_isSealed x_metered x_sealedCount bk_counts bk_needs bk_whens bk_sides bk_quantities bk_limits ag_toldLies ag_passedLies ag_words ag_vectors ag_liarOperator ag_rounds mk_entries mk_slots mk_remainders mk_blocks mk_blockBids mk_blockOffers mk_entryCount mk_blockCount cv_limits cv_bids cv_offers cv_count cv_allBids cv_allOffers cv_meetingPrice cv_sureBids cv_sureOffers cv_priceBids cv_priceOffers cv_volume cv_worth oc_prices oc_volumes oc_filled oc_worth oc_takenSet oc_isDone, hT) (f_c_quantityAtPrice (cv_priceBids 1) (cv_priceOffers 1) x1) (fun r => (0, some (.int r), ex, (HX x_members x_collaterals x_hasSent x_isSealed x_metered x_sealedCount bk_counts bk_needs bk_whens bk_sides bk_quantities bk_limits ag_toldLies ag_passedLies ag_words ag_vectors ag_liarOperator ag_rounds mk_entries mk_slots mk_remainders mk_blocks mk_blockBids mk_blockOffers mk_entryCount mk_blockCount cv_limits cv_bids cv_offers cv_count cv_allBids cv_allOffers cv_meetingPrice cv_sureBids cv_sureOffers cv_priceBids cv_priceOffers cv_volume cv_worth oc_prices oc_volumes oc_filled oc_worth oc_takenSet oc_isDone, hT), 0, 0)) := by
  refine mz_of (by decide) (Nat.le_of_ble_eq_true rfl) ?_
  rw [f_c_quantityAtPrice]
  show mz_A g M_c_quantityAtPrice (mz_rm 0) _ 0 [(0, .ref 23), (1, .int x1)] [] ex (HX x_members x_collaterals x_hasSent x_isSealed x_metered x_sealedCount bk_counts bk_needs bk_whens bk_sides bk_quantities bk_limits ag_toldLies ag_passedLies ag_words ag_vectors ag_liarOperator ag_rounds mk_entries mk_slots mk_remainders mk_blocks mk_blockBids mk_blockOffers mk_entryCount mk_blockCount cv_limits cv_bids cv_offers cv_count cv_allBids cv_allOffers cv_meetingPrice cv_sureBids cv_sureOffers cv_priceBids cv_priceOffers cv_volume cv_worth oc_prices oc_volumes oc_filled oc_worth oc_takenSet oc_isDone, hT) 0 0 _
  refine mr_iload_n d_c_quantityAtPrice_0 rfl rfl ?_
  refine mr_if_ne (tgt := 11) d_c_quantityAtPrice_1 (by decide) ?_ ?_
  · refine mr_aload_n d_c_quantityAtPrice_11 rfl rfl ?_
    refine mr_get K_c 10 d_c_quantityAtPrice_12 lk_f_c_61 (by decide) rfl rfl ?_
    exact mr_iret d_c_quantityAtPrice_15 rfl rfl
  · refine mr_aload_n d_c_quantityAtPrice_4 rfl rfl ?_
    refine mr_get K_c 9 d_c_quantityAtPrice_5 lk_f_c_58 (by decide) rfl rfl ?_
    refine mr_goto (tgt := 15) d_c_quantityAtPrice_8 (by decide) ?_
    exact mr_iret d_c_quantityAtPrice_15 rfl rfl
set_option maxRecDepth 100000 in
set_option maxHeartbeats 4000000 in
theorem e_c_quantityAtPrice_2 {g : mz_G} {ex : Bool} {hT : List mz_E} {x_members : Int32} {x_collaterals : Nat → Int32} {x_hasSent : Nat → Int32} {x_isSealed : Nat → Int32} {x_metered : Nat → Int32} {x_sealedCount : Int32} {bk_counts : Nat → Int32} {bk_needs : Nat → Int64} {bk_whens : Nat → Int32} {bk_sides : Nat → Int32} {bk_quantities : Nat → Int32} {bk_limits : Nat → Int32} {ag_toldLies : Nat → Int32} {ag_passedLies : Nat → Int32} {ag_words : Nat → Int32} {ag_vectors : Nat → Int32} {ag_liarOperator : Int32} {ag_rounds : Int32} {mk_entries : Nat → Int32} {mk_slots : Nat → Int32} {mk_remainders : Nat → Int32} {mk_blocks : Nat → Int32} {mk_blockBids : Nat → Int32} {mk_blockOffers : Nat → Int32} {mk_entryCount : Int32} {mk_blockCount : Int32} {cv_limits : Nat → Nat → Int32} {cv_bids : Nat → Nat → Int32} {cv_offers : Nat → Nat → Int32} {cv_count : Nat → Int32} {cv_allBids : Nat → Int32} {cv_allOffers : Nat → Int32} {cv_meetingPrice : Nat → Int32} {cv_sureBids : Nat → Int32} {cv_sureOffers : Nat → Int32} {cv_priceBids : Nat → Int32} {cv_priceOffers : Nat → Int32} {cv_volume : Nat → Int32} {cv_worth : Nat → Int64} {oc_prices : Nat → Nat → Int32} {oc_volumes : Nat → Nat → Int32} {oc_filled : Nat → Nat → Int32} {oc_worth : Nat → Int64} {oc_takenSet : Nat → Int32} {oc_isDone : Nat → Int32} {x1 : Int32} : mz_M g M_c_quantityAtPrice 0 [.ref 27, .int x1] ex (HX x_members x_collaterals x_hasSent x_isSealed x_metered x_sealedCount bk_counts bk_needs bk_whens bk_sides bk_quantities bk_limits ag_toldLies ag_passedLies ag_words ag_vectors ag_liarOperator ag_rounds mk_entries mk_slots mk_remainders mk_blocks mk_blockBids mk_blockOffers mk_entryCount mk_blockCount cv_limits cv_bids cv_offers cv_count cv_allBids cv_allOffers cv_meetingPrice cv_sureBids cv_sureOffers cv_priceBids cv_priceOffers cv_volume cv_worth oc_prices oc_volumes oc_filled oc_worth oc_takenSet oc_isDone, hT) (f_c_quantityAtPrice (cv_priceBids 2) (cv_priceOffers 2) x1) (fun r => (0, some (.int r), ex, (HX x_members x_collaterals x_hasSent x_isSealed x_metered x_sealedCount bk_counts bk_needs bk_whens bk_sides bk_quantities bk_limits ag_toldLies ag_passedLies ag_words ag_vectors ag_liarOperator ag_rounds mk_entries mk_slots mk_remainders mk_blocks mk_blockBids mk_blockOffers mk_entryCount mk_blockCount cv_limits cv_bids cv_offers cv_count cv_allBids cv_allOffers cv_meetingPrice cv_sureBids cv_sureOffers cv_priceBids cv_priceOffers cv_volume cv_worth oc_prices oc_volumes oc_filled oc_worth oc_takenSet oc_isDone, hT), 0, 0)) := by
  refine mz_of (by decide) (Nat.le_of_ble_eq_true rfl) ?_
  rw [f_c_quantityAtPrice]
  show mz_A g M_c_quantityAtPrice (mz_rm 0) _ 0 [(0, .ref 27), (1, .int x1)] [] ex (HX x_members x_collaterals x_hasSent x_isSealed x_metered x_sealedCount bk_counts bk_needs bk_whens bk_sides bk_quantities bk_limits ag_toldLies ag_passedLies ag_words ag_vectors ag_liarOperator ag_rounds mk_entries mk_slots mk_remainders mk_blocks mk_blockBids mk_blockOffers mk_entryCount mk_blockCount cv_limits cv_bids cv_offers cv_count cv_allBids cv_allOffers cv_meetingPrice cv_sureBids cv_sureOffers cv_priceBids cv_priceOffers cv_volume cv_worth oc_prices oc_volumes oc_filled oc_worth oc_takenSet oc_isDone, hT) 0 0 _
  refine mr_iload_n d_c_quantityAtPrice_0 rfl rfl ?_
  refine mr_if_ne (tgt := 11) d_c_quantityAtPrice_1 (by decide) ?_ ?_
  · refine mr_aload_n d_c_quantityAtPrice_11 rfl rfl ?_
    refine mr_get K_c 10 d_c_quantityAtPrice_12 lk_f_c_61 (by decide) rfl rfl ?_
    exact mr_iret d_c_quantityAtPrice_15 rfl rfl
  · refine mr_aload_n d_c_quantityAtPrice_4 rfl rfl ?_
    refine mr_get K_c 9 d_c_quantityAtPrice_5 lk_f_c_58 (by decide) rfl rfl ?_
    refine mr_goto (tgt := 15) d_c_quantityAtPrice_8 (by decide) ?_
    exact mr_iret d_c_quantityAtPrice_15 rfl rfl
theorem e_c_quantityAtPrice {g : mz_G} {ex : Bool} {hT : List mz_E} {x_members : Int32} {x_collaterals : Nat → Int32} {x_hasSent : Nat → Int32} {x_isSealed : Nat → Int32} {x_metered : Nat → Int32} {x_sealedCount : Int32} {bk_counts : Nat → Int32} {bk_needs : Nat → Int64} {bk_whens : Nat → Int32} {bk_sides : Nat → Int32} {bk_quantities : Nat → Int32} {bk_limits : Nat → Int32} {ag_toldLies : Nat → Int32} {ag_passedLies : Nat → Int32} {ag_words : Nat → Int32} {ag_vectors : Nat → Int32} {ag_liarOperator : Int32} {ag_rounds : Int32} {mk_entries : Nat → Int32} {mk_slots : Nat → Int32} {mk_remainders : Nat → Int32} {mk_blocks : Nat → Int32} {mk_blockBids : Nat → Int32} {mk_blockOffers : Nat → Int32} {mk_entryCount : Int32} {mk_blockCount : Int32} {cv_limits : Nat → Nat → Int32} {cv_bids : Nat → Nat → Int32} {cv_offers : Nat → Nat → Int32} {cv_count : Nat → Int32} {cv_allBids : Nat → Int32} {cv_allOffers : Nat → Int32} {cv_meetingPrice : Nat → Int32} {cv_sureBids : Nat → Int32} {cv_sureOffers : Nat → Int32} {cv_priceBids : Nat → Int32} {cv_priceOffers : Nat → Int32} {cv_volume : Nat → Int32} {cv_worth : Nat → Int64} {oc_prices : Nat → Nat → Int32} {oc_volumes : Nat → Nat → Int32} {oc_filled : Nat → Nat → Int32} {oc_worth : Nat → Int64} {oc_takenSet : Nat → Int32} {oc_isDone : Nat → Int32} {x1 : Int32} {j : Nat} (hj : j < 3) : mz_M g M_c_quantityAtPrice 0 [.ref (19 + 4 * j), .int x1] ex (HX x_members x_collaterals x_hasSent x_isSealed x_metered x_sealedCount bk_counts bk_needs bk_whens bk_sides bk_quantities bk_limits ag_toldLies ag_passedLies ag_words ag_vectors ag_liarOperator ag_rounds mk_entries mk_slots mk_remainders mk_blocks mk_blockBids mk_blockOffers mk_entryCount mk_blockCount cv_limits cv_bids cv_offers cv_count cv_allBids cv_allOffers cv_meetingPrice cv_sureBids cv_sureOffers cv_priceBids cv_priceOffers cv_volume cv_worth oc_prices oc_volumes oc_filled oc_worth oc_takenSet oc_isDone, hT) (f_c_quantityAtPrice (cv_priceBids j) (cv_priceOffers j) x1) (fun r => (0, some (.int r), ex, (HX x_members x_collaterals x_hasSent x_isSealed x_metered x_sealedCount bk_counts bk_needs bk_whens bk_sides bk_quantities bk_limits ag_toldLies ag_passedLies ag_words ag_vectors ag_liarOperator ag_rounds mk_entries mk_slots mk_remainders mk_blocks mk_blockBids mk_blockOffers mk_entryCount mk_blockCount cv_limits cv_bids cv_offers cv_count cv_allBids cv_allOffers cv_meetingPrice cv_sureBids cv_sureOffers cv_priceBids cv_priceOffers cv_volume cv_worth oc_prices oc_volumes oc_filled oc_worth oc_takenSet oc_isDone, hT), 0, 0)) := match j, hj with | 0, _ => e_c_quantityAtPrice_0 | 1, _ => e_c_quantityAtPrice_1 | 2, _ => e_c_quantityAtPrice_2 | j + 3, h => absurd h (by omega)
set_option maxRecDepth 100000 in
set_option maxHeartbeats 4000000 in
theorem e_mk_greatestRemainder {g : mz_G} {ex : Bool} {hT : List mz_E} {x_members : Int32} {x_collaterals : Nat → Int32} {x_hasSent : Nat → Int32} {x_isSealed : Nat → Int32} {x_metered : Nat → Int32} {x_sealedCount : Int32} {bk_counts : Nat → Int32} {bk_needs : Nat → Int64} {bk_whens : Nat → Int32} {bk_sides : Nat → Int32} {bk_quantities : Nat → Int32} {bk_limits : Nat → Int32} {ag_toldLies : Nat → Int32} {ag_passedLies : Nat → Int32} {ag_words : Nat → Int32} {ag_vectors : Nat → Int32} {ag_liarOperator : Int32} {ag_rounds : Int32} {mk_entries : Nat → Int32} {mk_slots : Nat → Int32} {mk_remainders : Nat → Int32} {mk_blocks : Nat → Int32} {mk_blockBids : Nat → Int32} {mk_blockOffers : Nat → Int32} {mk_entryCount : Int32} {mk_blockCount : Int32} {cv_limits : Nat → Nat → Int32} {cv_bids : Nat → Nat → Int32} {cv_offers : Nat → Nat → Int32} {cv_count : Nat → Int32} {cv_allBids : Nat → Int32} {cv_allOffers : Nat → Int32} {cv_meetingPrice : Nat → Int32} {cv_sureBids : Nat → Int32} {cv_sureOffers : Nat → Int32} {cv_priceBids : Nat → Int32} {cv_priceOffers : Nat → Int32} {cv_volume : Nat → Int32} {cv_worth : Nat → Int64} {oc_prices : Nat → Nat → Int32} {oc_volumes : Nat → Nat → Int32} {oc_filled : Nat → Nat → Int32} {oc_worth : Nat → Int64} {oc_takenSet : Nat → Int32} {oc_isDone : Nat → Int32} : mz_M g M_mk_greatestRemainder 0 [.ref 17] ex (HX x_members x_collaterals x_hasSent x_isSealed x_metered x_sealedCount bk_counts bk_needs bk_whens bk_sides bk_quantities bk_limits ag_toldLies ag_passedLies ag_words ag_vectors ag_liarOperator ag_rounds mk_entries mk_slots mk_remainders mk_blocks mk_blockBids mk_blockOffers mk_entryCount mk_blockCount cv_limits cv_bids cv_offers cv_count cv_allBids cv_allOffers cv_meetingPrice cv_sureBids cv_sureOffers cv_priceBids cv_priceOffers cv_volume cv_worth oc_prices oc_volumes oc_filled oc_worth oc_takenSet oc_isDone, hT) (f_mk_greatestRemainder mk_remainders mk_entryCount) (fun r => (0, some (.int r), ex, (HX x_members x_collaterals x_hasSent x_isSealed x_metered x_sealedCount bk_counts bk_needs bk_whens bk_sides bk_quantities bk_limits ag_toldLies ag_passedLies ag_words ag_vectors ag_liarOperator ag_rounds mk_entries mk_slots mk_remainders mk_blocks mk_blockBids mk_blockOffers mk_entryCount mk_blockCount cv_limits cv_bids cv_offers cv_count cv_allBids cv_allOffers cv_meetingPrice cv_sureBids cv_sureOffers cv_priceBids cv_priceOffers cv_volume cv_worth oc_prices oc_volumes oc_filled oc_worth oc_takenSet oc_isDone, hT), 0, 0)) := by
  have w_L4 : ∀ (n : Nat) (x1 : Int32) (x2 : Int32), mz_A g M_mk_greatestRemainder (mz_rm 0) (fun r => (0, some (.int r), ex, (HX x_members x_collaterals x_hasSent x_isSealed x_metered x_sealedCount bk_counts bk_needs bk_whens bk_sides bk_quantities bk_limits ag_toldLies ag_passedLies ag_words ag_vectors ag_liarOperator ag_rounds mk_entries mk_slots mk_remainders mk_blocks mk_blockBids mk_blockOffers mk_entryCount mk_blockCount cv_limits cv_bids cv_offers cv_count cv_allBids cv_allOffers cv_meetingPrice cv_sureBids cv_sureOffers cv_priceBids cv_priceOffers cv_volume cv_worth oc_prices oc_volumes oc_filled oc_worth oc_takenSet oc_isDone, hT), 0, 0)) 4 [(0, .ref 17), (1, .int x1), (2, .int x2)] [] ex (HX x_members x_collaterals x_hasSent x_isSealed x_metered x_sealedCount bk_counts bk_needs bk_whens bk_sides bk_quantities bk_limits ag_toldLies ag_passedLies ag_words ag_vectors ag_liarOperator ag_rounds mk_entries mk_slots mk_remainders mk_blocks mk_blockBids mk_blockOffers mk_entryCount mk_blockCount cv_limits cv_bids cv_offers cv_count cv_allBids cv_allOffers cv_meetingPrice cv_sureBids cv_sureOffers cv_priceBids cv_priceOffers cv_volume cv_worth oc_prices oc_volumes oc_filled oc_worth oc_takenSet oc_isDone, hT) 0 0 (f_mk_greatestRemainder_L4 mk_remainders mk_entryCount n x1 x2) := by
    intro n
    induction n with
    | zero => intro x1 x2; exact mr_none
    | succ n ih =>
      intro x1 x2
      rw [f_mk_greatestRemainder_L4]
      refine mr_iload_n d_mk_greatestRemainder_4 rfl rfl ?_
      refine mr_aload_n d_mk_greatestRemainder_5 rfl rfl ?_
      refine mr_get K_mk 8 d_mk_greatestRemainder_6 lk_f_mk_41 (by decide) rfl rfl ?_
      refine mr_icmp_ge (tgt := 35) d_mk_greatestRemainder_9 (by decide) ?_ ?_
      · refine mr_iload_n d_mk_greatestRemainder_35 rfl rfl ?_
        exact mr_iret d_mk_greatestRemainder_36 rfl rfl
      · refine mr_aload_n d_mk_greatestRemainder_12 rfl rfl ?_
        refine mr_get K_mk 4 d_mk_greatestRemainder_13 lk_f_mk_29 (by decide) rfl rfl ?_
        refine mr_iload_n d_mk_greatestRemainder_16 rfl rfl ?_
        refine mr_iald d_mk_greatestRemainder_17 rfl (fun hc1 => ?_)
        refine mr_aload_n d_mk_greatestRemainder_18 rfl rfl ?_
        refine mr_get K_mk 4 d_mk_greatestRemainder_19 lk_f_mk_29 (by decide) rfl rfl ?_
        refine mr_iload_n d_mk_greatestRemainder_22 rfl rfl ?_
        refine mr_iald d_mk_greatestRemainder_23 rfl (fun hc2 => ?_)
        refine mr_icmp_le (tgt := 29) d_mk_greatestRemainder_24 (by decide) ?_ ?_
        · refine mr_iinc (v := (x2 + 1)) (lv' := [(2, .int (x2 + 1)), (0, .ref 17), (1, .int x1)]) d_mk_greatestRemainder_29 rfl rfl (by decide) rfl ?_
          refine mr_goto (tgt := 4) d_mk_greatestRemainder_32 (by decide) ?_
          refine mr_sub (lv' := [(0, .ref 17), (1, .int x1), (2, .int (x2 + 1))]) [1, 2, 0] rfl ?_
          exact ih _ _
        · refine mr_iload_n d_mk_greatestRemainder_27 rfl rfl ?_
          refine mr_istore_n (lv' := [(1, .int x2), (0, .ref 17), (2, .int x2)]) d_mk_greatestRemainder_28 rfl (by decide) rfl ?_
          refine mr_iinc (v := (x2 + 1)) (lv' := [(2, .int (x2 + 1)), (1, .int x2), (0, .ref 17)]) d_mk_greatestRemainder_29 rfl rfl (by decide) rfl ?_
          refine mr_goto (tgt := 4) d_mk_greatestRemainder_32 (by decide) ?_
          refine mr_sub (lv' := [(0, .ref 17), (1, .int x2), (2, .int (x2 + 1))]) [2, 1, 0] rfl ?_
          exact ih _ _
  refine mz_of (by decide) (Nat.le_of_ble_eq_true rfl) ?_
  rw [f_mk_greatestRemainder]
  show mz_A g M_mk_greatestRemainder (mz_rm 0) _ 0 [(0, .ref 17)] [] ex (HX x_members x_collaterals x_hasSent x_isSealed x_metered x_sealedCount bk_counts bk_needs bk_whens bk_sides bk_quantities bk_limits ag_toldLies ag_passedLies ag_words ag_vectors ag_liarOperator ag_rounds mk_entries mk_slots mk_remainders mk_blocks mk_blockBids mk_blockOffers mk_entryCount mk_blockCount cv_limits cv_bids cv_offers cv_count cv_allBids cv_allOffers cv_meetingPrice cv_sureBids cv_sureOffers cv_priceBids cv_priceOffers cv_volume cv_worth oc_prices oc_volumes oc_filled oc_worth oc_takenSet oc_isDone, hT) 0 0 _
  refine mr_iconst (v := 0) d_mk_greatestRemainder_0 mc_iconst_0 ?_
  refine mr_istore_n (lv' := [(1, .int 0), (0, .ref 17)]) d_mk_greatestRemainder_1 rfl (by decide) rfl ?_
  refine mr_iconst (v := 1) d_mk_greatestRemainder_2 mc_iconst_1 ?_
  refine mr_istore_n (lv' := [(2, .int 1), (1, .int 0), (0, .ref 17)]) d_mk_greatestRemainder_3 rfl (by decide) rfl ?_
  refine mr_sub (lv' := [(0, .ref 17), (1, .int 0), (2, .int 1)]) [2, 1, 0] rfl ?_
  exact w_L4 1000 _ _
set_option maxRecDepth 100000 in
set_option maxHeartbeats 4000000 in
theorem e_mk_isSharing {g : mz_G} {ex : Bool} {hT : List mz_E} {x_members : Int32} {x_collaterals : Nat → Int32} {x_hasSent : Nat → Int32} {x_isSealed : Nat → Int32} {x_metered : Nat → Int32} {x_sealedCount : Int32} {bk_counts : Nat → Int32} {bk_needs : Nat → Int64} {bk_whens : Nat → Int32} {bk_sides : Nat → Int32} {bk_quantities : Nat → Int32} {bk_limits : Nat → Int32} {ag_toldLies : Nat → Int32} {ag_passedLies : Nat → Int32} {ag_words : Nat → Int32} {ag_vectors : Nat → Int32} {ag_liarOperator : Int32} {ag_rounds : Int32} {mk_entries : Nat → Int32} {mk_slots : Nat → Int32} {mk_remainders : Nat → Int32} {mk_blocks : Nat → Int32} {mk_blockBids : Nat → Int32} {mk_blockOffers : Nat → Int32} {mk_entryCount : Int32} {mk_blockCount : Int32} {cv_limits : Nat → Nat → Int32} {cv_bids : Nat → Nat → Int32} {cv_offers : Nat → Nat → Int32} {cv_count : Nat → Int32} {cv_allBids : Nat → Int32} {cv_allOffers : Nat → Int32} {cv_meetingPrice : Nat → Int32} {cv_sureBids : Nat → Int32} {cv_sureOffers : Nat → Int32} {cv_priceBids : Nat → Int32} {cv_priceOffers : Nat → Int32} {cv_volume : Nat → Int32} {cv_worth : Nat → Int64} {oc_prices : Nat → Nat → Int32} {oc_volumes : Nat → Nat → Int32} {oc_filled : Nat → Nat → Int32} {oc_worth : Nat → Int64} {oc_takenSet : Nat → Int32} {oc_isDone : Nat → Int32} {x1 : Int32} {x2 : Int32} {x3 : Int32} : mz_M g M_mk_isSharing 1 [.ref 17, .int x1, .int x2, .int x3] ex (HX x_members x_collaterals x_hasSent x_isSealed x_metered x_sealedCount bk_counts bk_needs bk_whens bk_sides bk_quantities bk_limits ag_toldLies ag_passedLies ag_words ag_vectors ag_liarOperator ag_rounds mk_entries mk_slots mk_remainders mk_blocks mk_blockBids mk_blockOffers mk_entryCount mk_blockCount cv_limits cv_bids cv_offers cv_count cv_allBids cv_allOffers cv_meetingPrice cv_sureBids cv_sureOffers cv_priceBids cv_priceOffers cv_volume cv_worth oc_prices oc_volumes oc_filled oc_worth oc_takenSet oc_isDone, hT) (f_mk_isSharing bk_whens bk_sides bk_limits cv_meetingPrice x1 x2 x3) (fun r => (0, some (.int r), ex, (HX x_members x_collaterals x_hasSent x_isSealed x_metered x_sealedCount bk_counts bk_needs bk_whens bk_sides bk_quantities bk_limits ag_toldLies ag_passedLies ag_words ag_vectors ag_liarOperator ag_rounds mk_entries mk_slots mk_remainders mk_blocks mk_blockBids mk_blockOffers mk_entryCount mk_blockCount cv_limits cv_bids cv_offers cv_count cv_allBids cv_allOffers cv_meetingPrice cv_sureBids cv_sureOffers cv_priceBids cv_priceOffers cv_volume cv_worth oc_prices oc_volumes oc_filled oc_worth oc_takenSet oc_isDone, hT), 0, 0)) := by
  refine mz_of (by decide) (Nat.le_of_ble_eq_true rfl) ?_
  rw [f_mk_isSharing]
  show mz_A g M_mk_isSharing (mz_rm 1) _ 0 [(0, .ref 17), (1, .int x1), (2, .int x2), (3, .int x3)] [] ex (HX x_members x_collaterals x_hasSent x_isSealed x_metered x_sealedCount bk_counts bk_needs bk_whens bk_sides bk_quantities bk_limits ag_toldLies ag_passedLies ag_words ag_vectors ag_liarOperator ag_rounds mk_entries mk_slots mk_remainders mk_blocks mk_blockBids mk_blockOffers mk_entryCount mk_blockCount cv_limits cv_bids cv_offers cv_count cv_allBids cv_allOffers cv_meetingPrice cv_sureBids cv_sureOffers cv_priceBids cv_priceOffers cv_volume cv_worth oc_prices oc_volumes oc_filled oc_worth oc_takenSet oc_isDone, hT) 0 0 _
  refine mr_aload_n d_mk_isSharing_0 rfl rfl ?_
  refine mr_get K_mk 0 d_mk_isSharing_1 lk_f_mk_9 (by decide) rfl rfl ?_
  refine mr_iload_n d_mk_isSharing_4 rfl rfl ?_
  refine mz_go (st := []) e_bk_isBlock (fun _ => rfl) U_bk_isBlock (mz_vV d_mk_isSharing_5 U_bk_isBlock rfl lk_m_mk_66 I_bk_isBlock s_bk_isBlock np_bk_isBlock rfl rfl) (Nat.le_of_ble_eq_true rfl) (by decide) (fun r1 => ?_)
  refine mr_eq (st' := [.int r1]) (ex' := ex) (h2 := (HX x_members x_collaterals x_hasSent x_isSealed x_metered x_sealedCount bk_counts bk_needs bk_whens bk_sides bk_quantities bk_limits ag_toldLies ag_passedLies ag_words ag_vectors ag_liarOperator ag_rounds mk_entries mk_slots mk_remainders mk_blocks mk_blockBids mk_blockOffers mk_entryCount mk_blockCount cv_limits cv_bids cv_offers cv_count cv_allBids cv_allOffers cv_meetingPrice cv_sureBids cv_sureOffers cv_priceBids cv_priceOffers cv_volume cv_worth oc_prices oc_volumes oc_filled oc_worth oc_takenSet oc_isDone, hT)) (k' := 0) (n' := 0) rfl rfl rfl rfl rfl ?_
  refine mr_if_ne (tgt := 62) d_mk_isSharing_8 (by decide) ?_ ?_
  · refine mr_iconst (v := 0) d_mk_isSharing_62 mc_iconst_0 ?_
    exact mr_zret d_mk_isSharing_63 rfl rfl
  · refine mr_aload_n d_mk_isSharing_11 rfl rfl ?_
    refine mr_get K_mk 0 d_mk_isSharing_12 lk_f_mk_9 (by decide) rfl rfl ?_
    refine mr_getN K_bk 2 d_mk_isSharing_15 lk_f_mk_70 (by decide) rfl rfl ?_
    refine mr_iload_n d_mk_isSharing_18 rfl rfl ?_
    refine mr_iald d_mk_isSharing_19 rfl (fun hc2 => ?_)
    refine mr_iload_n d_mk_isSharing_20 rfl rfl ?_
    refine mr_icmp_ne (tgt := 62) d_mk_isSharing_21 (by decide) ?_ ?_
    · refine mr_iconst (v := 0) d_mk_isSharing_62 mc_iconst_0 ?_
      exact mr_zret d_mk_isSharing_63 rfl rfl
    · refine mr_aload_n d_mk_isSharing_24 rfl rfl ?_
      refine mr_get K_mk 0 d_mk_isSharing_25 lk_f_mk_9 (by decide) rfl rfl ?_
      refine mr_getN K_bk 3 d_mk_isSharing_28 lk_f_mk_73 (by decide) rfl rfl ?_
      refine mr_iload_n d_mk_isSharing_31 rfl rfl ?_
      refine mr_ialdK d_mk_isSharing_32 rfl hc2 ?_
      refine mr_iload_n d_mk_isSharing_33 rfl rfl ?_
      refine mr_icmp_ne (tgt := 62) d_mk_isSharing_34 (by decide) ?_ ?_
      · refine mr_iconst (v := 0) d_mk_isSharing_62 mc_iconst_0 ?_
        exact mr_zret d_mk_isSharing_63 rfl rfl
      · refine mr_aload_n d_mk_isSharing_37 rfl rfl ?_
        refine mr_get K_mk 0 d_mk_isSharing_38 lk_f_mk_9 (by decide) rfl rfl ?_
        refine mr_getN K_bk 5 d_mk_isSharing_41 lk_f_mk_79 (by decide) rfl rfl ?_
        refine mr_iload_n d_mk_isSharing_44 rfl rfl ?_
        refine mr_ialdK d_mk_isSharing_45 rfl hc2 ?_
        refine mr_aload_n d_mk_isSharing_46 rfl rfl ?_
        refine mr_get K_mk 1 d_mk_isSharing_47 lk_f_mk_17 (by decide) rfl rfl ?_
        refine mr_iload_n d_mk_isSharing_50 rfl rfl ?_
        refine mr_aald d_mk_isSharing_51 (fun _ => rfl) rfl (fun _ => rfl) (fun hc3 => ?_)
        refine mr_getN K_c 6 d_mk_isSharing_52 lk_f_mk_109 (by decide) (gt_c (mz_lt hc3)) rfl ?_
        refine mr_icmp_ne (tgt := 62) d_mk_isSharing_55 (by decide) ?_ ?_
        · refine mr_iconst (v := 0) d_mk_isSharing_62 mc_iconst_0 ?_
          exact mr_zret d_mk_isSharing_63 rfl rfl
        · refine mr_iconst (v := 1) d_mk_isSharing_58 mc_iconst_1 ?_
          refine mr_goto (tgt := 63) d_mk_isSharing_59 (by decide) ?_
          exact mr_zret d_mk_isSharing_63 rfl rfl
set_option maxRecDepth 100000 in
set_option maxHeartbeats 4000000 in
theorem e_mk_share_0 {g : mz_G} {ex : Bool} {hT : List mz_E} {x_members : Int32} {x_collaterals : Nat → Int32} {x_hasSent : Nat → Int32} {x_isSealed : Nat → Int32} {x_metered : Nat → Int32} {x_sealedCount : Int32} {bk_counts : Nat → Int32} {bk_needs : Nat → Int64} {bk_whens : Nat → Int32} {bk_sides : Nat → Int32} {bk_quantities : Nat → Int32} {bk_limits : Nat → Int32} {ag_toldLies : Nat → Int32} {ag_passedLies : Nat → Int32} {ag_words : Nat → Int32} {ag_vectors : Nat → Int32} {ag_liarOperator : Int32} {ag_rounds : Int32} {mk_entries : Nat → Int32} {mk_slots : Nat → Int32} {mk_remainders : Nat → Int32} {mk_blocks : Nat → Int32} {mk_blockBids : Nat → Int32} {mk_blockOffers : Nat → Int32} {mk_entryCount : Int32} {mk_blockCount : Int32} {cv_limits : Nat → Nat → Int32} {cv_bids : Nat → Nat → Int32} {cv_offers : Nat → Nat → Int32} {cv_count : Nat → Int32} {cv_allBids : Nat → Int32} {cv_allOffers : Nat → Int32} {cv_meetingPrice : Nat → Int32} {cv_sureBids : Nat → Int32} {cv_sureOffers : Nat → Int32} {cv_priceBids : Nat → Int32} {cv_priceOffers : Nat → Int32} {cv_volume : Nat → Int32} {cv_worth : Nat → Int64} {oc_prices : Nat → Nat → Int32} {oc_volumes : Nat → Nat → Int32} {oc_filled : Nat → Nat → Int32} {oc_worth : Nat → Int64} {oc_takenSet : Nat → Int32} {oc_isDone : Nat → Int32} {x2 : Int32} {x3 : Int32} : mz_M g M_mk_share 2 [.ref 17, .ref 38, .int x2, .int x3] ex (HX x_members x_collaterals x_hasSent x_isSealed x_metered x_sealedCount bk_counts bk_needs bk_whens bk_sides bk_quantities bk_limits ag_toldLies ag_passedLies ag_words ag_vectors ag_liarOperator ag_rounds mk_entries mk_slots mk_remainders mk_blocks mk_blockBids mk_blockOffers mk_entryCount mk_blockCount cv_limits cv_bids cv_offers cv_count cv_allBids cv_allOffers cv_meetingPrice cv_sureBids cv_sureOffers cv_priceBids cv_priceOffers cv_volume cv_worth oc_prices oc_volumes oc_filled oc_worth oc_takenSet oc_isDone, hT) (f_mk_share bk_whens bk_sides bk_quantities bk_limits mk_entries mk_slots mk_remainders mk_entryCount cv_meetingPrice cv_sureBids cv_sureOffers cv_priceBids cv_priceOffers cv_volume (oc_filled 0) x2 x3) (fun r => (0, none, ex, (HX x_members x_collaterals x_hasSent x_isSealed x_metered x_sealedCount bk_counts bk_needs bk_whens bk_sides bk_quantities bk_limits ag_toldLies ag_passedLies ag_words ag_vectors ag_liarOperator ag_rounds mk_entries mk_slots r.1 mk_blocks mk_blockBids mk_blockOffers mk_entryCount mk_blockCount cv_limits cv_bids cv_offers cv_count cv_allBids cv_allOffers cv_meetingPrice cv_sureBids cv_sureOffers cv_priceBids cv_priceOffers cv_volume cv_worth oc_prices oc_volumes (va_up oc_filled 0 r.2) oc_worth oc_takenSet oc_isDone, hT), 0, 0)) := by
  have w_L138 : ∀ (n : Nat) (mk_remainders : Nat → Int32) (o_filled : Nat → Int32) (x6 : Int32) (x7 : Int32), mz_A g M_mk_share (mz_rm 2) (fun r => (0, none, ex, (HX x_members x_collaterals x_hasSent x_isSealed x_metered x_sealedCount bk_counts bk_needs bk_whens bk_sides bk_quantities bk_limits ag_toldLies ag_passedLies ag_words ag_vectors ag_liarOperator ag_rounds mk_entries mk_slots r.1 mk_blocks mk_blockBids mk_blockOffers mk_entryCount mk_blockCount cv_limits cv_bids cv_offers cv_count cv_allBids cv_allOffers cv_meetingPrice cv_sureBids cv_sureOffers cv_priceBids cv_priceOffers cv_volume cv_worth oc_prices oc_volumes (va_up oc_filled 0 r.2) oc_worth oc_takenSet oc_isDone, hT), 0, 0)) 138 [(0, .ref 17), (1, .ref 38), (6, .int x6), (7, .int x7)] [] ex (HX x_members x_collaterals x_hasSent x_isSealed x_metered x_sealedCount bk_counts bk_needs bk_whens bk_sides bk_quantities bk_limits ag_toldLies ag_passedLies ag_words ag_vectors ag_liarOperator ag_rounds mk_entries mk_slots mk_remainders mk_blocks mk_blockBids mk_blockOffers mk_entryCount mk_blockCount cv_limits cv_bids cv_offers cv_count cv_allBids cv_allOffers cv_meetingPrice cv_sureBids cv_sureOffers cv_priceBids cv_priceOffers cv_volume cv_worth oc_prices oc_volumes (va_up oc_filled 0 o_filled) oc_worth oc_takenSet oc_isDone, hT) 0 0 (f_mk_share_L138 bk_whens bk_sides bk_quantities bk_limits mk_entries mk_slots mk_entryCount cv_meetingPrice cv_sureBids cv_sureOffers cv_priceBids cv_priceOffers cv_volume n mk_remainders o_filled x6 x7) := by
    intro n
    induction n with
    | zero => intro mk_remainders o_filled x6 x7; exact mr_none
    | succ n ih =>
      intro mk_remainders o_filled x6 x7
      rw [f_mk_share_L138]
      refine mr_iload d_mk_share_138 rfl ?_
      refine mr_iload d_mk_share_140 rfl ?_
      refine mr_icmp_ge (tgt := 190) d_mk_share_142 (by decide) ?_ ?_
      · exact mr_vret d_mk_share_190 rfl rfl
      · refine mr_iload d_mk_share_145 rfl ?_
        refine mr_aload_n d_mk_share_147 rfl rfl ?_
        refine mr_get K_mk 8 d_mk_share_148 lk_f_mk_41 (by decide) rfl rfl ?_
        refine mr_icmp_ge (tgt := 190) d_mk_share_151 (by decide) ?_ ?_
        · exact mr_vret d_mk_share_190 rfl rfl
        · refine mr_aload_n d_mk_share_154 rfl rfl ?_
          refine mz_go (st := []) e_mk_greatestRemainder (fun _ => rfl) U_mk_greatestRemainder (mz_vV d_mk_share_155 U_mk_greatestRemainder rfl lk_m_mk_180 I_mk_greatestRemainder s_mk_greatestRemainder np_mk_greatestRemainder rfl rfl) (Nat.le_of_ble_eq_true rfl) (by decide) (fun r9 => ?_)
          refine mr_eq (st' := [.int r9]) (ex' := ex) (h2 := (HX x_members x_collaterals x_hasSent x_isSealed x_metered x_sealedCount bk_counts bk_needs bk_whens bk_sides bk_quantities bk_limits ag_toldLies ag_passedLies ag_words ag_vectors ag_liarOperator ag_rounds mk_entries mk_slots mk_remainders mk_blocks mk_blockBids mk_blockOffers mk_entryCount mk_blockCount cv_limits cv_bids cv_offers cv_count cv_allBids cv_allOffers cv_meetingPrice cv_sureBids cv_sureOffers cv_priceBids cv_priceOffers cv_volume cv_worth oc_prices oc_volumes (va_up oc_filled 0 o_filled) oc_worth oc_takenSet oc_isDone, hT)) (k' := 0) (n' := 0) rfl rfl rfl rfl rfl ?_
          refine mr_istore (lv' := [(8, .int r9), (0, .ref 17), (1, .ref 38), (6, .int x6), (7, .int x7)]) d_mk_share_158 (by decide) rfl ?_
          refine mr_aload_n d_mk_share_160 rfl rfl ?_
          refine mr_getN K_o 2 d_mk_share_161 lk_f_mk_167 (by decide) rfl rfl ?_
          refine mr_aload_n d_mk_share_164 rfl rfl ?_
          refine mr_get K_mk 3 d_mk_share_165 lk_f_mk_26 (by decide) rfl rfl ?_
          refine mr_iload d_mk_share_168 rfl ?_
          refine mr_iald d_mk_share_170 rfl (fun hc10 => ?_)
          refine mr_dup2_11 d_mk_share_171 rfl rfl ?_
          refine mr_iald d_mk_share_172 rfl (fun hc11 => ?_)
          refine mr_iconst (v := 1) d_mk_share_173 mc_iconst_1 ?_
          refine mr_iadd d_mk_share_174 ?_
          refine mr_iastK (h2 := (HX x_members x_collaterals x_hasSent x_isSealed x_metered x_sealedCount bk_counts bk_needs bk_whens bk_sides bk_quantities bk_limits ag_toldLies ag_passedLies ag_words ag_vectors ag_liarOperator ag_rounds mk_entries mk_slots mk_remainders mk_blocks mk_blockBids mk_blockOffers mk_entryCount mk_blockCount cv_limits cv_bids cv_offers cv_count cv_allBids cv_allOffers cv_meetingPrice cv_sureBids cv_sureOffers cv_priceBids cv_priceOffers cv_volume cv_worth oc_prices oc_volumes (va_up oc_filled 0 (upd o_filled (mk_slots r9.toNatClampNeg).toNatClampNeg ((o_filled (mk_slots r9.toNatClampNeg).toNatClampNeg) + 1))) oc_worth oc_takenSet oc_isDone, hT)) d_mk_share_175 rfl rfl hc11 ?_
          refine mr_aload_n d_mk_share_176 rfl rfl ?_
          refine mr_get K_mk 4 d_mk_share_177 lk_f_mk_29 (by decide) rfl rfl ?_
          refine mr_iload d_mk_share_180 rfl ?_
          refine mr_iconst (v := (-1)) d_mk_share_182 mc_iconst_m1 ?_
          refine mr_iastK (h2 := (HX x_members x_collaterals x_hasSent x_isSealed x_metered x_sealedCount bk_counts bk_needs bk_whens bk_sides bk_quantities bk_limits ag_toldLies ag_passedLies ag_words ag_vectors ag_liarOperator ag_rounds mk_entries mk_slots (upd mk_remainders r9.toNatClampNeg (-1)) mk_blocks mk_blockBids mk_blockOffers mk_entryCount mk_blockCount cv_limits cv_bids cv_offers cv_count cv_allBids cv_allOffers cv_meetingPrice cv_sureBids cv_sureOffers cv_priceBids cv_priceOffers cv_volume cv_worth oc_prices oc_volumes (va_up oc_filled 0 (upd o_filled (mk_slots r9.toNatClampNeg).toNatClampNeg ((o_filled (mk_slots r9.toNatClampNeg).toNatClampNeg) + 1))) oc_worth oc_takenSet oc_isDone, hT)) d_mk_share_183 rfl rfl hc10 ?_
          refine mr_iinc (v := (x7 + 1)) (lv' := [(7, .int (x7 + 1)), (8, .int r9), (0, .ref 17), (1, .ref 38), (6, .int x6)]) d_mk_share_184 rfl rfl (by decide) rfl ?_
          refine mr_goto (tgt := 138) d_mk_share_187 (by decide) ?_
          refine mr_sub (lv' := [(0, .ref 17), (1, .ref 38), (6, .int x6), (7, .int (x7 + 1))]) [2, 3, 4, 0] rfl ?_
          exact ih _ _ _ _
  have w_L37 : ∀ (n : Nat) (mk_remainders : Nat → Int32) (o_filled : Nat → Int32) (x4 : Int32) (x5 : Int32) (x6 : Int32) (x7 : Int32), mz_A g M_mk_share (mz_rm 2) (fun r => (0, none, ex, (HX x_members x_collaterals x_hasSent x_isSealed x_metered x_sealedCount bk_counts bk_needs bk_whens bk_sides bk_quantities bk_limits ag_toldLies ag_passedLies ag_words ag_vectors ag_liarOperator ag_rounds mk_entries mk_slots r.1 mk_blocks mk_blockBids mk_blockOffers mk_entryCount mk_blockCount cv_limits cv_bids cv_offers cv_count cv_allBids cv_allOffers cv_meetingPrice cv_sureBids cv_sureOffers cv_priceBids cv_priceOffers cv_volume cv_worth oc_prices oc_volumes (va_up oc_filled 0 r.2) oc_worth oc_takenSet oc_isDone, hT), 0, 0)) 37 [(0, .ref 17), (1, .ref 38), (2, .int x2), (3, .int x3), (4, .int x4), (5, .int x5), (6, .int x6), (7, .int x7)] [] ex (HX x_members x_collaterals x_hasSent x_isSealed x_metered x_sealedCount bk_counts bk_needs bk_whens bk_sides bk_quantities bk_limits ag_toldLies ag_passedLies ag_words ag_vectors ag_liarOperator ag_rounds mk_entries mk_slots mk_remainders mk_blocks mk_blockBids mk_blockOffers mk_entryCount mk_blockCount cv_limits cv_bids cv_offers cv_count cv_allBids cv_allOffers cv_meetingPrice cv_sureBids cv_sureOffers cv_priceBids cv_priceOffers cv_volume cv_worth oc_prices oc_volumes (va_up oc_filled 0 o_filled) oc_worth oc_takenSet oc_isDone, hT) 0 0 (f_mk_share_L37 bk_whens bk_sides bk_quantities bk_limits mk_entries mk_slots mk_entryCount cv_meetingPrice cv_sureBids cv_sureOffers cv_priceBids cv_priceOffers cv_volume x2 x3 n mk_remainders o_filled x4 x5 x6 x7) := by
    intro n
    induction n with
    | zero => intro mk_remainders o_filled x4 x5 x6 x7; exact mr_none
    | succ n ih =>
      intro mk_remainders o_filled x4 x5 x6 x7
      rw [f_mk_share_L37]
      refine mr_iload d_mk_share_37 rfl ?_
      refine mr_aload_n d_mk_share_39 rfl rfl ?_
      refine mr_get K_mk 8 d_mk_share_40 lk_f_mk_41 (by decide) rfl rfl ?_
      refine mr_icmp_ge (tgt := 135) d_mk_share_43 (by decide) ?_ ?_
      · refine mr_iconst (v := 0) d_mk_share_135 mc_iconst_0 ?_
        refine mr_istore (lv' := [(7, .int 0), (0, .ref 17), (1, .ref 38), (2, .int x2), (3, .int x3), (4, .int x4), (5, .int x5), (6, .int x6)]) d_mk_share_136 (by decide) rfl ?_
        refine mr_sub (lv' := [(0, .ref 17), (1, .ref 38), (6, .int x6), (7, .int 0)]) [1, 2, 7, 0] rfl ?_
        exact w_L138 1000 _ _ _ _
      · refine mr_aload_n d_mk_share_46 rfl rfl ?_
        refine mr_get K_mk 4 d_mk_share_47 lk_f_mk_29 (by decide) rfl rfl ?_
        refine mr_iload d_mk_share_50 rfl ?_
        refine mr_iconst (v := (-1)) d_mk_share_52 mc_iconst_m1 ?_
        refine mr_iast (h2 := (HX x_members x_collaterals x_hasSent x_isSealed x_metered x_sealedCount bk_counts bk_needs bk_whens bk_sides bk_quantities bk_limits ag_toldLies ag_passedLies ag_words ag_vectors ag_liarOperator ag_rounds mk_entries mk_slots (upd mk_remainders x7.toNatClampNeg (-1)) mk_blocks mk_blockBids mk_blockOffers mk_entryCount mk_blockCount cv_limits cv_bids cv_offers cv_count cv_allBids cv_allOffers cv_meetingPrice cv_sureBids cv_sureOffers cv_priceBids cv_priceOffers cv_volume cv_worth oc_prices oc_volumes (va_up oc_filled 0 o_filled) oc_worth oc_takenSet oc_isDone, hT)) d_mk_share_53 rfl rfl (fun hc4 => ?_)
        refine mr_aload_n d_mk_share_54 rfl rfl ?_
        refine mr_aload_n d_mk_share_55 rfl rfl ?_
        refine mr_get K_mk 2 d_mk_share_56 lk_f_mk_22 (by decide) rfl rfl ?_
        refine mr_iload d_mk_share_59 rfl ?_
        refine mr_ialdK d_mk_share_61 rfl hc4 ?_
        refine mr_iload_n d_mk_share_62 rfl rfl ?_
        refine mr_iload_n d_mk_share_63 rfl rfl ?_
        refine mz_go (st := []) e_mk_isSharing (fun _ => rfl) U_mk_isSharing (mz_vV d_mk_share_64 U_mk_isSharing rfl lk_m_mk_176 I_mk_isSharing s_mk_isSharing np_mk_isSharing rfl rfl) (Nat.le_of_ble_eq_true rfl) (by decide) (fun r5 => ?_)
        refine mr_eq (st' := [.int r5]) (ex' := ex) (h2 := (HX x_members x_collaterals x_hasSent x_isSealed x_metered x_sealedCount bk_counts bk_needs bk_whens bk_sides bk_quantities bk_limits ag_toldLies ag_passedLies ag_words ag_vectors ag_liarOperator ag_rounds mk_entries mk_slots (upd mk_remainders x7.toNatClampNeg (-1)) mk_blocks mk_blockBids mk_blockOffers mk_entryCount mk_blockCount cv_limits cv_bids cv_offers cv_count cv_allBids cv_allOffers cv_meetingPrice cv_sureBids cv_sureOffers cv_priceBids cv_priceOffers cv_volume cv_worth oc_prices oc_volumes (va_up oc_filled 0 o_filled) oc_worth oc_takenSet oc_isDone, hT)) (k' := 0) (n' := 0) rfl rfl rfl rfl rfl ?_
        refine mr_if_eq (tgt := 129) d_mk_share_67 (by decide) ?_ ?_
        · refine mr_iinc (v := (x7 + 1)) (lv' := [(7, .int (x7 + 1)), (0, .ref 17), (1, .ref 38), (2, .int x2), (3, .int x3), (4, .int x4), (5, .int x5), (6, .int x6)]) d_mk_share_129 rfl rfl (by decide) rfl ?_
          refine mr_goto (tgt := 37) d_mk_share_132 (by decide) ?_
          refine mr_sub (lv' := [(0, .ref 17), (1, .ref 38), (2, .int x2), (3, .int x3), (4, .int x4), (5, .int x5), (6, .int x6), (7, .int (x7 + 1))]) [1, 2, 3, 4, 5, 6, 7, 0] rfl ?_
          exact ih _ _ _ _ _ _
        · refine mr_aload_n d_mk_share_70 rfl rfl ?_
          refine mr_get K_mk 0 d_mk_share_71 lk_f_mk_9 (by decide) rfl rfl ?_
          refine mr_getN K_bk 4 d_mk_share_74 lk_f_mk_76 (by decide) rfl rfl ?_
          refine mr_aload_n d_mk_share_77 rfl rfl ?_
          refine mr_get K_mk 2 d_mk_share_78 lk_f_mk_22 (by decide) rfl rfl ?_
          refine mr_iload d_mk_share_81 rfl ?_
          refine mr_ialdK d_mk_share_83 rfl hc4 ?_
          refine mr_iald d_mk_share_84 rfl (fun hc6 => ?_)
          refine mr_iload d_mk_share_85 rfl ?_
          refine mr_imul d_mk_share_87 ?_
          refine mr_istore (lv' := [(8, .int ((bk_quantities (mk_entries x7.toNatClampNeg).toNatClampNeg) * x4)), (0, .ref 17), (1, .ref 38), (2, .int x2), (3, .int x3), (4, .int x4), (5, .int x5), (6, .int x6), (7, .int x7)]) d_mk_share_88 (by decide) rfl ?_
          refine mr_aload_n d_mk_share_90 rfl rfl ?_
          refine mr_getN K_o 2 d_mk_share_91 lk_f_mk_167 (by decide) rfl rfl ?_
          refine mr_aload_n d_mk_share_94 rfl rfl ?_
          refine mr_get K_mk 3 d_mk_share_95 lk_f_mk_26 (by decide) rfl rfl ?_
          refine mr_iload d_mk_share_98 rfl ?_
          refine mr_ialdK d_mk_share_100 rfl hc4 ?_
          refine mr_iload d_mk_share_101 rfl ?_
          refine mr_iload d_mk_share_103 rfl ?_
          refine mr_idiv d_mk_share_105 (fun hz7 => ?_)
          refine mr_iast (h2 := (HX x_members x_collaterals x_hasSent x_isSealed x_metered x_sealedCount bk_counts bk_needs bk_whens bk_sides bk_quantities bk_limits ag_toldLies ag_passedLies ag_words ag_vectors ag_liarOperator ag_rounds mk_entries mk_slots (upd mk_remainders x7.toNatClampNeg (-1)) mk_blocks mk_blockBids mk_blockOffers mk_entryCount mk_blockCount cv_limits cv_bids cv_offers cv_count cv_allBids cv_allOffers cv_meetingPrice cv_sureBids cv_sureOffers cv_priceBids cv_priceOffers cv_volume cv_worth oc_prices oc_volumes (va_up oc_filled 0 (upd o_filled (mk_slots x7.toNatClampNeg).toNatClampNeg (((bk_quantities (mk_entries x7.toNatClampNeg).toNatClampNeg) * x4) / x5))) oc_worth oc_takenSet oc_isDone, hT)) d_mk_share_106 rfl rfl (fun hc8 => ?_)
          refine mr_aload_n d_mk_share_107 rfl rfl ?_
          refine mr_get K_mk 4 d_mk_share_108 lk_f_mk_29 (by decide) rfl rfl ?_
          refine mr_iload d_mk_share_111 rfl ?_
          refine mr_iload d_mk_share_113 rfl ?_
          refine mr_iload d_mk_share_115 rfl ?_
          refine mr_iremK d_mk_share_117 hz7 ?_
          refine mr_iastK (h2 := (HX x_members x_collaterals x_hasSent x_isSealed x_metered x_sealedCount bk_counts bk_needs bk_whens bk_sides bk_quantities bk_limits ag_toldLies ag_passedLies ag_words ag_vectors ag_liarOperator ag_rounds mk_entries mk_slots (upd (upd mk_remainders x7.toNatClampNeg (-1)) x7.toNatClampNeg (((bk_quantities (mk_entries x7.toNatClampNeg).toNatClampNeg) * x4) - ((bk_quantities (mk_entries x7.toNatClampNeg).toNatClampNeg) * x4) / x5 * x5)) mk_blocks mk_blockBids mk_blockOffers mk_entryCount mk_blockCount cv_limits cv_bids cv_offers cv_count cv_allBids cv_allOffers cv_meetingPrice cv_sureBids cv_sureOffers cv_priceBids cv_priceOffers cv_volume cv_worth oc_prices oc_volumes (va_up oc_filled 0 (upd o_filled (mk_slots x7.toNatClampNeg).toNatClampNeg (((bk_quantities (mk_entries x7.toNatClampNeg).toNatClampNeg) * x4) / x5))) oc_worth oc_takenSet oc_isDone, hT)) d_mk_share_118 rfl rfl hc4 ?_
          refine mr_iload d_mk_share_119 rfl ?_
          refine mr_iload d_mk_share_121 rfl ?_
          refine mr_iload d_mk_share_123 rfl ?_
          refine mr_idivK d_mk_share_125 hz7 ?_
          refine mr_isub d_mk_share_126 ?_
          refine mr_istore (lv' := [(6, .int (x6 - (((bk_quantities (mk_entries x7.toNatClampNeg).toNatClampNeg) * x4) / x5))), (8, .int ((bk_quantities (mk_entries x7.toNatClampNeg).toNatClampNeg) * x4)), (0, .ref 17), (1, .ref 38), (2, .int x2), (3, .int x3), (4, .int x4), (5, .int x5), (7, .int x7)]) d_mk_share_127 (by decide) rfl ?_
          refine mr_iinc (v := (x7 + 1)) (lv' := [(7, .int (x7 + 1)), (6, .int (x6 - (((bk_quantities (mk_entries x7.toNatClampNeg).toNatClampNeg) * x4) / x5))), (8, .int ((bk_quantities (mk_entries x7.toNatClampNeg).toNatClampNeg) * x4)), (0, .ref 17), (1, .ref 38), (2, .int x2), (3, .int x3), (4, .int x4), (5, .int x5)]) d_mk_share_129 rfl rfl (by decide) rfl ?_
          refine mr_goto (tgt := 37) d_mk_share_132 (by decide) ?_
          refine mr_sub (lv' := [(0, .ref 17), (1, .ref 38), (2, .int x2), (3, .int x3), (4, .int x4), (5, .int x5), (6, .int (x6 - (((bk_quantities (mk_entries x7.toNatClampNeg).toNatClampNeg) * x4) / x5))), (7, .int (x7 + 1))]) [3, 4, 5, 6, 7, 8, 1, 0] rfl ?_
          exact ih _ _ _ _ _ _
  refine mz_of (by decide) (Nat.le_of_ble_eq_true rfl) ?_
  rw [f_mk_share]
  show mz_A g M_mk_share (mz_rm 2) _ 0 [(0, .ref 17), (1, .ref 38), (2, .int x2), (3, .int x3)] [] ex (HX x_members x_collaterals x_hasSent x_isSealed x_metered x_sealedCount bk_counts bk_needs bk_whens bk_sides bk_quantities bk_limits ag_toldLies ag_passedLies ag_words ag_vectors ag_liarOperator ag_rounds mk_entries mk_slots mk_remainders mk_blocks mk_blockBids mk_blockOffers mk_entryCount mk_blockCount cv_limits cv_bids cv_offers cv_count cv_allBids cv_allOffers cv_meetingPrice cv_sureBids cv_sureOffers cv_priceBids cv_priceOffers cv_volume cv_worth oc_prices oc_volumes oc_filled oc_worth oc_takenSet oc_isDone, hT) 0 0 _
  refine mr_aload_n d_mk_share_0 rfl rfl ?_
  refine mr_get K_mk 1 d_mk_share_1 lk_f_mk_17 (by decide) rfl rfl ?_
  refine mr_iload_n d_mk_share_4 rfl rfl ?_
  refine mr_aald d_mk_share_5 (fun _ => rfl) rfl (fun _ => rfl) (fun hc1 => ?_)
  refine mr_iload_n d_mk_share_6 rfl rfl ?_
  refine mz_go (st := []) (e_c_shared (mz_lt hc1)) (fun _ => rfl) U_c_shared (mz_vV d_mk_share_7 U_c_shared rfl lk_m_mk_170 I_c_shared s_c_shared np_c_shared (gt_c (mz_lt hc1)) rfl) (Nat.le_of_ble_eq_true rfl) (by decide) (fun r2 => ?_)
  refine mr_eq (st' := [.int r2]) (ex' := ex) (h2 := (HX x_members x_collaterals x_hasSent x_isSealed x_metered x_sealedCount bk_counts bk_needs bk_whens bk_sides bk_quantities bk_limits ag_toldLies ag_passedLies ag_words ag_vectors ag_liarOperator ag_rounds mk_entries mk_slots mk_remainders mk_blocks mk_blockBids mk_blockOffers mk_entryCount mk_blockCount cv_limits cv_bids cv_offers cv_count cv_allBids cv_allOffers cv_meetingPrice cv_sureBids cv_sureOffers cv_priceBids cv_priceOffers cv_volume cv_worth oc_prices oc_volumes oc_filled oc_worth oc_takenSet oc_isDone, hT)) (k' := 0) (n' := 0) rfl rfl rfl rfl rfl ?_
  refine mr_istore (lv' := [(4, .int r2), (0, .ref 17), (1, .ref 38), (2, .int x2), (3, .int x3)]) d_mk_share_10 (by decide) rfl ?_
  refine mr_aload_n d_mk_share_12 rfl rfl ?_
  refine mr_get K_mk 1 d_mk_share_13 lk_f_mk_17 (by decide) rfl rfl ?_
  refine mr_iload_n d_mk_share_16 rfl rfl ?_
  refine mr_aaldK d_mk_share_17 (fun _ => rfl) rfl hc1 rfl ?_
  refine mr_iload_n d_mk_share_18 rfl rfl ?_
  refine mz_go (st := []) (e_c_quantityAtPrice (mz_lt hc1)) (fun _ => rfl) U_c_quantityAtPrice (mz_vV d_mk_share_19 U_c_quantityAtPrice rfl lk_m_mk_173 I_c_quantityAtPrice s_c_quantityAtPrice np_c_quantityAtPrice (gt_c (mz_lt hc1)) rfl) (Nat.le_of_ble_eq_true rfl) (by decide) (fun r3 => ?_)
  refine mr_eq (st' := [.int r3]) (ex' := ex) (h2 := (HX x_members x_collaterals x_hasSent x_isSealed x_metered x_sealedCount bk_counts bk_needs bk_whens bk_sides bk_quantities bk_limits ag_toldLies ag_passedLies ag_words ag_vectors ag_liarOperator ag_rounds mk_entries mk_slots mk_remainders mk_blocks mk_blockBids mk_blockOffers mk_entryCount mk_blockCount cv_limits cv_bids cv_offers cv_count cv_allBids cv_allOffers cv_meetingPrice cv_sureBids cv_sureOffers cv_priceBids cv_priceOffers cv_volume cv_worth oc_prices oc_volumes oc_filled oc_worth oc_takenSet oc_isDone, hT)) (k' := 0) (n' := 0) rfl rfl rfl rfl rfl ?_
  refine mr_istore (lv' := [(5, .int r3), (4, .int r2), (0, .ref 17), (1, .ref 38), (2, .int x2), (3, .int x3)]) d_mk_share_22 (by decide) rfl ?_
  refine mr_iload d_mk_share_24 rfl ?_
  refine mr_if_gt (tgt := 30) d_mk_share_26 (by decide) ?_ ?_
  · refine mr_iload d_mk_share_30 rfl ?_
    refine mr_istore (lv' := [(6, .int r2), (5, .int r3), (4, .int r2), (0, .ref 17), (1, .ref 38), (2, .int x2), (3, .int x3)]) d_mk_share_32 (by decide) rfl ?_
    refine mr_iconst (v := 0) d_mk_share_34 mc_iconst_0 ?_
    refine mr_istore (lv' := [(7, .int 0), (6, .int r2), (5, .int r3), (4, .int r2), (0, .ref 17), (1, .ref 38), (2, .int x2), (3, .int x3)]) d_mk_share_35 (by decide) rfl ?_
    refine mr_sub (lv' := [(0, .ref 17), (1, .ref 38), (2, .int x2), (3, .int x3), (4, .int r2), (5, .int r3), (6, .int r2), (7, .int 0)]) [4, 5, 6, 7, 3, 2, 1, 0] rfl ?_
    exact w_L37 1000 _ _ _ _ _ _
  · exact mr_vret d_mk_share_29 rfl rfl
set_option maxRecDepth 100000 in
set_option maxHeartbeats 4000000 in
theorem e_mk_share_1 {g : mz_G} {ex : Bool} {hT : List mz_E} {x_members : Int32} {x_collaterals : Nat → Int32} {x_hasSent : Nat → Int32} {x_isSealed : Nat → Int32} {x_metered : Nat → Int32} {x_sealedCount : Int32} {bk_counts : Nat → Int32} {bk_needs : Nat → Int64} {bk_whens : Nat → Int32} {bk_sides : Nat → Int32} {bk_quantities : Nat → Int32} {bk_limits : Nat → Int32} {ag_toldLies : Nat → Int32} {ag_passedLies : Nat → Int32} {ag_words : Nat → Int32} {ag_vectors : Nat → Int32} {ag_liarOperator : Int32} {ag_rounds : Int32} {mk_entries : Nat → Int32} {mk_slots : Nat → Int32} {mk_remainders : Nat → Int32} {mk_blocks : Nat → Int32} {mk_blockBids : Nat → Int32} {mk_blockOffers : Nat → Int32} {mk_entryCount : Int32} {mk_blockCount : Int32} {cv_limits : Nat → Nat → Int32} {cv_bids : Nat → Nat → Int32} {cv_offers : Nat → Nat → Int32} {cv_count : Nat → Int32} {cv_allBids : Nat → Int32} {cv_allOffers : Nat → Int32} {cv_meetingPrice : Nat → Int32} {cv_sureBids : Nat → Int32} {cv_sureOffers : Nat → Int32} {cv_priceBids : Nat → Int32} {cv_priceOffers : Nat → Int32} {cv_volume : Nat → Int32} {cv_worth : Nat → Int64} {oc_prices : Nat → Nat → Int32} {oc_volumes : Nat → Nat → Int32} {oc_filled : Nat → Nat → Int32} {oc_worth : Nat → Int64} {oc_takenSet : Nat → Int32} {oc_isDone : Nat → Int32} {x2 : Int32} {x3 : Int32} : mz_M g M_mk_share 2 [.ref 17, .ref 42, .int x2, .int x3] ex (HX x_members x_collaterals x_hasSent x_isSealed x_metered x_sealedCount bk_counts bk_needs bk_whens bk_sides bk_quantities bk_limits ag_toldLies ag_passedLies ag_words ag_vectors ag_liarOperator ag_rounds mk_entries mk_slots mk_remainders mk_blocks mk_blockBids mk_blockOffers mk_entryCount mk_blockCount cv_limits cv_bids cv_offers cv_count cv_allBids cv_allOffers cv_meetingPrice cv_sureBids cv_sureOffers cv_priceBids cv_priceOffers cv_volume cv_worth oc_prices oc_volumes oc_filled oc_worth oc_takenSet oc_isDone, hT) (f_mk_share bk_whens bk_sides bk_quantities bk_limits mk_entries mk_slots mk_remainders mk_entryCount cv_meetingPrice cv_sureBids cv_sureOffers cv_priceBids cv_priceOffers cv_volume (oc_filled 1) x2 x3) (fun r => (0, none, ex, (HX x_members x_collaterals x_hasSent x_isSealed x_metered x_sealedCount bk_counts bk_needs bk_whens bk_sides bk_quantities bk_limits ag_toldLies ag_passedLies ag_words ag_vectors ag_liarOperator ag_rounds mk_entries mk_slots r.1 mk_blocks mk_blockBids mk_blockOffers mk_entryCount mk_blockCount cv_limits cv_bids cv_offers cv_count cv_allBids cv_allOffers cv_meetingPrice cv_sureBids cv_sureOffers cv_priceBids cv_priceOffers cv_volume cv_worth oc_prices oc_volumes (va_up oc_filled 1 r.2) oc_worth oc_takenSet oc_isDone, hT), 0, 0)) := by
  have w_L138 : ∀ (n : Nat) (mk_remainders : Nat → Int32) (o_filled : Nat → Int32) (x6 : Int32) (x7 : Int32), mz_A g M_mk_share (mz_rm 2) (fun r => (0, none, ex, (HX x_members x_collaterals x_hasSent x_isSealed x_metered x_sealedCount bk_counts bk_needs bk_whens bk_sides bk_quantities bk_limits ag_toldLies ag_passedLies ag_words ag_vectors ag_liarOperator ag_rounds mk_entries mk_slots r.1 mk_blocks mk_blockBids mk_blockOffers mk_entryCount mk_blockCount cv_limits cv_bids cv_offers cv_count cv_allBids cv_allOffers cv_meetingPrice cv_sureBids cv_sureOffers cv_priceBids cv_priceOffers cv_volume cv_worth oc_prices oc_volumes (va_up oc_filled 1 r.2) oc_worth oc_takenSet oc_isDone, hT), 0, 0)) 138 [(0, .ref 17), (1, .ref 42), (6, .int x6), (7, .int x7)] [] ex (HX x_members x_collaterals x_hasSent x_isSealed x_metered x_sealedCount bk_counts bk_needs bk_whens bk_sides bk_quantities bk_limits ag_toldLies ag_passedLies ag_words ag_vectors ag_liarOperator ag_rounds mk_entries mk_slots mk_remainders mk_blocks mk_blockBids mk_blockOffers mk_entryCount mk_blockCount cv_limits cv_bids cv_offers cv_count cv_allBids cv_allOffers cv_meetingPrice cv_sureBids cv_sureOffers cv_priceBids cv_priceOffers cv_volume cv_worth oc_prices oc_volumes (va_up oc_filled 1 o_filled) oc_worth oc_takenSet oc_isDone, hT) 0 0 (f_mk_share_L138 bk_whens bk_sides bk_quantities bk_limits mk_entries mk_slots mk_entryCount cv_meetingPrice cv_sureBids cv_sureOffers cv_priceBids cv_priceOffers cv_volume n mk_remainders o_filled x6 x7) := by
    intro n
    induction n with
    | zero => intro mk_remainders o_filled x6 x7; exact mr_none
    | succ n ih =>
      intro mk_remainders o_filled x6 x7
      rw [f_mk_share_L138]
      refine mr_iload d_mk_share_138 rfl ?_
      refine mr_iload d_mk_share_140 rfl ?_
      refine mr_icmp_ge (tgt := 190) d_mk_share_142 (by decide) ?_ ?_
      · exact mr_vret d_mk_share_190 rfl rfl
      · refine mr_iload d_mk_share_145 rfl ?_
        refine mr_aload_n d_mk_share_147 rfl rfl ?_
        refine mr_get K_mk 8 d_mk_share_148 lk_f_mk_41 (by decide) rfl rfl ?_
        refine mr_icmp_ge (tgt := 190) d_mk_share_151 (by decide) ?_ ?_
        · exact mr_vret d_mk_share_190 rfl rfl
        · refine mr_aload_n d_mk_share_154 rfl rfl ?_
          refine mz_go (st := []) e_mk_greatestRemainder (fun _ => rfl) U_mk_greatestRemainder (mz_vV d_mk_share_155 U_mk_greatestRemainder rfl lk_m_mk_180 I_mk_greatestRemainder s_mk_greatestRemainder np_mk_greatestRemainder rfl rfl) (Nat.le_of_ble_eq_true rfl) (by decide) (fun r9 => ?_)
          refine mr_eq (st' := [.int r9]) (ex' := ex) (h2 := (HX x_members x_collaterals x_hasSent x_isSealed x_metered x_sealedCount bk_counts bk_needs bk_whens bk_sides bk_quantities bk_limits ag_toldLies ag_passedLies ag_words ag_vectors ag_liarOperator ag_rounds mk_entries mk_slots mk_remainders mk_blocks mk_blockBids mk_blockOffers mk_entryCount mk_blockCount cv_limits cv_bids cv_offers cv_count cv_allBids cv_allOffers cv_meetingPrice cv_sureBids cv_sureOffers cv_priceBids cv_priceOffers cv_volume cv_worth oc_prices oc_volumes (va_up oc_filled 1 o_filled) oc_worth oc_takenSet oc_isDone, hT)) (k' := 0) (n' := 0) rfl rfl rfl rfl rfl ?_
          refine mr_istore (lv' := [(8, .int r9), (0, .ref 17), (1, .ref 42), (6, .int x6), (7, .int x7)]) d_mk_share_158 (by decide) rfl ?_
          refine mr_aload_n d_mk_share_160 rfl rfl ?_
          refine mr_getN K_o 2 d_mk_share_161 lk_f_mk_167 (by decide) rfl rfl ?_
          refine mr_aload_n d_mk_share_164 rfl rfl ?_
          refine mr_get K_mk 3 d_mk_share_165 lk_f_mk_26 (by decide) rfl rfl ?_
          refine mr_iload d_mk_share_168 rfl ?_
          refine mr_iald d_mk_share_170 rfl (fun hc10 => ?_)
          refine mr_dup2_11 d_mk_share_171 rfl rfl ?_
          refine mr_iald d_mk_share_172 rfl (fun hc11 => ?_)
          refine mr_iconst (v := 1) d_mk_share_173 mc_iconst_1 ?_
          refine mr_iadd d_mk_share_174 ?_
          refine mr_iastK (h2 := (HX x_members x_collaterals x_hasSent x_isSealed x_metered x_sealedCount bk_counts bk_needs bk_whens bk_sides bk_quantities bk_limits ag_toldLies ag_passedLies ag_words ag_vectors ag_liarOperator ag_rounds mk_entries mk_slots mk_remainders mk_blocks mk_blockBids mk_blockOffers mk_entryCount mk_blockCount cv_limits cv_bids cv_offers cv_count cv_allBids cv_allOffers cv_meetingPrice cv_sureBids cv_sureOffers cv_priceBids cv_priceOffers cv_volume cv_worth oc_prices oc_volumes (va_up oc_filled 1 (upd o_filled (mk_slots r9.toNatClampNeg).toNatClampNeg ((o_filled (mk_slots r9.toNatClampNeg).toNatClampNeg) + 1))) oc_worth oc_takenSet oc_isDone, hT)) d_mk_share_175 rfl rfl hc11 ?_
          refine mr_aload_n d_mk_share_176 rfl rfl ?_
          refine mr_get K_mk 4 d_mk_share_177 lk_f_mk_29 (by decide) rfl rfl ?_
          refine mr_iload d_mk_share_180 rfl ?_
          refine mr_iconst (v := (-1)) d_mk_share_182 mc_iconst_m1 ?_
          refine mr_iastK (h2 := (HX x_members x_collaterals x_hasSent x_isSealed x_metered x_sealedCount bk_counts bk_needs bk_whens bk_sides bk_quantities bk_limits ag_toldLies ag_passedLies ag_words ag_vectors ag_liarOperator ag_rounds mk_entries mk_slots (upd mk_remainders r9.toNatClampNeg (-1)) mk_blocks mk_blockBids mk_blockOffers mk_entryCount mk_blockCount cv_limits cv_bids cv_offers cv_count cv_allBids cv_allOffers cv_meetingPrice cv_sureBids cv_sureOffers cv_priceBids cv_priceOffers cv_volume cv_worth oc_prices oc_volumes (va_up oc_filled 1 (upd o_filled (mk_slots r9.toNatClampNeg).toNatClampNeg ((o_filled (mk_slots r9.toNatClampNeg).toNatClampNeg) + 1))) oc_worth oc_takenSet oc_isDone, hT)) d_mk_share_183 rfl rfl hc10 ?_
          refine mr_iinc (v := (x7 + 1)) (lv' := [(7, .int (x7 + 1)), (8, .int r9), (0, .ref 17), (1, .ref 42), (6, .int x6)]) d_mk_share_184 rfl rfl (by decide) rfl ?_
          refine mr_goto (tgt := 138) d_mk_share_187 (by decide) ?_
          refine mr_sub (lv' := [(0, .ref 17), (1, .ref 42), (6, .int x6), (7, .int (x7 + 1))]) [2, 3, 4, 0] rfl ?_
          exact ih _ _ _ _
  have w_L37 : ∀ (n : Nat) (mk_remainders : Nat → Int32) (o_filled : Nat → Int32) (x4 : Int32) (x5 : Int32) (x6 : Int32) (x7 : Int32), mz_A g M_mk_share (mz_rm 2) (fun r => (0, none, ex, (HX x_members x_collaterals x_hasSent x_isSealed x_metered x_sealedCount bk_counts bk_needs bk_whens bk_sides bk_quantities bk_limits ag_toldLies ag_passedLies ag_words ag_vectors ag_liarOperator ag_rounds mk_entries mk_slots r.1 mk_blocks mk_blockBids mk_blockOffers mk_entryCount mk_blockCount cv_limits cv_bids cv_offers cv_count cv_allBids cv_allOffers cv_meetingPrice cv_sureBids cv_sureOffers cv_priceBids cv_priceOffers cv_volume cv_worth oc_prices oc_volumes (va_up oc_filled 1 r.2) oc_worth oc_takenSet oc_isDone, hT), 0, 0)) 37 [(0, .ref 17), (1, .ref 42), (2, .int x2), (3, .int x3), (4, .int x4), (5, .int x5), (6, .int x6), (7, .int x7)] [] ex (HX x_members x_collaterals x_hasSent x_isSealed x_metered x_sealedCount bk_counts bk_needs bk_whens bk_sides bk_quantities bk_limits ag_toldLies ag_passedLies ag_words ag_vectors ag_liarOperator ag_rounds mk_entries mk_slots mk_remainders mk_blocks mk_blockBids mk_blockOffers mk_entryCount mk_blockCount cv_limits cv_bids cv_offers cv_count cv_allBids cv_allOffers cv_meetingPrice cv_sureBids cv_sureOffers cv_priceBids cv_priceOffers cv_volume cv_worth oc_prices oc_volumes (va_up oc_filled 1 o_filled) oc_worth oc_takenSet oc_isDone, hT) 0 0 (f_mk_share_L37 bk_whens bk_sides bk_quantities bk_limits mk_entries mk_slots mk_entryCount cv_meetingPrice cv_sureBids cv_sureOffers cv_priceBids cv_priceOffers cv_volume x2 x3 n mk_remainders o_filled x4 x5 x6 x7) := by
    intro n
    induction n with
    | zero => intro mk_remainders o_filled x4 x5 x6 x7; exact mr_none
    | succ n ih =>
      intro mk_remainders o_filled x4 x5 x6 x7
      rw [f_mk_share_L37]
      refine mr_iload d_mk_share_37 rfl ?_
      refine mr_aload_n d_mk_share_39 rfl rfl ?_
      refine mr_get K_mk 8 d_mk_share_40 lk_f_mk_41 (by decide) rfl rfl ?_
      refine mr_icmp_ge (tgt := 135) d_mk_share_43 (by decide) ?_ ?_
      · refine mr_iconst (v := 0) d_mk_share_135 mc_iconst_0 ?_
        refine mr_istore (lv' := [(7, .int 0), (0, .ref 17), (1, .ref 42), (2, .int x2), (3, .int x3), (4, .int x4), (5, .int x5), (6, .int x6)]) d_mk_share_136 (by decide) rfl ?_
        refine mr_sub (lv' := [(0, .ref 17), (1, .ref 42), (6, .int x6), (7, .int 0)]) [1, 2, 7, 0] rfl ?_
        exact w_L138 1000 _ _ _ _
      · refine mr_aload_n d_mk_share_46 rfl rfl ?_
        refine mr_get K_mk 4 d_mk_share_47 lk_f_mk_29 (by decide) rfl rfl ?_
        refine mr_iload d_mk_share_50 rfl ?_
        refine mr_iconst (v := (-1)) d_mk_share_52 mc_iconst_m1 ?_
        refine mr_iast (h2 := (HX x_members x_collaterals x_hasSent x_isSealed x_metered x_sealedCount bk_counts bk_needs bk_whens bk_sides bk_quantities bk_limits ag_toldLies ag_passedLies ag_words ag_vectors ag_liarOperator ag_rounds mk_entries mk_slots (upd mk_remainders x7.toNatClampNeg (-1)) mk_blocks mk_blockBids mk_blockOffers mk_entryCount mk_blockCount cv_limits cv_bids cv_offers cv_count cv_allBids cv_allOffers cv_meetingPrice cv_sureBids cv_sureOffers cv_priceBids cv_priceOffers cv_volume cv_worth oc_prices oc_volumes (va_up oc_filled 1 o_filled) oc_worth oc_takenSet oc_isDone, hT)) d_mk_share_53 rfl rfl (fun hc4 => ?_)
        refine mr_aload_n d_mk_share_54 rfl rfl ?_
        refine mr_aload_n d_mk_share_55 rfl rfl ?_
        refine mr_get K_mk 2 d_mk_share_56 lk_f_mk_22 (by decide) rfl rfl ?_
        refine mr_iload d_mk_share_59 rfl ?_
        refine mr_ialdK d_mk_share_61 rfl hc4 ?_
        refine mr_iload_n d_mk_share_62 rfl rfl ?_
        refine mr_iload_n d_mk_share_63 rfl rfl ?_
        refine mz_go (st := []) e_mk_isSharing (fun _ => rfl) U_mk_isSharing (mz_vV d_mk_share_64 U_mk_isSharing rfl lk_m_mk_176 I_mk_isSharing s_mk_isSharing np_mk_isSharing rfl rfl) (Nat.le_of_ble_eq_true rfl) (by decide) (fun r5 => ?_)
        refine mr_eq (st' := [.int r5]) (ex' := ex) (h2 := (HX x_members x_collaterals x_hasSent x_isSealed x_metered x_sealedCount bk_counts bk_needs bk_whens bk_sides bk_quantities bk_limits ag_toldLies ag_passedLies ag_words ag_vectors ag_liarOperator ag_rounds mk_entries mk_slots (upd mk_remainders x7.toNatClampNeg (-1)) mk_blocks mk_blockBids mk_blockOffers mk_entryCount mk_blockCount cv_limits cv_bids cv_offers cv_count cv_allBids cv_allOffers cv_meetingPrice cv_sureBids cv_sureOffers cv_priceBids cv_priceOffers cv_volume cv_worth oc_prices oc_volumes (va_up oc_filled 1 o_filled) oc_worth oc_takenSet oc_isDone, hT)) (k' := 0) (n' := 0) rfl rfl rfl rfl rfl ?_
        refine mr_if_eq (tgt := 129) d_mk_share_67 (by decide) ?_ ?_
        · refine mr_iinc (v := (x7 + 1)) (lv' := [(7, .int (x7 + 1)), (0, .ref 17), (1, .ref 42), (2, .int x2), (3, .int x3), (4, .int x4), (5, .int x5), (6, .int x6)]) d_mk_share_129 rfl rfl (by decide) rfl ?_
          refine mr_goto (tgt := 37) d_mk_share_132 (by decide) ?_
          refine mr_sub (lv' := [(0, .ref 17), (1, .ref 42), (2, .int x2), (3, .int x3), (4, .int x4), (5, .int x5), (6, .int x6), (7, .int (x7 + 1))]) [1, 2, 3, 4, 5, 6, 7, 0] rfl ?_
          exact ih _ _ _ _ _ _
        · refine mr_aload_n d_mk_share_70 rfl rfl ?_
          refine mr_get K_mk 0 d_mk_share_71 lk_f_mk_9 (by decide) rfl rfl ?_
          refine mr_getN K_bk 4 d_mk_share_74 lk_f_mk_76 (by decide) rfl rfl ?_
          refine mr_aload_n d_mk_share_77 rfl rfl ?_
          refine mr_get K_mk 2 d_mk_share_78 lk_f_mk_22 (by decide) rfl rfl ?_
          refine mr_iload d_mk_share_81 rfl ?_
          refine mr_ialdK d_mk_share_83 rfl hc4 ?_
          refine mr_iald d_mk_share_84 rfl (fun hc6 => ?_)
          refine mr_iload d_mk_share_85 rfl ?_
          refine mr_imul d_mk_share_87 ?_
          refine mr_istore (lv' := [(8, .int ((bk_quantities (mk_entries x7.toNatClampNeg).toNatClampNeg) * x4)), (0, .ref 17), (1, .ref 42), (2, .int x2), (3, .int x3), (4, .int x4), (5, .int x5), (6, .int x6), (7, .int x7)]) d_mk_share_88 (by decide) rfl ?_
          refine mr_aload_n d_mk_share_90 rfl rfl ?_
          refine mr_getN K_o 2 d_mk_share_91 lk_f_mk_167 (by decide) rfl rfl ?_
          refine mr_aload_n d_mk_share_94 rfl rfl ?_
          refine mr_get K_mk 3 d_mk_share_95 lk_f_mk_26 (by decide) rfl rfl ?_
          refine mr_iload d_mk_share_98 rfl ?_
          refine mr_ialdK d_mk_share_100 rfl hc4 ?_
          refine mr_iload d_mk_share_101 rfl ?_
          refine mr_iload d_mk_share_103 rfl ?_
          refine mr_idiv d_mk_share_105 (fun hz7 => ?_)
          refine mr_iast (h2 := (HX x_members x_collaterals x_hasSent x_isSealed x_metered x_sealedCount bk_counts bk_needs bk_whens bk_sides bk_quantities bk_limits ag_toldLies ag_passedLies ag_words ag_vectors ag_liarOperator ag_rounds mk_entries mk_slots (upd mk_remainders x7.toNatClampNeg (-1)) mk_blocks mk_blockBids mk_blockOffers mk_entryCount mk_blockCount cv_limits cv_bids cv_offers cv_count cv_allBids cv_allOffers cv_meetingPrice cv_sureBids cv_sureOffers cv_priceBids cv_priceOffers cv_volume cv_worth oc_prices oc_volumes (va_up oc_filled 1 (upd o_filled (mk_slots x7.toNatClampNeg).toNatClampNeg (((bk_quantities (mk_entries x7.toNatClampNeg).toNatClampNeg) * x4) / x5))) oc_worth oc_takenSet oc_isDone, hT)) d_mk_share_106 rfl rfl (fun hc8 => ?_)
          refine mr_aload_n d_mk_share_107 rfl rfl ?_
          refine mr_get K_mk 4 d_mk_share_108 lk_f_mk_29 (by decide) rfl rfl ?_
          refine mr_iload d_mk_share_111 rfl ?_
          refine mr_iload d_mk_share_113 rfl ?_
          refine mr_iload d_mk_share_115 rfl ?_
          refine mr_iremK d_mk_share_117 hz7 ?_
          refine mr_iastK (h2 := (HX x_members x_collaterals x_hasSent x_isSealed x_metered x_sealedCount bk_counts bk_needs bk_whens bk_sides bk_quantities bk_limits ag_toldLies ag_passedLies ag_words ag_vectors ag_liarOperator ag_rounds mk_entries mk_slots (upd (upd mk_remainders x7.toNatClampNeg (-1)) x7.toNatClampNeg (((bk_quantities (mk_entries x7.toNatClampNeg).toNatClampNeg) * x4) - ((bk_quantities (mk_entries x7.toNatClampNeg).toNatClampNeg) * x4) / x5 * x5)) mk_blocks mk_blockBids mk_blockOffers mk_entryCount mk_blockCount cv_limits cv_bids cv_offers cv_count cv_allBids cv_allOffers cv_meetingPrice cv_sureBids cv_sureOffers cv_priceBids cv_priceOffers cv_volume cv_worth oc_prices oc_volumes (va_up oc_filled 1 (upd o_filled (mk_slots x7.toNatClampNeg).toNatClampNeg (((bk_quantities (mk_entries x7.toNatClampNeg).toNatClampNeg) * x4) / x5))) oc_worth oc_takenSet oc_isDone, hT)) d_mk_share_118 rfl rfl hc4 ?_
          refine mr_iload d_mk_share_119 rfl ?_
          refine mr_iload d_mk_share_121 rfl ?_
          refine mr_iload d_mk_share_123 rfl ?_
          refine mr_idivK d_mk_share_125 hz7 ?_
          refine mr_isub d_mk_share_126 ?_
          refine mr_istore (lv' := [(6, .int (x6 - (((bk_quantities (mk_entries x7.toNatClampNeg).toNatClampNeg) * x4) / x5))), (8, .int ((bk_quantities (mk_entries x7.toNatClampNeg).toNatClampNeg) * x4)), (0, .ref 17), (1, .ref 42), (2, .int x2), (3, .int x3), (4, .int x4), (5, .int x5), (7, .int x7)]) d_mk_share_127 (by decide) rfl ?_
          refine mr_iinc (v := (x7 + 1)) (lv' := [(7, .int (x7 + 1)), (6, .int (x6 - (((bk_quantities (mk_entries x7.toNatClampNeg).toNatClampNeg) * x4) / x5))), (8, .int ((bk_quantities (mk_entries x7.toNatClampNeg).toNatClampNeg) * x4)), (0, .ref 17), (1, .ref 42), (2, .int x2), (3, .int x3), (4, .int x4), (5, .int x5)]) d_mk_share_129 rfl rfl (by decide) rfl ?_
          refine mr_goto (tgt := 37) d_mk_share_132 (by decide) ?_
          refine mr_sub (lv' := [(0, .ref 17), (1, .ref 42), (2, .int x2), (3, .int x3), (4, .int x4), (5, .int x5), (6, .int (x6 - (((bk_quantities (mk_entries x7.toNatClampNeg).toNatClampNeg) * x4) / x5))), (7, .int (x7 + 1))]) [3, 4, 5, 6, 7, 8, 1, 0] rfl ?_
          exact ih _ _ _ _ _ _
  refine mz_of (by decide) (Nat.le_of_ble_eq_true rfl) ?_
  rw [f_mk_share]
  show mz_A g M_mk_share (mz_rm 2) _ 0 [(0, .ref 17), (1, .ref 42), (2, .int x2), (3, .int x3)] [] ex (HX x_members x_collaterals x_hasSent x_isSealed x_metered x_sealedCount bk_counts bk_needs bk_whens bk_sides bk_quantities bk_limits ag_toldLies ag_passedLies ag_words ag_vectors ag_liarOperator ag_rounds mk_entries mk_slots mk_remainders mk_blocks mk_blockBids mk_blockOffers mk_entryCount mk_blockCount cv_limits cv_bids cv_offers cv_count cv_allBids cv_allOffers cv_meetingPrice cv_sureBids cv_sureOffers cv_priceBids cv_priceOffers cv_volume cv_worth oc_prices oc_volumes oc_filled oc_worth oc_takenSet oc_isDone, hT) 0 0 _
  refine mr_aload_n d_mk_share_0 rfl rfl ?_
  refine mr_get K_mk 1 d_mk_share_1 lk_f_mk_17 (by decide) rfl rfl ?_
  refine mr_iload_n d_mk_share_4 rfl rfl ?_
  refine mr_aald d_mk_share_5 (fun _ => rfl) rfl (fun _ => rfl) (fun hc1 => ?_)
  refine mr_iload_n d_mk_share_6 rfl rfl ?_
  refine mz_go (st := []) (e_c_shared (mz_lt hc1)) (fun _ => rfl) U_c_shared (mz_vV d_mk_share_7 U_c_shared rfl lk_m_mk_170 I_c_shared s_c_shared np_c_shared (gt_c (mz_lt hc1)) rfl) (Nat.le_of_ble_eq_true rfl) (by decide) (fun r2 => ?_)
  refine mr_eq (st' := [.int r2]) (ex' := ex) (h2 := (HX x_members x_collaterals x_hasSent x_isSealed x_metered x_sealedCount bk_counts bk_needs bk_whens bk_sides bk_quantities bk_limits ag_toldLies ag_passedLies ag_words ag_vectors ag_liarOperator ag_rounds mk_entries mk_slots mk_remainders mk_blocks mk_blockBids mk_blockOffers mk_entryCount mk_blockCount cv_limits cv_bids cv_offers cv_count cv_allBids cv_allOffers cv_meetingPrice cv_sureBids cv_sureOffers cv_priceBids cv_priceOffers cv_volume cv_worth oc_prices oc_volumes oc_filled oc_worth oc_takenSet oc_isDone, hT)) (k' := 0) (n' := 0) rfl rfl rfl rfl rfl ?_
  refine mr_istore (lv' := [(4, .int r2), (0, .ref 17), (1, .ref 42), (2, .int x2), (3, .int x3)]) d_mk_share_10 (by decide) rfl ?_
  refine mr_aload_n d_mk_share_12 rfl rfl ?_
  refine mr_get K_mk 1 d_mk_share_13 lk_f_mk_17 (by decide) rfl rfl ?_
  refine mr_iload_n d_mk_share_16 rfl rfl ?_
  refine mr_aaldK d_mk_share_17 (fun _ => rfl) rfl hc1 rfl ?_
  refine mr_iload_n d_mk_share_18 rfl rfl ?_
  refine mz_go (st := []) (e_c_quantityAtPrice (mz_lt hc1)) (fun _ => rfl) U_c_quantityAtPrice (mz_vV d_mk_share_19 U_c_quantityAtPrice rfl lk_m_mk_173 I_c_quantityAtPrice s_c_quantityAtPrice np_c_quantityAtPrice (gt_c (mz_lt hc1)) rfl) (Nat.le_of_ble_eq_true rfl) (by decide) (fun r3 => ?_)
  refine mr_eq (st' := [.int r3]) (ex' := ex) (h2 := (HX x_members x_collaterals x_hasSent x_isSealed x_metered x_sealedCount bk_counts bk_needs bk_whens bk_sides bk_quantities bk_limits ag_toldLies ag_passedLies ag_words ag_vectors ag_liarOperator ag_rounds mk_entries mk_slots mk_remainders mk_blocks mk_blockBids mk_blockOffers mk_entryCount mk_blockCount cv_limits cv_bids cv_offers cv_count cv_allBids cv_allOffers cv_meetingPrice cv_sureBids cv_sureOffers cv_priceBids cv_priceOffers cv_volume cv_worth oc_prices oc_volumes oc_filled oc_worth oc_takenSet oc_isDone, hT)) (k' := 0) (n' := 0) rfl rfl rfl rfl rfl ?_
  refine mr_istore (lv' := [(5, .int r3), (4, .int r2), (0, .ref 17), (1, .ref 42), (2, .int x2), (3, .int x3)]) d_mk_share_22 (by decide) rfl ?_
  refine mr_iload d_mk_share_24 rfl ?_
  refine mr_if_gt (tgt := 30) d_mk_share_26 (by decide) ?_ ?_
  · refine mr_iload d_mk_share_30 rfl ?_
    refine mr_istore (lv' := [(6, .int r2), (5, .int r3), (4, .int r2), (0, .ref 17), (1, .ref 42), (2, .int x2), (3, .int x3)]) d_mk_share_32 (by decide) rfl ?_
    refine mr_iconst (v := 0) d_mk_share_34 mc_iconst_0 ?_
    refine mr_istore (lv' := [(7, .int 0), (6, .int r2), (5, .int r3), (4, .int r2), (0, .ref 17), (1, .ref 42), (2, .int x2), (3, .int x3)]) d_mk_share_35 (by decide) rfl ?_
    refine mr_sub (lv' := [(0, .ref 17), (1, .ref 42), (2, .int x2), (3, .int x3), (4, .int r2), (5, .int r3), (6, .int r2), (7, .int 0)]) [4, 5, 6, 7, 3, 2, 1, 0] rfl ?_
    exact w_L37 1000 _ _ _ _ _ _
  · exact mr_vret d_mk_share_29 rfl rfl
set_option maxRecDepth 100000 in
set_option maxHeartbeats 4000000 in
theorem e_mk_share_2 {g : mz_G} {ex : Bool} {hT : List mz_E} {x_members : Int32} {x_collaterals : Nat → Int32} {x_hasSent : Nat → Int32} {x_isSealed : Nat → Int32} {x_metered : Nat → Int32} {x_sealedCount : Int32} {bk_counts : Nat → Int32} {bk_needs : Nat → Int64} {bk_whens : Nat → Int32} {bk_sides : Nat → Int32} {bk_quantities : Nat → Int32} {bk_limits : Nat → Int32} {ag_toldLies : Nat → Int32} {ag_passedLies : Nat → Int32} {ag_words : Nat → Int32} {ag_vectors : Nat → Int32} {ag_liarOperator : Int32} {ag_rounds : Int32} {mk_entries : Nat → Int32} {mk_slots : Nat → Int32} {mk_remainders : Nat → Int32} {mk_blocks : Nat → Int32} {mk_blockBids : Nat → Int32} {mk_blockOffers : Nat → Int32} {mk_entryCount : Int32} {mk_blockCount : Int32} {cv_limits : Nat → Nat → Int32} {cv_bids : Nat → Nat → Int32} {cv_offers : Nat → Nat → Int32} {cv_count : Nat → Int32} {cv_allBids : Nat → Int32} {cv_allOffers : Nat → Int32} {cv_meetingPrice : Nat → Int32} {cv_sureBids : Nat → Int32} {cv_sureOffers : Nat → Int32} {cv_priceBids : Nat → Int32} {cv_priceOffers : Nat → Int32} {cv_volume : Nat → Int32} {cv_worth : Nat → Int64} {oc_prices : Nat → Nat → Int32} {oc_volumes : Nat → Nat → Int32} {oc_filled : Nat → Nat → Int32} {oc_worth : Nat → Int64} {oc_takenSet : Nat → Int32} {oc_isDone : Nat → Int32} {x2 : Int32} {x3 : Int32} : mz_M g M_mk_share 2 [.ref 17, .ref 46, .int x2, .int x3] ex (HX x_members x_collaterals x_hasSent x_isSealed x_metered x_sealedCount bk_counts bk_needs bk_whens bk_sides bk_quantities bk_limits ag_toldLies ag_passedLies ag_words ag_vectors ag_liarOperator ag_rounds mk_entries mk_slots mk_remainders mk_blocks mk_blockBids mk_blockOffers mk_entryCount mk_blockCount cv_limits cv_bids cv_offers cv_count cv_allBids cv_allOffers cv_meetingPrice cv_sureBids cv_sureOffers cv_priceBids cv_priceOffers cv_volume cv_worth oc_prices oc_volumes oc_filled oc_worth oc_takenSet oc_isDone, hT) (f_mk_share bk_whens bk_sides bk_quantities bk_limits mk_entries mk_slots mk_remainders mk_entryCount cv_meetingPrice cv_sureBids cv_sureOffers cv_priceBids cv_priceOffers cv_volume (oc_filled 2) x2 x3) (fun r => (0, none, ex, (HX x_members x_collaterals x_hasSent x_isSealed x_metered x_sealedCount bk_counts bk_needs bk_whens bk_sides bk_quantities bk_limits ag_toldLies ag_passedLies ag_words ag_vectors ag_liarOperator ag_rounds mk_entries mk_slots r.1 mk_blocks mk_blockBids mk_blockOffers mk_entryCount mk_blockCount cv_limits cv_bids cv_offers cv_count cv_allBids cv_allOffers cv_meetingPrice cv_sureBids cv_sureOffers cv_priceBids cv_priceOffers cv_volume cv_worth oc_prices oc_volumes (va_up oc_filled 2 r.2) oc_worth oc_takenSet oc_isDone, hT), 0, 0)) := by
  have w_L138 : ∀ (n : Nat) (mk_remainders : Nat → Int32) (o_filled : Nat → Int32) (x6 : Int32) (x7 : Int32), mz_A g M_mk_share (mz_rm 2) (fun r => (0, none, ex, (HX x_members x_collaterals x_hasSent x_isSealed x_metered x_sealedCount bk_counts bk_needs bk_whens bk_sides bk_quantities bk_limits ag_toldLies ag_passedLies ag_words ag_vectors ag_liarOperator ag_rounds mk_entries mk_slots r.1 mk_blocks mk_blockBids mk_blockOffers mk_entryCount mk_blockCount cv_limits cv_bids cv_offers cv_count cv_allBids cv_allOffers cv_meetingPrice cv_sureBids cv_sureOffers cv_priceBids cv_priceOffers cv_volume cv_worth oc_prices oc_volumes (va_up oc_filled 2 r.2) oc_worth oc_takenSet oc_isDone, hT), 0, 0)) 138 [(0, .ref 17), (1, .ref 46), (6, .int x6), (7, .int x7)] [] ex (HX x_members x_collaterals x_hasSent x_isSealed x_metered x_sealedCount bk_counts bk_needs bk_whens bk_sides bk_quantities bk_limits ag_toldLies ag_passedLies ag_words ag_vectors ag_liarOperator ag_rounds mk_entries mk_slots mk_remainders mk_blocks mk_blockBids mk_blockOffers mk_entryCount mk_blockCount cv_limits cv_bids cv_offers cv_count cv_allBids cv_allOffers cv_meetingPrice cv_sureBids cv_sureOffers cv_priceBids cv_priceOffers cv_volume cv_worth oc_prices oc_volumes (va_up oc_filled 2 o_filled) oc_worth oc_takenSet oc_isDone, hT) 0 0 (f_mk_share_L138 bk_whens bk_sides bk_quantities bk_limits mk_entries mk_slots mk_entryCount cv_meetingPrice cv_sureBids cv_sureOffers cv_priceBids cv_priceOffers cv_volume n mk_remainders o_filled x6 x7) := by
    intro n
    induction n with
    | zero => intro mk_remainders o_filled x6 x7; exact mr_none
    | succ n ih =>
      intro mk_remainders o_filled x6 x7
      rw [f_mk_share_L138]
      refine mr_iload d_mk_share_138 rfl ?_
      refine mr_iload d_mk_share_140 rfl ?_
      refine mr_icmp_ge (tgt := 190) d_mk_share_142 (by decide) ?_ ?_
      · exact mr_vret d_mk_share_190 rfl rfl
      · refine mr_iload d_mk_share_145 rfl ?_
        refine mr_aload_n d_mk_share_147 rfl rfl ?_
        refine mr_get K_mk 8 d_mk_share_148 lk_f_mk_41 (by decide) rfl rfl ?_
        refine mr_icmp_ge (tgt := 190) d_mk_share_151 (by decide) ?_ ?_
        · exact mr_vret d_mk_share_190 rfl rfl
        · refine mr_aload_n d_mk_share_154 rfl rfl ?_
          refine mz_go (st := []) e_mk_greatestRemainder (fun _ => rfl) U_mk_greatestRemainder (mz_vV d_mk_share_155 U_mk_greatestRemainder rfl lk_m_mk_180 I_mk_greatestRemainder s_mk_greatestRemainder np_mk_greatestRemainder rfl rfl) (Nat.le_of_ble_eq_true rfl) (by decide) (fun r9 => ?_)
          refine mr_eq (st' := [.int r9]) (ex' := ex) (h2 := (HX x_members x_collaterals x_hasSent x_isSealed x_metered x_sealedCount bk_counts bk_needs bk_whens bk_sides bk_quantities bk_limits ag_toldLies ag_passedLies ag_words ag_vectors ag_liarOperator ag_rounds mk_entries mk_slots mk_remainders mk_blocks mk_blockBids mk_blockOffers mk_entryCount mk_blockCount cv_limits cv_bids cv_offers cv_count cv_allBids cv_allOffers cv_meetingPrice cv_sureBids cv_sureOffers cv_priceBids cv_priceOffers cv_volume cv_worth oc_prices oc_volumes (va_up oc_filled 2 o_filled) oc_worth oc_takenSet oc_isDone, hT)) (k' := 0) (n' := 0) rfl rfl rfl rfl rfl ?_
          refine mr_istore (lv' := [(8, .int r9), (0, .ref 17), (1, .ref 46), (6, .int x6), (7, .int x7)]) d_mk_share_158 (by decide) rfl ?_
          refine mr_aload_n d_mk_share_160 rfl rfl ?_
          refine mr_getN K_o 2 d_mk_share_161 lk_f_mk_167 (by decide) rfl rfl ?_
          refine mr_aload_n d_mk_share_164 rfl rfl ?_
          refine mr_get K_mk 3 d_mk_share_165 lk_f_mk_26 (by decide) rfl rfl ?_
          refine mr_iload d_mk_share_168 rfl ?_
          refine mr_iald d_mk_share_170 rfl (fun hc10 => ?_)
          refine mr_dup2_11 d_mk_share_171 rfl rfl ?_
          refine mr_iald d_mk_share_172 rfl (fun hc11 => ?_)
          refine mr_iconst (v := 1) d_mk_share_173 mc_iconst_1 ?_
          refine mr_iadd d_mk_share_174 ?_
          refine mr_iastK (h2 := (HX x_members x_collaterals x_hasSent x_isSealed x_metered x_sealedCount bk_counts bk_needs bk_whens bk_sides bk_quantities bk_limits ag_toldLies ag_passedLies ag_words ag_vectors ag_liarOperator ag_rounds mk_entries mk_slots mk_remainders mk_blocks mk_blockBids mk_blockOffers mk_entryCount mk_blockCount cv_limits cv_bids cv_offers cv_count cv_allBids cv_allOffers cv_meetingPrice cv_sureBids cv_sureOffers cv_priceBids cv_priceOffers cv_volume cv_worth oc_prices oc_volumes (va_up oc_filled 2 (upd o_filled (mk_slots r9.toNatClampNeg).toNatClampNeg ((o_filled (mk_slots r9.toNatClampNeg).toNatClampNeg) + 1))) oc_worth oc_takenSet oc_isDone, hT)) d_mk_share_175 rfl rfl hc11 ?_
          refine mr_aload_n d_mk_share_176 rfl rfl ?_
          refine mr_get K_mk 4 d_mk_share_177 lk_f_mk_29 (by decide) rfl rfl ?_
          refine mr_iload d_mk_share_180 rfl ?_
          refine mr_iconst (v := (-1)) d_mk_share_182 mc_iconst_m1 ?_
          refine mr_iastK (h2 := (HX x_members x_collaterals x_hasSent x_isSealed x_metered x_sealedCount bk_counts bk_needs bk_whens bk_sides bk_quantities bk_limits ag_toldLies ag_passedLies ag_words ag_vectors ag_liarOperator ag_rounds mk_entries mk_slots (upd mk_remainders r9.toNatClampNeg (-1)) mk_blocks mk_blockBids mk_blockOffers mk_entryCount mk_blockCount cv_limits cv_bids cv_offers cv_count cv_allBids cv_allOffers cv_meetingPrice cv_sureBids cv_sureOffers cv_priceBids cv_priceOffers cv_volume cv_worth oc_prices oc_volumes (va_up oc_filled 2 (upd o_filled (mk_slots r9.toNatClampNeg).toNatClampNeg ((o_filled (mk_slots r9.toNatClampNeg).toNatClampNeg) + 1))) oc_worth oc_takenSet oc_isDone, hT)) d_mk_share_183 rfl rfl hc10 ?_
          refine mr_iinc (v := (x7 + 1)) (lv' := [(7, .int (x7 + 1)), (8, .int r9), (0, .ref 17), (1, .ref 46), (6, .int x6)]) d_mk_share_184 rfl rfl (by decide) rfl ?_
          refine mr_goto (tgt := 138) d_mk_share_187 (by decide) ?_
          refine mr_sub (lv' := [(0, .ref 17), (1, .ref 46), (6, .int x6), (7, .int (x7 + 1))]) [2, 3, 4, 0] rfl ?_
          exact ih _ _ _ _
  have w_L37 : ∀ (n : Nat) (mk_remainders : Nat → Int32) (o_filled : Nat → Int32) (x4 : Int32) (x5 : Int32) (x6 : Int32) (x7 : Int32), mz_A g M_mk_share (mz_rm 2) (fun r => (0, none, ex, (HX x_members x_collaterals x_hasSent x_isSealed x_metered x_sealedCount bk_counts bk_needs bk_whens bk_sides bk_quantities bk_limits ag_toldLies ag_passedLies ag_words ag_vectors ag_liarOperator ag_rounds mk_entries mk_slots r.1 mk_blocks mk_blockBids mk_blockOffers mk_entryCount mk_blockCount cv_limits cv_bids cv_offers cv_count cv_allBids cv_allOffers cv_meetingPrice cv_sureBids cv_sureOffers cv_priceBids cv_priceOffers cv_volume cv_worth oc_prices oc_volumes (va_up oc_filled 2 r.2) oc_worth oc_takenSet oc_isDone, hT), 0, 0)) 37 [(0, .ref 17), (1, .ref 46), (2, .int x2), (3, .int x3), (4, .int x4), (5, .int x5), (6, .int x6), (7, .int x7)] [] ex (HX x_members x_collaterals x_hasSent x_isSealed x_metered x_sealedCount bk_counts bk_needs bk_whens bk_sides bk_quantities bk_limits ag_toldLies ag_passedLies ag_words ag_vectors ag_liarOperator ag_rounds mk_entries mk_slots mk_remainders mk_blocks mk_blockBids mk_blockOffers mk_entryCount mk_blockCount cv_limits cv_bids cv_offers cv_count cv_allBids cv_allOffers cv_meetingPrice cv_sureBids cv_sureOffers cv_priceBids cv_priceOffers cv_volume cv_worth oc_prices oc_volumes (va_up oc_filled 2 o_filled) oc_worth oc_takenSet oc_isDone, hT) 0 0 (f_mk_share_L37 bk_whens bk_sides bk_quantities bk_limits mk_entries mk_slots mk_entryCount cv_meetingPrice cv_sureBids cv_sureOffers cv_priceBids cv_priceOffers cv_volume x2 x3 n mk_remainders o_filled x4 x5 x6 x7) := by
    intro n
    induction n with
    | zero => intro mk_remainders o_filled x4 x5 x6 x7; exact mr_none
    | succ n ih =>
      intro mk_remainders o_filled x4 x5 x6 x7
      rw [f_mk_share_L37]
      refine mr_iload d_mk_share_37 rfl ?_
      refine mr_aload_n d_mk_share_39 rfl rfl ?_
      refine mr_get K_mk 8 d_mk_share_40 lk_f_mk_41 (by decide) rfl rfl ?_
      refine mr_icmp_ge (tgt := 135) d_mk_share_43 (by decide) ?_ ?_
      · refine mr_iconst (v := 0) d_mk_share_135 mc_iconst_0 ?_
        refine mr_istore (lv' := [(7, .int 0), (0, .ref 17), (1, .ref 46), (2, .int x2), (3, .int x3), (4, .int x4), (5, .int x5), (6, .int x6)]) d_mk_share_136 (by decide) rfl ?_
        refine mr_sub (lv' := [(0, .ref 17), (1, .ref 46), (6, .int x6), (7, .int 0)]) [1, 2, 7, 0] rfl ?_
        exact w_L138 1000 _ _ _ _
      · refine mr_aload_n d_mk_share_46 rfl rfl ?_
        refine mr_get K_mk 4 d_mk_share_47 lk_f_mk_29 (by decide) rfl rfl ?_
        refine mr_iload d_mk_share_50 rfl ?_
        refine mr_iconst (v := (-1)) d_mk_share_52 mc_iconst_m1 ?_
        refine mr_iast (h2 := (HX x_members x_collaterals x_hasSent x_isSealed x_metered x_sealedCount bk_counts bk_needs bk_whens bk_sides bk_quantities bk_limits ag_toldLies ag_passedLies ag_words ag_vectors ag_liarOperator ag_rounds mk_entries mk_slots (upd mk_remainders x7.toNatClampNeg (-1)) mk_blocks mk_blockBids mk_blockOffers mk_entryCount mk_blockCount cv_limits cv_bids cv_offers cv_count cv_allBids cv_allOffers cv_meetingPrice cv_sureBids cv_sureOffers cv_priceBids cv_priceOffers cv_volume cv_worth oc_prices oc_volumes (va_up oc_filled 2 o_filled) oc_worth oc_takenSet oc_isDone, hT)) d_mk_share_53 rfl rfl (fun hc4 => ?_)
        refine mr_aload_n d_mk_share_54 rfl rfl ?_
        refine mr_aload_n d_mk_share_55 rfl rfl ?_
        refine mr_get K_mk 2 d_mk_share_56 lk_f_mk_22 (by decide) rfl rfl ?_
        refine mr_iload d_mk_share_59 rfl ?_
        refine mr_ialdK d_mk_share_61 rfl hc4 ?_
        refine mr_iload_n d_mk_share_62 rfl rfl ?_
        refine mr_iload_n d_mk_share_63 rfl rfl ?_
        refine mz_go (st := []) e_mk_isSharing (fun _ => rfl) U_mk_isSharing (mz_vV d_mk_share_64 U_mk_isSharing rfl lk_m_mk_176 I_mk_isSharing s_mk_isSharing np_mk_isSharing rfl rfl) (Nat.le_of_ble_eq_true rfl) (by decide) (fun r5 => ?_)
        refine mr_eq (st' := [.int r5]) (ex' := ex) (h2 := (HX x_members x_collaterals x_hasSent x_isSealed x_metered x_sealedCount bk_counts bk_needs bk_whens bk_sides bk_quantities bk_limits ag_toldLies ag_passedLies ag_words ag_vectors ag_liarOperator ag_rounds mk_entries mk_slots (upd mk_remainders x7.toNatClampNeg (-1)) mk_blocks mk_blockBids mk_blockOffers mk_entryCount mk_blockCount cv_limits cv_bids cv_offers cv_count cv_allBids cv_allOffers cv_meetingPrice cv_sureBids cv_sureOffers cv_priceBids cv_priceOffers cv_volume cv_worth oc_prices oc_volumes (va_up oc_filled 2 o_filled) oc_worth oc_takenSet oc_isDone, hT)) (k' := 0) (n' := 0) rfl rfl rfl rfl rfl ?_
        refine mr_if_eq (tgt := 129) d_mk_share_67 (by decide) ?_ ?_
        · refine mr_iinc (v := (x7 + 1)) (lv' := [(7, .int (x7 + 1)), (0, .ref 17), (1, .ref 46), (2, .int x2), (3, .int x3), (4, .int x4), (5, .int x5), (6, .int x6)]) d_mk_share_129 rfl rfl (by decide) rfl ?_
          refine mr_goto (tgt := 37) d_mk_share_132 (by decide) ?_
          refine mr_sub (lv' := [(0, .ref 17), (1, .ref 46), (2, .int x2), (3, .int x3), (4, .int x4), (5, .int x5), (6, .int x6), (7, .int (x7 + 1))]) [1, 2, 3, 4, 5, 6, 7, 0] rfl ?_
          exact ih _ _ _ _ _ _
        · refine mr_aload_n d_mk_share_70 rfl rfl ?_
          refine mr_get K_mk 0 d_mk_share_71 lk_f_mk_9 (by decide) rfl rfl ?_
          refine mr_getN K_bk 4 d_mk_share_74 lk_f_mk_76 (by decide) rfl rfl ?_
          refine mr_aload_n d_mk_share_77 rfl rfl ?_
          refine mr_get K_mk 2 d_mk_share_78 lk_f_mk_22 (by decide) rfl rfl ?_
          refine mr_iload d_mk_share_81 rfl ?_
          refine mr_ialdK d_mk_share_83 rfl hc4 ?_
          refine mr_iald d_mk_share_84 rfl (fun hc6 => ?_)
          refine mr_iload d_mk_share_85 rfl ?_
          refine mr_imul d_mk_share_87 ?_
          refine mr_istore (lv' := [(8, .int ((bk_quantities (mk_entries x7.toNatClampNeg).toNatClampNeg) * x4)), (0, .ref 17), (1, .ref 46), (2, .int x2), (3, .int x3), (4, .int x4), (5, .int x5), (6, .int x6), (7, .int x7)]) d_mk_share_88 (by decide) rfl ?_
          refine mr_aload_n d_mk_share_90 rfl rfl ?_
          refine mr_getN K_o 2 d_mk_share_91 lk_f_mk_167 (by decide) rfl rfl ?_
          refine mr_aload_n d_mk_share_94 rfl rfl ?_
          refine mr_get K_mk 3 d_mk_share_95 lk_f_mk_26 (by decide) rfl rfl ?_
          refine mr_iload d_mk_share_98 rfl ?_
          refine mr_ialdK d_mk_share_100 rfl hc4 ?_
          refine mr_iload d_mk_share_101 rfl ?_
          refine mr_iload d_mk_share_103 rfl ?_
          refine mr_idiv d_mk_share_105 (fun hz7 => ?_)
          refine mr_iast (h2 := (HX x_members x_collaterals x_hasSent x_isSealed x_metered x_sealedCount bk_counts bk_needs bk_whens bk_sides bk_quantities bk_limits ag_toldLies ag_passedLies ag_words ag_vectors ag_liarOperator ag_rounds mk_entries mk_slots (upd mk_remainders x7.toNatClampNeg (-1)) mk_blocks mk_blockBids mk_blockOffers mk_entryCount mk_blockCount cv_limits cv_bids cv_offers cv_count cv_allBids cv_allOffers cv_meetingPrice cv_sureBids cv_sureOffers cv_priceBids cv_priceOffers cv_volume cv_worth oc_prices oc_volumes (va_up oc_filled 2 (upd o_filled (mk_slots x7.toNatClampNeg).toNatClampNeg (((bk_quantities (mk_entries x7.toNatClampNeg).toNatClampNeg) * x4) / x5))) oc_worth oc_takenSet oc_isDone, hT)) d_mk_share_106 rfl rfl (fun hc8 => ?_)
          refine mr_aload_n d_mk_share_107 rfl rfl ?_
          refine mr_get K_mk 4 d_mk_share_108 lk_f_mk_29 (by decide) rfl rfl ?_
          refine mr_iload d_mk_share_111 rfl ?_
          refine mr_iload d_mk_share_113 rfl ?_
          refine mr_iload d_mk_share_115 rfl ?_
          refine mr_iremK d_mk_share_117 hz7 ?_
          refine mr_iastK (h2 := (HX x_members x_collaterals x_hasSent x_isSealed x_metered x_sealedCount bk_counts bk_needs bk_whens bk_sides bk_quantities bk_limits ag_toldLies ag_passedLies ag_words ag_vectors ag_liarOperator ag_rounds mk_entries mk_slots (upd (upd mk_remainders x7.toNatClampNeg (-1)) x7.toNatClampNeg (((bk_quantities (mk_entries x7.toNatClampNeg).toNatClampNeg) * x4) - ((bk_quantities (mk_entries x7.toNatClampNeg).toNatClampNeg) * x4) / x5 * x5)) mk_blocks mk_blockBids mk_blockOffers mk_entryCount mk_blockCount cv_limits cv_bids cv_offers cv_count cv_allBids cv_allOffers cv_meetingPrice cv_sureBids cv_sureOffers cv_priceBids cv_priceOffers cv_volume cv_worth oc_prices oc_volumes (va_up oc_filled 2 (upd o_filled (mk_slots x7.toNatClampNeg).toNatClampNeg (((bk_quantities (mk_entries x7.toNatClampNeg).toNatClampNeg) * x4) / x5))) oc_worth oc_takenSet oc_isDone, hT)) d_mk_share_118 rfl rfl hc4 ?_
          refine mr_iload d_mk_share_119 rfl ?_
          refine mr_iload d_mk_share_121 rfl ?_
          refine mr_iload d_mk_share_123 rfl ?_
          refine mr_idivK d_mk_share_125 hz7 ?_
          refine mr_isub d_mk_share_126 ?_
          refine mr_istore (lv' := [(6, .int (x6 - (((bk_quantities (mk_entries x7.toNatClampNeg).toNatClampNeg) * x4) / x5))), (8, .int ((bk_quantities (mk_entries x7.toNatClampNeg).toNatClampNeg) * x4)), (0, .ref 17), (1, .ref 46), (2, .int x2), (3, .int x3), (4, .int x4), (5, .int x5), (7, .int x7)]) d_mk_share_127 (by decide) rfl ?_
          refine mr_iinc (v := (x7 + 1)) (lv' := [(7, .int (x7 + 1)), (6, .int (x6 - (((bk_quantities (mk_entries x7.toNatClampNeg).toNatClampNeg) * x4) / x5))), (8, .int ((bk_quantities (mk_entries x7.toNatClampNeg).toNatClampNeg) * x4)), (0, .ref 17), (1, .ref 46), (2, .int x2), (3, .int x3), (4, .int x4), (5, .int x5)]) d_mk_share_129 rfl rfl (by decide) rfl ?_
          refine mr_goto (tgt := 37) d_mk_share_132 (by decide) ?_
          refine mr_sub (lv' := [(0, .ref 17), (1, .ref 46), (2, .int x2), (3, .int x3), (4, .int x4), (5, .int x5), (6, .int (x6 - (((bk_quantities (mk_entries x7.toNatClampNeg).toNatClampNeg) * x4) / x5))), (7, .int (x7 + 1))]) [3, 4, 5, 6, 7, 8, 1, 0] rfl ?_
          exact ih _ _ _ _ _ _
  refine mz_of (by decide) (Nat.le_of_ble_eq_true rfl) ?_
  rw [f_mk_share]
  show mz_A g M_mk_share (mz_rm 2) _ 0 [(0, .ref 17), (1, .ref 46), (2, .int x2), (3, .int x3)] [] ex (HX x_members x_collaterals x_hasSent x_isSealed x_metered x_sealedCount bk_counts bk_needs bk_whens bk_sides bk_quantities bk_limits ag_toldLies ag_passedLies ag_words ag_vectors ag_liarOperator ag_rounds mk_entries mk_slots mk_remainders mk_blocks mk_blockBids mk_blockOffers mk_entryCount mk_blockCount cv_limits cv_bids cv_offers cv_count cv_allBids cv_allOffers cv_meetingPrice cv_sureBids cv_sureOffers cv_priceBids cv_priceOffers cv_volume cv_worth oc_prices oc_volumes oc_filled oc_worth oc_takenSet oc_isDone, hT) 0 0 _
  refine mr_aload_n d_mk_share_0 rfl rfl ?_
  refine mr_get K_mk 1 d_mk_share_1 lk_f_mk_17 (by decide) rfl rfl ?_
  refine mr_iload_n d_mk_share_4 rfl rfl ?_
  refine mr_aald d_mk_share_5 (fun _ => rfl) rfl (fun _ => rfl) (fun hc1 => ?_)
  refine mr_iload_n d_mk_share_6 rfl rfl ?_
  refine mz_go (st := []) (e_c_shared (mz_lt hc1)) (fun _ => rfl) U_c_shared (mz_vV d_mk_share_7 U_c_shared rfl lk_m_mk_170 I_c_shared s_c_shared np_c_shared (gt_c (mz_lt hc1)) rfl) (Nat.le_of_ble_eq_true rfl) (by decide) (fun r2 => ?_)
  refine mr_eq (st' := [.int r2]) (ex' := ex) (h2 := (HX x_members x_collaterals x_hasSent x_isSealed x_metered x_sealedCount bk_counts bk_needs bk_whens bk_sides bk_quantities bk_limits ag_toldLies ag_passedLies ag_words ag_vectors ag_liarOperator ag_rounds mk_entries mk_slots mk_remainders mk_blocks mk_blockBids mk_blockOffers mk_entryCount mk_blockCount cv_limits cv_bids cv_offers cv_count cv_allBids cv_allOffers cv_meetingPrice cv_sureBids cv_sureOffers cv_priceBids cv_priceOffers cv_volume cv_worth oc_prices oc_volumes oc_filled oc_worth oc_takenSet oc_isDone, hT)) (k' := 0) (n' := 0) rfl rfl rfl rfl rfl ?_
  refine mr_istore (lv' := [(4, .int r2), (0, .ref 17), (1, .ref 46), (2, .int x2), (3, .int x3)]) d_mk_share_10 (by decide) rfl ?_
  refine mr_aload_n d_mk_share_12 rfl rfl ?_
  refine mr_get K_mk 1 d_mk_share_13 lk_f_mk_17 (by decide) rfl rfl ?_
  refine mr_iload_n d_mk_share_16 rfl rfl ?_
  refine mr_aaldK d_mk_share_17 (fun _ => rfl) rfl hc1 rfl ?_
  refine mr_iload_n d_mk_share_18 rfl rfl ?_
  refine mz_go (st := []) (e_c_quantityAtPrice (mz_lt hc1)) (fun _ => rfl) U_c_quantityAtPrice (mz_vV d_mk_share_19 U_c_quantityAtPrice rfl lk_m_mk_173 I_c_quantityAtPrice s_c_quantityAtPrice np_c_quantityAtPrice (gt_c (mz_lt hc1)) rfl) (Nat.le_of_ble_eq_true rfl) (by decide) (fun r3 => ?_)
  refine mr_eq (st' := [.int r3]) (ex' := ex) (h2 := (HX x_members x_collaterals x_hasSent x_isSealed x_metered x_sealedCount bk_counts bk_needs bk_whens bk_sides bk_quantities bk_limits ag_toldLies ag_passedLies ag_words ag_vectors ag_liarOperator ag_rounds mk_entries mk_slots mk_remainders mk_blocks mk_blockBids mk_blockOffers mk_entryCount mk_blockCount cv_limits cv_bids cv_offers cv_count cv_allBids cv_allOffers cv_meetingPrice cv_sureBids cv_sureOffers cv_priceBids cv_priceOffers cv_volume cv_worth oc_prices oc_volumes oc_filled oc_worth oc_takenSet oc_isDone, hT)) (k' := 0) (n' := 0) rfl rfl rfl rfl rfl ?_
  refine mr_istore (lv' := [(5, .int r3), (4, .int r2), (0, .ref 17), (1, .ref 46), (2, .int x2), (3, .int x3)]) d_mk_share_22 (by decide) rfl ?_
  refine mr_iload d_mk_share_24 rfl ?_
  refine mr_if_gt (tgt := 30) d_mk_share_26 (by decide) ?_ ?_
  · refine mr_iload d_mk_share_30 rfl ?_
    refine mr_istore (lv' := [(6, .int r2), (5, .int r3), (4, .int r2), (0, .ref 17), (1, .ref 46), (2, .int x2), (3, .int x3)]) d_mk_share_32 (by decide) rfl ?_
    refine mr_iconst (v := 0) d_mk_share_34 mc_iconst_0 ?_
    refine mr_istore (lv' := [(7, .int 0), (6, .int r2), (5, .int r3), (4, .int r2), (0, .ref 17), (1, .ref 46), (2, .int x2), (3, .int x3)]) d_mk_share_35 (by decide) rfl ?_
    refine mr_sub (lv' := [(0, .ref 17), (1, .ref 46), (2, .int x2), (3, .int x3), (4, .int r2), (5, .int r3), (6, .int r2), (7, .int 0)]) [4, 5, 6, 7, 3, 2, 1, 0] rfl ?_
    exact w_L37 1000 _ _ _ _ _ _
  · exact mr_vret d_mk_share_29 rfl rfl
set_option maxRecDepth 100000 in
set_option maxHeartbeats 4000000 in
theorem e_mk_share_3 {g : mz_G} {ex : Bool} {hT : List mz_E} {x_members : Int32} {x_collaterals : Nat → Int32} {x_hasSent : Nat → Int32} {x_isSealed : Nat → Int32} {x_metered : Nat → Int32} {x_sealedCount : Int32} {bk_counts : Nat → Int32} {bk_needs : Nat → Int64} {bk_whens : Nat → Int32} {bk_sides : Nat → Int32} {bk_quantities : Nat → Int32} {bk_limits : Nat → Int32} {ag_toldLies : Nat → Int32} {ag_passedLies : Nat → Int32} {ag_words : Nat → Int32} {ag_vectors : Nat → Int32} {ag_liarOperator : Int32} {ag_rounds : Int32} {mk_entries : Nat → Int32} {mk_slots : Nat → Int32} {mk_remainders : Nat → Int32} {mk_blocks : Nat → Int32} {mk_blockBids : Nat → Int32} {mk_blockOffers : Nat → Int32} {mk_entryCount : Int32} {mk_blockCount : Int32} {cv_limits : Nat → Nat → Int32} {cv_bids : Nat → Nat → Int32} {cv_offers : Nat → Nat → Int32} {cv_count : Nat → Int32} {cv_allBids : Nat → Int32} {cv_allOffers : Nat → Int32} {cv_meetingPrice : Nat → Int32} {cv_sureBids : Nat → Int32} {cv_sureOffers : Nat → Int32} {cv_priceBids : Nat → Int32} {cv_priceOffers : Nat → Int32} {cv_volume : Nat → Int32} {cv_worth : Nat → Int64} {oc_prices : Nat → Nat → Int32} {oc_volumes : Nat → Nat → Int32} {oc_filled : Nat → Nat → Int32} {oc_worth : Nat → Int64} {oc_takenSet : Nat → Int32} {oc_isDone : Nat → Int32} {x2 : Int32} {x3 : Int32} : mz_M g M_mk_share 2 [.ref 17, .ref 50, .int x2, .int x3] ex (HX x_members x_collaterals x_hasSent x_isSealed x_metered x_sealedCount bk_counts bk_needs bk_whens bk_sides bk_quantities bk_limits ag_toldLies ag_passedLies ag_words ag_vectors ag_liarOperator ag_rounds mk_entries mk_slots mk_remainders mk_blocks mk_blockBids mk_blockOffers mk_entryCount mk_blockCount cv_limits cv_bids cv_offers cv_count cv_allBids cv_allOffers cv_meetingPrice cv_sureBids cv_sureOffers cv_priceBids cv_priceOffers cv_volume cv_worth oc_prices oc_volumes oc_filled oc_worth oc_takenSet oc_isDone, hT) (f_mk_share bk_whens bk_sides bk_quantities bk_limits mk_entries mk_slots mk_remainders mk_entryCount cv_meetingPrice cv_sureBids cv_sureOffers cv_priceBids cv_priceOffers cv_volume (oc_filled 3) x2 x3) (fun r => (0, none, ex, (HX x_members x_collaterals x_hasSent x_isSealed x_metered x_sealedCount bk_counts bk_needs bk_whens bk_sides bk_quantities bk_limits ag_toldLies ag_passedLies ag_words ag_vectors ag_liarOperator ag_rounds mk_entries mk_slots r.1 mk_blocks mk_blockBids mk_blockOffers mk_entryCount mk_blockCount cv_limits cv_bids cv_offers cv_count cv_allBids cv_allOffers cv_meetingPrice cv_sureBids cv_sureOffers cv_priceBids cv_priceOffers cv_volume cv_worth oc_prices oc_volumes (va_up oc_filled 3 r.2) oc_worth oc_takenSet oc_isDone, hT), 0, 0)) := by
  have w_L138 : ∀ (n : Nat) (mk_remainders : Nat → Int32) (o_filled : Nat → Int32) (x6 : Int32) (x7 : Int32), mz_A g M_mk_share (mz_rm 2) (fun r => (0, none, ex, (HX x_members x_collaterals x_hasSent x_isSealed x_metered x_sealedCount bk_counts bk_needs bk_whens bk_sides bk_quantities bk_limits ag_toldLies ag_passedLies ag_words ag_vectors ag_liarOperator ag_rounds mk_entries mk_slots r.1 mk_blocks mk_blockBids mk_blockOffers mk_entryCount mk_blockCount cv_limits cv_bids cv_offers cv_count cv_allBids cv_allOffers cv_meetingPrice cv_sureBids cv_sureOffers cv_priceBids cv_priceOffers cv_volume cv_worth oc_prices oc_volumes (va_up oc_filled 3 r.2) oc_worth oc_takenSet oc_isDone, hT), 0, 0)) 138 [(0, .ref 17), (1, .ref 50), (6, .int x6), (7, .int x7)] [] ex (HX x_members x_collaterals x_hasSent x_isSealed x_metered x_sealedCount bk_counts bk_needs bk_whens bk_sides bk_quantities bk_limits ag_toldLies ag_passedLies ag_words ag_vectors ag_liarOperator ag_rounds mk_entries mk_slots mk_remainders mk_blocks mk_blockBids mk_blockOffers mk_entryCount mk_blockCount cv_limits cv_bids cv_offers cv_count cv_allBids cv_allOffers cv_meetingPrice cv_sureBids cv_sureOffers cv_priceBids cv_priceOffers cv_volume cv_worth oc_prices oc_volumes (va_up oc_filled 3 o_filled) oc_worth oc_takenSet oc_isDone, hT) 0 0 (f_mk_share_L138 bk_whens bk_sides bk_quantities bk_limits mk_entries mk_slots mk_entryCount cv_meetingPrice cv_sureBids cv_sureOffers cv_priceBids cv_priceOffers cv_volume n mk_remainders o_filled x6 x7) := by
    intro n
    induction n with
    | zero => intro mk_remainders o_filled x6 x7; exact mr_none
    | succ n ih =>
      intro mk_remainders o_filled x6 x7
      rw [f_mk_share_L138]
      refine mr_iload d_mk_share_138 rfl ?_
      refine mr_iload d_mk_share_140 rfl ?_
      refine mr_icmp_ge (tgt := 190) d_mk_share_142 (by decide) ?_ ?_
      · exact mr_vret d_mk_share_190 rfl rfl
      · refine mr_iload d_mk_share_145 rfl ?_
        refine mr_aload_n d_mk_share_147 rfl rfl ?_
        refine mr_get K_mk 8 d_mk_share_148 lk_f_mk_41 (by decide) rfl rfl ?_
        refine mr_icmp_ge (tgt := 190) d_mk_share_151 (by decide) ?_ ?_
        · exact mr_vret d_mk_share_190 rfl rfl
        · refine mr_aload_n d_mk_share_154 rfl rfl ?_
          refine mz_go (st := []) e_mk_greatestRemainder (fun _ => rfl) U_mk_greatestRemainder (mz_vV d_mk_share_155 U_mk_greatestRemainder rfl lk_m_mk_180 I_mk_greatestRemainder s_mk_greatestRemainder np_mk_greatestRemainder rfl rfl) (Nat.le_of_ble_eq_true rfl) (by decide) (fun r9 => ?_)
          refine mr_eq (st' := [.int r9]) (ex' := ex) (h2 := (HX x_members x_collaterals x_hasSent x_isSealed x_metered x_sealedCount bk_counts bk_needs bk_whens bk_sides bk_quantities bk_limits ag_toldLies ag_passedLies ag_words ag_vectors ag_liarOperator ag_rounds mk_entries mk_slots mk_remainders mk_blocks mk_blockBids mk_blockOffers mk_entryCount mk_blockCount cv_limits cv_bids cv_offers cv_count cv_allBids cv_allOffers cv_meetingPrice cv_sureBids cv_sureOffers cv_priceBids cv_priceOffers cv_volume cv_worth oc_prices oc_volumes (va_up oc_filled 3 o_filled) oc_worth oc_takenSet oc_isDone, hT)) (k' := 0) (n' := 0) rfl rfl rfl rfl rfl ?_
          refine mr_istore (lv' := [(8, .int r9), (0, .ref 17), (1, .ref 50), (6, .int x6), (7, .int x7)]) d_mk_share_158 (by decide) rfl ?_
          refine mr_aload_n d_mk_share_160 rfl rfl ?_
          refine mr_getN K_o 2 d_mk_share_161 lk_f_mk_167 (by decide) rfl rfl ?_
          refine mr_aload_n d_mk_share_164 rfl rfl ?_
          refine mr_get K_mk 3 d_mk_share_165 lk_f_mk_26 (by decide) rfl rfl ?_
          refine mr_iload d_mk_share_168 rfl ?_
          refine mr_iald d_mk_share_170 rfl (fun hc10 => ?_)
          refine mr_dup2_11 d_mk_share_171 rfl rfl ?_
          refine mr_iald d_mk_share_172 rfl (fun hc11 => ?_)
          refine mr_iconst (v := 1) d_mk_share_173 mc_iconst_1 ?_
          refine mr_iadd d_mk_share_174 ?_
          refine mr_iastK (h2 := (HX x_members x_collaterals x_hasSent x_isSealed x_metered x_sealedCount bk_counts bk_needs bk_whens bk_sides bk_quantities bk_limits ag_toldLies ag_passedLies ag_words ag_vectors ag_liarOperator ag_rounds mk_entries mk_slots mk_remainders mk_blocks mk_blockBids mk_blockOffers mk_entryCount mk_blockCount cv_limits cv_bids cv_offers cv_count cv_allBids cv_allOffers cv_meetingPrice cv_sureBids cv_sureOffers cv_priceBids cv_priceOffers cv_volume cv_worth oc_prices oc_volumes (va_up oc_filled 3 (upd o_filled (mk_slots r9.toNatClampNeg).toNatClampNeg ((o_filled (mk_slots r9.toNatClampNeg).toNatClampNeg) + 1))) oc_worth oc_takenSet oc_isDone, hT)) d_mk_share_175 rfl rfl hc11 ?_
          refine mr_aload_n d_mk_share_176 rfl rfl ?_
          refine mr_get K_mk 4 d_mk_share_177 lk_f_mk_29 (by decide) rfl rfl ?_
          refine mr_iload d_mk_share_180 rfl ?_
          refine mr_iconst (v := (-1)) d_mk_share_182 mc_iconst_m1 ?_
          refine mr_iastK (h2 := (HX x_members x_collaterals x_hasSent x_isSealed x_metered x_sealedCount bk_counts bk_needs bk_whens bk_sides bk_quantities bk_limits ag_toldLies ag_passedLies ag_words ag_vectors ag_liarOperator ag_rounds mk_entries mk_slots (upd mk_remainders r9.toNatClampNeg (-1)) mk_blocks mk_blockBids mk_blockOffers mk_entryCount mk_blockCount cv_limits cv_bids cv_offers cv_count cv_allBids cv_allOffers cv_meetingPrice cv_sureBids cv_sureOffers cv_priceBids cv_priceOffers cv_volume cv_worth oc_prices oc_volumes (va_up oc_filled 3 (upd o_filled (mk_slots r9.toNatClampNeg).toNatClampNeg ((o_filled (mk_slots r9.toNatClampNeg).toNatClampNeg) + 1))) oc_worth oc_takenSet oc_isDone, hT)) d_mk_share_183 rfl rfl hc10 ?_
          refine mr_iinc (v := (x7 + 1)) (lv' := [(7, .int (x7 + 1)), (8, .int r9), (0, .ref 17), (1, .ref 50), (6, .int x6)]) d_mk_share_184 rfl rfl (by decide) rfl ?_
          refine mr_goto (tgt := 138) d_mk_share_187 (by decide) ?_
          refine mr_sub (lv' := [(0, .ref 17), (1, .ref 50), (6, .int x6), (7, .int (x7 + 1))]) [2, 3, 4, 0] rfl ?_
          exact ih _ _ _ _
  have w_L37 : ∀ (n : Nat) (mk_remainders : Nat → Int32) (o_filled : Nat → Int32) (x4 : Int32) (x5 : Int32) (x6 : Int32) (x7 : Int32), mz_A g M_mk_share (mz_rm 2) (fun r => (0, none, ex, (HX x_members x_collaterals x_hasSent x_isSealed x_metered x_sealedCount bk_counts bk_needs bk_whens bk_sides bk_quantities bk_limits ag_toldLies ag_passedLies ag_words ag_vectors ag_liarOperator ag_rounds mk_entries mk_slots r.1 mk_blocks mk_blockBids mk_blockOffers mk_entryCount mk_blockCount cv_limits cv_bids cv_offers cv_count cv_allBids cv_allOffers cv_meetingPrice cv_sureBids cv_sureOffers cv_priceBids cv_priceOffers cv_volume cv_worth oc_prices oc_volumes (va_up oc_filled 3 r.2) oc_worth oc_takenSet oc_isDone, hT), 0, 0)) 37 [(0, .ref 17), (1, .ref 50), (2, .int x2), (3, .int x3), (4, .int x4), (5, .int x5), (6, .int x6), (7, .int x7)] [] ex (HX x_members x_collaterals x_hasSent x_isSealed x_metered x_sealedCount bk_counts bk_needs bk_whens bk_sides bk_quantities bk_limits ag_toldLies ag_passedLies ag_words ag_vectors ag_liarOperator ag_rounds mk_entries mk_slots mk_remainders mk_blocks mk_blockBids mk_blockOffers mk_entryCount mk_blockCount cv_limits cv_bids cv_offers cv_count cv_allBids cv_allOffers cv_meetingPrice cv_sureBids cv_sureOffers cv_priceBids cv_priceOffers cv_volume cv_worth oc_prices oc_volumes (va_up oc_filled 3 o_filled) oc_worth oc_takenSet oc_isDone, hT) 0 0 (f_mk_share_L37 bk_whens bk_sides bk_quantities bk_limits mk_entries mk_slots mk_entryCount cv_meetingPrice cv_sureBids cv_sureOffers cv_priceBids cv_priceOffers cv_volume x2 x3 n mk_remainders o_filled x4 x5 x6 x7) := by
    intro n
    induction n with
    | zero => intro mk_remainders o_filled x4 x5 x6 x7; exact mr_none
    | succ n ih =>
      intro mk_remainders o_filled x4 x5 x6 x7
      rw [f_mk_share_L37]
      refine mr_iload d_mk_share_37 rfl ?_
      refine mr_aload_n d_mk_share_39 rfl rfl ?_
      refine mr_get K_mk 8 d_mk_share_40 lk_f_mk_41 (by decide) rfl rfl ?_
      refine mr_icmp_ge (tgt := 135) d_mk_share_43 (by decide) ?_ ?_
      · refine mr_iconst (v := 0) d_mk_share_135 mc_iconst_0 ?_
        refine mr_istore (lv' := [(7, .int 0), (0, .ref 17), (1, .ref 50), (2, .int x2), (3, .int x3), (4, .int x4), (5, .int x5), (6, .int x6)]) d_mk_share_136 (by decide) rfl ?_
        refine mr_sub (lv' := [(0, .ref 17), (1, .ref 50), (6, .int x6), (7, .int 0)]) [1, 2, 7, 0] rfl ?_
        exact w_L138 1000 _ _ _ _
      · refine mr_aload_n d_mk_share_46 rfl rfl ?_
        refine mr_get K_mk 4 d_mk_share_47 lk_f_mk_29 (by decide) rfl rfl ?_
        refine mr_iload d_mk_share_50 rfl ?_
        refine mr_iconst (v := (-1)) d_mk_share_52 mc_iconst_m1 ?_
        refine mr_iast (h2 := (HX x_members x_collaterals x_hasSent x_isSealed x_metered x_sealedCount bk_counts bk_needs bk_whens bk_sides bk_quantities bk_limits ag_toldLies ag_passedLies ag_words ag_vectors ag_liarOperator ag_rounds mk_entries mk_slots (upd mk_remainders x7.toNatClampNeg (-1)) mk_blocks mk_blockBids mk_blockOffers mk_entryCount mk_blockCount cv_limits cv_bids cv_offers cv_count cv_allBids cv_allOffers cv_meetingPrice cv_sureBids cv_sureOffers cv_priceBids cv_priceOffers cv_volume cv_worth oc_prices oc_volumes (va_up oc_filled 3 o_filled) oc_worth oc_takenSet oc_isDone, hT)) d_mk_share_53 rfl rfl (fun hc4 => ?_)
        refine mr_aload_n d_mk_share_54 rfl rfl ?_
        refine mr_aload_n d_mk_share_55 rfl rfl ?_
        refine mr_get K_mk 2 d_mk_share_56 lk_f_mk_22 (by decide) rfl rfl ?_
        refine mr_iload d_mk_share_59 rfl ?_
        refine mr_ialdK d_mk_share_61 rfl hc4 ?_
        refine mr_iload_n d_mk_share_62 rfl rfl ?_
        refine mr_iload_n d_mk_share_63 rfl rfl ?_
        refine mz_go (st := []) e_mk_isSharing (fun _ => rfl) U_mk_isSharing (mz_vV d_mk_share_64 U_mk_isSharing rfl lk_m_mk_176 I_mk_isSharing s_mk_isSharing np_mk_isSharing rfl rfl) (Nat.le_of_ble_eq_true rfl) (by decide) (fun r5 => ?_)
        refine mr_eq (st' := [.int r5]) (ex' := ex) (h2 := (HX x_members x_collaterals x_hasSent x_isSealed x_metered x_sealedCount bk_counts bk_needs bk_whens bk_sides bk_quantities bk_limits ag_toldLies ag_passedLies ag_words ag_vectors ag_liarOperator ag_rounds mk_entries mk_slots (upd mk_remainders x7.toNatClampNeg (-1)) mk_blocks mk_blockBids mk_blockOffers mk_entryCount mk_blockCount cv_limits cv_bids cv_offers cv_count cv_allBids cv_allOffers cv_meetingPrice cv_sureBids cv_sureOffers cv_priceBids cv_priceOffers cv_volume cv_worth oc_prices oc_volumes (va_up oc_filled 3 o_filled) oc_worth oc_takenSet oc_isDone, hT)) (k' := 0) (n' := 0) rfl rfl rfl rfl rfl ?_
        refine mr_if_eq (tgt := 129) d_mk_share_67 (by decide) ?_ ?_
        · refine mr_iinc (v := (x7 + 1)) (lv' := [(7, .int (x7 + 1)), (0, .ref 17), (1, .ref 50), (2, .int x2), (3, .int x3), (4, .int x4), (5, .int x5), (6, .int x6)]) d_mk_share_129 rfl rfl (by decide) rfl ?_
          refine mr_goto (tgt := 37) d_mk_share_132 (by decide) ?_
          refine mr_sub (lv' := [(0, .ref 17), (1, .ref 50), (2, .int x2), (3, .int x3), (4, .int x4), (5, .int x5), (6, .int x6), (7, .int (x7 + 1))]) [1, 2, 3, 4, 5, 6, 7, 0] rfl ?_
          exact ih _ _ _ _ _ _
        · refine mr_aload_n d_mk_share_70 rfl rfl ?_
          refine mr_get K_mk 0 d_mk_share_71 lk_f_mk_9 (by decide) rfl rfl ?_
          refine mr_getN K_bk 4 d_mk_share_74 lk_f_mk_76 (by decide) rfl rfl ?_
          refine mr_aload_n d_mk_share_77 rfl rfl ?_
          refine mr_get K_mk 2 d_mk_share_78 lk_f_mk_22 (by decide) rfl rfl ?_
          refine mr_iload d_mk_share_81 rfl ?_
          refine mr_ialdK d_mk_share_83 rfl hc4 ?_
          refine mr_iald d_mk_share_84 rfl (fun hc6 => ?_)
          refine mr_iload d_mk_share_85 rfl ?_
          refine mr_imul d_mk_share_87 ?_
          refine mr_istore (lv' := [(8, .int ((bk_quantities (mk_entries x7.toNatClampNeg).toNatClampNeg) * x4)), (0, .ref 17), (1, .ref 50), (2, .int x2), (3, .int x3), (4, .int x4), (5, .int x5), (6, .int x6), (7, .int x7)]) d_mk_share_88 (by decide) rfl ?_
          refine mr_aload_n d_mk_share_90 rfl rfl ?_
          refine mr_getN K_o 2 d_mk_share_91 lk_f_mk_167 (by decide) rfl rfl ?_
          refine mr_aload_n d_mk_share_94 rfl rfl ?_
          refine mr_get K_mk 3 d_mk_share_95 lk_f_mk_26 (by decide) rfl rfl ?_
          refine mr_iload d_mk_share_98 rfl ?_
          refine mr_ialdK d_mk_share_100 rfl hc4 ?_
          refine mr_iload d_mk_share_101 rfl ?_
          refine mr_iload d_mk_share_103 rfl ?_
          refine mr_idiv d_mk_share_105 (fun hz7 => ?_)
          refine mr_iast (h2 := (HX x_members x_collaterals x_hasSent x_isSealed x_metered x_sealedCount bk_counts bk_needs bk_whens bk_sides bk_quantities bk_limits ag_toldLies ag_passedLies ag_words ag_vectors ag_liarOperator ag_rounds mk_entries mk_slots (upd mk_remainders x7.toNatClampNeg (-1)) mk_blocks mk_blockBids mk_blockOffers mk_entryCount mk_blockCount cv_limits cv_bids cv_offers cv_count cv_allBids cv_allOffers cv_meetingPrice cv_sureBids cv_sureOffers cv_priceBids cv_priceOffers cv_volume cv_worth oc_prices oc_volumes (va_up oc_filled 3 (upd o_filled (mk_slots x7.toNatClampNeg).toNatClampNeg (((bk_quantities (mk_entries x7.toNatClampNeg).toNatClampNeg) * x4) / x5))) oc_worth oc_takenSet oc_isDone, hT)) d_mk_share_106 rfl rfl (fun hc8 => ?_)
          refine mr_aload_n d_mk_share_107 rfl rfl ?_
          refine mr_get K_mk 4 d_mk_share_108 lk_f_mk_29 (by decide) rfl rfl ?_
          refine mr_iload d_mk_share_111 rfl ?_
          refine mr_iload d_mk_share_113 rfl ?_
          refine mr_iload d_mk_share_115 rfl ?_
          refine mr_iremK d_mk_share_117 hz7 ?_
          refine mr_iastK (h2 := (HX x_members x_collaterals x_hasSent x_isSealed x_metered x_sealedCount bk_counts bk_needs bk_whens bk_sides bk_quantities bk_limits ag_toldLies ag_passedLies ag_words ag_vectors ag_liarOperator ag_rounds mk_entries mk_slots (upd (upd mk_remainders x7.toNatClampNeg (-1)) x7.toNatClampNeg (((bk_quantities (mk_entries x7.toNatClampNeg).toNatClampNeg) * x4) - ((bk_quantities (mk_entries x7.toNatClampNeg).toNatClampNeg) * x4) / x5 * x5)) mk_blocks mk_blockBids mk_blockOffers mk_entryCount mk_blockCount cv_limits cv_bids cv_offers cv_count cv_allBids cv_allOffers cv_meetingPrice cv_sureBids cv_sureOffers cv_priceBids cv_priceOffers cv_volume cv_worth oc_prices oc_volumes (va_up oc_filled 3 (upd o_filled (mk_slots x7.toNatClampNeg).toNatClampNeg (((bk_quantities (mk_entries x7.toNatClampNeg).toNatClampNeg) * x4) / x5))) oc_worth oc_takenSet oc_isDone, hT)) d_mk_share_118 rfl rfl hc4 ?_
          refine mr_iload d_mk_share_119 rfl ?_
          refine mr_iload d_mk_share_121 rfl ?_
          refine mr_iload d_mk_share_123 rfl ?_
          refine mr_idivK d_mk_share_125 hz7 ?_
          refine mr_isub d_mk_share_126 ?_
          refine mr_istore (lv' := [(6, .int (x6 - (((bk_quantities (mk_entries x7.toNatClampNeg).toNatClampNeg) * x4) / x5))), (8, .int ((bk_quantities (mk_entries x7.toNatClampNeg).toNatClampNeg) * x4)), (0, .ref 17), (1, .ref 50), (2, .int x2), (3, .int x3), (4, .int x4), (5, .int x5), (7, .int x7)]) d_mk_share_127 (by decide) rfl ?_
          refine mr_iinc (v := (x7 + 1)) (lv' := [(7, .int (x7 + 1)), (6, .int (x6 - (((bk_quantities (mk_entries x7.toNatClampNeg).toNatClampNeg) * x4) / x5))), (8, .int ((bk_quantities (mk_entries x7.toNatClampNeg).toNatClampNeg) * x4)), (0, .ref 17), (1, .ref 50), (2, .int x2), (3, .int x3), (4, .int x4), (5, .int x5)]) d_mk_share_129 rfl rfl (by decide) rfl ?_
          refine mr_goto (tgt := 37) d_mk_share_132 (by decide) ?_
          refine mr_sub (lv' := [(0, .ref 17), (1, .ref 50), (2, .int x2), (3, .int x3), (4, .int x4), (5, .int x5), (6, .int (x6 - (((bk_quantities (mk_entries x7.toNatClampNeg).toNatClampNeg) * x4) / x5))), (7, .int (x7 + 1))]) [3, 4, 5, 6, 7, 8, 1, 0] rfl ?_
          exact ih _ _ _ _ _ _
  refine mz_of (by decide) (Nat.le_of_ble_eq_true rfl) ?_
  rw [f_mk_share]
  show mz_A g M_mk_share (mz_rm 2) _ 0 [(0, .ref 17), (1, .ref 50), (2, .int x2), (3, .int x3)] [] ex (HX x_members x_collaterals x_hasSent x_isSealed x_metered x_sealedCount bk_counts bk_needs bk_whens bk_sides bk_quantities bk_limits ag_toldLies ag_passedLies ag_words ag_vectors ag_liarOperator ag_rounds mk_entries mk_slots mk_remainders mk_blocks mk_blockBids mk_blockOffers mk_entryCount mk_blockCount cv_limits cv_bids cv_offers cv_count cv_allBids cv_allOffers cv_meetingPrice cv_sureBids cv_sureOffers cv_priceBids cv_priceOffers cv_volume cv_worth oc_prices oc_volumes oc_filled oc_worth oc_takenSet oc_isDone, hT) 0 0 _
  refine mr_aload_n d_mk_share_0 rfl rfl ?_
  refine mr_get K_mk 1 d_mk_share_1 lk_f_mk_17 (by decide) rfl rfl ?_
  refine mr_iload_n d_mk_share_4 rfl rfl ?_
  refine mr_aald d_mk_share_5 (fun _ => rfl) rfl (fun _ => rfl) (fun hc1 => ?_)
  refine mr_iload_n d_mk_share_6 rfl rfl ?_
  refine mz_go (st := []) (e_c_shared (mz_lt hc1)) (fun _ => rfl) U_c_shared (mz_vV d_mk_share_7 U_c_shared rfl lk_m_mk_170 I_c_shared s_c_shared np_c_shared (gt_c (mz_lt hc1)) rfl) (Nat.le_of_ble_eq_true rfl) (by decide) (fun r2 => ?_)
  refine mr_eq (st' := [.int r2]) (ex' := ex) (h2 := (HX x_members x_collaterals x_hasSent x_isSealed x_metered x_sealedCount bk_counts bk_needs bk_whens bk_sides bk_quantities bk_limits ag_toldLies ag_passedLies ag_words ag_vectors ag_liarOperator ag_rounds mk_entries mk_slots mk_remainders mk_blocks mk_blockBids mk_blockOffers mk_entryCount mk_blockCount cv_limits cv_bids cv_offers cv_count cv_allBids cv_allOffers cv_meetingPrice cv_sureBids cv_sureOffers cv_priceBids cv_priceOffers cv_volume cv_worth oc_prices oc_volumes oc_filled oc_worth oc_takenSet oc_isDone, hT)) (k' := 0) (n' := 0) rfl rfl rfl rfl rfl ?_
  refine mr_istore (lv' := [(4, .int r2), (0, .ref 17), (1, .ref 50), (2, .int x2), (3, .int x3)]) d_mk_share_10 (by decide) rfl ?_
  refine mr_aload_n d_mk_share_12 rfl rfl ?_
  refine mr_get K_mk 1 d_mk_share_13 lk_f_mk_17 (by decide) rfl rfl ?_
  refine mr_iload_n d_mk_share_16 rfl rfl ?_
  refine mr_aaldK d_mk_share_17 (fun _ => rfl) rfl hc1 rfl ?_
  refine mr_iload_n d_mk_share_18 rfl rfl ?_
  refine mz_go (st := []) (e_c_quantityAtPrice (mz_lt hc1)) (fun _ => rfl) U_c_quantityAtPrice (mz_vV d_mk_share_19 U_c_quantityAtPrice rfl lk_m_mk_173 I_c_quantityAtPrice s_c_quantityAtPrice np_c_quantityAtPrice (gt_c (mz_lt hc1)) rfl) (Nat.le_of_ble_eq_true rfl) (by decide) (fun r3 => ?_)
  refine mr_eq (st' := [.int r3]) (ex' := ex) (h2 := (HX x_members x_collaterals x_hasSent x_isSealed x_metered x_sealedCount bk_counts bk_needs bk_whens bk_sides bk_quantities bk_limits ag_toldLies ag_passedLies ag_words ag_vectors ag_liarOperator ag_rounds mk_entries mk_slots mk_remainders mk_blocks mk_blockBids mk_blockOffers mk_entryCount mk_blockCount cv_limits cv_bids cv_offers cv_count cv_allBids cv_allOffers cv_meetingPrice cv_sureBids cv_sureOffers cv_priceBids cv_priceOffers cv_volume cv_worth oc_prices oc_volumes oc_filled oc_worth oc_takenSet oc_isDone, hT)) (k' := 0) (n' := 0) rfl rfl rfl rfl rfl ?_
  refine mr_istore (lv' := [(5, .int r3), (4, .int r2), (0, .ref 17), (1, .ref 50), (2, .int x2), (3, .int x3)]) d_mk_share_22 (by decide) rfl ?_
  refine mr_iload d_mk_share_24 rfl ?_
  refine mr_if_gt (tgt := 30) d_mk_share_26 (by decide) ?_ ?_
  · refine mr_iload d_mk_share_30 rfl ?_
    refine mr_istore (lv' := [(6, .int r2), (5, .int r3), (4, .int r2), (0, .ref 17), (1, .ref 50), (2, .int x2), (3, .int x3)]) d_mk_share_32 (by decide) rfl ?_
    refine mr_iconst (v := 0) d_mk_share_34 mc_iconst_0 ?_
    refine mr_istore (lv' := [(7, .int 0), (6, .int r2), (5, .int r3), (4, .int r2), (0, .ref 17), (1, .ref 50), (2, .int x2), (3, .int x3)]) d_mk_share_35 (by decide) rfl ?_
    refine mr_sub (lv' := [(0, .ref 17), (1, .ref 50), (2, .int x2), (3, .int x3), (4, .int r2), (5, .int r3), (6, .int r2), (7, .int 0)]) [4, 5, 6, 7, 3, 2, 1, 0] rfl ?_
    exact w_L37 1000 _ _ _ _ _ _
  · exact mr_vret d_mk_share_29 rfl rfl
theorem e_mk_share {g : mz_G} {ex : Bool} {hT : List mz_E} {x_members : Int32} {x_collaterals : Nat → Int32} {x_hasSent : Nat → Int32} {x_isSealed : Nat → Int32} {x_metered : Nat → Int32} {x_sealedCount : Int32} {bk_counts : Nat → Int32} {bk_needs : Nat → Int64} {bk_whens : Nat → Int32} {bk_sides : Nat → Int32} {bk_quantities : Nat → Int32} {bk_limits : Nat → Int32} {ag_toldLies : Nat → Int32} {ag_passedLies : Nat → Int32} {ag_words : Nat → Int32} {ag_vectors : Nat → Int32} {ag_liarOperator : Int32} {ag_rounds : Int32} {mk_entries : Nat → Int32} {mk_slots : Nat → Int32} {mk_remainders : Nat → Int32} {mk_blocks : Nat → Int32} {mk_blockBids : Nat → Int32} {mk_blockOffers : Nat → Int32} {mk_entryCount : Int32} {mk_blockCount : Int32} {cv_limits : Nat → Nat → Int32} {cv_bids : Nat → Nat → Int32} {cv_offers : Nat → Nat → Int32} {cv_count : Nat → Int32} {cv_allBids : Nat → Int32} {cv_allOffers : Nat → Int32} {cv_meetingPrice : Nat → Int32} {cv_sureBids : Nat → Int32} {cv_sureOffers : Nat → Int32} {cv_priceBids : Nat → Int32} {cv_priceOffers : Nat → Int32} {cv_volume : Nat → Int32} {cv_worth : Nat → Int64} {oc_prices : Nat → Nat → Int32} {oc_volumes : Nat → Nat → Int32} {oc_filled : Nat → Nat → Int32} {oc_worth : Nat → Int64} {oc_takenSet : Nat → Int32} {oc_isDone : Nat → Int32} {x2 : Int32} {x3 : Int32} {j : Nat} (hj : j < 4) : mz_M g M_mk_share 2 [.ref 17, .ref (38 + 4 * j), .int x2, .int x3] ex (HX x_members x_collaterals x_hasSent x_isSealed x_metered x_sealedCount bk_counts bk_needs bk_whens bk_sides bk_quantities bk_limits ag_toldLies ag_passedLies ag_words ag_vectors ag_liarOperator ag_rounds mk_entries mk_slots mk_remainders mk_blocks mk_blockBids mk_blockOffers mk_entryCount mk_blockCount cv_limits cv_bids cv_offers cv_count cv_allBids cv_allOffers cv_meetingPrice cv_sureBids cv_sureOffers cv_priceBids cv_priceOffers cv_volume cv_worth oc_prices oc_volumes oc_filled oc_worth oc_takenSet oc_isDone, hT) (f_mk_share bk_whens bk_sides bk_quantities bk_limits mk_entries mk_slots mk_remainders mk_entryCount cv_meetingPrice cv_sureBids cv_sureOffers cv_priceBids cv_priceOffers cv_volume (oc_filled j) x2 x3) (fun r => (0, none, ex, (HX x_members x_collaterals x_hasSent x_isSealed x_metered x_sealedCount bk_counts bk_needs bk_whens bk_sides bk_quantities bk_limits ag_toldLies ag_passedLies ag_words ag_vectors ag_liarOperator ag_rounds mk_entries mk_slots r.1 mk_blocks mk_blockBids mk_blockOffers mk_entryCount mk_blockCount cv_limits cv_bids cv_offers cv_count cv_allBids cv_allOffers cv_meetingPrice cv_sureBids cv_sureOffers cv_priceBids cv_priceOffers cv_volume cv_worth oc_prices oc_volumes (va_up oc_filled j r.2) oc_worth oc_takenSet oc_isDone, hT), 0, 0)) := match j, hj with | 0, _ => e_mk_share_0 | 1, _ => e_mk_share_1 | 2, _ => e_mk_share_2 | 3, _ => e_mk_share_3 | j + 4, h => absurd h (by omega)
set_option maxRecDepth 100000 in
set_option maxHeartbeats 4000000 in
theorem e_mk_settleInto_0 {g : mz_G} {ex : Bool} {hT : List mz_E} {x_members : Int32} {x_collaterals : Nat → Int32} {x_hasSent : Nat → Int32} {x_isSealed : Nat → Int32} {x_metered : Nat → Int32} {x_sealedCount : Int32} {bk_counts : Nat → Int32} {bk_needs : Nat → Int64} {bk_whens : Nat → Int32} {bk_sides : Nat → Int32} {bk_quantities : Nat → Int32} {bk_limits : Nat → Int32} {ag_toldLies : Nat → Int32} {ag_passedLies : Nat → Int32} {ag_words : Nat → Int32} {ag_vectors : Nat → Int32} {ag_liarOperator : Int32} {ag_rounds : Int32} {mk_entries : Nat → Int32} {mk_slots : Nat → Int32} {mk_remainders : Nat → Int32} {mk_blocks : Nat → Int32} {mk_blockBids : Nat → Int32} {mk_blockOffers : Nat → Int32} {mk_entryCount : Int32} {mk_blockCount : Int32} {cv_limits : Nat → Nat → Int32} {cv_bids : Nat → Nat → Int32} {cv_offers : Nat → Nat → Int32} {cv_count : Nat → Int32} {cv_allBids : Nat → Int32} {cv_allOffers : Nat → Int32} {cv_meetingPrice : Nat → Int32} {cv_sureBids : Nat → Int32} {cv_sureOffers : Nat → Int32} {cv_priceBids : Nat → Int32} {cv_priceOffers : Nat → Int32} {cv_volume : Nat → Int32} {cv_worth : Nat → Int64} {oc_prices : Nat → Nat → Int32} {oc_volumes : Nat → Nat → Int32} {oc_filled : Nat → Nat → Int32} {oc_worth : Nat → Int64} {oc_takenSet : Nat → Int32} {oc_isDone : Nat → Int32} : mz_M g M_mk_settleInto 6 [.ref 17, .ref 38] ex (HX x_members x_collaterals x_hasSent x_isSealed x_metered x_sealedCount bk_counts bk_needs bk_whens bk_sides bk_quantities bk_limits ag_toldLies ag_passedLies ag_words ag_vectors ag_liarOperator ag_rounds mk_entries mk_slots mk_remainders mk_blocks mk_blockBids mk_blockOffers mk_entryCount mk_blockCount cv_limits cv_bids cv_offers cv_count cv_allBids cv_allOffers cv_meetingPrice cv_sureBids cv_sureOffers cv_priceBids cv_priceOffers cv_volume cv_worth oc_prices oc_volumes oc_filled oc_worth oc_takenSet oc_isDone, hT) (f_mk_settleInto bk_whens bk_sides bk_quantities bk_limits mk_entries mk_slots mk_remainders mk_blocks mk_blockBids mk_blockOffers mk_entryCount mk_blockCount cv_limits cv_bids cv_offers cv_count cv_allBids cv_allOffers cv_meetingPrice cv_sureBids cv_sureOffers cv_priceBids cv_priceOffers cv_volume cv_worth (oc_prices 0) (oc_volumes 0) (oc_filled 0) (oc_worth 0) (oc_takenSet 0) (oc_isDone 0)) (fun r => (0, none, ex, (HX x_members x_collaterals x_hasSent x_isSealed x_metered x_sealedCount bk_counts bk_needs bk_whens bk_sides bk_quantities bk_limits ag_toldLies ag_passedLies ag_words ag_vectors ag_liarOperator ag_rounds mk_entries mk_slots r.1 mk_blocks r.2.1 r.2.2.1 mk_entryCount mk_blockCount cv_limits cv_bids cv_offers cv_count cv_allBids cv_allOffers r.2.2.2.1 r.2.2.2.2.1 r.2.2.2.2.2.1 r.2.2.2.2.2.2.1 r.2.2.2.2.2.2.2.1 r.2.2.2.2.2.2.2.2.1 r.2.2.2.2.2.2.2.2.2.1 (va_up oc_prices 0 r.2.2.2.2.2.2.2.2.2.2.1) (va_up oc_volumes 0 r.2.2.2.2.2.2.2.2.2.2.2.1) (va_up oc_filled 0 r.2.2.2.2.2.2.2.2.2.2.2.2.1) (va_up oc_worth 0 r.2.2.2.2.2.2.2.2.2.2.2.2.2.1) (va_up oc_takenSet 0 r.2.2.2.2.2.2.2.2.2.2.2.2.2.2.1) (va_up oc_isDone 0 r.2.2.2.2.2.2.2.2.2.2.2.2.2.2.2), hT), 0, 0)) := by
  have w_L76 : ∀ (n : Nat) (mk_remainders : Nat → Int32) (mk_blockBids : Nat → Int32) (mk_blockOffers : Nat → Int32) (cv_meetingPrice : Nat → Int32) (cv_sureBids : Nat → Int32) (cv_sureOffers : Nat → Int32) (cv_priceBids : Nat → Int32) (cv_priceOffers : Nat → Int32) (cv_volume : Nat → Int32) (cv_worth : Nat → Int64) (o_prices : Nat → Int32) (o_volumes : Nat → Int32) (o_filled : Nat → Int32) (o_worth : Int64) (o_takenSet : Int32) (o_isDone : Int32) (x3 : Int32), mz_A g M_mk_settleInto (mz_rm 6) (fun r => (0, none, ex, (HX x_members x_collaterals x_hasSent x_isSealed x_metered x_sealedCount bk_counts bk_needs bk_whens bk_sides bk_quantities bk_limits ag_toldLies ag_passedLies ag_words ag_vectors ag_liarOperator ag_rounds mk_entries mk_slots r.1 mk_blocks r.2.1 r.2.2.1 mk_entryCount mk_blockCount cv_limits cv_bids cv_offers cv_count cv_allBids cv_allOffers r.2.2.2.1 r.2.2.2.2.1 r.2.2.2.2.2.1 r.2.2.2.2.2.2.1 r.2.2.2.2.2.2.2.1 r.2.2.2.2.2.2.2.2.1 r.2.2.2.2.2.2.2.2.2.1 (va_up oc_prices 0 r.2.2.2.2.2.2.2.2.2.2.1) (va_up oc_volumes 0 r.2.2.2.2.2.2.2.2.2.2.2.1) (va_up oc_filled 0 r.2.2.2.2.2.2.2.2.2.2.2.2.1) (va_up oc_worth 0 r.2.2.2.2.2.2.2.2.2.2.2.2.2.1) (va_up oc_takenSet 0 r.2.2.2.2.2.2.2.2.2.2.2.2.2.2.1) (va_up oc_isDone 0 r.2.2.2.2.2.2.2.2.2.2.2.2.2.2.2), hT), 0, 0)) 76 [(0, .ref 17), (1, .ref 38), (3, .int x3)] [] ex (HX x_members x_collaterals x_hasSent x_isSealed x_metered x_sealedCount bk_counts bk_needs bk_whens bk_sides bk_quantities bk_limits ag_toldLies ag_passedLies ag_words ag_vectors ag_liarOperator ag_rounds mk_entries mk_slots mk_remainders mk_blocks mk_blockBids mk_blockOffers mk_entryCount mk_blockCount cv_limits cv_bids cv_offers cv_count cv_allBids cv_allOffers cv_meetingPrice cv_sureBids cv_sureOffers cv_priceBids cv_priceOffers cv_volume cv_worth (va_up oc_prices 0 o_prices) (va_up oc_volumes 0 o_volumes) (va_up oc_filled 0 o_filled) (va_up oc_worth 0 o_worth) (va_up oc_takenSet 0 o_takenSet) (va_up oc_isDone 0 o_isDone), hT) 0 0 (f_mk_settleInto_L76 bk_whens bk_sides bk_quantities bk_limits mk_entries mk_slots mk_blocks mk_entryCount mk_blockCount cv_limits cv_bids cv_offers cv_count cv_allBids cv_allOffers n mk_remainders mk_blockBids mk_blockOffers cv_meetingPrice cv_sureBids cv_sureOffers cv_priceBids cv_priceOffers cv_volume cv_worth o_prices o_volumes o_filled o_worth o_takenSet o_isDone x3) := by
    intro n
    induction n with
    | zero => intro mk_remainders mk_blockBids mk_blockOffers cv_meetingPrice cv_sureBids cv_sureOffers cv_priceBids cv_priceOffers cv_volume cv_worth o_prices o_volumes o_filled o_worth o_takenSet o_isDone x3; exact mr_none
    | succ n ih =>
      intro mk_remainders mk_blockBids mk_blockOffers cv_meetingPrice cv_sureBids cv_sureOffers cv_priceBids cv_priceOffers cv_volume cv_worth o_prices o_volumes o_filled o_worth o_takenSet o_isDone x3
      rw [f_mk_settleInto_L76]
      refine mr_iload_n d_mk_settleInto_76 rfl rfl ?_
      refine mr_iconst (v := 3) d_mk_settleInto_77 mc_iconst_3 ?_
      refine mr_icmp_ge (tgt := 101) d_mk_settleInto_78 (by decide) ?_ ?_
      · refine mr_aload_n d_mk_settleInto_101 rfl rfl ?_
        refine mr_iconst (v := 1) d_mk_settleInto_102 mc_iconst_1 ?_
        refine mr_putN (h2 := (HX x_members x_collaterals x_hasSent x_isSealed x_metered x_sealedCount bk_counts bk_needs bk_whens bk_sides bk_quantities bk_limits ag_toldLies ag_passedLies ag_words ag_vectors ag_liarOperator ag_rounds mk_entries mk_slots mk_remainders mk_blocks mk_blockBids mk_blockOffers mk_entryCount mk_blockCount cv_limits cv_bids cv_offers cv_count cv_allBids cv_allOffers cv_meetingPrice cv_sureBids cv_sureOffers cv_priceBids cv_priceOffers cv_volume cv_worth (va_up oc_prices 0 o_prices) (va_up oc_volumes 0 o_volumes) (va_up oc_filled 0 o_filled) (va_up oc_worth 0 o_worth) (va_up oc_takenSet 0 o_takenSet) (va_up oc_isDone 0 1), hT)) K_o 5 d_mk_settleInto_103 lk_f_mk_126 (by decide) rfl rfl rfl (Nat.le_of_ble_eq_true rfl) rfl rfl ?_
        exact mr_vret d_mk_settleInto_106 rfl rfl
      · refine mr_aload_n d_mk_settleInto_81 rfl rfl ?_
        refine mr_aload_n d_mk_settleInto_82 rfl rfl ?_
        refine mr_iload_n d_mk_settleInto_83 rfl rfl ?_
        refine mr_iconst (v := 0) d_mk_settleInto_84 mc_iconst_0 ?_
        refine mz_go (st := []) e_mk_share_0 (fun _ => rfl) U_mk_share (mz_vV d_mk_settleInto_85 U_mk_share rfl lk_m_mk_122 I_mk_share s_mk_share np_mk_share rfl rfl) (Nat.le_of_ble_eq_true rfl) (by decide) (fun r6 => ?_)
        refine mr_eq (st' := []) (ex' := ex) (h2 := (HX x_members x_collaterals x_hasSent x_isSealed x_metered x_sealedCount bk_counts bk_needs bk_whens bk_sides bk_quantities bk_limits ag_toldLies ag_passedLies ag_words ag_vectors ag_liarOperator ag_rounds mk_entries mk_slots r6.1 mk_blocks mk_blockBids mk_blockOffers mk_entryCount mk_blockCount cv_limits cv_bids cv_offers cv_count cv_allBids cv_allOffers cv_meetingPrice cv_sureBids cv_sureOffers cv_priceBids cv_priceOffers cv_volume cv_worth (va_up oc_prices 0 o_prices) (va_up oc_volumes 0 o_volumes) (va_up oc_filled 0 r6.2) (va_up oc_worth 0 o_worth) (va_up oc_takenSet 0 o_takenSet) (va_up oc_isDone 0 o_isDone), hT)) (k' := 0) (n' := 0) rfl rfl rfl rfl rfl ?_
        refine mr_aload_n d_mk_settleInto_88 rfl rfl ?_
        refine mr_aload_n d_mk_settleInto_89 rfl rfl ?_
        refine mr_iload_n d_mk_settleInto_90 rfl rfl ?_
        refine mr_iconst (v := 1) d_mk_settleInto_91 mc_iconst_1 ?_
        refine mz_go (st := []) e_mk_share_0 (fun _ => rfl) U_mk_share (mz_vV d_mk_settleInto_92 U_mk_share rfl lk_m_mk_122 I_mk_share s_mk_share np_mk_share rfl rfl) (Nat.le_of_ble_eq_true rfl) (by decide) (fun r7 => ?_)
        refine mr_eq (st' := []) (ex' := ex) (h2 := (HX x_members x_collaterals x_hasSent x_isSealed x_metered x_sealedCount bk_counts bk_needs bk_whens bk_sides bk_quantities bk_limits ag_toldLies ag_passedLies ag_words ag_vectors ag_liarOperator ag_rounds mk_entries mk_slots r7.1 mk_blocks mk_blockBids mk_blockOffers mk_entryCount mk_blockCount cv_limits cv_bids cv_offers cv_count cv_allBids cv_allOffers cv_meetingPrice cv_sureBids cv_sureOffers cv_priceBids cv_priceOffers cv_volume cv_worth (va_up oc_prices 0 o_prices) (va_up oc_volumes 0 o_volumes) (va_up oc_filled 0 r7.2) (va_up oc_worth 0 o_worth) (va_up oc_takenSet 0 o_takenSet) (va_up oc_isDone 0 o_isDone), hT)) (k' := 0) (n' := 0) rfl rfl rfl rfl rfl ?_
        refine mr_iinc (v := (x3 + 1)) (lv' := [(3, .int (x3 + 1)), (0, .ref 17), (1, .ref 38)]) d_mk_settleInto_95 rfl rfl (by decide) rfl ?_
        refine mr_goto (tgt := 76) d_mk_settleInto_98 (by decide) ?_
        refine mr_sub (lv' := [(0, .ref 17), (1, .ref 38), (3, .int (x3 + 1))]) [1, 2, 0] rfl ?_
        exact ih _ _ _ _ _ _ _ _ _ _ _ _ _ _ _ _ _
  have w_L27 : ∀ (n : Nat) (mk_remainders : Nat → Int32) (mk_blockBids : Nat → Int32) (mk_blockOffers : Nat → Int32) (cv_meetingPrice : Nat → Int32) (cv_sureBids : Nat → Int32) (cv_sureOffers : Nat → Int32) (cv_priceBids : Nat → Int32) (cv_priceOffers : Nat → Int32) (cv_volume : Nat → Int32) (cv_worth : Nat → Int64) (o_prices : Nat → Int32) (o_volumes : Nat → Int32) (o_filled : Nat → Int32) (o_worth : Int64) (o_takenSet : Int32) (o_isDone : Int32) (x2 : Int32) (x3 : Int32), mz_A g M_mk_settleInto (mz_rm 6) (fun r => (0, none, ex, (HX x_members x_collaterals x_hasSent x_isSealed x_metered x_sealedCount bk_counts bk_needs bk_whens bk_sides bk_quantities bk_limits ag_toldLies ag_passedLies ag_words ag_vectors ag_liarOperator ag_rounds mk_entries mk_slots r.1 mk_blocks r.2.1 r.2.2.1 mk_entryCount mk_blockCount cv_limits cv_bids cv_offers cv_count cv_allBids cv_allOffers r.2.2.2.1 r.2.2.2.2.1 r.2.2.2.2.2.1 r.2.2.2.2.2.2.1 r.2.2.2.2.2.2.2.1 r.2.2.2.2.2.2.2.2.1 r.2.2.2.2.2.2.2.2.2.1 (va_up oc_prices 0 r.2.2.2.2.2.2.2.2.2.2.1) (va_up oc_volumes 0 r.2.2.2.2.2.2.2.2.2.2.2.1) (va_up oc_filled 0 r.2.2.2.2.2.2.2.2.2.2.2.2.1) (va_up oc_worth 0 r.2.2.2.2.2.2.2.2.2.2.2.2.2.1) (va_up oc_takenSet 0 r.2.2.2.2.2.2.2.2.2.2.2.2.2.2.1) (va_up oc_isDone 0 r.2.2.2.2.2.2.2.2.2.2.2.2.2.2.2), hT), 0, 0)) 27 [(0, .ref 17), (1, .ref 38), (2, .int x2), (3, .int x3)] [] ex (HX x_members x_collaterals x_hasSent x_isSealed x_metered x_sealedCount bk_counts bk_needs bk_whens bk_sides bk_quantities bk_limits ag_toldLies ag_passedLies ag_words ag_vectors ag_liarOperator ag_rounds mk_entries mk_slots mk_remainders mk_blocks mk_blockBids mk_blockOffers mk_entryCount mk_blockCount cv_limits cv_bids cv_offers cv_count cv_allBids cv_allOffers cv_meetingPrice cv_sureBids cv_sureOffers cv_priceBids cv_priceOffers cv_volume cv_worth (va_up oc_prices 0 o_prices) (va_up oc_volumes 0 o_volumes) (va_up oc_filled 0 o_filled) (va_up oc_worth 0 o_worth) (va_up oc_takenSet 0 o_takenSet) (va_up oc_isDone 0 o_isDone), hT) 0 0 (f_mk_settleInto_L27 bk_whens bk_sides bk_quantities bk_limits mk_entries mk_slots mk_blocks mk_entryCount mk_blockCount cv_limits cv_bids cv_offers cv_count cv_allBids cv_allOffers n mk_remainders mk_blockBids mk_blockOffers cv_meetingPrice cv_sureBids cv_sureOffers cv_priceBids cv_priceOffers cv_volume cv_worth o_prices o_volumes o_filled o_worth o_takenSet o_isDone x2 x3) := by
    intro n
    induction n with
    | zero => intro mk_remainders mk_blockBids mk_blockOffers cv_meetingPrice cv_sureBids cv_sureOffers cv_priceBids cv_priceOffers cv_volume cv_worth o_prices o_volumes o_filled o_worth o_takenSet o_isDone x2 x3; exact mr_none
    | succ n ih =>
      intro mk_remainders mk_blockBids mk_blockOffers cv_meetingPrice cv_sureBids cv_sureOffers cv_priceBids cv_priceOffers cv_volume cv_worth o_prices o_volumes o_filled o_worth o_takenSet o_isDone x2 x3
      rw [f_mk_settleInto_L27]
      refine mr_iload_n d_mk_settleInto_27 rfl rfl ?_
      refine mr_iconst (v := 3) d_mk_settleInto_28 mc_iconst_3 ?_
      refine mr_icmp_ge (tgt := 68) d_mk_settleInto_29 (by decide) ?_ ?_
      · refine mr_aload_n d_mk_settleInto_68 rfl rfl ?_
        refine mr_aload_n d_mk_settleInto_69 rfl rfl ?_
        refine mr_iload_n d_mk_settleInto_70 rfl rfl ?_
        refine mz_go (st := []) e_mk_giveWhole_0 (fun _ => rfl) U_mk_giveWhole (mz_vV d_mk_settleInto_71 U_mk_giveWhole rfl lk_m_mk_118 I_mk_giveWhole s_mk_giveWhole np_mk_giveWhole rfl rfl) (Nat.le_of_ble_eq_true rfl) (by decide) (fun r4 => ?_)
        refine mr_eq (st' := []) (ex' := ex) (h2 := (HX x_members x_collaterals x_hasSent x_isSealed x_metered x_sealedCount bk_counts bk_needs bk_whens bk_sides bk_quantities bk_limits ag_toldLies ag_passedLies ag_words ag_vectors ag_liarOperator ag_rounds mk_entries mk_slots mk_remainders mk_blocks mk_blockBids mk_blockOffers mk_entryCount mk_blockCount cv_limits cv_bids cv_offers cv_count cv_allBids cv_allOffers cv_meetingPrice cv_sureBids cv_sureOffers cv_priceBids cv_priceOffers cv_volume cv_worth (va_up oc_prices 0 o_prices) (va_up oc_volumes 0 o_volumes) (va_up oc_filled 0 r4) (va_up oc_worth 0 o_worth) (va_up oc_takenSet 0 o_takenSet) (va_up oc_isDone 0 o_isDone), hT)) (k' := 0) (n' := 0) rfl rfl rfl rfl rfl ?_
        refine mr_iconst (v := 0) d_mk_settleInto_74 mc_iconst_0 ?_
        refine mr_istore_n (lv' := [(3, .int 0), (0, .ref 17), (1, .ref 38), (2, .int x2)]) d_mk_settleInto_75 rfl (by decide) rfl ?_
        refine mr_sub (lv' := [(0, .ref 17), (1, .ref 38), (3, .int 0)]) [1, 2, 0] rfl ?_
        exact w_L76 1000 _ _ _ _ _ _ _ _ _ _ _ _ _ _ _ _ _
      · refine mr_aload_n d_mk_settleInto_32 rfl rfl ?_
        refine mr_getN K_o 0 d_mk_settleInto_33 lk_f_mk_106 (by decide) rfl rfl ?_
        refine mr_iload_n d_mk_settleInto_36 rfl rfl ?_
        refine mr_aload_n d_mk_settleInto_37 rfl rfl ?_
        refine mr_get K_mk 1 d_mk_settleInto_38 lk_f_mk_17 (by decide) rfl rfl ?_
        refine mr_iload_n d_mk_settleInto_41 rfl rfl ?_
        refine mr_aald d_mk_settleInto_42 (fun _ => rfl) rfl (fun _ => rfl) (fun hc5 => ?_)
        refine mr_getN K_c 6 d_mk_settleInto_43 lk_f_mk_109 (by decide) (gt_c (mz_lt hc5)) rfl ?_
        refine mr_iastK (h2 := (HX x_members x_collaterals x_hasSent x_isSealed x_metered x_sealedCount bk_counts bk_needs bk_whens bk_sides bk_quantities bk_limits ag_toldLies ag_passedLies ag_words ag_vectors ag_liarOperator ag_rounds mk_entries mk_slots mk_remainders mk_blocks mk_blockBids mk_blockOffers mk_entryCount mk_blockCount cv_limits cv_bids cv_offers cv_count cv_allBids cv_allOffers cv_meetingPrice cv_sureBids cv_sureOffers cv_priceBids cv_priceOffers cv_volume cv_worth (va_up oc_prices 0 (upd o_prices x3.toNatClampNeg (cv_meetingPrice x3.toNatClampNeg))) (va_up oc_volumes 0 o_volumes) (va_up oc_filled 0 o_filled) (va_up oc_worth 0 o_worth) (va_up oc_takenSet 0 o_takenSet) (va_up oc_isDone 0 o_isDone), hT)) d_mk_settleInto_46 rfl rfl hc5 ?_
        refine mr_aload_n d_mk_settleInto_47 rfl rfl ?_
        refine mr_getN K_o 1 d_mk_settleInto_48 lk_f_mk_112 (by decide) rfl rfl ?_
        refine mr_iload_n d_mk_settleInto_51 rfl rfl ?_
        refine mr_aload_n d_mk_settleInto_52 rfl rfl ?_
        refine mr_get K_mk 1 d_mk_settleInto_53 lk_f_mk_17 (by decide) rfl rfl ?_
        refine mr_iload_n d_mk_settleInto_56 rfl rfl ?_
        refine mr_aaldK d_mk_settleInto_57 (fun _ => rfl) rfl hc5 rfl ?_
        refine mr_getN K_c 11 d_mk_settleInto_58 lk_f_mk_115 (by decide) (gt_c (mz_lt hc5)) rfl ?_
        refine mr_iastK (h2 := (HX x_members x_collaterals x_hasSent x_isSealed x_metered x_sealedCount bk_counts bk_needs bk_whens bk_sides bk_quantities bk_limits ag_toldLies ag_passedLies ag_words ag_vectors ag_liarOperator ag_rounds mk_entries mk_slots mk_remainders mk_blocks mk_blockBids mk_blockOffers mk_entryCount mk_blockCount cv_limits cv_bids cv_offers cv_count cv_allBids cv_allOffers cv_meetingPrice cv_sureBids cv_sureOffers cv_priceBids cv_priceOffers cv_volume cv_worth (va_up oc_prices 0 (upd o_prices x3.toNatClampNeg (cv_meetingPrice x3.toNatClampNeg))) (va_up oc_volumes 0 (upd o_volumes x3.toNatClampNeg (cv_volume x3.toNatClampNeg))) (va_up oc_filled 0 o_filled) (va_up oc_worth 0 o_worth) (va_up oc_takenSet 0 o_takenSet) (va_up oc_isDone 0 o_isDone), hT)) d_mk_settleInto_61 rfl rfl hc5 ?_
        refine mr_iinc (v := (x3 + 1)) (lv' := [(3, .int (x3 + 1)), (0, .ref 17), (1, .ref 38), (2, .int x2)]) d_mk_settleInto_62 rfl rfl (by decide) rfl ?_
        refine mr_goto (tgt := 27) d_mk_settleInto_65 (by decide) ?_
        refine mr_sub (lv' := [(0, .ref 17), (1, .ref 38), (2, .int x2), (3, .int (x3 + 1))]) [1, 2, 3, 0] rfl ?_
        exact ih _ _ _ _ _ _ _ _ _ _ _ _ _ _ _ _ _ _
  refine mz_of (by decide) (Nat.le_of_ble_eq_true rfl) ?_
  rw [f_mk_settleInto]
  show mz_A g M_mk_settleInto (mz_rm 6) _ 0 [(0, .ref 17), (1, .ref 38)] [] ex (HX x_members x_collaterals x_hasSent x_isSealed x_metered x_sealedCount bk_counts bk_needs bk_whens bk_sides bk_quantities bk_limits ag_toldLies ag_passedLies ag_words ag_vectors ag_liarOperator ag_rounds mk_entries mk_slots mk_remainders mk_blocks mk_blockBids mk_blockOffers mk_entryCount mk_blockCount cv_limits cv_bids cv_offers cv_count cv_allBids cv_allOffers cv_meetingPrice cv_sureBids cv_sureOffers cv_priceBids cv_priceOffers cv_volume cv_worth oc_prices oc_volumes oc_filled oc_worth oc_takenSet oc_isDone, hT) 0 0 _
  refine mr_aload_n d_mk_settleInto_0 rfl rfl ?_
  refine mz_go (st := []) e_mk_bestSet (fun _ => rfl) U_mk_bestSet (mz_vV d_mk_settleInto_1 U_mk_bestSet rfl lk_m_mk_86 I_mk_bestSet s_mk_bestSet np_mk_bestSet rfl rfl) (Nat.le_of_ble_eq_true rfl) (by decide) (fun r1 => ?_)
  refine mr_eq (st' := [.int r1.1]) (ex' := ex) (h2 := (HX x_members x_collaterals x_hasSent x_isSealed x_metered x_sealedCount bk_counts bk_needs bk_whens bk_sides bk_quantities bk_limits ag_toldLies ag_passedLies ag_words ag_vectors ag_liarOperator ag_rounds mk_entries mk_slots mk_remainders mk_blocks r1.2.1 r1.2.2.1 mk_entryCount mk_blockCount cv_limits cv_bids cv_offers cv_count cv_allBids cv_allOffers r1.2.2.2.1 r1.2.2.2.2.1 r1.2.2.2.2.2.1 r1.2.2.2.2.2.2.1 r1.2.2.2.2.2.2.2.1 r1.2.2.2.2.2.2.2.2.1 r1.2.2.2.2.2.2.2.2.2 oc_prices oc_volumes oc_filled oc_worth oc_takenSet oc_isDone, hT)) (k' := 0) (n' := 0) rfl rfl rfl rfl rfl ?_
  refine mr_istore_n (lv' := [(2, .int r1.1), (0, .ref 17), (1, .ref 38)]) d_mk_settleInto_4 rfl (by decide) rfl ?_
  refine mr_aload_n d_mk_settleInto_5 rfl rfl ?_
  refine mr_iload_n d_mk_settleInto_6 rfl rfl ?_
  refine mz_go (st := []) e_mk_findPrices (fun _ => rfl) U_mk_findPrices (mz_vV d_mk_settleInto_7 U_mk_findPrices rfl lk_m_mk_90 I_mk_findPrices s_mk_findPrices np_mk_findPrices rfl rfl) (Nat.le_of_ble_eq_true rfl) (by decide) (fun r2 => ?_)
  refine mr_eq (st' := [.int r2.1]) (ex' := ex) (h2 := (HX x_members x_collaterals x_hasSent x_isSealed x_metered x_sealedCount bk_counts bk_needs bk_whens bk_sides bk_quantities bk_limits ag_toldLies ag_passedLies ag_words ag_vectors ag_liarOperator ag_rounds mk_entries mk_slots mk_remainders mk_blocks r2.2.1 r2.2.2.1 mk_entryCount mk_blockCount cv_limits cv_bids cv_offers cv_count cv_allBids cv_allOffers r2.2.2.2 r1.2.2.2.2.1 r1.2.2.2.2.2.1 r1.2.2.2.2.2.2.1 r1.2.2.2.2.2.2.2.1 r1.2.2.2.2.2.2.2.2.1 r1.2.2.2.2.2.2.2.2.2 oc_prices oc_volumes oc_filled oc_worth oc_takenSet oc_isDone, hT)) (k' := 0) (n' := 0) rfl rfl rfl rfl rfl ?_
  refine mr_pop d_mk_settleInto_10 rfl ?_
  refine mr_aload_n d_mk_settleInto_11 rfl rfl ?_
  refine mr_aload_n d_mk_settleInto_12 rfl rfl ?_
  refine mr_iload_n d_mk_settleInto_13 rfl rfl ?_
  refine mz_go (st := [.ref 38]) e_mk_worthOfSet (fun _ => rfl) U_mk_worthOfSet (mz_vV d_mk_settleInto_14 U_mk_worthOfSet rfl lk_m_mk_93 I_mk_worthOfSet s_mk_worthOfSet np_mk_worthOfSet rfl rfl) (Nat.le_of_ble_eq_true rfl) (by decide) (fun r3 => ?_)
  refine mr_eq (st' := [.long r3.1, .ref 38]) (ex' := ex) (h2 := (HX x_members x_collaterals x_hasSent x_isSealed x_metered x_sealedCount bk_counts bk_needs bk_whens bk_sides bk_quantities bk_limits ag_toldLies ag_passedLies ag_words ag_vectors ag_liarOperator ag_rounds mk_entries mk_slots mk_remainders mk_blocks r2.2.1 r2.2.2.1 mk_entryCount mk_blockCount cv_limits cv_bids cv_offers cv_count cv_allBids cv_allOffers r2.2.2.2 r3.2.1 r3.2.2.1 r3.2.2.2.1 r3.2.2.2.2.1 r3.2.2.2.2.2.1 r3.2.2.2.2.2.2 oc_prices oc_volumes oc_filled oc_worth oc_takenSet oc_isDone, hT)) (k' := 0) (n' := 0) rfl rfl rfl rfl rfl ?_
  refine mr_putN (h2 := (HX x_members x_collaterals x_hasSent x_isSealed x_metered x_sealedCount bk_counts bk_needs bk_whens bk_sides bk_quantities bk_limits ag_toldLies ag_passedLies ag_words ag_vectors ag_liarOperator ag_rounds mk_entries mk_slots mk_remainders mk_blocks r2.2.1 r2.2.2.1 mk_entryCount mk_blockCount cv_limits cv_bids cv_offers cv_count cv_allBids cv_allOffers r2.2.2.2 r3.2.1 r3.2.2.1 r3.2.2.2.1 r3.2.2.2.2.1 r3.2.2.2.2.2.1 r3.2.2.2.2.2.2 oc_prices oc_volumes oc_filled (va_up oc_worth 0 r3.1) oc_takenSet oc_isDone, hT)) K_o 3 d_mk_settleInto_17 lk_f_mk_97 (by decide) rfl rfl rfl (Nat.le_of_ble_eq_true rfl) rfl rfl ?_
  refine mr_aload_n d_mk_settleInto_20 rfl rfl ?_
  refine mr_iload_n d_mk_settleInto_21 rfl rfl ?_
  refine mr_putN (h2 := (HX x_members x_collaterals x_hasSent x_isSealed x_metered x_sealedCount bk_counts bk_needs bk_whens bk_sides bk_quantities bk_limits ag_toldLies ag_passedLies ag_words ag_vectors ag_liarOperator ag_rounds mk_entries mk_slots mk_remainders mk_blocks r2.2.1 r2.2.2.1 mk_entryCount mk_blockCount cv_limits cv_bids cv_offers cv_count cv_allBids cv_allOffers r2.2.2.2 r3.2.1 r3.2.2.1 r3.2.2.2.1 r3.2.2.2.2.1 r3.2.2.2.2.2.1 r3.2.2.2.2.2.2 oc_prices oc_volumes oc_filled (va_up oc_worth 0 r3.1) (va_up oc_takenSet 0 r1.1) oc_isDone, hT)) K_o 4 d_mk_settleInto_22 lk_f_mk_103 (by decide) rfl rfl rfl (Nat.le_of_ble_eq_true rfl) rfl rfl ?_
  refine mr_iconst (v := 0) d_mk_settleInto_25 mc_iconst_0 ?_
  refine mr_istore_n (lv' := [(3, .int 0), (2, .int r1.1), (0, .ref 17), (1, .ref 38)]) d_mk_settleInto_26 rfl (by decide) rfl ?_
  refine mr_sub (lv' := [(0, .ref 17), (1, .ref 38), (2, .int r1.1), (3, .int 0)]) [2, 3, 1, 0] rfl ?_
  exact w_L27 1000 _ _ _ _ _ _ _ _ _ _ _ _ _ _ _ _ _ _
set_option maxRecDepth 100000 in
set_option maxHeartbeats 4000000 in
theorem e_mk_settleInto_1 {g : mz_G} {ex : Bool} {hT : List mz_E} {x_members : Int32} {x_collaterals : Nat → Int32} {x_hasSent : Nat → Int32} {x_isSealed : Nat → Int32} {x_metered : Nat → Int32} {x_sealedCount : Int32} {bk_counts : Nat → Int32} {bk_needs : Nat → Int64} {bk_whens : Nat → Int32} {bk_sides : Nat → Int32} {bk_quantities : Nat → Int32} {bk_limits : Nat → Int32} {ag_toldLies : Nat → Int32} {ag_passedLies : Nat → Int32} {ag_words : Nat → Int32} {ag_vectors : Nat → Int32} {ag_liarOperator : Int32} {ag_rounds : Int32} {mk_entries : Nat → Int32} {mk_slots : Nat → Int32} {mk_remainders : Nat → Int32} {mk_blocks : Nat → Int32} {mk_blockBids : Nat → Int32} {mk_blockOffers : Nat → Int32} {mk_entryCount : Int32} {mk_blockCount : Int32} {cv_limits : Nat → Nat → Int32} {cv_bids : Nat → Nat → Int32} {cv_offers : Nat → Nat → Int32} {cv_count : Nat → Int32} {cv_allBids : Nat → Int32} {cv_allOffers : Nat → Int32} {cv_meetingPrice : Nat → Int32} {cv_sureBids : Nat → Int32} {cv_sureOffers : Nat → Int32} {cv_priceBids : Nat → Int32} {cv_priceOffers : Nat → Int32} {cv_volume : Nat → Int32} {cv_worth : Nat → Int64} {oc_prices : Nat → Nat → Int32} {oc_volumes : Nat → Nat → Int32} {oc_filled : Nat → Nat → Int32} {oc_worth : Nat → Int64} {oc_takenSet : Nat → Int32} {oc_isDone : Nat → Int32} : mz_M g M_mk_settleInto 6 [.ref 17, .ref 42] ex (HX x_members x_collaterals x_hasSent x_isSealed x_metered x_sealedCount bk_counts bk_needs bk_whens bk_sides bk_quantities bk_limits ag_toldLies ag_passedLies ag_words ag_vectors ag_liarOperator ag_rounds mk_entries mk_slots mk_remainders mk_blocks mk_blockBids mk_blockOffers mk_entryCount mk_blockCount cv_limits cv_bids cv_offers cv_count cv_allBids cv_allOffers cv_meetingPrice cv_sureBids cv_sureOffers cv_priceBids cv_priceOffers cv_volume cv_worth oc_prices oc_volumes oc_filled oc_worth oc_takenSet oc_isDone, hT) (f_mk_settleInto bk_whens bk_sides bk_quantities bk_limits mk_entries mk_slots mk_remainders mk_blocks mk_blockBids mk_blockOffers mk_entryCount mk_blockCount cv_limits cv_bids cv_offers cv_count cv_allBids cv_allOffers cv_meetingPrice cv_sureBids cv_sureOffers cv_priceBids cv_priceOffers cv_volume cv_worth (oc_prices 1) (oc_volumes 1) (oc_filled 1) (oc_worth 1) (oc_takenSet 1) (oc_isDone 1)) (fun r => (0, none, ex, (HX x_members x_collaterals x_hasSent x_isSealed x_metered x_sealedCount bk_counts bk_needs bk_whens bk_sides bk_quantities bk_limits ag_toldLies ag_passedLies ag_words ag_vectors ag_liarOperator ag_rounds mk_entries mk_slots r.1 mk_blocks r.2.1 r.2.2.1 mk_entryCount mk_blockCount cv_limits cv_bids cv_offers cv_count cv_allBids cv_allOffers r.2.2.2.1 r.2.2.2.2.1 r.2.2.2.2.2.1 r.2.2.2.2.2.2.1 r.2.2.2.2.2.2.2.1 r.2.2.2.2.2.2.2.2.1 r.2.2.2.2.2.2.2.2.2.1 (va_up oc_prices 1 r.2.2.2.2.2.2.2.2.2.2.1) (va_up oc_volumes 1 r.2.2.2.2.2.2.2.2.2.2.2.1) (va_up oc_filled 1 r.2.2.2.2.2.2.2.2.2.2.2.2.1) (va_up oc_worth 1 r.2.2.2.2.2.2.2.2.2.2.2.2.2.1) (va_up oc_takenSet 1 r.2.2.2.2.2.2.2.2.2.2.2.2.2.2.1) (va_up oc_isDone 1 r.2.2.2.2.2.2.2.2.2.2.2.2.2.2.2), hT), 0, 0)) := by
  have w_L76 : ∀ (n : Nat) (mk_remainders : Nat → Int32) (mk_blockBids : Nat → Int32) (mk_blockOffers : Nat → Int32) (cv_meetingPrice : Nat → Int32) (cv_sureBids : Nat → Int32) (cv_sureOffers : Nat → Int32) (cv_priceBids : Nat → Int32) (cv_priceOffers : Nat → Int32) (cv_volume : Nat → Int32) (cv_worth : Nat → Int64) (o_prices : Nat → Int32) (o_volumes : Nat → Int32) (o_filled : Nat → Int32) (o_worth : Int64) (o_takenSet : Int32) (o_isDone : Int32) (x3 : Int32), mz_A g M_mk_settleInto (mz_rm 6) (fun r => (0, none, ex, (HX x_members x_collaterals x_hasSent x_isSealed x_metered x_sealedCount bk_counts bk_needs bk_whens bk_sides bk_quantities bk_limits ag_toldLies ag_passedLies ag_words ag_vectors ag_liarOperator ag_rounds mk_entries mk_slots r.1 mk_blocks r.2.1 r.2.2.1 mk_entryCount mk_blockCount cv_limits cv_bids cv_offers cv_count cv_allBids cv_allOffers r.2.2.2.1 r.2.2.2.2.1 r.2.2.2.2.2.1 r.2.2.2.2.2.2.1 r.2.2.2.2.2.2.2.1 r.2.2.2.2.2.2.2.2.1 r.2.2.2.2.2.2.2.2.2.1 (va_up oc_prices 1 r.2.2.2.2.2.2.2.2.2.2.1) (va_up oc_volumes 1 r.2.2.2.2.2.2.2.2.2.2.2.1) (va_up oc_filled 1 r.2.2.2.2.2.2.2.2.2.2.2.2.1) (va_up oc_worth 1 r.2.2.2.2.2.2.2.2.2.2.2.2.2.1) (va_up oc_takenSet 1 r.2.2.2.2.2.2.2.2.2.2.2.2.2.2.1) (va_up oc_isDone 1 r.2.2.2.2.2.2.2.2.2.2.2.2.2.2.2), hT), 0, 0)) 76 [(0, .ref 17), (1, .ref 42), (3, .int x3)] [] ex (HX x_members x_collaterals x_hasSent x_isSealed x_metered x_sealedCount bk_counts bk_needs bk_whens bk_sides bk_quantities bk_limits ag_toldLies ag_passedLies ag_words ag_vectors ag_liarOperator ag_rounds mk_entries mk_slots mk_remainders mk_blocks mk_blockBids mk_blockOffers mk_entryCount mk_blockCount cv_limits cv_bids cv_offers cv_count cv_allBids cv_allOffers cv_meetingPrice cv_sureBids cv_sureOffers cv_priceBids cv_priceOffers cv_volume cv_worth (va_up oc_prices 1 o_prices) (va_up oc_volumes 1 o_volumes) (va_up oc_filled 1 o_filled) (va_up oc_worth 1 o_worth) (va_up oc_takenSet 1 o_takenSet) (va_up oc_isDone 1 o_isDone), hT) 0 0 (f_mk_settleInto_L76 bk_whens bk_sides bk_quantities bk_limits mk_entries mk_slots mk_blocks mk_entryCount mk_blockCount cv_limits cv_bids cv_offers cv_count cv_allBids cv_allOffers n mk_remainders mk_blockBids mk_blockOffers cv_meetingPrice cv_sureBids cv_sureOffers cv_priceBids cv_priceOffers cv_volume cv_worth o_prices o_volumes o_filled o_worth o_takenSet o_isDone x3) := by
    intro n
    induction n with
    | zero => intro mk_remainders mk_blockBids mk_blockOffers cv_meetingPrice cv_sureBids cv_sureOffers cv_priceBids cv_priceOffers cv_volume cv_worth o_prices o_volumes o_filled o_worth o_takenSet o_isDone x3; exact mr_none
    | succ n ih =>
      intro mk_remainders mk_blockBids mk_blockOffers cv_meetingPrice cv_sureBids cv_sureOffers cv_priceBids cv_priceOffers cv_volume cv_worth o_prices o_volumes o_filled o_worth o_takenSet o_isDone x3
      rw [f_mk_settleInto_L76]
      refine mr_iload_n d_mk_settleInto_76 rfl rfl ?_
      refine mr_iconst (v := 3) d_mk_settleInto_77 mc_iconst_3 ?_
      refine mr_icmp_ge (tgt := 101) d_mk_settleInto_78 (by decide) ?_ ?_
      · refine mr_aload_n d_mk_settleInto_101 rfl rfl ?_
        refine mr_iconst (v := 1) d_mk_settleInto_102 mc_iconst_1 ?_
        refine mr_putN (h2 := (HX x_members x_collaterals x_hasSent x_isSealed x_metered x_sealedCount bk_counts bk_needs bk_whens bk_sides bk_quantities bk_limits ag_toldLies ag_passedLies ag_words ag_vectors ag_liarOperator ag_rounds mk_entries mk_slots mk_remainders mk_blocks mk_blockBids mk_blockOffers mk_entryCount mk_blockCount cv_limits cv_bids cv_offers cv_count cv_allBids cv_allOffers cv_meetingPrice cv_sureBids cv_sureOffers cv_priceBids cv_priceOffers cv_volume cv_worth (va_up oc_prices 1 o_prices) (va_up oc_volumes 1 o_volumes) (va_up oc_filled 1 o_filled) (va_up oc_worth 1 o_worth) (va_up oc_takenSet 1 o_takenSet) (va_up oc_isDone 1 1), hT)) K_o 5 d_mk_settleInto_103 lk_f_mk_126 (by decide) rfl rfl rfl (Nat.le_of_ble_eq_true rfl) rfl rfl ?_
        exact mr_vret d_mk_settleInto_106 rfl rfl
      · refine mr_aload_n d_mk_settleInto_81 rfl rfl ?_
        refine mr_aload_n d_mk_settleInto_82 rfl rfl ?_
        refine mr_iload_n d_mk_settleInto_83 rfl rfl ?_
        refine mr_iconst (v := 0) d_mk_settleInto_84 mc_iconst_0 ?_
        refine mz_go (st := []) e_mk_share_1 (fun _ => rfl) U_mk_share (mz_vV d_mk_settleInto_85 U_mk_share rfl lk_m_mk_122 I_mk_share s_mk_share np_mk_share rfl rfl) (Nat.le_of_ble_eq_true rfl) (by decide) (fun r6 => ?_)
        refine mr_eq (st' := []) (ex' := ex) (h2 := (HX x_members x_collaterals x_hasSent x_isSealed x_metered x_sealedCount bk_counts bk_needs bk_whens bk_sides bk_quantities bk_limits ag_toldLies ag_passedLies ag_words ag_vectors ag_liarOperator ag_rounds mk_entries mk_slots r6.1 mk_blocks mk_blockBids mk_blockOffers mk_entryCount mk_blockCount cv_limits cv_bids cv_offers cv_count cv_allBids cv_allOffers cv_meetingPrice cv_sureBids cv_sureOffers cv_priceBids cv_priceOffers cv_volume cv_worth (va_up oc_prices 1 o_prices) (va_up oc_volumes 1 o_volumes) (va_up oc_filled 1 r6.2) (va_up oc_worth 1 o_worth) (va_up oc_takenSet 1 o_takenSet) (va_up oc_isDone 1 o_isDone), hT)) (k' := 0) (n' := 0) rfl rfl rfl rfl rfl ?_
        refine mr_aload_n d_mk_settleInto_88 rfl rfl ?_
        refine mr_aload_n d_mk_settleInto_89 rfl rfl ?_
        refine mr_iload_n d_mk_settleInto_90 rfl rfl ?_
        refine mr_iconst (v := 1) d_mk_settleInto_91 mc_iconst_1 ?_
        refine mz_go (st := []) e_mk_share_1 (fun _ => rfl) U_mk_share (mz_vV d_mk_settleInto_92 U_mk_share rfl lk_m_mk_122 I_mk_share s_mk_share np_mk_share rfl rfl) (Nat.le_of_ble_eq_true rfl) (by decide) (fun r7 => ?_)
        refine mr_eq (st' := []) (ex' := ex) (h2 := (HX x_members x_collaterals x_hasSent x_isSealed x_metered x_sealedCount bk_counts bk_needs bk_whens bk_sides bk_quantities bk_limits ag_toldLies ag_passedLies ag_words ag_vectors ag_liarOperator ag_rounds mk_entries mk_slots r7.1 mk_blocks mk_blockBids mk_blockOffers mk_entryCount mk_blockCount cv_limits cv_bids cv_offers cv_count cv_allBids cv_allOffers cv_meetingPrice cv_sureBids cv_sureOffers cv_priceBids cv_priceOffers cv_volume cv_worth (va_up oc_prices 1 o_prices) (va_up oc_volumes 1 o_volumes) (va_up oc_filled 1 r7.2) (va_up oc_worth 1 o_worth) (va_up oc_takenSet 1 o_takenSet) (va_up oc_isDone 1 o_isDone), hT)) (k' := 0) (n' := 0) rfl rfl rfl rfl rfl ?_
        refine mr_iinc (v := (x3 + 1)) (lv' := [(3, .int (x3 + 1)), (0, .ref 17), (1, .ref 42)]) d_mk_settleInto_95 rfl rfl (by decide) rfl ?_
        refine mr_goto (tgt := 76) d_mk_settleInto_98 (by decide) ?_
        refine mr_sub (lv' := [(0, .ref 17), (1, .ref 42), (3, .int (x3 + 1))]) [1, 2, 0] rfl ?_
        exact ih _ _ _ _ _ _ _ _ _ _ _ _ _ _ _ _ _
  have w_L27 : ∀ (n : Nat) (mk_remainders : Nat → Int32) (mk_blockBids : Nat → Int32) (mk_blockOffers : Nat → Int32) (cv_meetingPrice : Nat → Int32) (cv_sureBids : Nat → Int32) (cv_sureOffers : Nat → Int32) (cv_priceBids : Nat → Int32) (cv_priceOffers : Nat → Int32) (cv_volume : Nat → Int32) (cv_worth : Nat → Int64) (o_prices : Nat → Int32) (o_volumes : Nat → Int32) (o_filled : Nat → Int32) (o_worth : Int64) (o_takenSet : Int32) (o_isDone : Int32) (x2 : Int32) (x3 : Int32), mz_A g M_mk_settleInto (mz_rm 6) (fun r => (0, none, ex, (HX x_members x_collaterals x_hasSent x_isSealed x_metered x_sealedCount bk_counts bk_needs bk_whens bk_sides bk_quantities bk_limits ag_toldLies ag_passedLies ag_words ag_vectors ag_liarOperator ag_rounds mk_entries mk_slots r.1 mk_blocks r.2.1 r.2.2.1 mk_entryCount mk_blockCount cv_limits cv_bids cv_offers cv_count cv_allBids cv_allOffers r.2.2.2.1 r.2.2.2.2.1 r.2.2.2.2.2.1 r.2.2.2.2.2.2.1 r.2.2.2.2.2.2.2.1 r.2.2.2.2.2.2.2.2.1 r.2.2.2.2.2.2.2.2.2.1 (va_up oc_prices 1 r.2.2.2.2.2.2.2.2.2.2.1) (va_up oc_volumes 1 r.2.2.2.2.2.2.2.2.2.2.2.1) (va_up oc_filled 1 r.2.2.2.2.2.2.2.2.2.2.2.2.1) (va_up oc_worth 1 r.2.2.2.2.2.2.2.2.2.2.2.2.2.1) (va_up oc_takenSet 1 r.2.2.2.2.2.2.2.2.2.2.2.2.2.2.1) (va_up oc_isDone 1 r.2.2.2.2.2.2.2.2.2.2.2.2.2.2.2), hT), 0, 0)) 27 [(0, .ref 17), (1, .ref 42), (2, .int x2), (3, .int x3)] [] ex (HX x_members x_collaterals x_hasSent x_isSealed x_metered x_sealedCount bk_counts bk_needs bk_whens bk_sides bk_quantities bk_limits ag_toldLies ag_passedLies ag_words ag_vectors ag_liarOperator ag_rounds mk_entries mk_slots mk_remainders mk_blocks mk_blockBids mk_blockOffers mk_entryCount mk_blockCount cv_limits cv_bids cv_offers cv_count cv_allBids cv_allOffers cv_meetingPrice cv_sureBids cv_sureOffers cv_priceBids cv_priceOffers cv_volume cv_worth (va_up oc_prices 1 o_prices) (va_up oc_volumes 1 o_volumes) (va_up oc_filled 1 o_filled) (va_up oc_worth 1 o_worth) (va_up oc_takenSet 1 o_takenSet) (va_up oc_isDone 1 o_isDone), hT) 0 0 (f_mk_settleInto_L27 bk_whens bk_sides bk_quantities bk_limits mk_entries mk_slots mk_blocks mk_entryCount mk_blockCount cv_limits cv_bids cv_offers cv_count cv_allBids cv_allOffers n mk_remainders mk_blockBids mk_blockOffers cv_meetingPrice cv_sureBids cv_sureOffers cv_priceBids cv_priceOffers cv_volume cv_worth o_prices o_volumes o_filled o_worth o_takenSet o_isDone x2 x3) := by
    intro n
    induction n with
    | zero => intro mk_remainders mk_blockBids mk_blockOffers cv_meetingPrice cv_sureBids cv_sureOffers cv_priceBids cv_priceOffers cv_volume cv_worth o_prices o_volumes o_filled o_worth o_takenSet o_isDone x2 x3; exact mr_none
    | succ n ih =>
      intro mk_remainders mk_blockBids mk_blockOffers cv_meetingPrice cv_sureBids cv_sureOffers cv_priceBids cv_priceOffers cv_volume cv_worth o_prices o_volumes o_filled o_worth o_takenSet o_isDone x2 x3
      rw [f_mk_settleInto_L27]
      refine mr_iload_n d_mk_settleInto_27 rfl rfl ?_
      refine mr_iconst (v := 3) d_mk_settleInto_28 mc_iconst_3 ?_
      refine mr_icmp_ge (tgt := 68) d_mk_settleInto_29 (by decide) ?_ ?_
      · refine mr_aload_n d_mk_settleInto_68 rfl rfl ?_
        refine mr_aload_n d_mk_settleInto_69 rfl rfl ?_
        refine mr_iload_n d_mk_settleInto_70 rfl rfl ?_
        refine mz_go (st := []) e_mk_giveWhole_1 (fun _ => rfl) U_mk_giveWhole (mz_vV d_mk_settleInto_71 U_mk_giveWhole rfl lk_m_mk_118 I_mk_giveWhole s_mk_giveWhole np_mk_giveWhole rfl rfl) (Nat.le_of_ble_eq_true rfl) (by decide) (fun r4 => ?_)
        refine mr_eq (st' := []) (ex' := ex) (h2 := (HX x_members x_collaterals x_hasSent x_isSealed x_metered x_sealedCount bk_counts bk_needs bk_whens bk_sides bk_quantities bk_limits ag_toldLies ag_passedLies ag_words ag_vectors ag_liarOperator ag_rounds mk_entries mk_slots mk_remainders mk_blocks mk_blockBids mk_blockOffers mk_entryCount mk_blockCount cv_limits cv_bids cv_offers cv_count cv_allBids cv_allOffers cv_meetingPrice cv_sureBids cv_sureOffers cv_priceBids cv_priceOffers cv_volume cv_worth (va_up oc_prices 1 o_prices) (va_up oc_volumes 1 o_volumes) (va_up oc_filled 1 r4) (va_up oc_worth 1 o_worth) (va_up oc_takenSet 1 o_takenSet) (va_up oc_isDone 1 o_isDone), hT)) (k' := 0) (n' := 0) rfl rfl rfl rfl rfl ?_
        refine mr_iconst (v := 0) d_mk_settleInto_74 mc_iconst_0 ?_
        refine mr_istore_n (lv' := [(3, .int 0), (0, .ref 17), (1, .ref 42), (2, .int x2)]) d_mk_settleInto_75 rfl (by decide) rfl ?_
        refine mr_sub (lv' := [(0, .ref 17), (1, .ref 42), (3, .int 0)]) [1, 2, 0] rfl ?_
        exact w_L76 1000 _ _ _ _ _ _ _ _ _ _ _ _ _ _ _ _ _
      · refine mr_aload_n d_mk_settleInto_32 rfl rfl ?_
        refine mr_getN K_o 0 d_mk_settleInto_33 lk_f_mk_106 (by decide) rfl rfl ?_
        refine mr_iload_n d_mk_settleInto_36 rfl rfl ?_
        refine mr_aload_n d_mk_settleInto_37 rfl rfl ?_
        refine mr_get K_mk 1 d_mk_settleInto_38 lk_f_mk_17 (by decide) rfl rfl ?_
        refine mr_iload_n d_mk_settleInto_41 rfl rfl ?_
        refine mr_aald d_mk_settleInto_42 (fun _ => rfl) rfl (fun _ => rfl) (fun hc5 => ?_)
        refine mr_getN K_c 6 d_mk_settleInto_43 lk_f_mk_109 (by decide) (gt_c (mz_lt hc5)) rfl ?_
        refine mr_iastK (h2 := (HX x_members x_collaterals x_hasSent x_isSealed x_metered x_sealedCount bk_counts bk_needs bk_whens bk_sides bk_quantities bk_limits ag_toldLies ag_passedLies ag_words ag_vectors ag_liarOperator ag_rounds mk_entries mk_slots mk_remainders mk_blocks mk_blockBids mk_blockOffers mk_entryCount mk_blockCount cv_limits cv_bids cv_offers cv_count cv_allBids cv_allOffers cv_meetingPrice cv_sureBids cv_sureOffers cv_priceBids cv_priceOffers cv_volume cv_worth (va_up oc_prices 1 (upd o_prices x3.toNatClampNeg (cv_meetingPrice x3.toNatClampNeg))) (va_up oc_volumes 1 o_volumes) (va_up oc_filled 1 o_filled) (va_up oc_worth 1 o_worth) (va_up oc_takenSet 1 o_takenSet) (va_up oc_isDone 1 o_isDone), hT)) d_mk_settleInto_46 rfl rfl hc5 ?_
        refine mr_aload_n d_mk_settleInto_47 rfl rfl ?_
        refine mr_getN K_o 1 d_mk_settleInto_48 lk_f_mk_112 (by decide) rfl rfl ?_
        refine mr_iload_n d_mk_settleInto_51 rfl rfl ?_
        refine mr_aload_n d_mk_settleInto_52 rfl rfl ?_
        refine mr_get K_mk 1 d_mk_settleInto_53 lk_f_mk_17 (by decide) rfl rfl ?_
        refine mr_iload_n d_mk_settleInto_56 rfl rfl ?_
        refine mr_aaldK d_mk_settleInto_57 (fun _ => rfl) rfl hc5 rfl ?_
        refine mr_getN K_c 11 d_mk_settleInto_58 lk_f_mk_115 (by decide) (gt_c (mz_lt hc5)) rfl ?_
        refine mr_iastK (h2 := (HX x_members x_collaterals x_hasSent x_isSealed x_metered x_sealedCount bk_counts bk_needs bk_whens bk_sides bk_quantities bk_limits ag_toldLies ag_passedLies ag_words ag_vectors ag_liarOperator ag_rounds mk_entries mk_slots mk_remainders mk_blocks mk_blockBids mk_blockOffers mk_entryCount mk_blockCount cv_limits cv_bids cv_offers cv_count cv_allBids cv_allOffers cv_meetingPrice cv_sureBids cv_sureOffers cv_priceBids cv_priceOffers cv_volume cv_worth (va_up oc_prices 1 (upd o_prices x3.toNatClampNeg (cv_meetingPrice x3.toNatClampNeg))) (va_up oc_volumes 1 (upd o_volumes x3.toNatClampNeg (cv_volume x3.toNatClampNeg))) (va_up oc_filled 1 o_filled) (va_up oc_worth 1 o_worth) (va_up oc_takenSet 1 o_takenSet) (va_up oc_isDone 1 o_isDone), hT)) d_mk_settleInto_61 rfl rfl hc5 ?_
        refine mr_iinc (v := (x3 + 1)) (lv' := [(3, .int (x3 + 1)), (0, .ref 17), (1, .ref 42), (2, .int x2)]) d_mk_settleInto_62 rfl rfl (by decide) rfl ?_
        refine mr_goto (tgt := 27) d_mk_settleInto_65 (by decide) ?_
        refine mr_sub (lv' := [(0, .ref 17), (1, .ref 42), (2, .int x2), (3, .int (x3 + 1))]) [1, 2, 3, 0] rfl ?_
        exact ih _ _ _ _ _ _ _ _ _ _ _ _ _ _ _ _ _ _
  refine mz_of (by decide) (Nat.le_of_ble_eq_true rfl) ?_
  rw [f_mk_settleInto]
  show mz_A g M_mk_settleInto (mz_rm 6) _ 0 [(0, .ref 17), (1, .ref 42)] [] ex (HX x_members x_collaterals x_hasSent x_isSealed x_metered x_sealedCount bk_counts bk_needs bk_whens bk_sides bk_quantities bk_limits ag_toldLies ag_passedLies ag_words ag_vectors ag_liarOperator ag_rounds mk_entries mk_slots mk_remainders mk_blocks mk_blockBids mk_blockOffers mk_entryCount mk_blockCount cv_limits cv_bids cv_offers cv_count cv_allBids cv_allOffers cv_meetingPrice cv_sureBids cv_sureOffers cv_priceBids cv_priceOffers cv_volume cv_worth oc_prices oc_volumes oc_filled oc_worth oc_takenSet oc_isDone, hT) 0 0 _
  refine mr_aload_n d_mk_settleInto_0 rfl rfl ?_
  refine mz_go (st := []) e_mk_bestSet (fun _ => rfl) U_mk_bestSet (mz_vV d_mk_settleInto_1 U_mk_bestSet rfl lk_m_mk_86 I_mk_bestSet s_mk_bestSet np_mk_bestSet rfl rfl) (Nat.le_of_ble_eq_true rfl) (by decide) (fun r1 => ?_)
  refine mr_eq (st' := [.int r1.1]) (ex' := ex) (h2 := (HX x_members x_collaterals x_hasSent x_isSealed x_metered x_sealedCount bk_counts bk_needs bk_whens bk_sides bk_quantities bk_limits ag_toldLies ag_passedLies ag_words ag_vectors ag_liarOperator ag_rounds mk_entries mk_slots mk_remainders mk_blocks r1.2.1 r1.2.2.1 mk_entryCount mk_blockCount cv_limits cv_bids cv_offers cv_count cv_allBids cv_allOffers r1.2.2.2.1 r1.2.2.2.2.1 r1.2.2.2.2.2.1 r1.2.2.2.2.2.2.1 r1.2.2.2.2.2.2.2.1 r1.2.2.2.2.2.2.2.2.1 r1.2.2.2.2.2.2.2.2.2 oc_prices oc_volumes oc_filled oc_worth oc_takenSet oc_isDone, hT)) (k' := 0) (n' := 0) rfl rfl rfl rfl rfl ?_
  refine mr_istore_n (lv' := [(2, .int r1.1), (0, .ref 17), (1, .ref 42)]) d_mk_settleInto_4 rfl (by decide) rfl ?_
  refine mr_aload_n d_mk_settleInto_5 rfl rfl ?_
  refine mr_iload_n d_mk_settleInto_6 rfl rfl ?_
  refine mz_go (st := []) e_mk_findPrices (fun _ => rfl) U_mk_findPrices (mz_vV d_mk_settleInto_7 U_mk_findPrices rfl lk_m_mk_90 I_mk_findPrices s_mk_findPrices np_mk_findPrices rfl rfl) (Nat.le_of_ble_eq_true rfl) (by decide) (fun r2 => ?_)
  refine mr_eq (st' := [.int r2.1]) (ex' := ex) (h2 := (HX x_members x_collaterals x_hasSent x_isSealed x_metered x_sealedCount bk_counts bk_needs bk_whens bk_sides bk_quantities bk_limits ag_toldLies ag_passedLies ag_words ag_vectors ag_liarOperator ag_rounds mk_entries mk_slots mk_remainders mk_blocks r2.2.1 r2.2.2.1 mk_entryCount mk_blockCount cv_limits cv_bids cv_offers cv_count cv_allBids cv_allOffers r2.2.2.2 r1.2.2.2.2.1 r1.2.2.2.2.2.1 r1.2.2.2.2.2.2.1 r1.2.2.2.2.2.2.2.1 r1.2.2.2.2.2.2.2.2.1 r1.2.2.2.2.2.2.2.2.2 oc_prices oc_volumes oc_filled oc_worth oc_takenSet oc_isDone, hT)) (k' := 0) (n' := 0) rfl rfl rfl rfl rfl ?_
  refine mr_pop d_mk_settleInto_10 rfl ?_
  refine mr_aload_n d_mk_settleInto_11 rfl rfl ?_
  refine mr_aload_n d_mk_settleInto_12 rfl rfl ?_
  refine mr_iload_n d_mk_settleInto_13 rfl rfl ?_
  refine mz_go (st := [.ref 42]) e_mk_worthOfSet (fun _ => rfl) U_mk_worthOfSet (mz_vV d_mk_settleInto_14 U_mk_worthOfSet rfl lk_m_mk_93 I_mk_worthOfSet s_mk_worthOfSet np_mk_worthOfSet rfl rfl) (Nat.le_of_ble_eq_true rfl) (by decide) (fun r3 => ?_)
  refine mr_eq (st' := [.long r3.1, .ref 42]) (ex' := ex) (h2 := (HX x_members x_collaterals x_hasSent x_isSealed x_metered x_sealedCount bk_counts bk_needs bk_whens bk_sides bk_quantities bk_limits ag_toldLies ag_passedLies ag_words ag_vectors ag_liarOperator ag_rounds mk_entries mk_slots mk_remainders mk_blocks r2.2.1 r2.2.2.1 mk_entryCount mk_blockCount cv_limits cv_bids cv_offers cv_count cv_allBids cv_allOffers r2.2.2.2 r3.2.1 r3.2.2.1 r3.2.2.2.1 r3.2.2.2.2.1 r3.2.2.2.2.2.1 r3.2.2.2.2.2.2 oc_prices oc_volumes oc_filled oc_worth oc_takenSet oc_isDone, hT)) (k' := 0) (n' := 0) rfl rfl rfl rfl rfl ?_
  refine mr_putN (h2 := (HX x_members x_collaterals x_hasSent x_isSealed x_metered x_sealedCount bk_counts bk_needs bk_whens bk_sides bk_quantities bk_limits ag_toldLies ag_passedLies ag_words ag_vectors ag_liarOperator ag_rounds mk_entries mk_slots mk_remainders mk_blocks r2.2.1 r2.2.2.1 mk_entryCount mk_blockCount cv_limits cv_bids cv_offers cv_count cv_allBids cv_allOffers r2.2.2.2 r3.2.1 r3.2.2.1 r3.2.2.2.1 r3.2.2.2.2.1 r3.2.2.2.2.2.1 r3.2.2.2.2.2.2 oc_prices oc_volumes oc_filled (va_up oc_worth 1 r3.1) oc_takenSet oc_isDone, hT)) K_o 3 d_mk_settleInto_17 lk_f_mk_97 (by decide) rfl rfl rfl (Nat.le_of_ble_eq_true rfl) rfl rfl ?_
  refine mr_aload_n d_mk_settleInto_20 rfl rfl ?_
  refine mr_iload_n d_mk_settleInto_21 rfl rfl ?_
  refine mr_putN (h2 := (HX x_members x_collaterals x_hasSent x_isSealed x_metered x_sealedCount bk_counts bk_needs bk_whens bk_sides bk_quantities bk_limits ag_toldLies ag_passedLies ag_words ag_vectors ag_liarOperator ag_rounds mk_entries mk_slots mk_remainders mk_blocks r2.2.1 r2.2.2.1 mk_entryCount mk_blockCount cv_limits cv_bids cv_offers cv_count cv_allBids cv_allOffers r2.2.2.2 r3.2.1 r3.2.2.1 r3.2.2.2.1 r3.2.2.2.2.1 r3.2.2.2.2.2.1 r3.2.2.2.2.2.2 oc_prices oc_volumes oc_filled (va_up oc_worth 1 r3.1) (va_up oc_takenSet 1 r1.1) oc_isDone, hT)) K_o 4 d_mk_settleInto_22 lk_f_mk_103 (by decide) rfl rfl rfl (Nat.le_of_ble_eq_true rfl) rfl rfl ?_
  refine mr_iconst (v := 0) d_mk_settleInto_25 mc_iconst_0 ?_
  refine mr_istore_n (lv' := [(3, .int 0), (2, .int r1.1), (0, .ref 17), (1, .ref 42)]) d_mk_settleInto_26 rfl (by decide) rfl ?_
  refine mr_sub (lv' := [(0, .ref 17), (1, .ref 42), (2, .int r1.1), (3, .int 0)]) [2, 3, 1, 0] rfl ?_
  exact w_L27 1000 _ _ _ _ _ _ _ _ _ _ _ _ _ _ _ _ _ _
set_option maxRecDepth 100000 in
set_option maxHeartbeats 4000000 in
theorem e_mk_settleInto_2 {g : mz_G} {ex : Bool} {hT : List mz_E} {x_members : Int32} {x_collaterals : Nat → Int32} {x_hasSent : Nat → Int32} {x_isSealed : Nat → Int32} {x_metered : Nat → Int32} {x_sealedCount : Int32} {bk_counts : Nat → Int32} {bk_needs : Nat → Int64} {bk_whens : Nat → Int32} {bk_sides : Nat → Int32} {bk_quantities : Nat → Int32} {bk_limits : Nat → Int32} {ag_toldLies : Nat → Int32} {ag_passedLies : Nat → Int32} {ag_words : Nat → Int32} {ag_vectors : Nat → Int32} {ag_liarOperator : Int32} {ag_rounds : Int32} {mk_entries : Nat → Int32} {mk_slots : Nat → Int32} {mk_remainders : Nat → Int32} {mk_blocks : Nat → Int32} {mk_blockBids : Nat → Int32} {mk_blockOffers : Nat → Int32} {mk_entryCount : Int32} {mk_blockCount : Int32} {cv_limits : Nat → Nat → Int32} {cv_bids : Nat → Nat → Int32} {cv_offers : Nat → Nat → Int32} {cv_count : Nat → Int32} {cv_allBids : Nat → Int32} {cv_allOffers : Nat → Int32} {cv_meetingPrice : Nat → Int32} {cv_sureBids : Nat → Int32} {cv_sureOffers : Nat → Int32} {cv_priceBids : Nat → Int32} {cv_priceOffers : Nat → Int32} {cv_volume : Nat → Int32} {cv_worth : Nat → Int64} {oc_prices : Nat → Nat → Int32} {oc_volumes : Nat → Nat → Int32} {oc_filled : Nat → Nat → Int32} {oc_worth : Nat → Int64} {oc_takenSet : Nat → Int32} {oc_isDone : Nat → Int32} : mz_M g M_mk_settleInto 6 [.ref 17, .ref 46] ex (HX x_members x_collaterals x_hasSent x_isSealed x_metered x_sealedCount bk_counts bk_needs bk_whens bk_sides bk_quantities bk_limits ag_toldLies ag_passedLies ag_words ag_vectors ag_liarOperator ag_rounds mk_entries mk_slots mk_remainders mk_blocks mk_blockBids mk_blockOffers mk_entryCount mk_blockCount cv_limits cv_bids cv_offers cv_count cv_allBids cv_allOffers cv_meetingPrice cv_sureBids cv_sureOffers cv_priceBids cv_priceOffers cv_volume cv_worth oc_prices oc_volumes oc_filled oc_worth oc_takenSet oc_isDone, hT) (f_mk_settleInto bk_whens bk_sides bk_quantities bk_limits mk_entries mk_slots mk_remainders mk_blocks mk_blockBids mk_blockOffers mk_entryCount mk_blockCount cv_limits cv_bids cv_offers cv_count cv_allBids cv_allOffers cv_meetingPrice cv_sureBids cv_sureOffers cv_priceBids cv_priceOffers cv_volume cv_worth (oc_prices 2) (oc_volumes 2) (oc_filled 2) (oc_worth 2) (oc_takenSet 2) (oc_isDone 2)) (fun r => (0, none, ex, (HX x_members x_collaterals x_hasSent x_isSealed x_metered x_sealedCount bk_counts bk_needs bk_whens bk_sides bk_quantities bk_limits ag_toldLies ag_passedLies ag_words ag_vectors ag_liarOperator ag_rounds mk_entries mk_slots r.1 mk_blocks r.2.1 r.2.2.1 mk_entryCount mk_blockCount cv_limits cv_bids cv_offers cv_count cv_allBids cv_allOffers r.2.2.2.1 r.2.2.2.2.1 r.2.2.2.2.2.1 r.2.2.2.2.2.2.1 r.2.2.2.2.2.2.2.1 r.2.2.2.2.2.2.2.2.1 r.2.2.2.2.2.2.2.2.2.1 (va_up oc_prices 2 r.2.2.2.2.2.2.2.2.2.2.1) (va_up oc_volumes 2 r.2.2.2.2.2.2.2.2.2.2.2.1) (va_up oc_filled 2 r.2.2.2.2.2.2.2.2.2.2.2.2.1) (va_up oc_worth 2 r.2.2.2.2.2.2.2.2.2.2.2.2.2.1) (va_up oc_takenSet 2 r.2.2.2.2.2.2.2.2.2.2.2.2.2.2.1) (va_up oc_isDone 2 r.2.2.2.2.2.2.2.2.2.2.2.2.2.2.2), hT), 0, 0)) := by
  have w_L76 : ∀ (n : Nat) (mk_remainders : Nat → Int32) (mk_blockBids : Nat → Int32) (mk_blockOffers : Nat → Int32) (cv_meetingPrice : Nat → Int32) (cv_sureBids : Nat → Int32) (cv_sureOffers : Nat → Int32) (cv_priceBids : Nat → Int32) (cv_priceOffers : Nat → Int32) (cv_volume : Nat → Int32) (cv_worth : Nat → Int64) (o_prices : Nat → Int32) (o_volumes : Nat → Int32) (o_filled : Nat → Int32) (o_worth : Int64) (o_takenSet : Int32) (o_isDone : Int32) (x3 : Int32), mz_A g M_mk_settleInto (mz_rm 6) (fun r => (0, none, ex, (HX x_members x_collaterals x_hasSent x_isSealed x_metered x_sealedCount bk_counts bk_needs bk_whens bk_sides bk_quantities bk_limits ag_toldLies ag_passedLies ag_words ag_vectors ag_liarOperator ag_rounds mk_entries mk_slots r.1 mk_blocks r.2.1 r.2.2.1 mk_entryCount mk_blockCount cv_limits cv_bids cv_offers cv_count cv_allBids cv_allOffers r.2.2.2.1 r.2.2.2.2.1 r.2.2.2.2.2.1 r.2.2.2.2.2.2.1 r.2.2.2.2.2.2.2.1 r.2.2.2.2.2.2.2.2.1 r.2.2.2.2.2.2.2.2.2.1 (va_up oc_prices 2 r.2.2.2.2.2.2.2.2.2.2.1) (va_up oc_volumes 2 r.2.2.2.2.2.2.2.2.2.2.2.1) (va_up oc_filled 2 r.2.2.2.2.2.2.2.2.2.2.2.2.1) (va_up oc_worth 2 r.2.2.2.2.2.2.2.2.2.2.2.2.2.1) (va_up oc_takenSet 2 r.2.2.2.2.2.2.2.2.2.2.2.2.2.2.1) (va_up oc_isDone 2 r.2.2.2.2.2.2.2.2.2.2.2.2.2.2.2), hT), 0, 0)) 76 [(0, .ref 17), (1, .ref 46), (3, .int x3)] [] ex (HX x_members x_collaterals x_hasSent x_isSealed x_metered x_sealedCount bk_counts bk_needs bk_whens bk_sides bk_quantities bk_limits ag_toldLies ag_passedLies ag_words ag_vectors ag_liarOperator ag_rounds mk_entries mk_slots mk_remainders mk_blocks mk_blockBids mk_blockOffers mk_entryCount mk_blockCount cv_limits cv_bids cv_offers cv_count cv_allBids cv_allOffers cv_meetingPrice cv_sureBids cv_sureOffers cv_priceBids cv_priceOffers cv_volume cv_worth (va_up oc_prices 2 o_prices) (va_up oc_volumes 2 o_volumes) (va_up oc_filled 2 o_filled) (va_up oc_worth 2 o_worth) (va_up oc_takenSet 2 o_takenSet) (va_up oc_isDone 2 o_isDone), hT) 0 0 (f_mk_settleInto_L76 bk_whens bk_sides bk_quantities bk_limits mk_entries mk_slots mk_blocks mk_entryCount mk_blockCount cv_limits cv_bids cv_offers cv_count cv_allBids cv_allOffers n mk_remainders mk_blockBids mk_blockOffers cv_meetingPrice cv_sureBids cv_sureOffers cv_priceBids cv_priceOffers cv_volume cv_worth o_prices o_volumes o_filled o_worth o_takenSet o_isDone x3) := by
    intro n
    induction n with
    | zero => intro mk_remainders mk_blockBids mk_blockOffers cv_meetingPrice cv_sureBids cv_sureOffers cv_priceBids cv_priceOffers cv_volume cv_worth o_prices o_volumes o_filled o_worth o_takenSet o_isDone x3; exact mr_none
    | succ n ih =>
      intro mk_remainders mk_blockBids mk_blockOffers cv_meetingPrice cv_sureBids cv_sureOffers cv_priceBids cv_priceOffers cv_volume cv_worth o_prices o_volumes o_filled o_worth o_takenSet o_isDone x3
      rw [f_mk_settleInto_L76]
      refine mr_iload_n d_mk_settleInto_76 rfl rfl ?_
      refine mr_iconst (v := 3) d_mk_settleInto_77 mc_iconst_3 ?_
      refine mr_icmp_ge (tgt := 101) d_mk_settleInto_78 (by decide) ?_ ?_
      · refine mr_aload_n d_mk_settleInto_101 rfl rfl ?_
        refine mr_iconst (v := 1) d_mk_settleInto_102 mc_iconst_1 ?_
        refine mr_putN (h2 := (HX x_members x_collaterals x_hasSent x_isSealed x_metered x_sealedCount bk_counts bk_needs bk_whens bk_sides bk_quantities bk_limits ag_toldLies ag_passedLies ag_words ag_vectors ag_liarOperator ag_rounds mk_entries mk_slots mk_remainders mk_blocks mk_blockBids mk_blockOffers mk_entryCount mk_blockCount cv_limits cv_bids cv_offers cv_count cv_allBids cv_allOffers cv_meetingPrice cv_sureBids cv_sureOffers cv_priceBids cv_priceOffers cv_volume cv_worth (va_up oc_prices 2 o_prices) (va_up oc_volumes 2 o_volumes) (va_up oc_filled 2 o_filled) (va_up oc_worth 2 o_worth) (va_up oc_takenSet 2 o_takenSet) (va_up oc_isDone 2 1), hT)) K_o 5 d_mk_settleInto_103 lk_f_mk_126 (by decide) rfl rfl rfl (Nat.le_of_ble_eq_true rfl) rfl rfl ?_
        exact mr_vret d_mk_settleInto_106 rfl rfl
      · refine mr_aload_n d_mk_settleInto_81 rfl rfl ?_
        refine mr_aload_n d_mk_settleInto_82 rfl rfl ?_
        refine mr_iload_n d_mk_settleInto_83 rfl rfl ?_
        refine mr_iconst (v := 0) d_mk_settleInto_84 mc_iconst_0 ?_
        refine mz_go (st := []) e_mk_share_2 (fun _ => rfl) U_mk_share (mz_vV d_mk_settleInto_85 U_mk_share rfl lk_m_mk_122 I_mk_share s_mk_share np_mk_share rfl rfl) (Nat.le_of_ble_eq_true rfl) (by decide) (fun r6 => ?_)
        refine mr_eq (st' := []) (ex' := ex) (h2 := (HX x_members x_collaterals x_hasSent x_isSealed x_metered x_sealedCount bk_counts bk_needs bk_whens bk_sides bk_quantities bk_limits ag_toldLies ag_passedLies ag_words ag_vectors ag_liarOperator ag_rounds mk_entries mk_slots r6.1 mk_blocks mk_blockBids mk_blockOffers mk_entryCount mk_blockCount cv_limits cv_bids cv_offers cv_count cv_allBids cv_allOffers cv_meetingPrice cv_sureBids cv_sureOffers cv_priceBids cv_priceOffers cv_volume cv_worth (va_up oc_prices 2 o_prices) (va_up oc_volumes 2 o_volumes) (va_up oc_filled 2 r6.2) (va_up oc_worth 2 o_worth) (va_up oc_takenSet 2 o_takenSet) (va_up oc_isDone 2 o_isDone), hT)) (k' := 0) (n' := 0) rfl rfl rfl rfl rfl ?_
        refine mr_aload_n d_mk_settleInto_88 rfl rfl ?_
        refine mr_aload_n d_mk_settleInto_89 rfl rfl ?_
        refine mr_iload_n d_mk_settleInto_90 rfl rfl ?_
        refine mr_iconst (v := 1) d_mk_settleInto_91 mc_iconst_1 ?_
        refine mz_go (st := []) e_mk_share_2 (fun _ => rfl) U_mk_share (mz_vV d_mk_settleInto_92 U_mk_share rfl lk_m_mk_122 I_mk_share s_mk_share np_mk_share rfl rfl) (Nat.le_of_ble_eq_true rfl) (by decide) (fun r7 => ?_)
        refine mr_eq (st' := []) (ex' := ex) (h2 := (HX x_members x_collaterals x_hasSent x_isSealed x_metered x_sealedCount bk_counts bk_needs bk_whens bk_sides bk_quantities bk_limits ag_toldLies ag_passedLies ag_words ag_vectors ag_liarOperator ag_rounds mk_entries mk_slots r7.1 mk_blocks mk_blockBids mk_blockOffers mk_entryCount mk_blockCount cv_limits cv_bids cv_offers cv_count cv_allBids cv_allOffers cv_meetingPrice cv_sureBids cv_sureOffers cv_priceBids cv_priceOffers cv_volume cv_worth (va_up oc_prices 2 o_prices) (va_up oc_volumes 2 o_volumes) (va_up oc_filled 2 r7.2) (va_up oc_worth 2 o_worth) (va_up oc_takenSet 2 o_takenSet) (va_up oc_isDone 2 o_isDone), hT)) (k' := 0) (n' := 0) rfl rfl rfl rfl rfl ?_
        refine mr_iinc (v := (x3 + 1)) (lv' := [(3, .int (x3 + 1)), (0, .ref 17), (1, .ref 46)]) d_mk_settleInto_95 rfl rfl (by decide) rfl ?_
        refine mr_goto (tgt := 76) d_mk_settleInto_98 (by decide) ?_
        refine mr_sub (lv' := [(0, .ref 17), (1, .ref 46), (3, .int (x3 + 1))]) [1, 2, 0] rfl ?_
        exact ih _ _ _ _ _ _ _ _ _ _ _ _ _ _ _ _ _
  have w_L27 : ∀ (n : Nat) (mk_remainders : Nat → Int32) (mk_blockBids : Nat → Int32) (mk_blockOffers : Nat → Int32) (cv_meetingPrice : Nat → Int32) (cv_sureBids : Nat → Int32) (cv_sureOffers : Nat → Int32) (cv_priceBids : Nat → Int32) (cv_priceOffers : Nat → Int32) (cv_volume : Nat → Int32) (cv_worth : Nat → Int64) (o_prices : Nat → Int32) (o_volumes : Nat → Int32) (o_filled : Nat → Int32) (o_worth : Int64) (o_takenSet : Int32) (o_isDone : Int32) (x2 : Int32) (x3 : Int32), mz_A g M_mk_settleInto (mz_rm 6) (fun r => (0, none, ex, (HX x_members x_collaterals x_hasSent x_isSealed x_metered x_sealedCount bk_counts bk_needs bk_whens bk_sides bk_quantities bk_limits ag_toldLies ag_passedLies ag_words ag_vectors ag_liarOperator ag_rounds mk_entries mk_slots r.1 mk_blocks r.2.1 r.2.2.1 mk_entryCount mk_blockCount cv_limits cv_bids cv_offers cv_count cv_allBids cv_allOffers r.2.2.2.1 r.2.2.2.2.1 r.2.2.2.2.2.1 r.2.2.2.2.2.2.1 r.2.2.2.2.2.2.2.1 r.2.2.2.2.2.2.2.2.1 r.2.2.2.2.2.2.2.2.2.1 (va_up oc_prices 2 r.2.2.2.2.2.2.2.2.2.2.1) (va_up oc_volumes 2 r.2.2.2.2.2.2.2.2.2.2.2.1) (va_up oc_filled 2 r.2.2.2.2.2.2.2.2.2.2.2.2.1) (va_up oc_worth 2 r.2.2.2.2.2.2.2.2.2.2.2.2.2.1) (va_up oc_takenSet 2 r.2.2.2.2.2.2.2.2.2.2.2.2.2.2.1) (va_up oc_isDone 2 r.2.2.2.2.2.2.2.2.2.2.2.2.2.2.2), hT), 0, 0)) 27 [(0, .ref 17), (1, .ref 46), (2, .int x2), (3, .int x3)] [] ex (HX x_members x_collaterals x_hasSent x_isSealed x_metered x_sealedCount bk_counts bk_needs bk_whens bk_sides bk_quantities bk_limits ag_toldLies ag_passedLies ag_words ag_vectors ag_liarOperator ag_rounds mk_entries mk_slots mk_remainders mk_blocks mk_blockBids mk_blockOffers mk_entryCount mk_blockCount cv_limits cv_bids cv_offers cv_count cv_allBids cv_allOffers cv_meetingPrice cv_sureBids cv_sureOffers cv_priceBids cv_priceOffers cv_volume cv_worth (va_up oc_prices 2 o_prices) (va_up oc_volumes 2 o_volumes) (va_up oc_filled 2 o_filled) (va_up oc_worth 2 o_worth) (va_up oc_takenSet 2 o_takenSet) (va_up oc_isDone 2 o_isDone), hT) 0 0 (f_mk_settleInto_L27 bk_whens bk_sides bk_quantities bk_limits mk_entries mk_slots mk_blocks mk_entryCount mk_blockCount cv_limits cv_bids cv_offers cv_count cv_allBids cv_allOffers n mk_remainders mk_blockBids mk_blockOffers cv_meetingPrice cv_sureBids cv_sureOffers cv_priceBids cv_priceOffers cv_volume cv_worth o_prices o_volumes o_filled o_worth o_takenSet o_isDone x2 x3) := by
    intro n
    induction n with
    | zero => intro mk_remainders mk_blockBids mk_blockOffers cv_meetingPrice cv_sureBids cv_sureOffers cv_priceBids cv_priceOffers cv_volume cv_worth o_prices o_volumes o_filled o_worth o_takenSet o_isDone x2 x3; exact mr_none
    | succ n ih =>
      intro mk_remainders mk_blockBids mk_blockOffers cv_meetingPrice cv_sureBids cv_sureOffers cv_priceBids cv_priceOffers cv_volume cv_worth o_prices o_volumes o_filled o_worth o_takenSet o_isDone x2 x3
      rw [f_mk_settleInto_L27]
      refine mr_iload_n d_mk_settleInto_27 rfl rfl ?_
      refine mr_iconst (v := 3) d_mk_settleInto_28 mc_iconst_3 ?_
      refine mr_icmp_ge (tgt := 68) d_mk_settleInto_29 (by decide) ?_ ?_
      · refine mr_aload_n d_mk_settleInto_68 rfl rfl ?_
        refine mr_aload_n d_mk_settleInto_69 rfl rfl ?_
        refine mr_iload_n d_mk_settleInto_70 rfl rfl ?_
        refine mz_go (st := []) e_mk_giveWhole_2 (fun _ => rfl) U_mk_giveWhole (mz_vV d_mk_settleInto_71 U_mk_giveWhole rfl lk_m_mk_118 I_mk_giveWhole s_mk_giveWhole np_mk_giveWhole rfl rfl) (Nat.le_of_ble_eq_true rfl) (by decide) (fun r4 => ?_)
        refine mr_eq (st' := []) (ex' := ex) (h2 := (HX x_members x_collaterals x_hasSent x_isSealed x_metered x_sealedCount bk_counts bk_needs bk_whens bk_sides bk_quantities bk_limits ag_toldLies ag_passedLies ag_words ag_vectors ag_liarOperator ag_rounds mk_entries mk_slots mk_remainders mk_blocks mk_blockBids mk_blockOffers mk_entryCount mk_blockCount cv_limits cv_bids cv_offers cv_count cv_allBids cv_allOffers cv_meetingPrice cv_sureBids cv_sureOffers cv_priceBids cv_priceOffers cv_volume cv_worth (va_up oc_prices 2 o_prices) (va_up oc_volumes 2 o_volumes) (va_up oc_filled 2 r4) (va_up oc_worth 2 o_worth) (va_up oc_takenSet 2 o_takenSet) (va_up oc_isDone 2 o_isDone), hT)) (k' := 0) (n' := 0) rfl rfl rfl rfl rfl ?_
        refine mr_iconst (v := 0) d_mk_settleInto_74 mc_iconst_0 ?_
        refine mr_istore_n (lv' := [(3, .int 0), (0, .ref 17), (1, .ref 46), (2, .int x2)]) d_mk_settleInto_75 rfl (by decide) rfl ?_
        refine mr_sub (lv' := [(0, .ref 17), (1, .ref 46), (3, .int 0)]) [1, 2, 0] rfl ?_
        exact w_L76 1000 _ _ _ _ _ _ _ _ _ _ _ _ _ _ _ _ _
      · refine mr_aload_n d_mk_settleInto_32 rfl rfl ?_
        refine mr_getN K_o 0 d_mk_settleInto_33 lk_f_mk_106 (by decide) rfl rfl ?_
        refine mr_iload_n d_mk_settleInto_36 rfl rfl ?_
        refine mr_aload_n d_mk_settleInto_37 rfl rfl ?_
        refine mr_get K_mk 1 d_mk_settleInto_38 lk_f_mk_17 (by decide) rfl rfl ?_
        refine mr_iload_n d_mk_settleInto_41 rfl rfl ?_
        refine mr_aald d_mk_settleInto_42 (fun _ => rfl) rfl (fun _ => rfl) (fun hc5 => ?_)
        refine mr_getN K_c 6 d_mk_settleInto_43 lk_f_mk_109 (by decide) (gt_c (mz_lt hc5)) rfl ?_
        refine mr_iastK (h2 := (HX x_members x_collaterals x_hasSent x_isSealed x_metered x_sealedCount bk_counts bk_needs bk_whens bk_sides bk_quantities bk_limits ag_toldLies ag_passedLies ag_words ag_vectors ag_liarOperator ag_rounds mk_entries mk_slots mk_remainders mk_blocks mk_blockBids mk_blockOffers mk_entryCount mk_blockCount cv_limits cv_bids cv_offers cv_count cv_allBids cv_allOffers cv_meetingPrice cv_sureBids cv_sureOffers cv_priceBids cv_priceOffers cv_volume cv_worth (va_up oc_prices 2 (upd o_prices x3.toNatClampNeg (cv_meetingPrice x3.toNatClampNeg))) (va_up oc_volumes 2 o_volumes) (va_up oc_filled 2 o_filled) (va_up oc_worth 2 o_worth) (va_up oc_takenSet 2 o_takenSet) (va_up oc_isDone 2 o_isDone), hT)) d_mk_settleInto_46 rfl rfl hc5 ?_
        refine mr_aload_n d_mk_settleInto_47 rfl rfl ?_
        refine mr_getN K_o 1 d_mk_settleInto_48 lk_f_mk_112 (by decide) rfl rfl ?_
        refine mr_iload_n d_mk_settleInto_51 rfl rfl ?_
        refine mr_aload_n d_mk_settleInto_52 rfl rfl ?_
        refine mr_get K_mk 1 d_mk_settleInto_53 lk_f_mk_17 (by decide) rfl rfl ?_
        refine mr_iload_n d_mk_settleInto_56 rfl rfl ?_
        refine mr_aaldK d_mk_settleInto_57 (fun _ => rfl) rfl hc5 rfl ?_
        refine mr_getN K_c 11 d_mk_settleInto_58 lk_f_mk_115 (by decide) (gt_c (mz_lt hc5)) rfl ?_
        refine mr_iastK (h2 := (HX x_members x_collaterals x_hasSent x_isSealed x_metered x_sealedCount bk_counts bk_needs bk_whens bk_sides bk_quantities bk_limits ag_toldLies ag_passedLies ag_words ag_vectors ag_liarOperator ag_rounds mk_entries mk_slots mk_remainders mk_blocks mk_blockBids mk_blockOffers mk_entryCount mk_blockCount cv_limits cv_bids cv_offers cv_count cv_allBids cv_allOffers cv_meetingPrice cv_sureBids cv_sureOffers cv_priceBids cv_priceOffers cv_volume cv_worth (va_up oc_prices 2 (upd o_prices x3.toNatClampNeg (cv_meetingPrice x3.toNatClampNeg))) (va_up oc_volumes 2 (upd o_volumes x3.toNatClampNeg (cv_volume x3.toNatClampNeg))) (va_up oc_filled 2 o_filled) (va_up oc_worth 2 o_worth) (va_up oc_takenSet 2 o_takenSet) (va_up oc_isDone 2 o_isDone), hT)) d_mk_settleInto_61 rfl rfl hc5 ?_
        refine mr_iinc (v := (x3 + 1)) (lv' := [(3, .int (x3 + 1)), (0, .ref 17), (1, .ref 46), (2, .int x2)]) d_mk_settleInto_62 rfl rfl (by decide) rfl ?_
        refine mr_goto (tgt := 27) d_mk_settleInto_65 (by decide) ?_
        refine mr_sub (lv' := [(0, .ref 17), (1, .ref 46), (2, .int x2), (3, .int (x3 + 1))]) [1, 2, 3, 0] rfl ?_
        exact ih _ _ _ _ _ _ _ _ _ _ _ _ _ _ _ _ _ _
  refine mz_of (by decide) (Nat.le_of_ble_eq_true rfl) ?_
  rw [f_mk_settleInto]
  show mz_A g M_mk_settleInto (mz_rm 6) _ 0 [(0, .ref 17), (1, .ref 46)] [] ex (HX x_members x_collaterals x_hasSent x_isSealed x_metered x_sealedCount bk_counts bk_needs bk_whens bk_sides bk_quantities bk_limits ag_toldLies ag_passedLies ag_words ag_vectors ag_liarOperator ag_rounds mk_entries mk_slots mk_remainders mk_blocks mk_blockBids mk_blockOffers mk_entryCount mk_blockCount cv_limits cv_bids cv_offers cv_count cv_allBids cv_allOffers cv_meetingPrice cv_sureBids cv_sureOffers cv_priceBids cv_priceOffers cv_volume cv_worth oc_prices oc_volumes oc_filled oc_worth oc_takenSet oc_isDone, hT) 0 0 _
  refine mr_aload_n d_mk_settleInto_0 rfl rfl ?_
  refine mz_go (st := []) e_mk_bestSet (fun _ => rfl) U_mk_bestSet (mz_vV d_mk_settleInto_1 U_mk_bestSet rfl lk_m_mk_86 I_mk_bestSet s_mk_bestSet np_mk_bestSet rfl rfl) (Nat.le_of_ble_eq_true rfl) (by decide) (fun r1 => ?_)
  refine mr_eq (st' := [.int r1.1]) (ex' := ex) (h2 := (HX x_members x_collaterals x_hasSent x_isSealed x_metered x_sealedCount bk_counts bk_needs bk_whens bk_sides bk_quantities bk_limits ag_toldLies ag_passedLies ag_words ag_vectors ag_liarOperator ag_rounds mk_entries mk_slots mk_remainders mk_blocks r1.2.1 r1.2.2.1 mk_entryCount mk_blockCount cv_limits cv_bids cv_offers cv_count cv_allBids cv_allOffers r1.2.2.2.1 r1.2.2.2.2.1 r1.2.2.2.2.2.1 r1.2.2.2.2.2.2.1 r1.2.2.2.2.2.2.2.1 r1.2.2.2.2.2.2.2.2.1 r1.2.2.2.2.2.2.2.2.2 oc_prices oc_volumes oc_filled oc_worth oc_takenSet oc_isDone, hT)) (k' := 0) (n' := 0) rfl rfl rfl rfl rfl ?_
  refine mr_istore_n (lv' := [(2, .int r1.1), (0, .ref 17), (1, .ref 46)]) d_mk_settleInto_4 rfl (by decide) rfl ?_
  refine mr_aload_n d_mk_settleInto_5 rfl rfl ?_
  refine mr_iload_n d_mk_settleInto_6 rfl rfl ?_
  refine mz_go (st := []) e_mk_findPrices (fun _ => rfl) U_mk_findPrices (mz_vV d_mk_settleInto_7 U_mk_findPrices rfl lk_m_mk_90 I_mk_findPrices s_mk_findPrices np_mk_findPrices rfl rfl) (Nat.le_of_ble_eq_true rfl) (by decide) (fun r2 => ?_)
  refine mr_eq (st' := [.int r2.1]) (ex' := ex) (h2 := (HX x_members x_collaterals x_hasSent x_isSealed x_metered x_sealedCount bk_counts bk_needs bk_whens bk_sides bk_quantities bk_limits ag_toldLies ag_passedLies ag_words ag_vectors ag_liarOperator ag_rounds mk_entries mk_slots mk_remainders mk_blocks r2.2.1 r2.2.2.1 mk_entryCount mk_blockCount cv_limits cv_bids cv_offers cv_count cv_allBids cv_allOffers r2.2.2.2 r1.2.2.2.2.1 r1.2.2.2.2.2.1 r1.2.2.2.2.2.2.1 r1.2.2.2.2.2.2.2.1 r1.2.2.2.2.2.2.2.2.1 r1.2.2.2.2.2.2.2.2.2 oc_prices oc_volumes oc_filled oc_worth oc_takenSet oc_isDone, hT)) (k' := 0) (n' := 0) rfl rfl rfl rfl rfl ?_
  refine mr_pop d_mk_settleInto_10 rfl ?_
  refine mr_aload_n d_mk_settleInto_11 rfl rfl ?_
  refine mr_aload_n d_mk_settleInto_12 rfl rfl ?_
  refine mr_iload_n d_mk_settleInto_13 rfl rfl ?_
  refine mz_go (st := [.ref 46]) e_mk_worthOfSet (fun _ => rfl) U_mk_worthOfSet (mz_vV d_mk_settleInto_14 U_mk_worthOfSet rfl lk_m_mk_93 I_mk_worthOfSet s_mk_worthOfSet np_mk_worthOfSet rfl rfl) (Nat.le_of_ble_eq_true rfl) (by decide) (fun r3 => ?_)
  refine mr_eq (st' := [.long r3.1, .ref 46]) (ex' := ex) (h2 := (HX x_members x_collaterals x_hasSent x_isSealed x_metered x_sealedCount bk_counts bk_needs bk_whens bk_sides bk_quantities bk_limits ag_toldLies ag_passedLies ag_words ag_vectors ag_liarOperator ag_rounds mk_entries mk_slots mk_remainders mk_blocks r2.2.1 r2.2.2.1 mk_entryCount mk_blockCount cv_limits cv_bids cv_offers cv_count cv_allBids cv_allOffers r2.2.2.2 r3.2.1 r3.2.2.1 r3.2.2.2.1 r3.2.2.2.2.1 r3.2.2.2.2.2.1 r3.2.2.2.2.2.2 oc_prices oc_volumes oc_filled oc_worth oc_takenSet oc_isDone, hT)) (k' := 0) (n' := 0) rfl rfl rfl rfl rfl ?_
  refine mr_putN (h2 := (HX x_members x_collaterals x_hasSent x_isSealed x_metered x_sealedCount bk_counts bk_needs bk_whens bk_sides bk_quantities bk_limits ag_toldLies ag_passedLies ag_words ag_vectors ag_liarOperator ag_rounds mk_entries mk_slots mk_remainders mk_blocks r2.2.1 r2.2.2.1 mk_entryCount mk_blockCount cv_limits cv_bids cv_offers cv_count cv_allBids cv_allOffers r2.2.2.2 r3.2.1 r3.2.2.1 r3.2.2.2.1 r3.2.2.2.2.1 r3.2.2.2.2.2.1 r3.2.2.2.2.2.2 oc_prices oc_volumes oc_filled (va_up oc_worth 2 r3.1) oc_takenSet oc_isDone, hT)) K_o 3 d_mk_settleInto_17 lk_f_mk_97 (by decide) rfl rfl rfl (Nat.le_of_ble_eq_true rfl) rfl rfl ?_
  refine mr_aload_n d_mk_settleInto_20 rfl rfl ?_
  refine mr_iload_n d_mk_settleInto_21 rfl rfl ?_
  refine mr_putN (h2 := (HX x_members x_collaterals x_hasSent x_isSealed x_metered x_sealedCount bk_counts bk_needs bk_whens bk_sides bk_quantities bk_limits ag_toldLies ag_passedLies ag_words ag_vectors ag_liarOperator ag_rounds mk_entries mk_slots mk_remainders mk_blocks r2.2.1 r2.2.2.1 mk_entryCount mk_blockCount cv_limits cv_bids cv_offers cv_count cv_allBids cv_allOffers r2.2.2.2 r3.2.1 r3.2.2.1 r3.2.2.2.1 r3.2.2.2.2.1 r3.2.2.2.2.2.1 r3.2.2.2.2.2.2 oc_prices oc_volumes oc_filled (va_up oc_worth 2 r3.1) (va_up oc_takenSet 2 r1.1) oc_isDone, hT)) K_o 4 d_mk_settleInto_22 lk_f_mk_103 (by decide) rfl rfl rfl (Nat.le_of_ble_eq_true rfl) rfl rfl ?_
  refine mr_iconst (v := 0) d_mk_settleInto_25 mc_iconst_0 ?_
  refine mr_istore_n (lv' := [(3, .int 0), (2, .int r1.1), (0, .ref 17), (1, .ref 46)]) d_mk_settleInto_26 rfl (by decide) rfl ?_
  refine mr_sub (lv' := [(0, .ref 17), (1, .ref 46), (2, .int r1.1), (3, .int 0)]) [2, 3, 1, 0] rfl ?_
  exact w_L27 1000 _ _ _ _ _ _ _ _ _ _ _ _ _ _ _ _ _ _
set_option maxRecDepth 100000 in
set_option maxHeartbeats 4000000 in
theorem e_mk_settleInto_3 {g : mz_G} {ex : Bool} {hT : List mz_E} {x_members : Int32} {x_collaterals : Nat → Int32} {x_hasSent : Nat → Int32} {x_isSealed : Nat → Int32} {x_metered : Nat → Int32} {x_sealedCount : Int32} {bk_counts : Nat → Int32} {bk_needs : Nat → Int64} {bk_whens : Nat → Int32} {bk_sides : Nat → Int32} {bk_quantities : Nat → Int32} {bk_limits : Nat → Int32} {ag_toldLies : Nat → Int32} {ag_passedLies : Nat → Int32} {ag_words : Nat → Int32} {ag_vectors : Nat → Int32} {ag_liarOperator : Int32} {ag_rounds : Int32} {mk_entries : Nat → Int32} {mk_slots : Nat → Int32} {mk_remainders : Nat → Int32} {mk_blocks : Nat → Int32} {mk_blockBids : Nat → Int32} {mk_blockOffers : Nat → Int32} {mk_entryCount : Int32} {mk_blockCount : Int32} {cv_limits : Nat → Nat → Int32} {cv_bids : Nat → Nat → Int32} {cv_offers : Nat → Nat → Int32} {cv_count : Nat → Int32} {cv_allBids : Nat → Int32} {cv_allOffers : Nat → Int32} {cv_meetingPrice : Nat → Int32} {cv_sureBids : Nat → Int32} {cv_sureOffers : Nat → Int32} {cv_priceBids : Nat → Int32} {cv_priceOffers : Nat → Int32} {cv_volume : Nat → Int32} {cv_worth : Nat → Int64} {oc_prices : Nat → Nat → Int32} {oc_volumes : Nat → Nat → Int32} {oc_filled : Nat → Nat → Int32} {oc_worth : Nat → Int64} {oc_takenSet : Nat → Int32} {oc_isDone : Nat → Int32} : mz_M g M_mk_settleInto 6 [.ref 17, .ref 50] ex (HX x_members x_collaterals x_hasSent x_isSealed x_metered x_sealedCount bk_counts bk_needs bk_whens bk_sides bk_quantities bk_limits ag_toldLies ag_passedLies ag_words ag_vectors ag_liarOperator ag_rounds mk_entries mk_slots mk_remainders mk_blocks mk_blockBids mk_blockOffers mk_entryCount mk_blockCount cv_limits cv_bids cv_offers cv_count cv_allBids cv_allOffers cv_meetingPrice cv_sureBids cv_sureOffers cv_priceBids cv_priceOffers cv_volume cv_worth oc_prices oc_volumes oc_filled oc_worth oc_takenSet oc_isDone, hT) (f_mk_settleInto bk_whens bk_sides bk_quantities bk_limits mk_entries mk_slots mk_remainders mk_blocks mk_blockBids mk_blockOffers mk_entryCount mk_blockCount cv_limits cv_bids cv_offers cv_count cv_allBids cv_allOffers cv_meetingPrice cv_sureBids cv_sureOffers cv_priceBids cv_priceOffers cv_volume cv_worth (oc_prices 3) (oc_volumes 3) (oc_filled 3) (oc_worth 3) (oc_takenSet 3) (oc_isDone 3)) (fun r => (0, none, ex, (HX x_members x_collaterals x_hasSent x_isSealed x_metered x_sealedCount bk_counts bk_needs bk_whens bk_sides bk_quantities bk_limits ag_toldLies ag_passedLies ag_words ag_vectors ag_liarOperator ag_rounds mk_entries mk_slots r.1 mk_blocks r.2.1 r.2.2.1 mk_entryCount mk_blockCount cv_limits cv_bids cv_offers cv_count cv_allBids cv_allOffers r.2.2.2.1 r.2.2.2.2.1 r.2.2.2.2.2.1 r.2.2.2.2.2.2.1 r.2.2.2.2.2.2.2.1 r.2.2.2.2.2.2.2.2.1 r.2.2.2.2.2.2.2.2.2.1 (va_up oc_prices 3 r.2.2.2.2.2.2.2.2.2.2.1) (va_up oc_volumes 3 r.2.2.2.2.2.2.2.2.2.2.2.1) (va_up oc_filled 3 r.2.2.2.2.2.2.2.2.2.2.2.2.1) (va_up oc_worth 3 r.2.2.2.2.2.2.2.2.2.2.2.2.2.1) (va_up oc_takenSet 3 r.2.2.2.2.2.2.2.2.2.2.2.2.2.2.1) (va_up oc_isDone 3 r.2.2.2.2.2.2.2.2.2.2.2.2.2.2.2), hT), 0, 0)) := by
  have w_L76 : ∀ (n : Nat) (mk_remainders : Nat → Int32) (mk_blockBids : Nat → Int32) (mk_blockOffers : Nat → Int32) (cv_meetingPrice : Nat → Int32) (cv_sureBids : Nat → Int32) (cv_sureOffers : Nat → Int32) (cv_priceBids : Nat → Int32) (cv_priceOffers : Nat → Int32) (cv_volume : Nat → Int32) (cv_worth : Nat → Int64) (o_prices : Nat → Int32) (o_volumes : Nat → Int32) (o_filled : Nat → Int32) (o_worth : Int64) (o_takenSet : Int32) (o_isDone : Int32) (x3 : Int32), mz_A g M_mk_settleInto (mz_rm 6) (fun r => (0, none, ex, (HX x_members x_collaterals x_hasSent x_isSealed x_metered x_sealedCount bk_counts bk_needs bk_whens bk_sides bk_quantities bk_limits ag_toldLies ag_passedLies ag_words ag_vectors ag_liarOperator ag_rounds mk_entries mk_slots r.1 mk_blocks r.2.1 r.2.2.1 mk_entryCount mk_blockCount cv_limits cv_bids cv_offers cv_count cv_allBids cv_allOffers r.2.2.2.1 r.2.2.2.2.1 r.2.2.2.2.2.1 r.2.2.2.2.2.2.1 r.2.2.2.2.2.2.2.1 r.2.2.2.2.2.2.2.2.1 r.2.2.2.2.2.2.2.2.2.1 (va_up oc_prices 3 r.2.2.2.2.2.2.2.2.2.2.1) (va_up oc_volumes 3 r.2.2.2.2.2.2.2.2.2.2.2.1) (va_up oc_filled 3 r.2.2.2.2.2.2.2.2.2.2.2.2.1) (va_up oc_worth 3 r.2.2.2.2.2.2.2.2.2.2.2.2.2.1) (va_up oc_takenSet 3 r.2.2.2.2.2.2.2.2.2.2.2.2.2.2.1) (va_up oc_isDone 3 r.2.2.2.2.2.2.2.2.2.2.2.2.2.2.2), hT), 0, 0)) 76 [(0, .ref 17), (1, .ref 50), (3, .int x3)] [] ex (HX x_members x_collaterals x_hasSent x_isSealed x_metered x_sealedCount bk_counts bk_needs bk_whens bk_sides bk_quantities bk_limits ag_toldLies ag_passedLies ag_words ag_vectors ag_liarOperator ag_rounds mk_entries mk_slots mk_remainders mk_blocks mk_blockBids mk_blockOffers mk_entryCount mk_blockCount cv_limits cv_bids cv_offers cv_count cv_allBids cv_allOffers cv_meetingPrice cv_sureBids cv_sureOffers cv_priceBids cv_priceOffers cv_volume cv_worth (va_up oc_prices 3 o_prices) (va_up oc_volumes 3 o_volumes) (va_up oc_filled 3 o_filled) (va_up oc_worth 3 o_worth) (va_up oc_takenSet 3 o_takenSet) (va_up oc_isDone 3 o_isDone), hT) 0 0 (f_mk_settleInto_L76 bk_whens bk_sides bk_quantities bk_limits mk_entries mk_slots mk_blocks mk_entryCount mk_blockCount cv_limits cv_bids cv_offers cv_count cv_allBids cv_allOffers n mk_remainders mk_blockBids mk_blockOffers cv_meetingPrice cv_sureBids cv_sureOffers cv_priceBids cv_priceOffers cv_volume cv_worth o_prices o_volumes o_filled o_worth o_takenSet o_isDone x3) := by
    intro n
    induction n with
    | zero => intro mk_remainders mk_blockBids mk_blockOffers cv_meetingPrice cv_sureBids cv_sureOffers cv_priceBids cv_priceOffers cv_volume cv_worth o_prices o_volumes o_filled o_worth o_takenSet o_isDone x3; exact mr_none
    | succ n ih =>
      intro mk_remainders mk_blockBids mk_blockOffers cv_meetingPrice cv_sureBids cv_sureOffers cv_priceBids cv_priceOffers cv_volume cv_worth o_prices o_volumes o_filled o_worth o_takenSet o_isDone x3
      rw [f_mk_settleInto_L76]
      refine mr_iload_n d_mk_settleInto_76 rfl rfl ?_
      refine mr_iconst (v := 3) d_mk_settleInto_77 mc_iconst_3 ?_
      refine mr_icmp_ge (tgt := 101) d_mk_settleInto_78 (by decide) ?_ ?_
      · refine mr_aload_n d_mk_settleInto_101 rfl rfl ?_
        refine mr_iconst (v := 1) d_mk_settleInto_102 mc_iconst_1 ?_
        refine mr_putN (h2 := (HX x_members x_collaterals x_hasSent x_isSealed x_metered x_sealedCount bk_counts bk_needs bk_whens bk_sides bk_quantities bk_limits ag_toldLies ag_passedLies ag_words ag_vectors ag_liarOperator ag_rounds mk_entries mk_slots mk_remainders mk_blocks mk_blockBids mk_blockOffers mk_entryCount mk_blockCount cv_limits cv_bids cv_offers cv_count cv_allBids cv_allOffers cv_meetingPrice cv_sureBids cv_sureOffers cv_priceBids cv_priceOffers cv_volume cv_worth (va_up oc_prices 3 o_prices) (va_up oc_volumes 3 o_volumes) (va_up oc_filled 3 o_filled) (va_up oc_worth 3 o_worth) (va_up oc_takenSet 3 o_takenSet) (va_up oc_isDone 3 1), hT)) K_o 5 d_mk_settleInto_103 lk_f_mk_126 (by decide) rfl rfl rfl (Nat.le_of_ble_eq_true rfl) rfl rfl ?_
        exact mr_vret d_mk_settleInto_106 rfl rfl
      · refine mr_aload_n d_mk_settleInto_81 rfl rfl ?_
        refine mr_aload_n d_mk_settleInto_82 rfl rfl ?_
        refine mr_iload_n d_mk_settleInto_83 rfl rfl ?_
        refine mr_iconst (v := 0) d_mk_settleInto_84 mc_iconst_0 ?_
        refine mz_go (st := []) e_mk_share_3 (fun _ => rfl) U_mk_share (mz_vV d_mk_settleInto_85 U_mk_share rfl lk_m_mk_122 I_mk_share s_mk_share np_mk_share rfl rfl) (Nat.le_of_ble_eq_true rfl) (by decide) (fun r6 => ?_)
        refine mr_eq (st' := []) (ex' := ex) (h2 := (HX x_members x_collaterals x_hasSent x_isSealed x_metered x_sealedCount bk_counts bk_needs bk_whens bk_sides bk_quantities bk_limits ag_toldLies ag_passedLies ag_words ag_vectors ag_liarOperator ag_rounds mk_entries mk_slots r6.1 mk_blocks mk_blockBids mk_blockOffers mk_entryCount mk_blockCount cv_limits cv_bids cv_offers cv_count cv_allBids cv_allOffers cv_meetingPrice cv_sureBids cv_sureOffers cv_priceBids cv_priceOffers cv_volume cv_worth (va_up oc_prices 3 o_prices) (va_up oc_volumes 3 o_volumes) (va_up oc_filled 3 r6.2) (va_up oc_worth 3 o_worth) (va_up oc_takenSet 3 o_takenSet) (va_up oc_isDone 3 o_isDone), hT)) (k' := 0) (n' := 0) rfl rfl rfl rfl rfl ?_
        refine mr_aload_n d_mk_settleInto_88 rfl rfl ?_
        refine mr_aload_n d_mk_settleInto_89 rfl rfl ?_
        refine mr_iload_n d_mk_settleInto_90 rfl rfl ?_
        refine mr_iconst (v := 1) d_mk_settleInto_91 mc_iconst_1 ?_
        refine mz_go (st := []) e_mk_share_3 (fun _ => rfl) U_mk_share (mz_vV d_mk_settleInto_92 U_mk_share rfl lk_m_mk_122 I_mk_share s_mk_share np_mk_share rfl rfl) (Nat.le_of_ble_eq_true rfl) (by decide) (fun r7 => ?_)
        refine mr_eq (st' := []) (ex' := ex) (h2 := (HX x_members x_collaterals x_hasSent x_isSealed x_metered x_sealedCount bk_counts bk_needs bk_whens bk_sides bk_quantities bk_limits ag_toldLies ag_passedLies ag_words ag_vectors ag_liarOperator ag_rounds mk_entries mk_slots r7.1 mk_blocks mk_blockBids mk_blockOffers mk_entryCount mk_blockCount cv_limits cv_bids cv_offers cv_count cv_allBids cv_allOffers cv_meetingPrice cv_sureBids cv_sureOffers cv_priceBids cv_priceOffers cv_volume cv_worth (va_up oc_prices 3 o_prices) (va_up oc_volumes 3 o_volumes) (va_up oc_filled 3 r7.2) (va_up oc_worth 3 o_worth) (va_up oc_takenSet 3 o_takenSet) (va_up oc_isDone 3 o_isDone), hT)) (k' := 0) (n' := 0) rfl rfl rfl rfl rfl ?_
        refine mr_iinc (v := (x3 + 1)) (lv' := [(3, .int (x3 + 1)), (0, .ref 17), (1, .ref 50)]) d_mk_settleInto_95 rfl rfl (by decide) rfl ?_
        refine mr_goto (tgt := 76) d_mk_settleInto_98 (by decide) ?_
        refine mr_sub (lv' := [(0, .ref 17), (1, .ref 50), (3, .int (x3 + 1))]) [1, 2, 0] rfl ?_
        exact ih _ _ _ _ _ _ _ _ _ _ _ _ _ _ _ _ _
  have w_L27 : ∀ (n : Nat) (mk_remainders : Nat → Int32) (mk_blockBids : Nat → Int32) (mk_blockOffers : Nat → Int32) (cv_meetingPrice : Nat → Int32) (cv_sureBids : Nat → Int32) (cv_sureOffers : Nat → Int32) (cv_priceBids : Nat → Int32) (cv_priceOffers : Nat → Int32) (cv_volume : Nat → Int32) (cv_worth : Nat → Int64) (o_prices : Nat → Int32) (o_volumes : Nat → Int32) (o_filled : Nat → Int32) (o_worth : Int64) (o_takenSet : Int32) (o_isDone : Int32) (x2 : Int32) (x3 : Int32), mz_A g M_mk_settleInto (mz_rm 6) (fun r => (0, none, ex, (HX x_members x_collaterals x_hasSent x_isSealed x_metered x_sealedCount bk_counts bk_needs bk_whens bk_sides bk_quantities bk_limits ag_toldLies ag_passedLies ag_words ag_vectors ag_liarOperator ag_rounds mk_entries mk_slots r.1 mk_blocks r.2.1 r.2.2.1 mk_entryCount mk_blockCount cv_limits cv_bids cv_offers cv_count cv_allBids cv_allOffers r.2.2.2.1 r.2.2.2.2.1 r.2.2.2.2.2.1 r.2.2.2.2.2.2.1 r.2.2.2.2.2.2.2.1 r.2.2.2.2.2.2.2.2.1 r.2.2.2.2.2.2.2.2.2.1 (va_up oc_prices 3 r.2.2.2.2.2.2.2.2.2.2.1) (va_up oc_volumes 3 r.2.2.2.2.2.2.2.2.2.2.2.1) (va_up oc_filled 3 r.2.2.2.2.2.2.2.2.2.2.2.2.1) (va_up oc_worth 3 r.2.2.2.2.2.2.2.2.2.2.2.2.2.1) (va_up oc_takenSet 3 r.2.2.2.2.2.2.2.2.2.2.2.2.2.2.1) (va_up oc_isDone 3 r.2.2.2.2.2.2.2.2.2.2.2.2.2.2.2), hT), 0, 0)) 27 [(0, .ref 17), (1, .ref 50), (2, .int x2), (3, .int x3)] [] ex (HX x_members x_collaterals x_hasSent x_isSealed x_metered x_sealedCount bk_counts bk_needs bk_whens bk_sides bk_quantities bk_limits ag_toldLies ag_passedLies ag_words ag_vectors ag_liarOperator ag_rounds mk_entries mk_slots mk_remainders mk_blocks mk_blockBids mk_blockOffers mk_entryCount mk_blockCount cv_limits cv_bids cv_offers cv_count cv_allBids cv_allOffers cv_meetingPrice cv_sureBids cv_sureOffers cv_priceBids cv_priceOffers cv_volume cv_worth (va_up oc_prices 3 o_prices) (va_up oc_volumes 3 o_volumes) (va_up oc_filled 3 o_filled) (va_up oc_worth 3 o_worth) (va_up oc_takenSet 3 o_takenSet) (va_up oc_isDone 3 o_isDone), hT) 0 0 (f_mk_settleInto_L27 bk_whens bk_sides bk_quantities bk_limits mk_entries mk_slots mk_blocks mk_entryCount mk_blockCount cv_limits cv_bids cv_offers cv_count cv_allBids cv_allOffers n mk_remainders mk_blockBids mk_blockOffers cv_meetingPrice cv_sureBids cv_sureOffers cv_priceBids cv_priceOffers cv_volume cv_worth o_prices o_volumes o_filled o_worth o_takenSet o_isDone x2 x3) := by
    intro n
    induction n with
    | zero => intro mk_remainders mk_blockBids mk_blockOffers cv_meetingPrice cv_sureBids cv_sureOffers cv_priceBids cv_priceOffers cv_volume cv_worth o_prices o_volumes o_filled o_worth o_takenSet o_isDone x2 x3; exact mr_none
    | succ n ih =>
      intro mk_remainders mk_blockBids mk_blockOffers cv_meetingPrice cv_sureBids cv_sureOffers cv_priceBids cv_priceOffers cv_volume cv_worth o_prices o_volumes o_filled o_worth o_takenSet o_isDone x2 x3
      rw [f_mk_settleInto_L27]
      refine mr_iload_n d_mk_settleInto_27 rfl rfl ?_
      refine mr_iconst (v := 3) d_mk_settleInto_28 mc_iconst_3 ?_
      refine mr_icmp_ge (tgt := 68) d_mk_settleInto_29 (by decide) ?_ ?_
      · refine mr_aload_n d_mk_settleInto_68 rfl rfl ?_
        refine mr_aload_n d_mk_settleInto_69 rfl rfl ?_
        refine mr_iload_n d_mk_settleInto_70 rfl rfl ?_
        refine mz_go (st := []) e_mk_giveWhole_3 (fun _ => rfl) U_mk_giveWhole (mz_vV d_mk_settleInto_71 U_mk_giveWhole rfl lk_m_mk_118 I_mk_giveWhole s_mk_giveWhole np_mk_giveWhole rfl rfl) (Nat.le_of_ble_eq_true rfl) (by decide) (fun r4 => ?_)
        refine mr_eq (st' := []) (ex' := ex) (h2 := (HX x_members x_collaterals x_hasSent x_isSealed x_metered x_sealedCount bk_counts bk_needs bk_whens bk_sides bk_quantities bk_limits ag_toldLies ag_passedLies ag_words ag_vectors ag_liarOperator ag_rounds mk_entries mk_slots mk_remainders mk_blocks mk_blockBids mk_blockOffers mk_entryCount mk_blockCount cv_limits cv_bids cv_offers cv_count cv_allBids cv_allOffers cv_meetingPrice cv_sureBids cv_sureOffers cv_priceBids cv_priceOffers cv_volume cv_worth (va_up oc_prices 3 o_prices) (va_up oc_volumes 3 o_volumes) (va_up oc_filled 3 r4) (va_up oc_worth 3 o_worth) (va_up oc_takenSet 3 o_takenSet) (va_up oc_isDone 3 o_isDone), hT)) (k' := 0) (n' := 0) rfl rfl rfl rfl rfl ?_
        refine mr_iconst (v := 0) d_mk_settleInto_74 mc_iconst_0 ?_
        refine mr_istore_n (lv' := [(3, .int 0), (0, .ref 17), (1, .ref 50), (2, .int x2)]) d_mk_settleInto_75 rfl (by decide) rfl ?_
        refine mr_sub (lv' := [(0, .ref 17), (1, .ref 50), (3, .int 0)]) [1, 2, 0] rfl ?_
        exact w_L76 1000 _ _ _ _ _ _ _ _ _ _ _ _ _ _ _ _ _
      · refine mr_aload_n d_mk_settleInto_32 rfl rfl ?_
        refine mr_getN K_o 0 d_mk_settleInto_33 lk_f_mk_106 (by decide) rfl rfl ?_
        refine mr_iload_n d_mk_settleInto_36 rfl rfl ?_
        refine mr_aload_n d_mk_settleInto_37 rfl rfl ?_
        refine mr_get K_mk 1 d_mk_settleInto_38 lk_f_mk_17 (by decide) rfl rfl ?_
        refine mr_iload_n d_mk_settleInto_41 rfl rfl ?_
        refine mr_aald d_mk_settleInto_42 (fun _ => rfl) rfl (fun _ => rfl) (fun hc5 => ?_)
        refine mr_getN K_c 6 d_mk_settleInto_43 lk_f_mk_109 (by decide) (gt_c (mz_lt hc5)) rfl ?_
        refine mr_iastK (h2 := (HX x_members x_collaterals x_hasSent x_isSealed x_metered x_sealedCount bk_counts bk_needs bk_whens bk_sides bk_quantities bk_limits ag_toldLies ag_passedLies ag_words ag_vectors ag_liarOperator ag_rounds mk_entries mk_slots mk_remainders mk_blocks mk_blockBids mk_blockOffers mk_entryCount mk_blockCount cv_limits cv_bids cv_offers cv_count cv_allBids cv_allOffers cv_meetingPrice cv_sureBids cv_sureOffers cv_priceBids cv_priceOffers cv_volume cv_worth (va_up oc_prices 3 (upd o_prices x3.toNatClampNeg (cv_meetingPrice x3.toNatClampNeg))) (va_up oc_volumes 3 o_volumes) (va_up oc_filled 3 o_filled) (va_up oc_worth 3 o_worth) (va_up oc_takenSet 3 o_takenSet) (va_up oc_isDone 3 o_isDone), hT)) d_mk_settleInto_46 rfl rfl hc5 ?_
        refine mr_aload_n d_mk_settleInto_47 rfl rfl ?_
        refine mr_getN K_o 1 d_mk_settleInto_48 lk_f_mk_112 (by decide) rfl rfl ?_
        refine mr_iload_n d_mk_settleInto_51 rfl rfl ?_
        refine mr_aload_n d_mk_settleInto_52 rfl rfl ?_
        refine mr_get K_mk 1 d_mk_settleInto_53 lk_f_mk_17 (by decide) rfl rfl ?_
        refine mr_iload_n d_mk_settleInto_56 rfl rfl ?_
        refine mr_aaldK d_mk_settleInto_57 (fun _ => rfl) rfl hc5 rfl ?_
        refine mr_getN K_c 11 d_mk_settleInto_58 lk_f_mk_115 (by decide) (gt_c (mz_lt hc5)) rfl ?_
        refine mr_iastK (h2 := (HX x_members x_collaterals x_hasSent x_isSealed x_metered x_sealedCount bk_counts bk_needs bk_whens bk_sides bk_quantities bk_limits ag_toldLies ag_passedLies ag_words ag_vectors ag_liarOperator ag_rounds mk_entries mk_slots mk_remainders mk_blocks mk_blockBids mk_blockOffers mk_entryCount mk_blockCount cv_limits cv_bids cv_offers cv_count cv_allBids cv_allOffers cv_meetingPrice cv_sureBids cv_sureOffers cv_priceBids cv_priceOffers cv_volume cv_worth (va_up oc_prices 3 (upd o_prices x3.toNatClampNeg (cv_meetingPrice x3.toNatClampNeg))) (va_up oc_volumes 3 (upd o_volumes x3.toNatClampNeg (cv_volume x3.toNatClampNeg))) (va_up oc_filled 3 o_filled) (va_up oc_worth 3 o_worth) (va_up oc_takenSet 3 o_takenSet) (va_up oc_isDone 3 o_isDone), hT)) d_mk_settleInto_61 rfl rfl hc5 ?_
        refine mr_iinc (v := (x3 + 1)) (lv' := [(3, .int (x3 + 1)), (0, .ref 17), (1, .ref 50), (2, .int x2)]) d_mk_settleInto_62 rfl rfl (by decide) rfl ?_
        refine mr_goto (tgt := 27) d_mk_settleInto_65 (by decide) ?_
        refine mr_sub (lv' := [(0, .ref 17), (1, .ref 50), (2, .int x2), (3, .int (x3 + 1))]) [1, 2, 3, 0] rfl ?_
        exact ih _ _ _ _ _ _ _ _ _ _ _ _ _ _ _ _ _ _
  refine mz_of (by decide) (Nat.le_of_ble_eq_true rfl) ?_
  rw [f_mk_settleInto]
  show mz_A g M_mk_settleInto (mz_rm 6) _ 0 [(0, .ref 17), (1, .ref 50)] [] ex (HX x_members x_collaterals x_hasSent x_isSealed x_metered x_sealedCount bk_counts bk_needs bk_whens bk_sides bk_quantities bk_limits ag_toldLies ag_passedLies ag_words ag_vectors ag_liarOperator ag_rounds mk_entries mk_slots mk_remainders mk_blocks mk_blockBids mk_blockOffers mk_entryCount mk_blockCount cv_limits cv_bids cv_offers cv_count cv_allBids cv_allOffers cv_meetingPrice cv_sureBids cv_sureOffers cv_priceBids cv_priceOffers cv_volume cv_worth oc_prices oc_volumes oc_filled oc_worth oc_takenSet oc_isDone, hT) 0 0 _
  refine mr_aload_n d_mk_settleInto_0 rfl rfl ?_
  refine mz_go (st := []) e_mk_bestSet (fun _ => rfl) U_mk_bestSet (mz_vV d_mk_settleInto_1 U_mk_bestSet rfl lk_m_mk_86 I_mk_bestSet s_mk_bestSet np_mk_bestSet rfl rfl) (Nat.le_of_ble_eq_true rfl) (by decide) (fun r1 => ?_)
  refine mr_eq (st' := [.int r1.1]) (ex' := ex) (h2 := (HX x_members x_collaterals x_hasSent x_isSealed x_metered x_sealedCount bk_counts bk_needs bk_whens bk_sides bk_quantities bk_limits ag_toldLies ag_passedLies ag_words ag_vectors ag_liarOperator ag_rounds mk_entries mk_slots mk_remainders mk_blocks r1.2.1 r1.2.2.1 mk_entryCount mk_blockCount cv_limits cv_bids cv_offers cv_count cv_allBids cv_allOffers r1.2.2.2.1 r1.2.2.2.2.1 r1.2.2.2.2.2.1 r1.2.2.2.2.2.2.1 r1.2.2.2.2.2.2.2.1 r1.2.2.2.2.2.2.2.2.1 r1.2.2.2.2.2.2.2.2.2 oc_prices oc_volumes oc_filled oc_worth oc_takenSet oc_isDone, hT)) (k' := 0) (n' := 0) rfl rfl rfl rfl rfl ?_
  refine mr_istore_n (lv' := [(2, .int r1.1), (0, .ref 17), (1, .ref 50)]) d_mk_settleInto_4 rfl (by decide) rfl ?_
  refine mr_aload_n d_mk_settleInto_5 rfl rfl ?_
  refine mr_iload_n d_mk_settleInto_6 rfl rfl ?_
  refine mz_go (st := []) e_mk_findPrices (fun _ => rfl) U_mk_findPrices (mz_vV d_mk_settleInto_7 U_mk_findPrices rfl lk_m_mk_90 I_mk_findPrices s_mk_findPrices np_mk_findPrices rfl rfl) (Nat.le_of_ble_eq_true rfl) (by decide) (fun r2 => ?_)
  refine mr_eq (st' := [.int r2.1]) (ex' := ex) (h2 := (HX x_members x_collaterals x_hasSent x_isSealed x_metered x_sealedCount bk_counts bk_needs bk_whens bk_sides bk_quantities bk_limits ag_toldLies ag_passedLies ag_words ag_vectors ag_liarOperator ag_rounds mk_entries mk_slots mk_remainders mk_blocks r2.2.1 r2.2.2.1 mk_entryCount mk_blockCount cv_limits cv_bids cv_offers cv_count cv_allBids cv_allOffers r2.2.2.2 r1.2.2.2.2.1 r1.2.2.2.2.2.1 r1.2.2.2.2.2.2.1 r1.2.2.2.2.2.2.2.1 r1.2.2.2.2.2.2.2.2.1 r1.2.2.2.2.2.2.2.2.2 oc_prices oc_volumes oc_filled oc_worth oc_takenSet oc_isDone, hT)) (k' := 0) (n' := 0) rfl rfl rfl rfl rfl ?_
  refine mr_pop d_mk_settleInto_10 rfl ?_
  refine mr_aload_n d_mk_settleInto_11 rfl rfl ?_
  refine mr_aload_n d_mk_settleInto_12 rfl rfl ?_
  refine mr_iload_n d_mk_settleInto_13 rfl rfl ?_
  refine mz_go (st := [.ref 50]) e_mk_worthOfSet (fun _ => rfl) U_mk_worthOfSet (mz_vV d_mk_settleInto_14 U_mk_worthOfSet rfl lk_m_mk_93 I_mk_worthOfSet s_mk_worthOfSet np_mk_worthOfSet rfl rfl) (Nat.le_of_ble_eq_true rfl) (by decide) (fun r3 => ?_)
  refine mr_eq (st' := [.long r3.1, .ref 50]) (ex' := ex) (h2 := (HX x_members x_collaterals x_hasSent x_isSealed x_metered x_sealedCount bk_counts bk_needs bk_whens bk_sides bk_quantities bk_limits ag_toldLies ag_passedLies ag_words ag_vectors ag_liarOperator ag_rounds mk_entries mk_slots mk_remainders mk_blocks r2.2.1 r2.2.2.1 mk_entryCount mk_blockCount cv_limits cv_bids cv_offers cv_count cv_allBids cv_allOffers r2.2.2.2 r3.2.1 r3.2.2.1 r3.2.2.2.1 r3.2.2.2.2.1 r3.2.2.2.2.2.1 r3.2.2.2.2.2.2 oc_prices oc_volumes oc_filled oc_worth oc_takenSet oc_isDone, hT)) (k' := 0) (n' := 0) rfl rfl rfl rfl rfl ?_
  refine mr_putN (h2 := (HX x_members x_collaterals x_hasSent x_isSealed x_metered x_sealedCount bk_counts bk_needs bk_whens bk_sides bk_quantities bk_limits ag_toldLies ag_passedLies ag_words ag_vectors ag_liarOperator ag_rounds mk_entries mk_slots mk_remainders mk_blocks r2.2.1 r2.2.2.1 mk_entryCount mk_blockCount cv_limits cv_bids cv_offers cv_count cv_allBids cv_allOffers r2.2.2.2 r3.2.1 r3.2.2.1 r3.2.2.2.1 r3.2.2.2.2.1 r3.2.2.2.2.2.1 r3.2.2.2.2.2.2 oc_prices oc_volumes oc_filled (va_up oc_worth 3 r3.1) oc_takenSet oc_isDone, hT)) K_o 3 d_mk_settleInto_17 lk_f_mk_97 (by decide) rfl rfl rfl (Nat.le_of_ble_eq_true rfl) rfl rfl ?_
  refine mr_aload_n d_mk_settleInto_20 rfl rfl ?_
  refine mr_iload_n d_mk_settleInto_21 rfl rfl ?_
  refine mr_putN (h2 := (HX x_members x_collaterals x_hasSent x_isSealed x_metered x_sealedCount bk_counts bk_needs bk_whens bk_sides bk_quantities bk_limits ag_toldLies ag_passedLies ag_words ag_vectors ag_liarOperator ag_rounds mk_entries mk_slots mk_remainders mk_blocks r2.2.1 r2.2.2.1 mk_entryCount mk_blockCount cv_limits cv_bids cv_offers cv_count cv_allBids cv_allOffers r2.2.2.2 r3.2.1 r3.2.2.1 r3.2.2.2.1 r3.2.2.2.2.1 r3.2.2.2.2.2.1 r3.2.2.2.2.2.2 oc_prices oc_volumes oc_filled (va_up oc_worth 3 r3.1) (va_up oc_takenSet 3 r1.1) oc_isDone, hT)) K_o 4 d_mk_settleInto_22 lk_f_mk_103 (by decide) rfl rfl rfl (Nat.le_of_ble_eq_true rfl) rfl rfl ?_
  refine mr_iconst (v := 0) d_mk_settleInto_25 mc_iconst_0 ?_
  refine mr_istore_n (lv' := [(3, .int 0), (2, .int r1.1), (0, .ref 17), (1, .ref 50)]) d_mk_settleInto_26 rfl (by decide) rfl ?_
  refine mr_sub (lv' := [(0, .ref 17), (1, .ref 50), (2, .int r1.1), (3, .int 0)]) [2, 3, 1, 0] rfl ?_
  exact w_L27 1000 _ _ _ _ _ _ _ _ _ _ _ _ _ _ _ _ _ _
theorem e_mk_settleInto {g : mz_G} {ex : Bool} {hT : List mz_E} {x_members : Int32} {x_collaterals : Nat → Int32} {x_hasSent : Nat → Int32} {x_isSealed : Nat → Int32} {x_metered : Nat → Int32} {x_sealedCount : Int32} {bk_counts : Nat → Int32} {bk_needs : Nat → Int64} {bk_whens : Nat → Int32} {bk_sides : Nat → Int32} {bk_quantities : Nat → Int32} {bk_limits : Nat → Int32} {ag_toldLies : Nat → Int32} {ag_passedLies : Nat → Int32} {ag_words : Nat → Int32} {ag_vectors : Nat → Int32} {ag_liarOperator : Int32} {ag_rounds : Int32} {mk_entries : Nat → Int32} {mk_slots : Nat → Int32} {mk_remainders : Nat → Int32} {mk_blocks : Nat → Int32} {mk_blockBids : Nat → Int32} {mk_blockOffers : Nat → Int32} {mk_entryCount : Int32} {mk_blockCount : Int32} {cv_limits : Nat → Nat → Int32} {cv_bids : Nat → Nat → Int32} {cv_offers : Nat → Nat → Int32} {cv_count : Nat → Int32} {cv_allBids : Nat → Int32} {cv_allOffers : Nat → Int32} {cv_meetingPrice : Nat → Int32} {cv_sureBids : Nat → Int32} {cv_sureOffers : Nat → Int32} {cv_priceBids : Nat → Int32} {cv_priceOffers : Nat → Int32} {cv_volume : Nat → Int32} {cv_worth : Nat → Int64} {oc_prices : Nat → Nat → Int32} {oc_volumes : Nat → Nat → Int32} {oc_filled : Nat → Nat → Int32} {oc_worth : Nat → Int64} {oc_takenSet : Nat → Int32} {oc_isDone : Nat → Int32} {j : Nat} (hj : j < 4) : mz_M g M_mk_settleInto 6 [.ref 17, .ref (38 + 4 * j)] ex (HX x_members x_collaterals x_hasSent x_isSealed x_metered x_sealedCount bk_counts bk_needs bk_whens bk_sides bk_quantities bk_limits ag_toldLies ag_passedLies ag_words ag_vectors ag_liarOperator ag_rounds mk_entries mk_slots mk_remainders mk_blocks mk_blockBids mk_blockOffers mk_entryCount mk_blockCount cv_limits cv_bids cv_offers cv_count cv_allBids cv_allOffers cv_meetingPrice cv_sureBids cv_sureOffers cv_priceBids cv_priceOffers cv_volume cv_worth oc_prices oc_volumes oc_filled oc_worth oc_takenSet oc_isDone, hT) (f_mk_settleInto bk_whens bk_sides bk_quantities bk_limits mk_entries mk_slots mk_remainders mk_blocks mk_blockBids mk_blockOffers mk_entryCount mk_blockCount cv_limits cv_bids cv_offers cv_count cv_allBids cv_allOffers cv_meetingPrice cv_sureBids cv_sureOffers cv_priceBids cv_priceOffers cv_volume cv_worth (oc_prices j) (oc_volumes j) (oc_filled j) (oc_worth j) (oc_takenSet j) (oc_isDone j)) (fun r => (0, none, ex, (HX x_members x_collaterals x_hasSent x_isSealed x_metered x_sealedCount bk_counts bk_needs bk_whens bk_sides bk_quantities bk_limits ag_toldLies ag_passedLies ag_words ag_vectors ag_liarOperator ag_rounds mk_entries mk_slots r.1 mk_blocks r.2.1 r.2.2.1 mk_entryCount mk_blockCount cv_limits cv_bids cv_offers cv_count cv_allBids cv_allOffers r.2.2.2.1 r.2.2.2.2.1 r.2.2.2.2.2.1 r.2.2.2.2.2.2.1 r.2.2.2.2.2.2.2.1 r.2.2.2.2.2.2.2.2.1 r.2.2.2.2.2.2.2.2.2.1 (va_up oc_prices j r.2.2.2.2.2.2.2.2.2.2.1) (va_up oc_volumes j r.2.2.2.2.2.2.2.2.2.2.2.1) (va_up oc_filled j r.2.2.2.2.2.2.2.2.2.2.2.2.1) (va_up oc_worth j r.2.2.2.2.2.2.2.2.2.2.2.2.2.1) (va_up oc_takenSet j r.2.2.2.2.2.2.2.2.2.2.2.2.2.2.1) (va_up oc_isDone j r.2.2.2.2.2.2.2.2.2.2.2.2.2.2.2), hT), 0, 0)) := match j, hj with | 0, _ => e_mk_settleInto_0 | 1, _ => e_mk_settleInto_1 | 2, _ => e_mk_settleInto_2 | 3, _ => e_mk_settleInto_3 | j + 4, h => absurd h (by omega)
set_option maxRecDepth 100000 in
set_option maxHeartbeats 4000000 in
theorem e_x_clear {g : mz_G} {ex : Bool} {hT : List mz_E} {x_members : Int32} {x_collaterals : Nat → Int32} {x_hasSent : Nat → Int32} {x_isSealed : Nat → Int32} {x_metered : Nat → Int32} {x_sealedCount : Int32} {bk_counts : Nat → Int32} {bk_needs : Nat → Int64} {bk_whens : Nat → Int32} {bk_sides : Nat → Int32} {bk_quantities : Nat → Int32} {bk_limits : Nat → Int32} {ag_toldLies : Nat → Int32} {ag_passedLies : Nat → Int32} {ag_words : Nat → Int32} {ag_vectors : Nat → Int32} {ag_liarOperator : Int32} {ag_rounds : Int32} {mk_entries : Nat → Int32} {mk_slots : Nat → Int32} {mk_remainders : Nat → Int32} {mk_blocks : Nat → Int32} {mk_blockBids : Nat → Int32} {mk_blockOffers : Nat → Int32} {mk_entryCount : Int32} {mk_blockCount : Int32} {cv_limits : Nat → Nat → Int32} {cv_bids : Nat → Nat → Int32} {cv_offers : Nat → Nat → Int32} {cv_count : Nat → Int32} {cv_allBids : Nat → Int32} {cv_allOffers : Nat → Int32} {cv_meetingPrice : Nat → Int32} {cv_sureBids : Nat → Int32} {cv_sureOffers : Nat → Int32} {cv_priceBids : Nat → Int32} {cv_priceOffers : Nat → Int32} {cv_volume : Nat → Int32} {cv_worth : Nat → Int64} {oc_prices : Nat → Nat → Int32} {oc_volumes : Nat → Nat → Int32} {oc_filled : Nat → Nat → Int32} {oc_worth : Nat → Int64} {oc_takenSet : Nat → Int32} {oc_isDone : Nat → Int32} {x1 : Int32} : mz_M g M_x_clear 7 [.ref 0, .int x1] ex (HX x_members x_collaterals x_hasSent x_isSealed x_metered x_sealedCount bk_counts bk_needs bk_whens bk_sides bk_quantities bk_limits ag_toldLies ag_passedLies ag_words ag_vectors ag_liarOperator ag_rounds mk_entries mk_slots mk_remainders mk_blocks mk_blockBids mk_blockOffers mk_entryCount mk_blockCount cv_limits cv_bids cv_offers cv_count cv_allBids cv_allOffers cv_meetingPrice cv_sureBids cv_sureOffers cv_priceBids cv_priceOffers cv_volume cv_worth oc_prices oc_volumes oc_filled oc_worth oc_takenSet oc_isDone, hT) (f_x_clear x_members bk_counts bk_whens bk_sides bk_quantities bk_limits ag_vectors ag_rounds mk_entries mk_slots mk_remainders mk_blocks mk_blockBids mk_blockOffers mk_entryCount mk_blockCount cv_limits cv_bids cv_offers cv_count cv_allBids cv_allOffers cv_meetingPrice cv_sureBids cv_sureOffers cv_priceBids cv_priceOffers cv_volume cv_worth oc_prices oc_volumes oc_filled oc_worth oc_takenSet oc_isDone x1) (fun r => (r.1, some (.int r.2.1), mz_x ex r.1, (HX x_members x_collaterals x_hasSent x_isSealed x_metered x_sealedCount bk_counts bk_needs bk_whens bk_sides bk_quantities bk_limits ag_toldLies ag_passedLies ag_words ag_vectors ag_liarOperator ag_rounds r.2.2.1 r.2.2.2.1 r.2.2.2.2.1 r.2.2.2.2.2.1 r.2.2.2.2.2.2.1 r.2.2.2.2.2.2.2.1 r.2.2.2.2.2.2.2.2.1 r.2.2.2.2.2.2.2.2.2.1 r.2.2.2.2.2.2.2.2.2.2.1 r.2.2.2.2.2.2.2.2.2.2.2.1 r.2.2.2.2.2.2.2.2.2.2.2.2.1 r.2.2.2.2.2.2.2.2.2.2.2.2.2.1 r.2.2.2.2.2.2.2.2.2.2.2.2.2.2.1 r.2.2.2.2.2.2.2.2.2.2.2.2.2.2.2.1 r.2.2.2.2.2.2.2.2.2.2.2.2.2.2.2.2.1 r.2.2.2.2.2.2.2.2.2.2.2.2.2.2.2.2.2.1 r.2.2.2.2.2.2.2.2.2.2.2.2.2.2.2.2.2.2.1 r.2.2.2.2.2.2.2.2.2.2.2.2.2.2.2.2.2.2.2.1 r.2.2.2.2.2.2.2.2.2.2.2.2.2.2.2.2.2.2.2.2.1 r.2.2.2.2.2.2.2.2.2.2.2.2.2.2.2.2.2.2.2.2.2.1 r.2.2.2.2.2.2.2.2.2.2.2.2.2.2.2.2.2.2.2.2.2.2.1 r.2.2.2.2.2.2.2.2.2.2.2.2.2.2.2.2.2.2.2.2.2.2.2.1 r.2.2.2.2.2.2.2.2.2.2.2.2.2.2.2.2.2.2.2.2.2.2.2.2.1 r.2.2.2.2.2.2.2.2.2.2.2.2.2.2.2.2.2.2.2.2.2.2.2.2.2.1 r.2.2.2.2.2.2.2.2.2.2.2.2.2.2.2.2.2.2.2.2.2.2.2.2.2.2.1 r.2.2.2.2.2.2.2.2.2.2.2.2.2.2.2.2.2.2.2.2.2.2.2.2.2.2.2.1 r.2.2.2.2.2.2.2.2.2.2.2.2.2.2.2.2.2.2.2.2.2.2.2.2.2.2.2.2, hT), mz_k r.1, mz_6 r.1)) := by
  refine mz_of (by decide) (Nat.le_of_ble_eq_true rfl) ?_
  rw [f_x_clear]
  show mz_A g M_x_clear (mz_rm 7) _ 0 [(0, .ref 0), (1, .int x1)] [] ex (HX x_members x_collaterals x_hasSent x_isSealed x_metered x_sealedCount bk_counts bk_needs bk_whens bk_sides bk_quantities bk_limits ag_toldLies ag_passedLies ag_words ag_vectors ag_liarOperator ag_rounds mk_entries mk_slots mk_remainders mk_blocks mk_blockBids mk_blockOffers mk_entryCount mk_blockCount cv_limits cv_bids cv_offers cv_count cv_allBids cv_allOffers cv_meetingPrice cv_sureBids cv_sureOffers cv_priceBids cv_priceOffers cv_volume cv_worth oc_prices oc_volumes oc_filled oc_worth oc_takenSet oc_isDone, hT) 0 0 _
  refine mr_iload_n d_x_clear_0 rfl rfl ?_
  refine mz_go (st := []) e_x_isOperator (fun _ => rfl) U_x_isOperator (mz_vS d_x_clear_1 U_x_isOperator lk_m_x_95 S_x_isOperator np_x_isOperator) (Nat.le_of_ble_eq_true rfl) (by decide) (fun r1 => ?_)
  refine mr_eq (st' := [.int r1]) (ex' := ex) (h2 := (HX x_members x_collaterals x_hasSent x_isSealed x_metered x_sealedCount bk_counts bk_needs bk_whens bk_sides bk_quantities bk_limits ag_toldLies ag_passedLies ag_words ag_vectors ag_liarOperator ag_rounds mk_entries mk_slots mk_remainders mk_blocks mk_blockBids mk_blockOffers mk_entryCount mk_blockCount cv_limits cv_bids cv_offers cv_count cv_allBids cv_allOffers cv_meetingPrice cv_sureBids cv_sureOffers cv_priceBids cv_priceOffers cv_volume cv_worth oc_prices oc_volumes oc_filled oc_worth oc_takenSet oc_isDone, hT)) (k' := 0) (n' := 0) rfl rfl rfl rfl rfl ?_
  refine mr_if_ne (tgt := 17) d_x_clear_4 (by decide) ?_ ?_
  · refine mr_aload_n d_x_clear_17 rfl rfl ?_
    refine mr_get K_x 6 d_x_clear_18 lk_f_x_39 (by decide) rfl rfl ?_
    refine mz_go (st := []) e_ag_isOver (fun _ => rfl) U_ag_isOver (mz_vV d_x_clear_21 U_ag_isOver rfl lk_m_x_132 I_ag_isOver s_ag_isOver np_ag_isOver rfl rfl) (Nat.le_of_ble_eq_true rfl) (by decide) (fun r2 => ?_)
    refine mr_eq (st' := [.int r2]) (ex' := ex) (h2 := (HX x_members x_collaterals x_hasSent x_isSealed x_metered x_sealedCount bk_counts bk_needs bk_whens bk_sides bk_quantities bk_limits ag_toldLies ag_passedLies ag_words ag_vectors ag_liarOperator ag_rounds mk_entries mk_slots mk_remainders mk_blocks mk_blockBids mk_blockOffers mk_entryCount mk_blockCount cv_limits cv_bids cv_offers cv_count cv_allBids cv_allOffers cv_meetingPrice cv_sureBids cv_sureOffers cv_priceBids cv_priceOffers cv_volume cv_worth oc_prices oc_volumes oc_filled oc_worth oc_takenSet oc_isDone, hT)) (k' := 0) (n' := 0) rfl rfl rfl rfl rfl ?_
    refine mr_if_ne (tgt := 37) d_x_clear_24 (by decide) ?_ ?_
    · refine mr_aload_n d_x_clear_37 rfl rfl ?_
      refine mr_get K_x 8 d_x_clear_38 lk_f_x_52 (by decide) rfl rfl ?_
      refine mr_iload_n d_x_clear_41 rfl rfl ?_
      refine mr_aald d_x_clear_42 (fun _ => rfl) rfl (fun _ => rfl) (fun hc3 => ?_)
      refine mr_getN K_o 5 d_x_clear_43 lk_f_x_157 (by decide) (gt_o (mz_lt hc3)) rfl ?_
      refine mr_if_ne (tgt := 78) d_x_clear_46 (by decide) ?_ ?_
      · refine mr_aload_n d_x_clear_78 rfl rfl ?_
        refine mr_get K_x 8 d_x_clear_79 lk_f_x_52 (by decide) rfl rfl ?_
        refine mr_iload_n d_x_clear_82 rfl rfl ?_
        refine mr_aaldK d_x_clear_83 (fun _ => rfl) rfl hc3 rfl ?_
        refine mr_getN K_o 4 d_x_clear_84 lk_f_x_169 (by decide) (gt_o (mz_lt hc3)) rfl ?_
        exact mr_iret d_x_clear_87 rfl rfl
      · refine mr_aload_n d_x_clear_49 rfl rfl ?_
        refine mr_get K_x 7 d_x_clear_50 lk_f_x_46 (by decide) rfl rfl ?_
        refine mr_aload_n d_x_clear_53 rfl rfl ?_
        refine mr_get K_x 6 d_x_clear_54 lk_f_x_39 (by decide) rfl rfl ?_
        refine mr_iload_n d_x_clear_57 rfl rfl ?_
        refine mr_aload_n d_x_clear_58 rfl rfl ?_
        refine mr_get K_x 0 d_x_clear_59 lk_f_x_9 (by decide) rfl rfl ?_
        refine mz_go (st := []) e_mk_load (fun _ => rfl) U_mk_load (mz_vV d_x_clear_62 U_mk_load rfl lk_m_x_161 I_mk_load s_mk_load np_mk_load rfl rfl) (Nat.le_of_ble_eq_true rfl) (by decide) (fun r4 => ?_)
        refine mr_eq (st' := []) (ex' := ex) (h2 := (HX x_members x_collaterals x_hasSent x_isSealed x_metered x_sealedCount bk_counts bk_needs bk_whens bk_sides bk_quantities bk_limits ag_toldLies ag_passedLies ag_words ag_vectors ag_liarOperator ag_rounds r4.1 r4.2.1 mk_remainders r4.2.2.1 mk_blockBids mk_blockOffers r4.2.2.2.1 r4.2.2.2.2.1 r4.2.2.2.2.2.1 r4.2.2.2.2.2.2.1 r4.2.2.2.2.2.2.2.1 r4.2.2.2.2.2.2.2.2.1 r4.2.2.2.2.2.2.2.2.2.1 r4.2.2.2.2.2.2.2.2.2.2 cv_meetingPrice cv_sureBids cv_sureOffers cv_priceBids cv_priceOffers cv_volume cv_worth oc_prices oc_volumes oc_filled oc_worth oc_takenSet oc_isDone, hT)) (k' := 0) (n' := 0) rfl rfl rfl rfl rfl ?_
        refine mr_aload_n d_x_clear_65 rfl rfl ?_
        refine mr_get K_x 7 d_x_clear_66 lk_f_x_46 (by decide) rfl rfl ?_
        refine mr_aload_n d_x_clear_69 rfl rfl ?_
        refine mr_get K_x 8 d_x_clear_70 lk_f_x_52 (by decide) rfl rfl ?_
        refine mr_iload_n d_x_clear_73 rfl rfl ?_
        refine mr_aaldK d_x_clear_74 (fun _ => rfl) rfl hc3 rfl ?_
        refine mz_go (st := []) (e_mk_settleInto (mz_lt hc3)) (fun _ => rfl) U_mk_settleInto (mz_vV d_x_clear_75 U_mk_settleInto rfl lk_m_x_165 I_mk_settleInto s_mk_settleInto np_mk_settleInto rfl rfl) (Nat.le_of_ble_eq_true rfl) (by decide) (fun r5 => ?_)
        refine mr_eq (st' := []) (ex' := ex) (h2 := (HX x_members x_collaterals x_hasSent x_isSealed x_metered x_sealedCount bk_counts bk_needs bk_whens bk_sides bk_quantities bk_limits ag_toldLies ag_passedLies ag_words ag_vectors ag_liarOperator ag_rounds r4.1 r4.2.1 r5.1 r4.2.2.1 r5.2.1 r5.2.2.1 r4.2.2.2.1 r4.2.2.2.2.1 r4.2.2.2.2.2.1 r4.2.2.2.2.2.2.1 r4.2.2.2.2.2.2.2.1 r4.2.2.2.2.2.2.2.2.1 r4.2.2.2.2.2.2.2.2.2.1 r4.2.2.2.2.2.2.2.2.2.2 r5.2.2.2.1 r5.2.2.2.2.1 r5.2.2.2.2.2.1 r5.2.2.2.2.2.2.1 r5.2.2.2.2.2.2.2.1 r5.2.2.2.2.2.2.2.2.1 r5.2.2.2.2.2.2.2.2.2.1 (va_up oc_prices x1.toNatClampNeg r5.2.2.2.2.2.2.2.2.2.2.1) (va_up oc_volumes x1.toNatClampNeg r5.2.2.2.2.2.2.2.2.2.2.2.1) (va_up oc_filled x1.toNatClampNeg r5.2.2.2.2.2.2.2.2.2.2.2.2.1) (va_up oc_worth x1.toNatClampNeg r5.2.2.2.2.2.2.2.2.2.2.2.2.2.1) (va_up oc_takenSet x1.toNatClampNeg r5.2.2.2.2.2.2.2.2.2.2.2.2.2.2.1) (va_up oc_isDone x1.toNatClampNeg r5.2.2.2.2.2.2.2.2.2.2.2.2.2.2.2), hT)) (k' := 0) (n' := 0) rfl rfl rfl rfl rfl ?_
        refine mr_aload_n d_x_clear_78 rfl rfl ?_
        refine mr_get K_x 8 d_x_clear_79 lk_f_x_52 (by decide) rfl rfl ?_
        refine mr_iload_n d_x_clear_82 rfl rfl ?_
        refine mr_aaldK d_x_clear_83 (fun _ => rfl) rfl hc3 rfl ?_
        refine mr_getN K_o 4 d_x_clear_84 lk_f_x_169 (by decide) (gt_o (mz_lt hc3)) rfl ?_
        exact mr_iret d_x_clear_87 rfl rfl
    · exact mr_throw d_x_clear_27 d_x_clear_30 d_x_clear_31 d_x_clear_33 d_x_clear_36 tw_x_141_2 rfl (Nat.le_of_ble_eq_true rfl) (Nat.le_of_ble_eq_true rfl) (Nat.le_of_ble_eq_true rfl) (Nat.le_of_ble_eq_true rfl) rfl
  · exact mr_throw d_x_clear_7 d_x_clear_10 d_x_clear_11 d_x_clear_13 d_x_clear_16 tw_x_98_1 rfl (Nat.le_of_ble_eq_true rfl) (Nat.le_of_ble_eq_true rfl) (Nat.le_of_ble_eq_true rfl) (Nat.le_of_ble_eq_true rfl) rfl
