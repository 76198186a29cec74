set_option maxRecDepth 100000 in
set_option maxHeartbeats 4000000 in
theorem e_m_thrown {g : mz_G} {ex : Bool} {hT : List mz_E} {m_thrown : Int32} {m_n : Int32} {m_collateral : Nat → Int32} {m_many : Nat → Int32} {m_need : Nat → Int64} {m_isBlock : Nat → Int32} {m_hours : Nat → Int32} {m_side : Nat → Int32} {m_quantity : Nat → Int32} {m_limit : Nat → Int32} {m_sent : Nat → Int32} {m_sealed : Nat → Int32} {m_rounds : Int32} {m_liar : Int32} {m_told : Nat → Int32} {m_passed : Nat → Int32} {m_vectors : Nat → Int32} {m_meters : Nat → Int32} {m_cleared : Nat → Int32} {m_prices : Nat → Int32} {m_trades : Nat → Int32} {m_fills : Nat → Int32} {m_welfares : Nat → Int64} {m_orderEntry : Nat → Int32} {m_orderFill : Nat → Int32} {m_orders : Int32} {m_blockEntry : Nat → Int32} {m_blockFill : Nat → Int32} {m_blocks : Int32} {m_price : Nat → Int32} {m_trade : Nat → Int32} {m_filled : Nat → Int32} {m_rest : Nat → Int64} {m_out : Nat → Int64} : mz_M g M_m_thrown 0 [.ref 54] ex (hT, HM m_thrown m_n m_collateral m_many m_need m_isBlock m_hours m_side m_quantity m_limit m_sent m_sealed m_rounds m_liar m_told m_passed m_vectors m_meters m_cleared m_prices m_trades m_fills m_welfares m_orderEntry m_orderFill m_orders m_blockEntry m_blockFill m_blocks m_price m_trade m_filled m_rest m_out) (f_m_thrown m_thrown) (fun r => (0, some (.int r), ex, (hT, HM m_thrown m_n m_collateral m_many m_need m_isBlock m_hours m_side m_quantity m_limit m_sent m_sealed m_rounds m_liar m_told m_passed m_vectors m_meters m_cleared m_prices m_trades m_fills m_welfares m_orderEntry m_orderFill m_orders m_blockEntry m_blockFill m_blocks m_price m_trade m_filled m_rest m_out), 0, 0)) := by
  refine mz_of (by decide) (Nat.le_of_ble_eq_true rfl) ?_
  rw [f_m_thrown]
  show mz_A g M_m_thrown (mz_rm 0) _ 0 [(0, .ref 54)] [] ex (hT, HM m_thrown m_n m_collateral m_many m_need m_isBlock m_hours m_side m_quantity m_limit m_sent m_sealed m_rounds m_liar m_told m_passed m_vectors m_meters m_cleared m_prices m_trades m_fills m_welfares m_orderEntry m_orderFill m_orders m_blockEntry m_blockFill m_blocks m_price m_trade m_filled m_rest m_out) 0 0 _
  refine mr_aload_n d_m_thrown_0 rfl rfl ?_
  refine mr_get K_m 0 d_m_thrown_1 lk_f_m_103 (by decide) rfl rfl ?_
  exact mr_iret d_m_thrown_4 rfl rfl
set_option maxRecDepth 100000 in
set_option maxHeartbeats 4000000 in
theorem e_m_throwing {g : mz_G} {ex : Bool} {hT : List mz_E} {m_thrown : Int32} {m_n : Int32} {m_collateral : Nat → Int32} {m_many : Nat → Int32} {m_need : Nat → Int64} {m_isBlock : Nat → Int32} {m_hours : Nat → Int32} {m_side : Nat → Int32} {m_quantity : Nat → Int32} {m_limit : Nat → Int32} {m_sent : Nat → Int32} {m_sealed : Nat → Int32} {m_rounds : Int32} {m_liar : Int32} {m_told : Nat → Int32} {m_passed : Nat → Int32} {m_vectors : Nat → Int32} {m_meters : Nat → Int32} {m_cleared : Nat → Int32} {m_prices : Nat → Int32} {m_trades : Nat → Int32} {m_fills : Nat → Int32} {m_welfares : Nat → Int64} {m_orderEntry : Nat → Int32} {m_orderFill : Nat → Int32} {m_orders : Int32} {m_blockEntry : Nat → Int32} {m_blockFill : Nat → Int32} {m_blocks : Int32} {m_price : Nat → Int32} {m_trade : Nat → Int32} {m_filled : Nat → Int32} {m_rest : Nat → Int64} {m_out : Nat → Int64} {x1 : Int32} {x2 : Int32} : mz_M g M_m_throwing 0 [.ref 54, .int x1, .int x2] ex (hT, HM m_thrown m_n m_collateral m_many m_need m_isBlock m_hours m_side m_quantity m_limit m_sent m_sealed m_rounds m_liar m_told m_passed m_vectors m_meters m_cleared m_prices m_trades m_fills m_welfares m_orderEntry m_orderFill m_orders m_blockEntry m_blockFill m_blocks m_price m_trade m_filled m_rest m_out) (f_m_throwing m_thrown x1 x2) (fun r => (0, some (.int r.1), ex, (hT, HM r.2 m_n m_collateral m_many m_need m_isBlock m_hours m_side m_quantity m_limit m_sent m_sealed m_rounds m_liar m_told m_passed m_vectors m_meters m_cleared m_prices m_trades m_fills m_welfares m_orderEntry m_orderFill m_orders m_blockEntry m_blockFill m_blocks m_price m_trade m_filled m_rest m_out), 0, 0)) := by
  have w_b18 : ∀ (m_thrown : Int32) (s1 : Int32), mz_A g M_m_throwing (mz_rm 0) (fun r => (0, some (.int r.1), ex, (hT, HM r.2 m_n m_collateral m_many m_need m_isBlock m_hours m_side m_quantity m_limit m_sent m_sealed m_rounds m_liar m_told m_passed m_vectors m_meters m_cleared m_prices m_trades m_fills m_welfares m_orderEntry m_orderFill m_orders m_blockEntry m_blockFill m_blocks m_price m_trade m_filled m_rest m_out), 0, 0)) 18 [(0, .ref 54)] [.int s1, .ref 54] ex (hT, HM m_thrown m_n m_collateral m_many m_need m_isBlock m_hours m_side m_quantity m_limit m_sent m_sealed m_rounds m_liar m_told m_passed m_vectors m_meters m_cleared m_prices m_trades m_fills m_welfares m_orderEntry m_orderFill m_orders m_blockEntry m_blockFill m_blocks m_price m_trade m_filled m_rest m_out) 0 0 (f_m_throwing_b18 m_thrown s1) := by
    intro  m_thrown s1
    rw [f_m_throwing_b18]
    refine mr_put (h2 := (hT, HM s1 m_n m_collateral m_many m_need m_isBlock m_hours m_side m_quantity m_limit m_sent m_sealed m_rounds m_liar m_told m_passed m_vectors m_meters m_cleared m_prices m_trades m_fills m_welfares m_orderEntry m_orderFill m_orders m_blockEntry m_blockFill m_blocks m_price m_trade m_filled m_rest m_out)) K_m 0 d_m_throwing_18 lk_f_m_103 (by decide) rfl rfl rfl (Nat.le_of_ble_eq_true rfl) rfl rfl ?_
    refine mr_aload_n d_m_throwing_21 rfl rfl ?_
    refine mr_get K_m 0 d_m_throwing_22 lk_f_m_103 (by decide) rfl rfl ?_
    refine mr_if_le (tgt := 32) d_m_throwing_25 (by decide) ?_ ?_
    · refine mr_iconst (v := 0) d_m_throwing_32 mc_iconst_0 ?_
      exact mr_zret d_m_throwing_33 rfl rfl
    · refine mr_iconst (v := 1) d_m_throwing_28 mc_iconst_1 ?_
      refine mr_goto (tgt := 33) d_m_throwing_29 (by decide) ?_
      exact mr_zret d_m_throwing_33 rfl rfl
  refine mz_of (by decide) (Nat.le_of_ble_eq_true rfl) ?_
  rw [f_m_throwing]
  show mz_A g M_m_throwing (mz_rm 0) _ 0 [(0, .ref 54), (1, .int x1), (2, .int x2)] [] ex (hT, HM m_thrown m_n m_collateral m_many m_need m_isBlock m_hours m_side m_quantity m_limit m_sent m_sealed m_rounds m_liar m_told m_passed m_vectors m_meters m_cleared m_prices m_trades m_fills m_welfares m_orderEntry m_orderFill m_orders m_blockEntry m_blockFill m_blocks m_price m_trade m_filled m_rest m_out) 0 0 _
  refine mr_aload_n d_m_throwing_0 rfl rfl ?_
  refine mr_iload_n d_m_throwing_1 rfl rfl ?_
  refine mr_if_eq (tgt := 9) d_m_throwing_2 (by decide) ?_ ?_
  · refine mr_iload_n d_m_throwing_9 rfl rfl ?_
    refine mr_if_eq (tgt := 17) d_m_throwing_10 (by decide) ?_ ?_
    · refine mr_iconst (v := 0) d_m_throwing_17 mc_iconst_0 ?_
      refine mr_sub (lv' := [(0, .ref 54)]) [0] rfl ?_
      exact w_b18 _ _
    · refine mr_iconst (v := 2) d_m_throwing_13 mc_iconst_2 ?_
      refine mr_goto (tgt := 18) d_m_throwing_14 (by decide) ?_
      refine mr_sub (lv' := [(0, .ref 54)]) [0] rfl ?_
      exact w_b18 _ _
  · refine mr_iconst (v := 1) d_m_throwing_5 mc_iconst_1 ?_
    refine mr_goto (tgt := 18) d_m_throwing_6 (by decide) ?_
    refine mr_sub (lv' := [(0, .ref 54)]) [0] rfl ?_
    exact w_b18 _ _
set_option maxRecDepth 100000 in
set_option maxHeartbeats 4000000 in
theorem e_m_in {g : mz_G} {ex : Bool} {h : mz_H} {x0 : Int64} {x2 : Int64} {x4 : Int64} : mz_M g M_m_in 0 [.long x0, .long x2, .long x4] ex h (f_m_in x0 x2 x4) (fun r => (0, some (.int r), ex, h, 0, 0)) := by
  refine mz_of (by decide) (Nat.le_of_ble_eq_true rfl) ?_
  rw [f_m_in]
  show mz_A g M_m_in (mz_rm 0) _ 0 [(0, .long x0), (2, .long x2), (4, .long x4)] [] ex h 0 0 _
  refine mr_lload_n d_m_in_0 rfl rfl ?_
  refine mr_lload_n d_m_in_1 rfl rfl ?_
  refine mr_lcmp d_m_in_2 ?_
  refine mr_if_lt (tgt := 17) d_m_in_3 (by decide) ?_ ?_
  · refine mr_iconst (v := 0) d_m_in_17 mc_iconst_0 ?_
    exact mr_zret d_m_in_18 rfl rfl
  · refine mr_lload_n d_m_in_6 rfl rfl ?_
    refine mr_lload d_m_in_7 rfl ?_
    refine mr_lcmp d_m_in_9 ?_
    refine mr_if_gt (tgt := 17) d_m_in_10 (by decide) ?_ ?_
    · refine mr_iconst (v := 0) d_m_in_17 mc_iconst_0 ?_
      exact mr_zret d_m_in_18 rfl rfl
    · refine mr_iconst (v := 1) d_m_in_13 mc_iconst_1 ?_
      refine mr_goto (tgt := 18) d_m_in_14 (by decide) ?_
      exact mr_zret d_m_in_18 rfl rfl
set_option maxRecDepth 100000 in
set_option maxHeartbeats 4000000 in
theorem e_m_isMember {g : mz_G} {ex : Bool} {hT : List mz_E} {m_thrown : Int32} {m_n : Int32} {m_collateral : Nat → Int32} {m_many : Nat → Int32} {m_need : Nat → Int64} {m_isBlock : Nat → Int32} {m_hours : Nat → Int32} {m_side : Nat → Int32} {m_quantity : Nat → Int32} {m_limit : Nat → Int32} {m_sent : Nat → Int32} {m_sealed : Nat → Int32} {m_rounds : Int32} {m_liar : Int32} {m_told : Nat → Int32} {m_passed : Nat → Int32} {m_vectors : Nat → Int32} {m_meters : Nat → Int32} {m_cleared : Nat → Int32} {m_prices : Nat → Int32} {m_trades : Nat → Int32} {m_fills : Nat → Int32} {m_welfares : Nat → Int64} {m_orderEntry : Nat → Int32} {m_orderFill : Nat → Int32} {m_orders : Int32} {m_blockEntry : Nat → Int32} {m_blockFill : Nat → Int32} {m_blocks : Int32} {m_price : Nat → Int32} {m_trade : Nat → Int32} {m_filled : Nat → Int32} {m_rest : Nat → Int64} {m_out : Nat → Int64} {x1 : Int32} : mz_M g M_m_isMember 1 [.ref 54, .int x1] ex (hT, HM m_thrown m_n m_collateral m_many m_need m_isBlock m_hours m_side m_quantity m_limit m_sent m_sealed m_rounds m_liar m_told m_passed m_vectors m_meters m_cleared m_prices m_trades m_fills m_welfares m_orderEntry m_orderFill m_orders m_blockEntry m_blockFill m_blocks m_price m_trade m_filled m_rest m_out) (f_m_isMember m_n x1) (fun r => (0, some (.int r), ex, (hT, HM m_thrown m_n m_collateral m_many m_need m_isBlock m_hours m_side m_quantity m_limit m_sent m_sealed m_rounds m_liar m_told m_passed m_vectors m_meters m_cleared m_prices m_trades m_fills m_welfares m_orderEntry m_orderFill m_orders m_blockEntry m_blockFill m_blocks m_price m_trade m_filled m_rest m_out), 0, 0)) := by
  refine mz_of (by decide) (Nat.le_of_ble_eq_true rfl) ?_
  rw [f_m_isMember]
  show mz_A g M_m_isMember (mz_rm 1) _ 0 [(0, .ref 54), (1, .int x1)] [] ex (hT, HM m_thrown m_n m_collateral m_many m_need m_isBlock m_hours m_side m_quantity m_limit m_sent m_sealed m_rounds m_liar m_told m_passed m_vectors m_meters m_cleared m_prices m_trades m_fills m_welfares m_orderEntry m_orderFill m_orders m_blockEntry m_blockFill m_blocks m_price m_trade m_filled m_rest m_out) 0 0 _
  refine mr_iload_n d_m_isMember_0 rfl rfl ?_
  refine mr_i2l d_m_isMember_1 ?_
  refine mr_lconst (v := 0) d_m_isMember_2 mc_lconst_0 ?_
  refine mr_aload_n d_m_isMember_3 rfl rfl ?_
  refine mr_get K_m 1 d_m_isMember_4 lk_f_m_97 (by decide) rfl rfl ?_
  refine mr_iconst (v := 1) d_m_isMember_7 mc_iconst_1 ?_
  refine mr_isub d_m_isMember_8 ?_
  refine mr_i2l d_m_isMember_9 ?_
  refine mz_go (st := []) e_m_in (fun _ => rfl) U_m_in (mz_vS d_m_isMember_10 U_m_in lk_m_m_106 S_m_in np_m_in) (Nat.le_of_ble_eq_true rfl) (by decide) (fun r1 => ?_)
  refine mr_eq (st' := [.int r1]) (ex' := ex) (h2 := (hT, HM m_thrown m_n m_collateral m_many m_need m_isBlock m_hours m_side m_quantity m_limit m_sent m_sealed m_rounds m_liar m_told m_passed m_vectors m_meters m_cleared m_prices m_trades m_fills m_welfares m_orderEntry m_orderFill m_orders m_blockEntry m_blockFill m_blocks m_price m_trade m_filled m_rest m_out)) (k' := 0) (n' := 0) rfl rfl rfl rfl rfl ?_
  exact mr_zret d_m_isMember_13 rfl rfl
set_option maxRecDepth 100000 in
set_option maxHeartbeats 4000000 in
theorem e_m_forget {g : mz_G} {ex : Bool} {hT : List mz_E} {m_thrown : Int32} {m_n : Int32} {m_collateral : Nat → Int32} {m_many : Nat → Int32} {m_need : Nat → Int64} {m_isBlock : Nat → Int32} {m_hours : Nat → Int32} {m_side : Nat → Int32} {m_quantity : Nat → Int32} {m_limit : Nat → Int32} {m_sent : Nat → Int32} {m_sealed : Nat → Int32} {m_rounds : Int32} {m_liar : Int32} {m_told : Nat → Int32} {m_passed : Nat → Int32} {m_vectors : Nat → Int32} {m_meters : Nat → Int32} {m_cleared : Nat → Int32} {m_prices : Nat → Int32} {m_trades : Nat → Int32} {m_fills : Nat → Int32} {m_welfares : Nat → Int64} {m_orderEntry : Nat → Int32} {m_orderFill : Nat → Int32} {m_orders : Int32} {m_blockEntry : Nat → Int32} {m_blockFill : Nat → Int32} {m_blocks : Int32} {m_price : Nat → Int32} {m_trade : Nat → Int32} {m_filled : Nat → Int32} {m_rest : Nat → Int64} {m_out : Nat → Int64} : mz_M g M_m_forget 0 [.ref 54] ex (hT, HM m_thrown m_n m_collateral m_many m_need m_isBlock m_hours m_side m_quantity m_limit m_sent m_sealed m_rounds m_liar m_told m_passed m_vectors m_meters m_cleared m_prices m_trades m_fills m_welfares m_orderEntry m_orderFill m_orders m_blockEntry m_blockFill m_blocks m_price m_trade m_filled m_rest m_out) (f_m_forget m_many m_need m_sent m_sealed m_rounds m_liar m_told m_passed m_meters m_cleared) (fun r => (0, none, ex, (hT, HM m_thrown m_n m_collateral r.1 r.2.1 m_isBlock m_hours m_side m_quantity m_limit r.2.2.1 r.2.2.2.1 r.2.2.2.2.1 r.2.2.2.2.2.1 r.2.2.2.2.2.2.1 r.2.2.2.2.2.2.2.1 m_vectors r.2.2.2.2.2.2.2.2.1 r.2.2.2.2.2.2.2.2.2 m_prices m_trades m_fills m_welfares m_orderEntry m_orderFill m_orders m_blockEntry m_blockFill m_blocks m_price m_trade m_filled m_rest m_out), 0, 0)) := by
  have w_L109 : ∀ (n : Nat) (m_many : Nat → Int32) (m_need : Nat → Int64) (m_sent : Nat → Int32) (m_sealed : Nat → Int32) (m_rounds : Int32) (m_liar : Int32) (m_told : Nat → Int32) (m_passed : Nat → Int32) (m_meters : Nat → Int32) (m_cleared : Nat → Int32) (x1 : Int32), mz_A g M_m_forget (mz_rm 0) (fun r => (0, none, ex, (hT, HM m_thrown m_n m_collateral r.1 r.2.1 m_isBlock m_hours m_side m_quantity m_limit r.2.2.1 r.2.2.2.1 r.2.2.2.2.1 r.2.2.2.2.2.1 r.2.2.2.2.2.2.1 r.2.2.2.2.2.2.2.1 m_vectors r.2.2.2.2.2.2.2.2.1 r.2.2.2.2.2.2.2.2.2 m_prices m_trades m_fills m_welfares m_orderEntry m_orderFill m_orders m_blockEntry m_blockFill m_blocks m_price m_trade m_filled m_rest m_out), 0, 0)) 109 [(0, .ref 54), (1, .int x1)] [] ex (hT, HM m_thrown m_n m_collateral m_many m_need m_isBlock m_hours m_side m_quantity m_limit m_sent m_sealed m_rounds m_liar m_told m_passed m_vectors m_meters m_cleared m_prices m_trades m_fills m_welfares m_orderEntry m_orderFill m_orders m_blockEntry m_blockFill m_blocks m_price m_trade m_filled m_rest m_out) 0 0 (f_m_forget_L109 n m_many m_need m_sent m_sealed m_rounds m_liar m_told m_passed m_meters m_cleared x1) := by
    intro n
    induction n with
    | zero => intro m_many m_need m_sent m_sealed m_rounds m_liar m_told m_passed m_meters m_cleared x1; exact mr_none
    | succ n ih =>
      intro m_many m_need m_sent m_sealed m_rounds m_liar m_told m_passed m_meters m_cleared x1
      rw [f_m_forget_L109]
      refine mr_iload_n d_m_forget_109 rfl rfl ?_
      refine mr_iconst (v := 4) d_m_forget_110 mc_iconst_4 ?_
      refine mr_icmp_ge (tgt := 127) d_m_forget_111 (by decide) ?_ ?_
      · refine mr_aload_n d_m_forget_127 rfl rfl ?_
        refine mr_iconst (v := 0) d_m_forget_128 mc_iconst_0 ?_
        refine mr_put (h2 := (hT, HM m_thrown m_n m_collateral m_many m_need m_isBlock m_hours m_side m_quantity m_limit m_sent m_sealed 0 m_liar m_told m_passed m_vectors m_meters m_cleared m_prices m_trades m_fills m_welfares m_orderEntry m_orderFill m_orders m_blockEntry m_blockFill m_blocks m_price m_trade m_filled m_rest m_out)) K_m 12 d_m_forget_129 lk_f_m_110 (by decide) rfl rfl rfl (Nat.le_of_ble_eq_true rfl) rfl rfl ?_
        refine mr_aload_n d_m_forget_132 rfl rfl ?_
        refine mr_iconst (v := (-1)) d_m_forget_133 mc_iconst_m1 ?_
        refine mr_put (h2 := (hT, HM m_thrown m_n m_collateral m_many m_need m_isBlock m_hours m_side m_quantity m_limit m_sent m_sealed 0 (-1) m_told m_passed m_vectors m_meters m_cleared m_prices m_trades m_fills m_welfares m_orderEntry m_orderFill m_orders m_blockEntry m_blockFill m_blocks m_price m_trade m_filled m_rest m_out)) K_m 13 d_m_forget_134 lk_f_m_42 (by decide) rfl rfl rfl (Nat.le_of_ble_eq_true rfl) rfl rfl ?_
        exact mr_vret d_m_forget_137 rfl rfl
      · refine mr_aload_n d_m_forget_114 rfl rfl ?_
        refine mr_get K_m 18 d_m_forget_115 lk_f_m_58 (by decide) rfl rfl ?_
        refine mr_iload_n d_m_forget_118 rfl rfl ?_
        refine mr_iconst (v := 0) d_m_forget_119 mc_iconst_0 ?_
        refine mr_zast (h2 := (hT, HM m_thrown m_n m_collateral m_many m_need m_isBlock m_hours m_side m_quantity m_limit m_sent m_sealed m_rounds m_liar m_told m_passed m_vectors m_meters (upd m_cleared x1.toNatClampNeg (vp_nar .boolean 0)) m_prices m_trades m_fills m_welfares m_orderEntry m_orderFill m_orders m_blockEntry m_blockFill m_blocks m_price m_trade m_filled m_rest m_out)) d_m_forget_120 rfl rfl (fun hc5 => ?_)
        refine mr_iinc (v := (x1 + 1)) (lv' := [(1, .int (x1 + 1)), (0, .ref 54)]) d_m_forget_121 rfl rfl (by decide) rfl ?_
        refine mr_goto (tgt := 109) d_m_forget_124 (by decide) ?_
        refine mr_sub (lv' := [(0, .ref 54), (1, .int (x1 + 1))]) [1, 0] rfl ?_
        exact ih _ _ _ _ _ _ _ _ _ _ _
  have w_L88 : ∀ (n : Nat) (m_many : Nat → Int32) (m_need : Nat → Int64) (m_sent : Nat → Int32) (m_sealed : Nat → Int32) (m_rounds : Int32) (m_liar : Int32) (m_told : Nat → Int32) (m_passed : Nat → Int32) (m_meters : Nat → Int32) (m_cleared : Nat → Int32) (x1 : Int32), mz_A g M_m_forget (mz_rm 0) (fun r => (0, none, ex, (hT, HM m_thrown m_n m_collateral r.1 r.2.1 m_isBlock m_hours m_side m_quantity m_limit r.2.2.1 r.2.2.2.1 r.2.2.2.2.1 r.2.2.2.2.2.1 r.2.2.2.2.2.2.1 r.2.2.2.2.2.2.2.1 m_vectors r.2.2.2.2.2.2.2.2.1 r.2.2.2.2.2.2.2.2.2 m_prices m_trades m_fills m_welfares m_orderEntry m_orderFill m_orders m_blockEntry m_blockFill m_blocks m_price m_trade m_filled m_rest m_out), 0, 0)) 88 [(0, .ref 54), (1, .int x1)] [] ex (hT, HM m_thrown m_n m_collateral m_many m_need m_isBlock m_hours m_side m_quantity m_limit m_sent m_sealed m_rounds m_liar m_told m_passed m_vectors m_meters m_cleared m_prices m_trades m_fills m_welfares m_orderEntry m_orderFill m_orders m_blockEntry m_blockFill m_blocks m_price m_trade m_filled m_rest m_out) 0 0 (f_m_forget_L88 n m_many m_need m_sent m_sealed m_rounds m_liar m_told m_passed m_meters m_cleared x1) := by
    intro n
    induction n with
    | zero => intro m_many m_need m_sent m_sealed m_rounds m_liar m_told m_passed m_meters m_cleared x1; exact mr_none
    | succ n ih =>
      intro m_many m_need m_sent m_sealed m_rounds m_liar m_told m_passed m_meters m_cleared x1
      rw [f_m_forget_L88]
      refine mr_iload_n d_m_forget_88 rfl rfl ?_
      refine mr_bipush (v := 18) d_m_forget_89 mc_bipush_18 ?_
      refine mr_icmp_ge (tgt := 107) d_m_forget_91 (by decide) ?_ ?_
      · refine mr_iconst (v := 0) d_m_forget_107 mc_iconst_0 ?_
        refine mr_istore_n (lv' := [(1, .int 0), (0, .ref 54)]) d_m_forget_108 rfl (by decide) rfl ?_
        refine mr_sub (lv' := [(0, .ref 54), (1, .int 0)]) [1, 0] rfl ?_
        exact w_L109 1000 _ _ _ _ _ _ _ _ _ _ _
      · refine mr_aload_n d_m_forget_94 rfl rfl ?_
        refine mr_get K_m 17 d_m_forget_95 lk_f_m_55 (by decide) rfl rfl ?_
        refine mr_iload_n d_m_forget_98 rfl rfl ?_
        refine mr_iconst (v := 0) d_m_forget_99 mc_iconst_0 ?_
        refine mr_iast (h2 := (hT, HM m_thrown m_n m_collateral m_many m_need m_isBlock m_hours m_side m_quantity m_limit m_sent m_sealed m_rounds m_liar m_told m_passed m_vectors (upd m_meters x1.toNatClampNeg 0) m_cleared m_prices m_trades m_fills m_welfares m_orderEntry m_orderFill m_orders m_blockEntry m_blockFill m_blocks m_price m_trade m_filled m_rest m_out)) d_m_forget_100 rfl rfl (fun hc4 => ?_)
        refine mr_iinc (v := (x1 + 1)) (lv' := [(1, .int (x1 + 1)), (0, .ref 54)]) d_m_forget_101 rfl rfl (by decide) rfl ?_
        refine mr_goto (tgt := 88) d_m_forget_104 (by decide) ?_
        refine mr_sub (lv' := [(0, .ref 54), (1, .int (x1 + 1))]) [1, 0] rfl ?_
        exact ih _ _ _ _ _ _ _ _ _ _ _
  have w_L60 : ∀ (n : Nat) (m_many : Nat → Int32) (m_need : Nat → Int64) (m_sent : Nat → Int32) (m_sealed : Nat → Int32) (m_rounds : Int32) (m_liar : Int32) (m_told : Nat → Int32) (m_passed : Nat → Int32) (m_meters : Nat → Int32) (m_cleared : Nat → Int32) (x1 : Int32), mz_A g M_m_forget (mz_rm 0) (fun r => (0, none, ex, (hT, HM m_thrown m_n m_collateral r.1 r.2.1 m_isBlock m_hours m_side m_quantity m_limit r.2.2.1 r.2.2.2.1 r.2.2.2.2.1 r.2.2.2.2.2.1 r.2.2.2.2.2.2.1 r.2.2.2.2.2.2.2.1 m_vectors r.2.2.2.2.2.2.2.2.1 r.2.2.2.2.2.2.2.2.2 m_prices m_trades m_fills m_welfares m_orderEntry m_orderFill m_orders m_blockEntry m_blockFill m_blocks m_price m_trade m_filled m_rest m_out), 0, 0)) 60 [(0, .ref 54), (1, .int x1)] [] ex (hT, HM m_thrown m_n m_collateral m_many m_need m_isBlock m_hours m_side m_quantity m_limit m_sent m_sealed m_rounds m_liar m_told m_passed m_vectors m_meters m_cleared m_prices m_trades m_fills m_welfares m_orderEntry m_orderFill m_orders m_blockEntry m_blockFill m_blocks m_price m_trade m_filled m_rest m_out) 0 0 (f_m_forget_L60 n m_many m_need m_sent m_sealed m_rounds m_liar m_told m_passed m_meters m_cleared x1) := by
    intro n
    induction n with
    | zero => intro m_many m_need m_sent m_sealed m_rounds m_liar m_told m_passed m_meters m_cleared x1; exact mr_none
    | succ n ih =>
      intro m_many m_need m_sent m_sealed m_rounds m_liar m_told m_passed m_meters m_cleared x1
      rw [f_m_forget_L60]
      refine mr_iload_n d_m_forget_60 rfl rfl ?_
      refine mr_bipush (v := 6) d_m_forget_61 mc_bipush_6 ?_
      refine mr_icmp_ge (tgt := 86) d_m_forget_63 (by decide) ?_ ?_
      · refine mr_iconst (v := 0) d_m_forget_86 mc_iconst_0 ?_
        refine mr_istore_n (lv' := [(1, .int 0), (0, .ref 54)]) d_m_forget_87 rfl (by decide) rfl ?_
        refine mr_sub (lv' := [(0, .ref 54), (1, .int 0)]) [1, 0] rfl ?_
        exact w_L88 1000 _ _ _ _ _ _ _ _ _ _ _
      · refine mr_aload_n d_m_forget_66 rfl rfl ?_
        refine mr_get K_m 10 d_m_forget_67 lk_f_m_36 (by decide) rfl rfl ?_
        refine mr_iload_n d_m_forget_70 rfl rfl ?_
        refine mr_iconst (v := 0) d_m_forget_71 mc_iconst_0 ?_
        refine mr_zast (h2 := (hT, HM m_thrown m_n m_collateral m_many m_need m_isBlock m_hours m_side m_quantity m_limit (upd m_sent x1.toNatClampNeg (vp_nar .boolean 0)) m_sealed m_rounds m_liar m_told m_passed m_vectors m_meters m_cleared m_prices m_trades m_fills m_welfares m_orderEntry m_orderFill m_orders m_blockEntry m_blockFill m_blocks m_price m_trade m_filled m_rest m_out)) d_m_forget_72 rfl rfl (fun hc3 => ?_)
        refine mr_aload_n d_m_forget_73 rfl rfl ?_
        refine mr_get K_m 11 d_m_forget_74 lk_f_m_39 (by decide) rfl rfl ?_
        refine mr_iload_n d_m_forget_77 rfl rfl ?_
        refine mr_iconst (v := 0) d_m_forget_78 mc_iconst_0 ?_
        refine mr_zastK (h2 := (hT, HM m_thrown m_n m_collateral m_many m_need m_isBlock m_hours m_side m_quantity m_limit (upd m_sent x1.toNatClampNeg (vp_nar .boolean 0)) (upd m_sealed x1.toNatClampNeg (vp_nar .boolean 0)) m_rounds m_liar m_told m_passed m_vectors m_meters m_cleared m_prices m_trades m_fills m_welfares m_orderEntry m_orderFill m_orders m_blockEntry m_blockFill m_blocks m_price m_trade m_filled m_rest m_out)) d_m_forget_79 rfl rfl hc3 ?_
        refine mr_iinc (v := (x1 + 1)) (lv' := [(1, .int (x1 + 1)), (0, .ref 54)]) d_m_forget_80 rfl rfl (by decide) rfl ?_
        refine mr_goto (tgt := 60) d_m_forget_83 (by decide) ?_
        refine mr_sub (lv' := [(0, .ref 54), (1, .int (x1 + 1))]) [1, 0] rfl ?_
        exact ih _ _ _ _ _ _ _ _ _ _ _
  have w_L38 : ∀ (n : Nat) (m_many : Nat → Int32) (m_need : Nat → Int64) (m_sent : Nat → Int32) (m_sealed : Nat → Int32) (m_rounds : Int32) (m_liar : Int32) (m_told : Nat → Int32) (m_passed : Nat → Int32) (m_meters : Nat → Int32) (m_cleared : Nat → Int32) (x1 : Int32), mz_A g M_m_forget (mz_rm 0) (fun r => (0, none, ex, (hT, HM m_thrown m_n m_collateral r.1 r.2.1 m_isBlock m_hours m_side m_quantity m_limit r.2.2.1 r.2.2.2.1 r.2.2.2.2.1 r.2.2.2.2.2.1 r.2.2.2.2.2.2.1 r.2.2.2.2.2.2.2.1 m_vectors r.2.2.2.2.2.2.2.2.1 r.2.2.2.2.2.2.2.2.2 m_prices m_trades m_fills m_welfares m_orderEntry m_orderFill m_orders m_blockEntry m_blockFill m_blocks m_price m_trade m_filled m_rest m_out), 0, 0)) 38 [(0, .ref 54), (1, .int x1)] [] ex (hT, HM m_thrown m_n m_collateral m_many m_need m_isBlock m_hours m_side m_quantity m_limit m_sent m_sealed m_rounds m_liar m_told m_passed m_vectors m_meters m_cleared m_prices m_trades m_fills m_welfares m_orderEntry m_orderFill m_orders m_blockEntry m_blockFill m_blocks m_price m_trade m_filled m_rest m_out) 0 0 (f_m_forget_L38 n m_many m_need m_sent m_sealed m_rounds m_liar m_told m_passed m_meters m_cleared x1) := by
    intro n
    induction n with
    | zero => intro m_many m_need m_sent m_sealed m_rounds m_liar m_told m_passed m_meters m_cleared x1; exact mr_none
    | succ n ih =>
      intro m_many m_need m_sent m_sealed m_rounds m_liar m_told m_passed m_meters m_cleared x1
      rw [f_m_forget_L38]
      refine mr_iload_n d_m_forget_38 rfl rfl ?_
      refine mr_bipush (v := 96) d_m_forget_39 mc_bipush_96 ?_
      refine mr_icmp_ge (tgt := 58) d_m_forget_41 (by decide) ?_ ?_
      · refine mr_iconst (v := 0) d_m_forget_58 mc_iconst_0 ?_
        refine mr_istore_n (lv' := [(1, .int 0), (0, .ref 54)]) d_m_forget_59 rfl (by decide) rfl ?_
        refine mr_sub (lv' := [(0, .ref 54), (1, .int 0)]) [1, 0] rfl ?_
        exact w_L60 1000 _ _ _ _ _ _ _ _ _ _ _
      · refine mr_aload_n d_m_forget_44 rfl rfl ?_
        refine mr_get K_m 15 d_m_forget_45 lk_f_m_49 (by decide) rfl rfl ?_
        refine mr_iload_n d_m_forget_48 rfl rfl ?_
        refine mr_bipush (v := (-2)) d_m_forget_49 mc_bipush_m2 ?_
        refine mr_iast (h2 := (hT, HM m_thrown m_n m_collateral m_many m_need m_isBlock m_hours m_side m_quantity m_limit m_sent m_sealed m_rounds m_liar m_told (upd m_passed x1.toNatClampNeg (-2)) m_vectors m_meters m_cleared m_prices m_trades m_fills m_welfares m_orderEntry m_orderFill m_orders m_blockEntry m_blockFill m_blocks m_price m_trade m_filled m_rest m_out)) d_m_forget_51 rfl rfl (fun hc2 => ?_)
        refine mr_iinc (v := (x1 + 1)) (lv' := [(1, .int (x1 + 1)), (0, .ref 54)]) d_m_forget_52 rfl rfl (by decide) rfl ?_
        refine mr_goto (tgt := 38) d_m_forget_55 (by decide) ?_
        refine mr_sub (lv' := [(0, .ref 54), (1, .int (x1 + 1))]) [1, 0] rfl ?_
        exact ih _ _ _ _ _ _ _ _ _ _ _
  have w_L2 : ∀ (n : Nat) (m_many : Nat → Int32) (m_need : Nat → Int64) (m_sent : Nat → Int32) (m_sealed : Nat → Int32) (m_rounds : Int32) (m_liar : Int32) (m_told : Nat → Int32) (m_passed : Nat → Int32) (m_meters : Nat → Int32) (m_cleared : Nat → Int32) (x1 : Int32), mz_A g M_m_forget (mz_rm 0) (fun r => (0, none, ex, (hT, HM m_thrown m_n m_collateral r.1 r.2.1 m_isBlock m_hours m_side m_quantity m_limit r.2.2.1 r.2.2.2.1 r.2.2.2.2.1 r.2.2.2.2.2.1 r.2.2.2.2.2.2.1 r.2.2.2.2.2.2.2.1 m_vectors r.2.2.2.2.2.2.2.2.1 r.2.2.2.2.2.2.2.2.2 m_prices m_trades m_fills m_welfares m_orderEntry m_orderFill m_orders m_blockEntry m_blockFill m_blocks m_price m_trade m_filled m_rest m_out), 0, 0)) 2 [(0, .ref 54), (1, .int x1)] [] ex (hT, HM m_thrown m_n m_collateral m_many m_need m_isBlock m_hours m_side m_quantity m_limit m_sent m_sealed m_rounds m_liar m_told m_passed m_vectors m_meters m_cleared m_prices m_trades m_fills m_welfares m_orderEntry m_orderFill m_orders m_blockEntry m_blockFill m_blocks m_price m_trade m_filled m_rest m_out) 0 0 (f_m_forget_L2 n m_many m_need m_sent m_sealed m_rounds m_liar m_told m_passed m_meters m_cleared x1) := by
    intro n
    induction n with
    | zero => intro m_many m_need m_sent m_sealed m_rounds m_liar m_told m_passed m_meters m_cleared x1; exact mr_none
    | succ n ih =>
      intro m_many m_need m_sent m_sealed m_rounds m_liar m_told m_passed m_meters m_cleared x1
      rw [f_m_forget_L2]
      refine mr_iload_n d_m_forget_2 rfl rfl ?_
      refine mr_bipush (v := 24) d_m_forget_3 mc_bipush_24 ?_
      refine mr_icmp_ge (tgt := 36) d_m_forget_5 (by decide) ?_ ?_
      · refine mr_iconst (v := 0) d_m_forget_36 mc_iconst_0 ?_
        refine mr_istore_n (lv' := [(1, .int 0), (0, .ref 54)]) d_m_forget_37 rfl (by decide) rfl ?_
        refine mr_sub (lv' := [(0, .ref 54), (1, .int 0)]) [1, 0] rfl ?_
        exact w_L38 1000 _ _ _ _ _ _ _ _ _ _ _
      · refine mr_aload_n d_m_forget_8 rfl rfl ?_
        refine mr_get K_m 3 d_m_forget_9 lk_f_m_13 (by decide) rfl rfl ?_
        refine mr_iload_n d_m_forget_12 rfl rfl ?_
        refine mr_iconst (v := 0) d_m_forget_13 mc_iconst_0 ?_
        refine mr_iast (h2 := (hT, HM m_thrown m_n m_collateral (upd m_many x1.toNatClampNeg 0) m_need m_isBlock m_hours m_side m_quantity m_limit m_sent m_sealed m_rounds m_liar m_told m_passed m_vectors m_meters m_cleared m_prices m_trades m_fills m_welfares m_orderEntry m_orderFill m_orders m_blockEntry m_blockFill m_blocks m_price m_trade m_filled m_rest m_out)) d_m_forget_14 rfl rfl (fun hc1 => ?_)
        refine mr_aload_n d_m_forget_15 rfl rfl ?_
        refine mr_get K_m 4 d_m_forget_16 lk_f_m_16 (by decide) rfl rfl ?_
        refine mr_iload_n d_m_forget_19 rfl rfl ?_
        refine mr_lconst (v := 0) d_m_forget_20 mc_lconst_0 ?_
        refine mr_lastK (h2 := (hT, HM m_thrown m_n m_collateral (upd m_many x1.toNatClampNeg 0) (vp_updL m_need x1.toNatClampNeg 0) m_isBlock m_hours m_side m_quantity m_limit m_sent m_sealed m_rounds m_liar m_told m_passed m_vectors m_meters m_cleared m_prices m_trades m_fills m_welfares m_orderEntry m_orderFill m_orders m_blockEntry m_blockFill m_blocks m_price m_trade m_filled m_rest m_out)) d_m_forget_21 rfl rfl hc1 ?_
        refine mr_aload_n d_m_forget_22 rfl rfl ?_
        refine mr_get K_m 14 d_m_forget_23 lk_f_m_46 (by decide) rfl rfl ?_
        refine mr_iload_n d_m_forget_26 rfl rfl ?_
        refine mr_bipush (v := (-2)) d_m_forget_27 mc_bipush_m2 ?_
        refine mr_iastK (h2 := (hT, HM m_thrown m_n m_collateral (upd m_many x1.toNatClampNeg 0) (vp_updL m_need x1.toNatClampNeg 0) m_isBlock m_hours m_side m_quantity m_limit m_sent m_sealed m_rounds m_liar (upd m_told x1.toNatClampNeg (-2)) m_passed m_vectors m_meters m_cleared m_prices m_trades m_fills m_welfares m_orderEntry m_orderFill m_orders m_blockEntry m_blockFill m_blocks m_price m_trade m_filled m_rest m_out)) d_m_forget_29 rfl rfl hc1 ?_
        refine mr_iinc (v := (x1 + 1)) (lv' := [(1, .int (x1 + 1)), (0, .ref 54)]) d_m_forget_30 rfl rfl (by decide) rfl ?_
        refine mr_goto (tgt := 2) d_m_forget_33 (by decide) ?_
        refine mr_sub (lv' := [(0, .ref 54), (1, .int (x1 + 1))]) [1, 0] rfl ?_
        exact ih _ _ _ _ _ _ _ _ _ _ _
  refine mz_of (by decide) (Nat.le_of_ble_eq_true rfl) ?_
  rw [f_m_forget]
  show mz_A g M_m_forget (mz_rm 0) _ 0 [(0, .ref 54)] [] ex (hT, HM m_thrown m_n m_collateral m_many m_need m_isBlock m_hours m_side m_quantity m_limit m_sent m_sealed m_rounds m_liar m_told m_passed m_vectors m_meters m_cleared m_prices m_trades m_fills m_welfares m_orderEntry m_orderFill m_orders m_blockEntry m_blockFill m_blocks m_price m_trade m_filled m_rest m_out) 0 0 _
  refine mr_iconst (v := 0) d_m_forget_0 mc_iconst_0 ?_
  refine mr_istore_n (lv' := [(1, .int 0), (0, .ref 54)]) d_m_forget_1 rfl (by decide) rfl ?_
  refine mr_sub (lv' := [(0, .ref 54), (1, .int 0)]) [1, 0] rfl ?_
  exact w_L2 1000 _ _ _ _ _ _ _ _ _ _ _
set_option maxRecDepth 100000 in
set_option maxHeartbeats 4000000 in
theorem e_m_nextDay {g : mz_G} {ex : Bool} {hT : List mz_E} {m_thrown : Int32} {m_n : Int32} {m_collateral : Nat → Int32} {m_many : Nat → Int32} {m_need : Nat → Int64} {m_isBlock : Nat → Int32} {m_hours : Nat → Int32} {m_side : Nat → Int32} {m_quantity : Nat → Int32} {m_limit : Nat → Int32} {m_sent : Nat → Int32} {m_sealed : Nat → Int32} {m_rounds : Int32} {m_liar : Int32} {m_told : Nat → Int32} {m_passed : Nat → Int32} {m_vectors : Nat → Int32} {m_meters : Nat → Int32} {m_cleared : Nat → Int32} {m_prices : Nat → Int32} {m_trades : Nat → Int32} {m_fills : Nat → Int32} {m_welfares : Nat → Int64} {m_orderEntry : Nat → Int32} {m_orderFill : Nat → Int32} {m_orders : Int32} {m_blockEntry : Nat → Int32} {m_blockFill : Nat → Int32} {m_blocks : Int32} {m_price : Nat → Int32} {m_trade : Nat → Int32} {m_filled : Nat → Int32} {m_rest : Nat → Int64} {m_out : Nat → Int64} : mz_M g M_m_nextDay 1 [.ref 54] ex (hT, HM m_thrown m_n m_collateral m_many m_need m_isBlock m_hours m_side m_quantity m_limit m_sent m_sealed m_rounds m_liar m_told m_passed m_vectors m_meters m_cleared m_prices m_trades m_fills m_welfares m_orderEntry m_orderFill m_orders m_blockEntry m_blockFill m_blocks m_price m_trade m_filled m_rest m_out) (f_m_nextDay m_thrown m_many m_need m_sent m_sealed m_rounds m_liar m_told m_passed m_meters m_cleared) (fun r => (0, none, ex, (hT, HM r.1 m_n m_collateral r.2.1 r.2.2.1 m_isBlock m_hours m_side m_quantity m_limit r.2.2.2.1 r.2.2.2.2.1 r.2.2.2.2.2.1 r.2.2.2.2.2.2.1 r.2.2.2.2.2.2.2.1 r.2.2.2.2.2.2.2.2.1 m_vectors r.2.2.2.2.2.2.2.2.2.1 r.2.2.2.2.2.2.2.2.2.2 m_prices m_trades m_fills m_welfares m_orderEntry m_orderFill m_orders m_blockEntry m_blockFill m_blocks m_price m_trade m_filled m_rest m_out), 0, 0)) := by
  refine mz_of (by decide) (Nat.le_of_ble_eq_true rfl) ?_
  rw [f_m_nextDay]
  show mz_A g M_m_nextDay (mz_rm 1) _ 0 [(0, .ref 54)] [] ex (hT, HM m_thrown m_n m_collateral m_many m_need m_isBlock m_hours m_side m_quantity m_limit m_sent m_sealed m_rounds m_liar m_told m_passed m_vectors m_meters m_cleared m_prices m_trades m_fills m_welfares m_orderEntry m_orderFill m_orders m_blockEntry m_blockFill m_blocks m_price m_trade m_filled m_rest m_out) 0 0 _
  refine mr_aload_n d_m_nextDay_0 rfl rfl ?_
  refine mr_iconst (v := 0) d_m_nextDay_1 mc_iconst_0 ?_
  refine mr_put (h2 := (hT, HM 0 m_n m_collateral m_many m_need m_isBlock m_hours m_side m_quantity m_limit m_sent m_sealed m_rounds m_liar m_told m_passed m_vectors m_meters m_cleared m_prices m_trades m_fills m_welfares m_orderEntry m_orderFill m_orders m_blockEntry m_blockFill m_blocks m_price m_trade m_filled m_rest m_out)) K_m 0 d_m_nextDay_2 lk_f_m_103 (by decide) rfl rfl rfl (Nat.le_of_ble_eq_true rfl) rfl rfl ?_
  refine mr_aload_n d_m_nextDay_5 rfl rfl ?_
  refine mz_go (st := []) e_m_forget (fun _ => rfl) U_m_forget (mz_vV d_m_nextDay_6 U_m_forget rfl lk_m_m_100 I_m_forget s_m_forget np_m_forget rfl rfl) (Nat.le_of_ble_eq_true rfl) (by decide) (fun r1 => ?_)
  refine mr_eq (st' := []) (ex' := ex) (h2 := (hT, HM 0 m_n m_collateral r1.1 r1.2.1 m_isBlock m_hours m_side m_quantity m_limit r1.2.2.1 r1.2.2.2.1 r1.2.2.2.2.1 r1.2.2.2.2.2.1 r1.2.2.2.2.2.2.1 r1.2.2.2.2.2.2.2.1 m_vectors r1.2.2.2.2.2.2.2.2.1 r1.2.2.2.2.2.2.2.2.2 m_prices m_trades m_fills m_welfares m_orderEntry m_orderFill m_orders m_blockEntry m_blockFill m_blocks m_price m_trade m_filled m_rest m_out)) (k' := 0) (n' := 0) rfl rfl rfl rfl rfl ?_
  exact mr_vret d_m_nextDay_9 rfl rfl
set_option maxRecDepth 100000 in
set_option maxHeartbeats 4000000 in
theorem e_m_collateral {g : mz_G} {ex : Bool} {hT : List mz_E} {m_thrown : Int32} {m_n : Int32} {m_collateral : Nat → Int32} {m_many : Nat → Int32} {m_need : Nat → Int64} {m_isBlock : Nat → Int32} {m_hours : Nat → Int32} {m_side : Nat → Int32} {m_quantity : Nat → Int32} {m_limit : Nat → Int32} {m_sent : Nat → Int32} {m_sealed : Nat → Int32} {m_rounds : Int32} {m_liar : Int32} {m_told : Nat → Int32} {m_passed : Nat → Int32} {m_vectors : Nat → Int32} {m_meters : Nat → Int32} {m_cleared : Nat → Int32} {m_prices : Nat → Int32} {m_trades : Nat → Int32} {m_fills : Nat → Int32} {m_welfares : Nat → Int64} {m_orderEntry : Nat → Int32} {m_orderFill : Nat → Int32} {m_orders : Int32} {m_blockEntry : Nat → Int32} {m_blockFill : Nat → Int32} {m_blocks : Int32} {m_price : Nat → Int32} {m_trade : Nat → Int32} {m_filled : Nat → Int32} {m_rest : Nat → Int64} {m_out : Nat → Int64} {x1 : Int32} {x2 : Int32} : mz_M g M_m_collateral 2 [.ref 54, .int x1, .int x2] ex (hT, HM m_thrown m_n m_collateral m_many m_need m_isBlock m_hours m_side m_quantity m_limit m_sent m_sealed m_rounds m_liar m_told m_passed m_vectors m_meters m_cleared m_prices m_trades m_fills m_welfares m_orderEntry m_orderFill m_orders m_blockEntry m_blockFill m_blocks m_price m_trade m_filled m_rest m_out) (f_m_collateral m_thrown m_n m_collateral m_sent m_sealed x1 x2) (fun r => (0, none, ex, (hT, HM r.1 m_n r.2 m_many m_need m_isBlock m_hours m_side m_quantity m_limit m_sent m_sealed m_rounds m_liar m_told m_passed m_vectors m_meters m_cleared m_prices m_trades m_fills m_welfares m_orderEntry m_orderFill m_orders m_blockEntry m_blockFill m_blocks m_price m_trade m_filled m_rest m_out), 0, 0)) := by
  have w_b55 : ∀ (m_thrown : Int32) (m_collateral : Nat → Int32) (s1 : Int32) (s2 : Int32), mz_A g M_m_collateral (mz_rm 2) (fun r => (0, none, ex, (hT, HM r.1 m_n r.2 m_many m_need m_isBlock m_hours m_side m_quantity m_limit m_sent m_sealed m_rounds m_liar m_told m_passed m_vectors m_meters m_cleared m_prices m_trades m_fills m_welfares m_orderEntry m_orderFill m_orders m_blockEntry m_blockFill m_blocks m_price m_trade m_filled m_rest m_out), 0, 0)) 55 [(0, .ref 54), (1, .int x1), (2, .int x2)] [.int s2, .int s1, .ref 54] ex (hT, HM m_thrown m_n m_collateral m_many m_need m_isBlock m_hours m_side m_quantity m_limit m_sent m_sealed m_rounds m_liar m_told m_passed m_vectors m_meters m_cleared m_prices m_trades m_fills m_welfares m_orderEntry m_orderFill m_orders m_blockEntry m_blockFill m_blocks m_price m_trade m_filled m_rest m_out) 0 0 (f_m_collateral_b55 m_n m_sent m_sealed x1 x2 m_thrown m_collateral s1 s2) := by
    intro  m_thrown m_collateral s1 s2
    rw [f_m_collateral_b55]
    refine mz_go (st := []) e_m_throwing (fun _ => rfl) U_m_throwing (mz_vV d_m_collateral_55 U_m_throwing rfl lk_m_m_119 I_m_throwing s_m_throwing np_m_throwing rfl rfl) (Nat.le_of_ble_eq_true rfl) (by decide) (fun r4 => ?_)
    refine mr_eq (st' := [.int r4.1]) (ex' := ex) (h2 := (hT, HM r4.2 m_n m_collateral m_many m_need m_isBlock m_hours m_side m_quantity m_limit m_sent m_sealed m_rounds m_liar m_told m_passed m_vectors m_meters m_cleared m_prices m_trades m_fills m_welfares m_orderEntry m_orderFill m_orders m_blockEntry m_blockFill m_blocks m_price m_trade m_filled m_rest m_out)) (k' := 0) (n' := 0) rfl rfl rfl rfl rfl ?_
    refine mr_if_eq (tgt := 62) d_m_collateral_58 (by decide) ?_ ?_
    · refine mr_aload_n d_m_collateral_62 rfl rfl ?_
      refine mr_get K_m 2 d_m_collateral_63 lk_f_m_7 (by decide) rfl rfl ?_
      refine mr_iload_n d_m_collateral_66 rfl rfl ?_
      refine mr_iload_n d_m_collateral_67 rfl rfl ?_
      refine mr_iast (h2 := (hT, HM r4.2 m_n (upd m_collateral x1.toNatClampNeg x2) m_many m_need m_isBlock m_hours m_side m_quantity m_limit m_sent m_sealed m_rounds m_liar m_told m_passed m_vectors m_meters m_cleared m_prices m_trades m_fills m_welfares m_orderEntry m_orderFill m_orders m_blockEntry m_blockFill m_blocks m_price m_trade m_filled m_rest m_out)) d_m_collateral_68 rfl rfl (fun hc5 => ?_)
      exact mr_vret d_m_collateral_69 rfl rfl
    · exact mr_vret d_m_collateral_61 rfl rfl
  have w_b50 : ∀ (m_thrown : Int32) (m_collateral : Nat → Int32) (s1 : Int32), mz_A g M_m_collateral (mz_rm 2) (fun r => (0, none, ex, (hT, HM r.1 m_n r.2 m_many m_need m_isBlock m_hours m_side m_quantity m_limit m_sent m_sealed m_rounds m_liar m_told m_passed m_vectors m_meters m_cleared m_prices m_trades m_fills m_welfares m_orderEntry m_orderFill m_orders m_blockEntry m_blockFill m_blocks m_price m_trade m_filled m_rest m_out), 0, 0)) 50 [(0, .ref 54), (1, .int x1), (2, .int x2)] [.int s1, .ref 54] ex (hT, HM m_thrown m_n m_collateral m_many m_need m_isBlock m_hours m_side m_quantity m_limit m_sent m_sealed m_rounds m_liar m_told m_passed m_vectors m_meters m_cleared m_prices m_trades m_fills m_welfares m_orderEntry m_orderFill m_orders m_blockEntry m_blockFill m_blocks m_price m_trade m_filled m_rest m_out) 0 0 (f_m_collateral_b50 m_n m_sent m_sealed x1 x2 m_thrown m_collateral s1) := by
    intro  m_thrown m_collateral s1
    rw [f_m_collateral_b50]
    refine mr_iconst (v := 1) d_m_collateral_50 mc_iconst_1 ?_
    refine mr_goto (tgt := 55) d_m_collateral_51 (by decide) ?_
    exact w_b55 _ _ _ _
  have w_b54 : ∀ (m_thrown : Int32) (m_collateral : Nat → Int32) (s1 : Int32), mz_A g M_m_collateral (mz_rm 2) (fun r => (0, none, ex, (hT, HM r.1 m_n r.2 m_many m_need m_isBlock m_hours m_side m_quantity m_limit m_sent m_sealed m_rounds m_liar m_told m_passed m_vectors m_meters m_cleared m_prices m_trades m_fills m_welfares m_orderEntry m_orderFill m_orders m_blockEntry m_blockFill m_blocks m_price m_trade m_filled m_rest m_out), 0, 0)) 54 [(0, .ref 54), (1, .int x1), (2, .int x2)] [.int s1, .ref 54] ex (hT, HM m_thrown m_n m_collateral m_many m_need m_isBlock m_hours m_side m_quantity m_limit m_sent m_sealed m_rounds m_liar m_told m_passed m_vectors m_meters m_cleared m_prices m_trades m_fills m_welfares m_orderEntry m_orderFill m_orders m_blockEntry m_blockFill m_blocks m_price m_trade m_filled m_rest m_out) 0 0 (f_m_collateral_b54 m_n m_sent m_sealed x1 x2 m_thrown m_collateral s1) := by
    intro  m_thrown m_collateral s1
    rw [f_m_collateral_b54]
    refine mr_iconst (v := 0) d_m_collateral_54 mc_iconst_0 ?_
    exact w_b55 _ _ _ _
  have w_b25 : ∀ (m_thrown : Int32) (m_collateral : Nat → Int32) (s0 : Int32), mz_A g M_m_collateral (mz_rm 2) (fun r => (0, none, ex, (hT, HM r.1 m_n r.2 m_many m_need m_isBlock m_hours m_side m_quantity m_limit m_sent m_sealed m_rounds m_liar m_told m_passed m_vectors m_meters m_cleared m_prices m_trades m_fills m_welfares m_orderEntry m_orderFill m_orders m_blockEntry m_blockFill m_blocks m_price m_trade m_filled m_rest m_out), 0, 0)) 25 [(0, .ref 54), (1, .int x1), (2, .int x2)] [.int s0] ex (hT, HM m_thrown m_n m_collateral m_many m_need m_isBlock m_hours m_side m_quantity m_limit m_sent m_sealed m_rounds m_liar m_told m_passed m_vectors m_meters m_cleared m_prices m_trades m_fills m_welfares m_orderEntry m_orderFill m_orders m_blockEntry m_blockFill m_blocks m_price m_trade m_filled m_rest m_out) 0 0 (f_m_collateral_b25 m_n m_sent m_sealed x1 x2 m_thrown m_collateral s0) := by
    intro  m_thrown m_collateral s0
    rw [f_m_collateral_b25]
    refine mr_istore_n (lv' := [(3, .int s0), (0, .ref 54), (1, .int x1), (2, .int x2)]) d_m_collateral_25 rfl (by decide) rfl ?_
    refine mr_aload_n d_m_collateral_26 rfl rfl ?_
    refine mr_iload_n d_m_collateral_27 rfl rfl ?_
    refine mr_iload_n d_m_collateral_28 rfl rfl ?_
    refine mr_if_ne (tgt := 54) d_m_collateral_29 (by decide) ?_ ?_
    · refine mr_sub (lv' := [(0, .ref 54), (1, .int x1), (2, .int x2)]) [1, 2, 3] rfl ?_
      exact w_b54 _ _ _
    · refine mr_aload_n d_m_collateral_32 rfl rfl ?_
      refine mr_get K_m 10 d_m_collateral_33 lk_f_m_36 (by decide) rfl rfl ?_
      refine mr_iload_n d_m_collateral_36 rfl rfl ?_
      refine mr_zald d_m_collateral_37 rfl (fun hc3 => ?_)
      refine mr_if_ne (tgt := 50) d_m_collateral_38 (by decide) ?_ ?_
      · refine mr_sub (lv' := [(0, .ref 54), (1, .int x1), (2, .int x2)]) [1, 2, 3] rfl ?_
        exact w_b50 _ _ _
      · refine mr_aload_n d_m_collateral_41 rfl rfl ?_
        refine mr_get K_m 11 d_m_collateral_42 lk_f_m_39 (by decide) rfl rfl ?_
        refine mr_iload_n d_m_collateral_45 rfl rfl ?_
        refine mr_zaldK d_m_collateral_46 rfl hc3 ?_
        refine mr_if_eq (tgt := 54) d_m_collateral_47 (by decide) ?_ ?_
        · refine mr_sub (lv' := [(0, .ref 54), (1, .int x1), (2, .int x2)]) [1, 2, 3] rfl ?_
          exact w_b54 _ _ _
        · refine mr_sub (lv' := [(0, .ref 54), (1, .int x1), (2, .int x2)]) [1, 2, 3] rfl ?_
          exact w_b50 _ _ _
  have w_b20 : ∀ (m_thrown : Int32) (m_collateral : Nat → Int32), mz_A g M_m_collateral (mz_rm 2) (fun r => (0, none, ex, (hT, HM r.1 m_n r.2 m_many m_need m_isBlock m_hours m_side m_quantity m_limit m_sent m_sealed m_rounds m_liar m_told m_passed m_vectors m_meters m_cleared m_prices m_trades m_fills m_welfares m_orderEntry m_orderFill m_orders m_blockEntry m_blockFill m_blocks m_price m_trade m_filled m_rest m_out), 0, 0)) 20 [(0, .ref 54), (1, .int x1), (2, .int x2)] [] ex (hT, HM m_thrown m_n m_collateral m_many m_need m_isBlock m_hours m_side m_quantity m_limit m_sent m_sealed m_rounds m_liar m_told m_passed m_vectors m_meters m_cleared m_prices m_trades m_fills m_welfares m_orderEntry m_orderFill m_orders m_blockEntry m_blockFill m_blocks m_price m_trade m_filled m_rest m_out) 0 0 (f_m_collateral_b20 m_n m_sent m_sealed x1 x2 m_thrown m_collateral) := by
    intro  m_thrown m_collateral
    rw [f_m_collateral_b20]
    refine mr_iconst (v := 1) d_m_collateral_20 mc_iconst_1 ?_
    refine mr_goto (tgt := 25) d_m_collateral_21 (by decide) ?_
    exact w_b25 _ _ _
  refine mz_of (by decide) (Nat.le_of_ble_eq_true rfl) ?_
  rw [f_m_collateral]
  show mz_A g M_m_collateral (mz_rm 2) _ 0 [(0, .ref 54), (1, .int x1), (2, .int x2)] [] ex (hT, HM m_thrown m_n m_collateral m_many m_need m_isBlock m_hours m_side m_quantity m_limit m_sent m_sealed m_rounds m_liar m_told m_passed m_vectors m_meters m_cleared m_prices m_trades m_fills m_welfares m_orderEntry m_orderFill m_orders m_blockEntry m_blockFill m_blocks m_price m_trade m_filled m_rest m_out) 0 0 _
  refine mr_aload_n d_m_collateral_0 rfl rfl ?_
  refine mr_iload_n d_m_collateral_1 rfl rfl ?_
  refine mz_go (st := []) e_m_isMember (fun _ => rfl) U_m_isMember (mz_vV d_m_collateral_2 U_m_isMember rfl lk_m_m_113 I_m_isMember s_m_isMember np_m_isMember rfl rfl) (Nat.le_of_ble_eq_true rfl) (by decide) (fun r1 => ?_)
  refine mr_eq (st' := [.int r1]) (ex' := ex) (h2 := (hT, HM m_thrown m_n m_collateral m_many m_need m_isBlock m_hours m_side m_quantity m_limit m_sent m_sealed m_rounds m_liar m_told m_passed m_vectors m_meters m_cleared m_prices m_trades m_fills m_welfares m_orderEntry m_orderFill m_orders m_blockEntry m_blockFill m_blocks m_price m_trade m_filled m_rest m_out)) (k' := 0) (n' := 0) rfl rfl rfl rfl rfl ?_
  refine mr_if_eq (tgt := 20) d_m_collateral_5 (by decide) ?_ ?_
  · exact w_b20 _ _
  · refine mr_iload_n d_m_collateral_8 rfl rfl ?_
    refine mr_i2l d_m_collateral_9 ?_
    refine mr_lconst (v := 0) d_m_collateral_10 mc_lconst_0 ?_
    refine mr_ldc2 (v := 1000000000) d_m_collateral_11 lk_k_m_117 ?_
    refine mz_go (st := []) e_m_in (fun _ => rfl) U_m_in (mz_vS d_m_collateral_14 U_m_in lk_m_m_106 S_m_in np_m_in) (Nat.le_of_ble_eq_true rfl) (by decide) (fun r2 => ?_)
    refine mr_eq (st' := [.int r2]) (ex' := ex) (h2 := (hT, HM m_thrown m_n m_collateral m_many m_need m_isBlock m_hours m_side m_quantity m_limit m_sent m_sealed m_rounds m_liar m_told m_passed m_vectors m_meters m_cleared m_prices m_trades m_fills m_welfares m_orderEntry m_orderFill m_orders m_blockEntry m_blockFill m_blocks m_price m_trade m_filled m_rest m_out)) (k' := 0) (n' := 0) rfl rfl rfl rfl rfl ?_
    refine mr_if_ne (tgt := 24) d_m_collateral_17 (by decide) ?_ ?_
    · refine mr_iconst (v := 0) d_m_collateral_24 mc_iconst_0 ?_
      exact w_b25 _ _ _
    · exact w_b20 _ _
set_option maxRecDepth 100000 in
set_option maxHeartbeats 4000000 in
theorem e_m_send {g : mz_G} {ex : Bool} {hT : List mz_E} {m_thrown : Int32} {m_n : Int32} {m_collateral : Nat → Int32} {m_many : Nat → Int32} {m_need : Nat → Int64} {m_isBlock : Nat → Int32} {m_hours : Nat → Int32} {m_side : Nat → Int32} {m_quantity : Nat → Int32} {m_limit : Nat → Int32} {m_sent : Nat → Int32} {m_sealed : Nat → Int32} {m_rounds : Int32} {m_liar : Int32} {m_told : Nat → Int32} {m_passed : Nat → Int32} {m_vectors : Nat → Int32} {m_meters : Nat → Int32} {m_cleared : Nat → Int32} {m_prices : Nat → Int32} {m_trades : Nat → Int32} {m_fills : Nat → Int32} {m_welfares : Nat → Int64} {m_orderEntry : Nat → Int32} {m_orderFill : Nat → Int32} {m_orders : Int32} {m_blockEntry : Nat → Int32} {m_blockFill : Nat → Int32} {m_blocks : Int32} {m_price : Nat → Int32} {m_trade : Nat → Int32} {m_filled : Nat → Int32} {m_rest : Nat → Int64} {m_out : Nat → Int64} {x1 : Int32} {x2 : Int32} {x3 : Int32} {x4 : Int32} {x5 : Int32} {x6 : Int32} {x7 : Int32} {x8 : Int32} : mz_M g M_m_send 0 [.ref 54, .int x1, .int x2, .int x3, .int x4, .int x5, .int x6, .int x7, .int x8] ex (hT, HM m_thrown m_n m_collateral m_many m_need m_isBlock m_hours m_side m_quantity m_limit m_sent m_sealed m_rounds m_liar m_told m_passed m_vectors m_meters m_cleared m_prices m_trades m_fills m_welfares m_orderEntry m_orderFill m_orders m_blockEntry m_blockFill m_blocks m_price m_trade m_filled m_rest m_out) (f_m_send m_collateral m_many m_need m_isBlock m_hours m_side m_quantity m_limit m_sent x1 x2 x3 x4 x5 x6 x7 x8) (fun r => (0, some (.int r.1), ex, (hT, HM m_thrown m_n m_collateral r.2.1 r.2.2.1 r.2.2.2.1 r.2.2.2.2.1 r.2.2.2.2.2.1 r.2.2.2.2.2.2.1 r.2.2.2.2.2.2.2.1 r.2.2.2.2.2.2.2.2 m_sealed m_rounds m_liar m_told m_passed m_vectors m_meters m_cleared m_prices m_trades m_fills m_welfares m_orderEntry m_orderFill m_orders m_blockEntry m_blockFill m_blocks m_price m_trade m_filled m_rest m_out), 0, 0)) := by
  have w_b91 : ∀ (K66 : (Nat → Int32) → (Nat → Int64) → (Nat → Int32) → (Nat → Int32) → (Nat → Int32) → (Nat → Int32) → (Nat → Int32) → (Nat → Int32) → Int32 → Int64 → Int32 → Option (Int32 × (Nat → Int32) × (Nat → Int64) × (Nat → Int32) × (Nat → Int32) × (Nat → Int32) × (Nat → Int32) × (Nat → Int32) × (Nat → Int32))), (∀ (m_many : Nat → Int32) (m_need : Nat → Int64) (m_isBlock : Nat → Int32) (m_hours : Nat → Int32) (m_side : Nat → Int32) (m_quantity : Nat → Int32) (m_limit : Nat → Int32) (m_sent : Nat → Int32) (x9 : Int32) (x10 : Int64) (x12 : Int32), mz_A g M_m_send (mz_rm 0) (fun r => (0, some (.int r.1), ex, (hT, HM m_thrown m_n m_collateral r.2.1 r.2.2.1 r.2.2.2.1 r.2.2.2.2.1 r.2.2.2.2.2.1 r.2.2.2.2.2.2.1 r.2.2.2.2.2.2.2.1 r.2.2.2.2.2.2.2.2 m_sealed m_rounds m_liar m_told m_passed m_vectors m_meters m_cleared m_prices m_trades m_fills m_welfares m_orderEntry m_orderFill m_orders m_blockEntry m_blockFill m_blocks m_price m_trade m_filled m_rest m_out), 0, 0)) 66 [(0, .ref 54), (1, .int x1), (2, .int x2), (3, .int x3), (4, .int x4), (5, .int x5), (6, .int x6), (7, .int x7), (9, .int x9), (10, .long x10), (12, .int x12)] [] ex (hT, HM m_thrown m_n m_collateral m_many m_need m_isBlock m_hours m_side m_quantity m_limit m_sent m_sealed m_rounds m_liar m_told m_passed m_vectors m_meters m_cleared m_prices m_trades m_fills m_welfares m_orderEntry m_orderFill m_orders m_blockEntry m_blockFill m_blocks m_price m_trade m_filled m_rest m_out) 0 0 (K66 m_many m_need m_isBlock m_hours m_side m_quantity m_limit m_sent x9 x10 x12)) → ∀ (m_many : Nat → Int32) (m_need : Nat → Int64) (m_isBlock : Nat → Int32) (m_hours : Nat → Int32) (m_side : Nat → Int32) (m_quantity : Nat → Int32) (m_limit : Nat → Int32) (m_sent : Nat → Int32) (x9 : Int32) (x10 : Int64) (x12 : Int32) (x13 : Int32), mz_A g M_m_send (mz_rm 0) (fun r => (0, some (.int r.1), ex, (hT, HM m_thrown m_n m_collateral r.2.1 r.2.2.1 r.2.2.2.1 r.2.2.2.2.1 r.2.2.2.2.2.1 r.2.2.2.2.2.2.1 r.2.2.2.2.2.2.2.1 r.2.2.2.2.2.2.2.2 m_sealed m_rounds m_liar m_told m_passed m_vectors m_meters m_cleared m_prices m_trades m_fills m_welfares m_orderEntry m_orderFill m_orders m_blockEntry m_blockFill m_blocks m_price m_trade m_filled m_rest m_out), 0, 0)) 91 [(0, .ref 54), (1, .int x1), (2, .int x2), (3, .int x3), (4, .int x4), (5, .int x5), (6, .int x6), (7, .int x7), (9, .int x9), (10, .long x10), (12, .int x12), (13, .int x13)] [] ex (hT, HM m_thrown m_n m_collateral m_many m_need m_isBlock m_hours m_side m_quantity m_limit m_sent m_sealed m_rounds m_liar m_told m_passed m_vectors m_meters m_cleared m_prices m_trades m_fills m_welfares m_orderEntry m_orderFill m_orders m_blockEntry m_blockFill m_blocks m_price m_trade m_filled m_rest m_out) 0 0 (f_m_send_b91 m_collateral x1 x2 x3 x4 x5 x6 x7 K66 m_many m_need m_isBlock m_hours m_side m_quantity m_limit m_sent x9 x10 x12 x13) := by
    intro K66 hK66 m_many m_need m_isBlock m_hours m_side m_quantity m_limit m_sent x9 x10 x12 x13
    rw [f_m_send_b91]
    refine mr_aload_n d_m_send_91 rfl rfl ?_
    refine mr_get K_m 3 d_m_send_92 lk_f_m_13 (by decide) rfl rfl ?_
    refine mr_iload d_m_send_95 rfl ?_
    refine mr_iald d_m_send_97 rfl (fun hc2 => ?_)
    refine mr_bipush (v := 10) d_m_send_98 mc_bipush_10 ?_
    refine mr_icmp_ge (tgt := 209) d_m_send_100 (by decide) ?_ ?_
    · refine mr_iinc (v := (x12 + 1)) (lv' := [(12, .int (x12 + 1)), (0, .ref 54), (1, .int x1), (2, .int x2), (3, .int x3), (4, .int x4), (5, .int x5), (6, .int x6), (7, .int x7), (9, .int x9), (10, .long x10), (13, .int x13)]) d_m_send_209 rfl rfl (by decide) rfl ?_
      refine mr_goto (tgt := 66) d_m_send_212 (by decide) ?_
      refine mr_sub (lv' := [(0, .ref 54), (1, .int x1), (2, .int x2), (3, .int x3), (4, .int x4), (5, .int x5), (6, .int x6), (7, .int x7), (9, .int x9), (10, .long x10), (12, .int (x12 + 1))]) [1, 2, 3, 4, 5, 6, 7, 8, 9, 10, 0] rfl ?_
      exact hK66 _ _ _ _ _ _ _ _ _ _ _
    · refine mr_aload_n d_m_send_103 rfl rfl ?_
      refine mr_get K_m 4 d_m_send_104 lk_f_m_16 (by decide) rfl rfl ?_
      refine mr_iload d_m_send_107 rfl ?_
      refine mr_laldK d_m_send_109 rfl hc2 ?_
      refine mr_lload d_m_send_110 rfl ?_
      refine mr_ladd d_m_send_112 ?_
      refine mr_aload_n d_m_send_113 rfl rfl ?_
      refine mr_get K_m 2 d_m_send_114 lk_f_m_7 (by decide) rfl rfl ?_
      refine mr_iload_n d_m_send_117 rfl rfl ?_
      refine mr_iald d_m_send_118 rfl (fun hc3 => ?_)
      refine mr_i2l d_m_send_119 ?_
      refine mr_lcmp d_m_send_120 ?_
      refine mr_if_gt (tgt := 209) d_m_send_121 (by decide) ?_ ?_
      · refine mr_iinc (v := (x12 + 1)) (lv' := [(12, .int (x12 + 1)), (0, .ref 54), (1, .int x1), (2, .int x2), (3, .int x3), (4, .int x4), (5, .int x5), (6, .int x6), (7, .int x7), (9, .int x9), (10, .long x10), (13, .int x13)]) d_m_send_209 rfl rfl (by decide) rfl ?_
        refine mr_goto (tgt := 66) d_m_send_212 (by decide) ?_
        refine mr_sub (lv' := [(0, .ref 54), (1, .int x1), (2, .int x2), (3, .int x3), (4, .int x4), (5, .int x5), (6, .int x6), (7, .int x7), (9, .int x9), (10, .long x10), (12, .int (x12 + 1))]) [1, 2, 3, 4, 5, 6, 7, 8, 9, 10, 0] rfl ?_
        exact hK66 _ _ _ _ _ _ _ _ _ _ _
      · refine mr_bipush (v := 10) d_m_send_124 mc_bipush_10 ?_
        refine mr_iload d_m_send_126 rfl ?_
        refine mr_imul d_m_send_128 ?_
        refine mr_aload_n d_m_send_129 rfl rfl ?_
        refine mr_get K_m 3 d_m_send_130 lk_f_m_13 (by decide) rfl rfl ?_
        refine mr_iload d_m_send_133 rfl ?_
        refine mr_ialdK d_m_send_135 rfl hc2 ?_
        refine mr_iadd d_m_send_136 ?_
        refine mr_istore (lv' := [(14, .int ((10 * x13) + (m_many x13.toNatClampNeg))), (0, .ref 54), (1, .int x1), (2, .int x2), (3, .int x3), (4, .int x4), (5, .int x5), (6, .int x6), (7, .int x7), (9, .int x9), (10, .long x10), (12, .int x12), (13, .int x13)]) d_m_send_137 (by decide) rfl ?_
        refine mr_aload_n d_m_send_139 rfl rfl ?_
        refine mr_get K_m 5 d_m_send_140 lk_f_m_20 (by decide) rfl rfl ?_
        refine mr_iload d_m_send_143 rfl ?_
        refine mr_iload_n d_m_send_145 rfl rfl ?_
        refine mr_zast (h2 := (hT, HM m_thrown m_n m_collateral m_many m_need (upd m_isBlock ((10 * x13) + (m_many x13.toNatClampNeg)).toNatClampNeg (vp_nar .boolean x3)) m_hours m_side m_quantity m_limit m_sent m_sealed m_rounds m_liar m_told m_passed m_vectors m_meters m_cleared m_prices m_trades m_fills m_welfares m_orderEntry m_orderFill m_orders m_blockEntry m_blockFill m_blocks m_price m_trade m_filled m_rest m_out)) d_m_send_146 rfl rfl (fun hc4 => ?_)
        refine mr_aload_n d_m_send_147 rfl rfl ?_
        refine mr_get K_m 6 d_m_send_148 lk_f_m_24 (by decide) rfl rfl ?_
        refine mr_iload d_m_send_151 rfl ?_
        refine mr_iload d_m_send_153 rfl ?_
        refine mr_iastK (h2 := (hT, HM m_thrown m_n m_collateral m_many m_need (upd m_isBlock ((10 * x13) + (m_many x13.toNatClampNeg)).toNatClampNeg (vp_nar .boolean x3)) (upd m_hours ((10 * x13) + (m_many x13.toNatClampNeg)).toNatClampNeg x4) m_side m_quantity m_limit m_sent m_sealed m_rounds m_liar m_told m_passed m_vectors m_meters m_cleared m_prices m_trades m_fills m_welfares m_orderEntry m_orderFill m_orders m_blockEntry m_blockFill m_blocks m_price m_trade m_filled m_rest m_out)) d_m_send_155 rfl rfl hc4 ?_
        refine mr_aload_n d_m_send_156 rfl rfl ?_
        refine mr_get K_m 7 d_m_send_157 lk_f_m_27 (by decide) rfl rfl ?_
        refine mr_iload d_m_send_160 rfl ?_
        refine mr_iload d_m_send_162 rfl ?_
        refine mr_iastK (h2 := (hT, HM m_thrown m_n m_collateral m_many m_need (upd m_isBlock ((10 * x13) + (m_many x13.toNatClampNeg)).toNatClampNeg (vp_nar .boolean x3)) (upd m_hours ((10 * x13) + (m_many x13.toNatClampNeg)).toNatClampNeg x4) (upd m_side ((10 * x13) + (m_many x13.toNatClampNeg)).toNatClampNeg x5) m_quantity m_limit m_sent m_sealed m_rounds m_liar m_told m_passed m_vectors m_meters m_cleared m_prices m_trades m_fills m_welfares m_orderEntry m_orderFill m_orders m_blockEntry m_blockFill m_blocks m_price m_trade m_filled m_rest m_out)) d_m_send_164 rfl rfl hc4 ?_
        refine mr_aload_n d_m_send_165 rfl rfl ?_
        refine mr_get K_m 8 d_m_send_166 lk_f_m_30 (by decide) rfl rfl ?_
        refine mr_iload d_m_send_169 rfl ?_
        refine mr_iload d_m_send_171 rfl ?_
        refine mr_iastK (h2 := (hT, HM m_thrown m_n m_collateral m_many m_need (upd m_isBlock ((10 * x13) + (m_many x13.toNatClampNeg)).toNatClampNeg (vp_nar .boolean x3)) (upd m_hours ((10 * x13) + (m_many x13.toNatClampNeg)).toNatClampNeg x4) (upd m_side ((10 * x13) + (m_many x13.toNatClampNeg)).toNatClampNeg x5) (upd m_quantity ((10 * x13) + (m_many x13.toNatClampNeg)).toNatClampNeg x6) m_limit m_sent m_sealed m_rounds m_liar m_told m_passed m_vectors m_meters m_cleared m_prices m_trades m_fills m_welfares m_orderEntry m_orderFill m_orders m_blockEntry m_blockFill m_blocks m_price m_trade m_filled m_rest m_out)) d_m_send_173 rfl rfl hc4 ?_
        refine mr_aload_n d_m_send_174 rfl rfl ?_
        refine mr_get K_m 9 d_m_send_175 lk_f_m_33 (by decide) rfl rfl ?_
        refine mr_iload d_m_send_178 rfl ?_
        refine mr_iload d_m_send_180 rfl ?_
        refine mr_iastK (h2 := (hT, HM m_thrown m_n m_collateral m_many m_need (upd m_isBlock ((10 * x13) + (m_many x13.toNatClampNeg)).toNatClampNeg (vp_nar .boolean x3)) (upd m_hours ((10 * x13) + (m_many x13.toNatClampNeg)).toNatClampNeg x4) (upd m_side ((10 * x13) + (m_many x13.toNatClampNeg)).toNatClampNeg x5) (upd m_quantity ((10 * x13) + (m_many x13.toNatClampNeg)).toNatClampNeg x6) (upd m_limit ((10 * x13) + (m_many x13.toNatClampNeg)).toNatClampNeg x7) m_sent m_sealed m_rounds m_liar m_told m_passed m_vectors m_meters m_cleared m_prices m_trades m_fills m_welfares m_orderEntry m_orderFill m_orders m_blockEntry m_blockFill m_blocks m_price m_trade m_filled m_rest m_out)) d_m_send_182 rfl rfl hc4 ?_
        refine mr_aload_n d_m_send_183 rfl rfl ?_
        refine mr_get K_m 3 d_m_send_184 lk_f_m_13 (by decide) rfl rfl ?_
        refine mr_iload d_m_send_187 rfl ?_
        refine mr_dup2_11 d_m_send_189 rfl rfl ?_
        refine mr_ialdK d_m_send_190 rfl hc2 ?_
        refine mr_iconst (v := 1) d_m_send_191 mc_iconst_1 ?_
        refine mr_iadd d_m_send_192 ?_
        refine mr_iastK (h2 := (hT, HM m_thrown m_n m_collateral (upd m_many x13.toNatClampNeg ((m_many x13.toNatClampNeg) + 1)) m_need (upd m_isBlock ((10 * x13) + (m_many x13.toNatClampNeg)).toNatClampNeg (vp_nar .boolean x3)) (upd m_hours ((10 * x13) + (m_many x13.toNatClampNeg)).toNatClampNeg x4) (upd m_side ((10 * x13) + (m_many x13.toNatClampNeg)).toNatClampNeg x5) (upd m_quantity ((10 * x13) + (m_many x13.toNatClampNeg)).toNatClampNeg x6) (upd m_limit ((10 * x13) + (m_many x13.toNatClampNeg)).toNatClampNeg x7) m_sent m_sealed m_rounds m_liar m_told m_passed m_vectors m_meters m_cleared m_prices m_trades m_fills m_welfares m_orderEntry m_orderFill m_orders m_blockEntry m_blockFill m_blocks m_price m_trade m_filled m_rest m_out)) d_m_send_193 rfl rfl hc2 ?_
        refine mr_aload_n d_m_send_194 rfl rfl ?_
        refine mr_get K_m 4 d_m_send_195 lk_f_m_16 (by decide) rfl rfl ?_
        refine mr_iload d_m_send_198 rfl ?_
        refine mr_dup2_11 d_m_send_200 rfl rfl ?_
        refine mr_laldK d_m_send_201 rfl hc2 ?_
        refine mr_lload d_m_send_202 rfl ?_
        refine mr_ladd d_m_send_204 ?_
        refine mr_lastK (h2 := (hT, HM m_thrown m_n m_collateral (upd m_many x13.toNatClampNeg ((m_many x13.toNatClampNeg) + 1)) (vp_updL m_need x13.toNatClampNeg ((m_need x13.toNatClampNeg) + x10)) (upd m_isBlock ((10 * x13) + (m_many x13.toNatClampNeg)).toNatClampNeg (vp_nar .boolean x3)) (upd m_hours ((10 * x13) + (m_many x13.toNatClampNeg)).toNatClampNeg x4) (upd m_side ((10 * x13) + (m_many x13.toNatClampNeg)).toNatClampNeg x5) (upd m_quantity ((10 * x13) + (m_many x13.toNatClampNeg)).toNatClampNeg x6) (upd m_limit ((10 * x13) + (m_many x13.toNatClampNeg)).toNatClampNeg x7) m_sent m_sealed m_rounds m_liar m_told m_passed m_vectors m_meters m_cleared m_prices m_trades m_fills m_welfares m_orderEntry m_orderFill m_orders m_blockEntry m_blockFill m_blocks m_price m_trade m_filled m_rest m_out)) d_m_send_205 rfl rfl hc2 ?_
        refine mr_iinc (v := (x9 + 1)) (lv' := [(9, .int (x9 + 1)), (14, .int ((10 * x13) + (m_many x13.toNatClampNeg))), (0, .ref 54), (1, .int x1), (2, .int x2), (3, .int x3), (4, .int x4), (5, .int x5), (6, .int x6), (7, .int x7), (10, .long x10), (12, .int x12), (13, .int x13)]) d_m_send_206 rfl rfl (by decide) rfl ?_
        refine mr_iinc (v := (x12 + 1)) (lv' := [(12, .int (x12 + 1)), (9, .int (x9 + 1)), (14, .int ((10 * x13) + (m_many x13.toNatClampNeg))), (0, .ref 54), (1, .int x1), (2, .int x2), (3, .int x3), (4, .int x4), (5, .int x5), (6, .int x6), (7, .int x7), (10, .long x10), (13, .int x13)]) d_m_send_209 rfl rfl (by decide) rfl ?_
        refine mr_goto (tgt := 66) d_m_send_212 (by decide) ?_
        refine mr_sub (lv' := [(0, .ref 54), (1, .int x1), (2, .int x2), (3, .int x3), (4, .int x4), (5, .int x5), (6, .int x6), (7, .int x7), (9, .int (x9 + 1)), (10, .long x10), (12, .int (x12 + 1))]) [3, 4, 5, 6, 7, 8, 9, 10, 1, 11, 0] rfl ?_
        exact hK66 _ _ _ _ _ _ _ _ _ _ _
  have w_L66 : ∀ (n : Nat) (m_many : Nat → Int32) (m_need : Nat → Int64) (m_isBlock : Nat → Int32) (m_hours : Nat → Int32) (m_side : Nat → Int32) (m_quantity : Nat → Int32) (m_limit : Nat → Int32) (m_sent : Nat → Int32) (x9 : Int32) (x10 : Int64) (x12 : Int32), mz_A g M_m_send (mz_rm 0) (fun r => (0, some (.int r.1), ex, (hT, HM m_thrown m_n m_collateral r.2.1 r.2.2.1 r.2.2.2.1 r.2.2.2.2.1 r.2.2.2.2.2.1 r.2.2.2.2.2.2.1 r.2.2.2.2.2.2.2.1 r.2.2.2.2.2.2.2.2 m_sealed m_rounds m_liar m_told m_passed m_vectors m_meters m_cleared m_prices m_trades m_fills m_welfares m_orderEntry m_orderFill m_orders m_blockEntry m_blockFill m_blocks m_price m_trade m_filled m_rest m_out), 0, 0)) 66 [(0, .ref 54), (1, .int x1), (2, .int x2), (3, .int x3), (4, .int x4), (5, .int x5), (6, .int x6), (7, .int x7), (9, .int x9), (10, .long x10), (12, .int x12)] [] ex (hT, HM m_thrown m_n m_collateral m_many m_need m_isBlock m_hours m_side m_quantity m_limit m_sent m_sealed m_rounds m_liar m_told m_passed m_vectors m_meters m_cleared m_prices m_trades m_fills m_welfares m_orderEntry m_orderFill m_orders m_blockEntry m_blockFill m_blocks m_price m_trade m_filled m_rest m_out) 0 0 (f_m_send_L66 m_collateral x1 x2 x3 x4 x5 x6 x7 n m_many m_need m_isBlock m_hours m_side m_quantity m_limit m_sent x9 x10 x12) := by
    intro n
    induction n with
    | zero => intro m_many m_need m_isBlock m_hours m_side m_quantity m_limit m_sent x9 x10 x12; exact mr_none
    | succ n ih =>
      intro m_many m_need m_isBlock m_hours m_side m_quantity m_limit m_sent x9 x10 x12
      rw [f_m_send_L66]
      refine mr_iload d_m_send_66 rfl ?_
      refine mr_iconst (v := 4) d_m_send_68 mc_iconst_4 ?_
      refine mr_icmp_ge (tgt := 215) d_m_send_69 (by decide) ?_ ?_
      · refine mr_iload d_m_send_215 rfl ?_
        exact mr_iret d_m_send_217 rfl rfl
      · refine mr_iconst (v := 4) d_m_send_72 mc_iconst_4 ?_
        refine mr_iload_n d_m_send_73 rfl rfl ?_
        refine mr_imul d_m_send_74 ?_
        refine mr_iload d_m_send_75 rfl ?_
        refine mr_iadd d_m_send_77 ?_
        refine mr_istore (lv' := [(13, .int ((4 * x1) + x12)), (0, .ref 54), (1, .int x1), (2, .int x2), (3, .int x3), (4, .int x4), (5, .int x5), (6, .int x6), (7, .int x7), (9, .int x9), (10, .long x10), (12, .int x12)]) d_m_send_78 (by decide) rfl ?_
        refine mr_iload_n d_m_send_80 rfl rfl ?_
        refine mr_iconst (v := (-1)) d_m_send_81 mc_iconst_m1 ?_
        refine mr_icmp_eq (tgt := 91) d_m_send_82 (by decide) ?_ ?_
        · refine mr_sub (lv' := [(0, .ref 54), (1, .int x1), (2, .int x2), (3, .int x3), (4, .int x4), (5, .int x5), (6, .int x6), (7, .int x7), (9, .int x9), (10, .long x10), (12, .int x12), (13, .int ((4 * x1) + x12))]) [1, 2, 3, 4, 5, 6, 7, 8, 9, 10, 11, 0] rfl ?_
          exact w_b91 _ ih _ _ _ _ _ _ _ _ _ _ _ _
        · refine mr_iload_n d_m_send_85 rfl rfl ?_
          refine mr_iload d_m_send_86 rfl ?_
          refine mr_icmp_ne (tgt := 209) d_m_send_88 (by decide) ?_ ?_
          · refine mr_iinc (v := (x12 + 1)) (lv' := [(12, .int (x12 + 1)), (13, .int ((4 * x1) + x12)), (0, .ref 54), (1, .int x1), (2, .int x2), (3, .int x3), (4, .int x4), (5, .int x5), (6, .int x6), (7, .int x7), (9, .int x9), (10, .long x10)]) d_m_send_209 rfl rfl (by decide) rfl ?_
            refine mr_goto (tgt := 66) d_m_send_212 (by decide) ?_
            refine mr_sub (lv' := [(0, .ref 54), (1, .int x1), (2, .int x2), (3, .int x3), (4, .int x4), (5, .int x5), (6, .int x6), (7, .int x7), (9, .int x9), (10, .long x10), (12, .int (x12 + 1))]) [2, 3, 4, 5, 6, 7, 8, 9, 10, 11, 0] rfl ?_
            exact ih _ _ _ _ _ _ _ _ _ _ _
          · refine mr_sub (lv' := [(0, .ref 54), (1, .int x1), (2, .int x2), (3, .int x3), (4, .int x4), (5, .int x5), (6, .int x6), (7, .int x7), (9, .int x9), (10, .long x10), (12, .int x12), (13, .int ((4 * x1) + x12))]) [1, 2, 3, 4, 5, 6, 7, 8, 9, 10, 11, 0] rfl ?_
            exact w_b91 _ ih _ _ _ _ _ _ _ _ _ _ _ _
  have w_b61 : ∀ (m_many : Nat → Int32) (m_need : Nat → Int64) (m_isBlock : Nat → Int32) (m_hours : Nat → Int32) (m_side : Nat → Int32) (m_quantity : Nat → Int32) (m_limit : Nat → Int32) (m_sent : Nat → Int32) (x9 : Int32) (s0 : Int64), mz_A g M_m_send (mz_rm 0) (fun r => (0, some (.int r.1), ex, (hT, HM m_thrown m_n m_collateral r.2.1 r.2.2.1 r.2.2.2.1 r.2.2.2.2.1 r.2.2.2.2.2.1 r.2.2.2.2.2.2.1 r.2.2.2.2.2.2.2.1 r.2.2.2.2.2.2.2.2 m_sealed m_rounds m_liar m_told m_passed m_vectors m_meters m_cleared m_prices m_trades m_fills m_welfares m_orderEntry m_orderFill m_orders m_blockEntry m_blockFill m_blocks m_price m_trade m_filled m_rest m_out), 0, 0)) 61 [(0, .ref 54), (1, .int x1), (2, .int x2), (3, .int x3), (4, .int x4), (5, .int x5), (6, .int x6), (7, .int x7), (9, .int x9)] [.long s0] ex (hT, HM m_thrown m_n m_collateral m_many m_need m_isBlock m_hours m_side m_quantity m_limit m_sent m_sealed m_rounds m_liar m_told m_passed m_vectors m_meters m_cleared m_prices m_trades m_fills m_welfares m_orderEntry m_orderFill m_orders m_blockEntry m_blockFill m_blocks m_price m_trade m_filled m_rest m_out) 0 0 (f_m_send_b61 m_collateral x1 x2 x3 x4 x5 x6 x7 m_many m_need m_isBlock m_hours m_side m_quantity m_limit m_sent x9 s0) := by
    intro  m_many m_need m_isBlock m_hours m_side m_quantity m_limit m_sent x9 s0
    rw [f_m_send_b61]
    refine mr_lstore (lv' := [(10, .long s0), (0, .ref 54), (1, .int x1), (2, .int x2), (3, .int x3), (4, .int x4), (5, .int x5), (6, .int x6), (7, .int x7), (9, .int x9)]) d_m_send_61 (by decide) rfl ?_
    refine mr_iconst (v := 0) d_m_send_63 mc_iconst_0 ?_
    refine mr_istore (lv' := [(12, .int 0), (10, .long s0), (0, .ref 54), (1, .int x1), (2, .int x2), (3, .int x3), (4, .int x4), (5, .int x5), (6, .int x6), (7, .int x7), (9, .int x9)]) d_m_send_64 (by decide) rfl ?_
    refine mr_sub (lv' := [(0, .ref 54), (1, .int x1), (2, .int x2), (3, .int x3), (4, .int x4), (5, .int x5), (6, .int x6), (7, .int x7), (9, .int x9), (10, .long s0), (12, .int 0)]) [2, 3, 4, 5, 6, 7, 8, 9, 10, 1, 0] rfl ?_
    exact w_L66 1000 _ _ _ _ _ _ _ _ _ _ _
  have w_b60 : ∀ (m_many : Nat → Int32) (m_need : Nat → Int64) (m_isBlock : Nat → Int32) (m_hours : Nat → Int32) (m_side : Nat → Int32) (m_quantity : Nat → Int32) (m_limit : Nat → Int32) (m_sent : Nat → Int32) (x9 : Int32), mz_A g M_m_send (mz_rm 0) (fun r => (0, some (.int r.1), ex, (hT, HM m_thrown m_n m_collateral r.2.1 r.2.2.1 r.2.2.2.1 r.2.2.2.2.1 r.2.2.2.2.2.1 r.2.2.2.2.2.2.1 r.2.2.2.2.2.2.2.1 r.2.2.2.2.2.2.2.2 m_sealed m_rounds m_liar m_told m_passed m_vectors m_meters m_cleared m_prices m_trades m_fills m_welfares m_orderEntry m_orderFill m_orders m_blockEntry m_blockFill m_blocks m_price m_trade m_filled m_rest m_out), 0, 0)) 60 [(0, .ref 54), (1, .int x1), (2, .int x2), (3, .int x3), (4, .int x4), (5, .int x5), (6, .int x6), (7, .int x7), (9, .int x9)] [] ex (hT, HM m_thrown m_n m_collateral m_many m_need m_isBlock m_hours m_side m_quantity m_limit m_sent m_sealed m_rounds m_liar m_told m_passed m_vectors m_meters m_cleared m_prices m_trades m_fills m_welfares m_orderEntry m_orderFill m_orders m_blockEntry m_blockFill m_blocks m_price m_trade m_filled m_rest m_out) 0 0 (f_m_send_b60 m_collateral x1 x2 x3 x4 x5 x6 x7 m_many m_need m_isBlock m_hours m_side m_quantity m_limit m_sent x9) := by
    intro  m_many m_need m_isBlock m_hours m_side m_quantity m_limit m_sent x9
    rw [f_m_send_b60]
    refine mr_lconst (v := 0) d_m_send_60 mc_lconst_0 ?_
    exact w_b61 _ _ _ _ _ _ _ _ _ _
  have w_b34 : ∀ (m_many : Nat → Int32) (m_need : Nat → Int64) (m_isBlock : Nat → Int32) (m_hours : Nat → Int32) (m_side : Nat → Int32) (m_quantity : Nat → Int32) (m_limit : Nat → Int32) (m_sent : Nat → Int32) (x9 : Int32), mz_A g M_m_send (mz_rm 0) (fun r => (0, some (.int r.1), ex, (hT, HM m_thrown m_n m_collateral r.2.1 r.2.2.1 r.2.2.2.1 r.2.2.2.2.1 r.2.2.2.2.2.1 r.2.2.2.2.2.2.1 r.2.2.2.2.2.2.2.1 r.2.2.2.2.2.2.2.2 m_sealed m_rounds m_liar m_told m_passed m_vectors m_meters m_cleared m_prices m_trades m_fills m_welfares m_orderEntry m_orderFill m_orders m_blockEntry m_blockFill m_blocks m_price m_trade m_filled m_rest m_out), 0, 0)) 34 [(0, .ref 54), (1, .int x1), (2, .int x2), (3, .int x3), (4, .int x4), (5, .int x5), (6, .int x6), (7, .int x7), (8, .int x8), (9, .int x9)] [] ex (hT, HM m_thrown m_n m_collateral m_many m_need m_isBlock m_hours m_side m_quantity m_limit m_sent m_sealed m_rounds m_liar m_told m_passed m_vectors m_meters m_cleared m_prices m_trades m_fills m_welfares m_orderEntry m_orderFill m_orders m_blockEntry m_blockFill m_blocks m_price m_trade m_filled m_rest m_out) 0 0 (f_m_send_b34 m_collateral x1 x2 x3 x4 x5 x6 x7 x8 m_many m_need m_isBlock m_hours m_side m_quantity m_limit m_sent x9) := by
    intro  m_many m_need m_isBlock m_hours m_side m_quantity m_limit m_sent x9
    rw [f_m_send_b34]
    refine mr_iload d_m_send_34 rfl ?_
    refine mr_iconst (v := 1) d_m_send_36 mc_iconst_1 ?_
    refine mr_icmp_ne (tgt := 60) d_m_send_37 (by decide) ?_ ?_
    · refine mr_sub (lv' := [(0, .ref 54), (1, .int x1), (2, .int x2), (3, .int x3), (4, .int x4), (5, .int x5), (6, .int x6), (7, .int x7), (9, .int x9)]) [0, 1, 2, 3, 4, 5, 6, 7, 9] rfl ?_
      exact w_b60 _ _ _ _ _ _ _ _ _
    · refine mr_iload d_m_send_40 rfl ?_
      refine mr_if_ge (tgt := 60) d_m_send_42 (by decide) ?_ ?_
      · refine mr_sub (lv' := [(0, .ref 54), (1, .int x1), (2, .int x2), (3, .int x3), (4, .int x4), (5, .int x5), (6, .int x6), (7, .int x7), (9, .int x9)]) [0, 1, 2, 3, 4, 5, 6, 7, 9] rfl ?_
        exact w_b60 _ _ _ _ _ _ _ _ _
      · refine mr_iload d_m_send_45 rfl ?_
        refine mr_i2l d_m_send_47 ?_
        refine mr_lneg d_m_send_48 ?_
        refine mr_iload d_m_send_49 rfl ?_
        refine mr_i2l d_m_send_51 ?_
        refine mr_lmul d_m_send_52 ?_
        refine mr_iload d_m_send_53 rfl ?_
        refine mr_i2l d_m_send_55 ?_
        refine mr_lmul d_m_send_56 ?_
        refine mr_goto (tgt := 61) d_m_send_57 (by decide) ?_
        refine mr_sub (lv' := [(0, .ref 54), (1, .int x1), (2, .int x2), (3, .int x3), (4, .int x4), (5, .int x5), (6, .int x6), (7, .int x7), (9, .int x9)]) [0, 1, 2, 3, 4, 5, 6, 7, 9] rfl ?_
        exact w_b61 _ _ _ _ _ _ _ _ _ _
  refine mz_of (by decide) (Nat.le_of_ble_eq_true rfl) ?_
  rw [f_m_send]
  show mz_A g M_m_send (mz_rm 0) _ 0 [(0, .ref 54), (1, .int x1), (2, .int x2), (3, .int x3), (4, .int x4), (5, .int x5), (6, .int x6), (7, .int x7), (8, .int x8)] [] ex (hT, HM m_thrown m_n m_collateral m_many m_need m_isBlock m_hours m_side m_quantity m_limit m_sent m_sealed m_rounds m_liar m_told m_passed m_vectors m_meters m_cleared m_prices m_trades m_fills m_welfares m_orderEntry m_orderFill m_orders m_blockEntry m_blockFill m_blocks m_price m_trade m_filled m_rest m_out) 0 0 _
  refine mr_iconst (v := 0) d_m_send_0 mc_iconst_0 ?_
  refine mr_istore (lv' := [(9, .int 0), (0, .ref 54), (1, .int x1), (2, .int x2), (3, .int x3), (4, .int x4), (5, .int x5), (6, .int x6), (7, .int x7), (8, .int x8)]) d_m_send_1 (by decide) rfl ?_
  refine mr_aload_n d_m_send_3 rfl rfl ?_
  refine mr_get K_m 10 d_m_send_4 lk_f_m_36 (by decide) rfl rfl ?_
  refine mr_iload_n d_m_send_7 rfl rfl ?_
  refine mr_iconst (v := 1) d_m_send_8 mc_iconst_1 ?_
  refine mr_zast (h2 := (hT, HM m_thrown m_n m_collateral m_many m_need m_isBlock m_hours m_side m_quantity m_limit (upd m_sent x1.toNatClampNeg (vp_nar .boolean 1)) m_sealed m_rounds m_liar m_told m_passed m_vectors m_meters m_cleared m_prices m_trades m_fills m_welfares m_orderEntry m_orderFill m_orders m_blockEntry m_blockFill m_blocks m_price m_trade m_filled m_rest m_out)) d_m_send_9 rfl rfl (fun hc1 => ?_)
  refine mr_iload d_m_send_10 rfl ?_
  refine mr_if_ne (tgt := 34) d_m_send_12 (by decide) ?_ ?_
  · refine mr_sub (lv' := [(0, .ref 54), (1, .int x1), (2, .int x2), (3, .int x3), (4, .int x4), (5, .int x5), (6, .int x6), (7, .int x7), (8, .int x8), (9, .int 0)]) [1, 2, 3, 4, 5, 6, 7, 8, 9, 0] rfl ?_
    exact w_b34 _ _ _ _ _ _ _ _ _
  · refine mr_iload d_m_send_15 rfl ?_
    refine mr_if_le (tgt := 34) d_m_send_17 (by decide) ?_ ?_
    · refine mr_sub (lv' := [(0, .ref 54), (1, .int x1), (2, .int x2), (3, .int x3), (4, .int x4), (5, .int x5), (6, .int x6), (7, .int x7), (8, .int x8), (9, .int 0)]) [1, 2, 3, 4, 5, 6, 7, 8, 9, 0] rfl ?_
      exact w_b34 _ _ _ _ _ _ _ _ _
    · refine mr_iload d_m_send_20 rfl ?_
      refine mr_i2l d_m_send_22 ?_
      refine mr_iload d_m_send_23 rfl ?_
      refine mr_i2l d_m_send_25 ?_
      refine mr_lmul d_m_send_26 ?_
      refine mr_iload d_m_send_27 rfl ?_
      refine mr_i2l d_m_send_29 ?_
      refine mr_lmul d_m_send_30 ?_
      refine mr_goto (tgt := 61) d_m_send_31 (by decide) ?_
      refine mr_sub (lv' := [(0, .ref 54), (1, .int x1), (2, .int x2), (3, .int x3), (4, .int x4), (5, .int x5), (6, .int x6), (7, .int x7), (9, .int 0)]) [1, 2, 3, 4, 5, 6, 7, 8, 0] rfl ?_
      exact w_b61 _ _ _ _ _ _ _ _ _ _
set_option maxRecDepth 100000 in
set_option maxHeartbeats 4000000 in
theorem e_m_isBad {g : mz_G} {ex : Bool} {hT : List mz_E} {m_thrown : Int32} {m_n : Int32} {m_collateral : Nat → Int32} {m_many : Nat → Int32} {m_need : Nat → Int64} {m_isBlock : Nat → Int32} {m_hours : Nat → Int32} {m_side : Nat → Int32} {m_quantity : Nat → Int32} {m_limit : Nat → Int32} {m_sent : Nat → Int32} {m_sealed : Nat → Int32} {m_rounds : Int32} {m_liar : Int32} {m_told : Nat → Int32} {m_passed : Nat → Int32} {m_vectors : Nat → Int32} {m_meters : Nat → Int32} {m_cleared : Nat → Int32} {m_prices : Nat → Int32} {m_trades : Nat → Int32} {m_fills : Nat → Int32} {m_welfares : Nat → Int64} {m_orderEntry : Nat → Int32} {m_orderFill : Nat → Int32} {m_orders : Int32} {m_blockEntry : Nat → Int32} {m_blockFill : Nat → Int32} {m_blocks : Int32} {m_price : Nat → Int32} {m_trade : Nat → Int32} {m_filled : Nat → Int32} {m_rest : Nat → Int64} {m_out : Nat → Int64} {x1 : Int32} {x2 : Int32} {x3 : Int32} {x4 : Int32} {x5 : Int32} : mz_M g M_m_isBad 2 [.ref 54, .int x1, .int x2, .int x3, .int x4, .int x5] ex (hT, HM m_thrown m_n m_collateral m_many m_need m_isBlock m_hours m_side m_quantity m_limit m_sent m_sealed m_rounds m_liar m_told m_passed m_vectors m_meters m_cleared m_prices m_trades m_fills m_welfares m_orderEntry m_orderFill m_orders m_blockEntry m_blockFill m_blocks m_price m_trade m_filled m_rest m_out) (f_m_isBad m_n x1 x2 x3 x4 x5) (fun r => (0, some (.int r), ex, (hT, HM m_thrown m_n m_collateral m_many m_need m_isBlock m_hours m_side m_quantity m_limit m_sent m_sealed m_rounds m_liar m_told m_passed m_vectors m_meters m_cleared m_prices m_trades m_fills m_welfares m_orderEntry m_orderFill m_orders m_blockEntry m_blockFill m_blocks m_price m_trade m_filled m_rest m_out), 0, 0)) := by
  have w_b60 : mz_A g M_m_isBad (mz_rm 2) (fun r => (0, some (.int r), ex, (hT, HM m_thrown m_n m_collateral m_many m_need m_isBlock m_hours m_side m_quantity m_limit m_sent m_sealed m_rounds m_liar m_told m_passed m_vectors m_meters m_cleared m_prices m_trades m_fills m_welfares m_orderEntry m_orderFill m_orders m_blockEntry m_blockFill m_blocks m_price m_trade m_filled m_rest m_out), 0, 0)) 60 [] [] ex (hT, HM m_thrown m_n m_collateral m_many m_need m_isBlock m_hours m_side m_quantity m_limit m_sent m_sealed m_rounds m_liar m_told m_passed m_vectors m_meters m_cleared m_prices m_trades m_fills m_welfares m_orderEntry m_orderFill m_orders m_blockEntry m_blockFill m_blocks m_price m_trade m_filled m_rest m_out) 0 0 (f_m_isBad_b60 m_n) := by
    rw [f_m_isBad_b60]
    refine mr_iconst (v := 1) d_m_isBad_60 mc_iconst_1 ?_
    refine mr_goto (tgt := 65) d_m_isBad_61 (by decide) ?_
    exact mr_zret d_m_isBad_65 rfl rfl
  refine mz_of (by decide) (Nat.le_of_ble_eq_true rfl) ?_
  rw [f_m_isBad]
  show mz_A g M_m_isBad (mz_rm 2) _ 0 [(0, .ref 54), (1, .int x1), (2, .int x2), (3, .int x3), (4, .int x4), (5, .int x5)] [] ex (hT, HM m_thrown m_n m_collateral m_many m_need m_isBlock m_hours m_side m_quantity m_limit m_sent m_sealed m_rounds m_liar m_told m_passed m_vectors m_meters m_cleared m_prices m_trades m_fills m_welfares m_orderEntry m_orderFill m_orders m_blockEntry m_blockFill m_blocks m_price m_trade m_filled m_rest m_out) 0 0 _
  refine mr_aload_n d_m_isBad_0 rfl rfl ?_
  refine mr_iload_n d_m_isBad_1 rfl rfl ?_
  refine mz_go (st := []) e_m_isMember (fun _ => rfl) U_m_isMember (mz_vV d_m_isBad_2 U_m_isMember rfl lk_m_m_113 I_m_isMember s_m_isMember np_m_isMember rfl rfl) (Nat.le_of_ble_eq_true rfl) (by decide) (fun r1 => ?_)
  refine mr_eq (st' := [.int r1]) (ex' := ex) (h2 := (hT, HM m_thrown m_n m_collateral m_many m_need m_isBlock m_hours m_side m_quantity m_limit m_sent m_sealed m_rounds m_liar m_told m_passed m_vectors m_meters m_cleared m_prices m_trades m_fills m_welfares m_orderEntry m_orderFill m_orders m_blockEntry m_blockFill m_blocks m_price m_trade m_filled m_rest m_out)) (k' := 0) (n' := 0) rfl rfl rfl rfl rfl ?_
  refine mr_if_eq (tgt := 60) d_m_isBad_5 (by decide) ?_ ?_
  · refine mr_sub (lv' := []) [] rfl ?_
    exact w_b60
  · refine mr_iload_n d_m_isBad_8 rfl rfl ?_
    refine mr_i2l d_m_isBad_9 ?_
    refine mr_ldc2 (v := (-1)) d_m_isBad_10 lk_k_m_123 ?_
    refine mr_ldc2 (v := 3) d_m_isBad_13 lk_k_m_125 ?_
    refine mz_go (st := []) e_m_in (fun _ => rfl) U_m_in (mz_vS d_m_isBad_16 U_m_in lk_m_m_106 S_m_in np_m_in) (Nat.le_of_ble_eq_true rfl) (by decide) (fun r2 => ?_)
    refine mr_eq (st' := [.int r2]) (ex' := ex) (h2 := (hT, HM m_thrown m_n m_collateral m_many m_need m_isBlock m_hours m_side m_quantity m_limit m_sent m_sealed m_rounds m_liar m_told m_passed m_vectors m_meters m_cleared m_prices m_trades m_fills m_welfares m_orderEntry m_orderFill m_orders m_blockEntry m_blockFill m_blocks m_price m_trade m_filled m_rest m_out)) (k' := 0) (n' := 0) rfl rfl rfl rfl rfl ?_
    refine mr_if_eq (tgt := 60) d_m_isBad_19 (by decide) ?_ ?_
    · refine mr_sub (lv' := []) [] rfl ?_
      exact w_b60
    · refine mr_iload_n d_m_isBad_22 rfl rfl ?_
      refine mr_i2l d_m_isBad_23 ?_
      refine mr_lconst (v := 0) d_m_isBad_24 mc_lconst_0 ?_
      refine mr_lconst (v := 1) d_m_isBad_25 mc_lconst_1 ?_
      refine mz_go (st := []) e_m_in (fun _ => rfl) U_m_in (mz_vS d_m_isBad_26 U_m_in lk_m_m_106 S_m_in np_m_in) (Nat.le_of_ble_eq_true rfl) (by decide) (fun r3 => ?_)
      refine mr_eq (st' := [.int r3]) (ex' := ex) (h2 := (hT, HM m_thrown m_n m_collateral m_many m_need m_isBlock m_hours m_side m_quantity m_limit m_sent m_sealed m_rounds m_liar m_told m_passed m_vectors m_meters m_cleared m_prices m_trades m_fills m_welfares m_orderEntry m_orderFill m_orders m_blockEntry m_blockFill m_blocks m_price m_trade m_filled m_rest m_out)) (k' := 0) (n' := 0) rfl rfl rfl rfl rfl ?_
      refine mr_if_eq (tgt := 60) d_m_isBad_29 (by decide) ?_ ?_
      · refine mr_sub (lv' := []) [] rfl ?_
        exact w_b60
      · refine mr_iload d_m_isBad_32 rfl ?_
        refine mr_i2l d_m_isBad_34 ?_
        refine mr_lconst (v := 1) d_m_isBad_35 mc_lconst_1 ?_
        refine mr_ldc2 (v := 1000) d_m_isBad_36 lk_k_m_127 ?_
        refine mz_go (st := []) e_m_in (fun _ => rfl) U_m_in (mz_vS d_m_isBad_39 U_m_in lk_m_m_106 S_m_in np_m_in) (Nat.le_of_ble_eq_true rfl) (by decide) (fun r4 => ?_)
        refine mr_eq (st' := [.int r4]) (ex' := ex) (h2 := (hT, HM m_thrown m_n m_collateral m_many m_need m_isBlock m_hours m_side m_quantity m_limit m_sent m_sealed m_rounds m_liar m_told m_passed m_vectors m_meters m_cleared m_prices m_trades m_fills m_welfares m_orderEntry m_orderFill m_orders m_blockEntry m_blockFill m_blocks m_price m_trade m_filled m_rest m_out)) (k' := 0) (n' := 0) rfl rfl rfl rfl rfl ?_
        refine mr_if_eq (tgt := 60) d_m_isBad_42 (by decide) ?_ ?_
        · refine mr_sub (lv' := []) [] rfl ?_
          exact w_b60
        · refine mr_iload d_m_isBad_45 rfl ?_
          refine mr_i2l d_m_isBad_47 ?_
          refine mr_ldc2 (v := (-5000)) d_m_isBad_48 lk_k_m_129 ?_
          refine mr_ldc2 (v := 40000) d_m_isBad_51 lk_k_m_131 ?_
          refine mz_go (st := []) e_m_in (fun _ => rfl) U_m_in (mz_vS d_m_isBad_54 U_m_in lk_m_m_106 S_m_in np_m_in) (Nat.le_of_ble_eq_true rfl) (by decide) (fun r5 => ?_)
          refine mr_eq (st' := [.int r5]) (ex' := ex) (h2 := (hT, HM m_thrown m_n m_collateral m_many m_need m_isBlock m_hours m_side m_quantity m_limit m_sent m_sealed m_rounds m_liar m_told m_passed m_vectors m_meters m_cleared m_prices m_trades m_fills m_welfares m_orderEntry m_orderFill m_orders m_blockEntry m_blockFill m_blocks m_price m_trade m_filled m_rest m_out)) (k' := 0) (n' := 0) rfl rfl rfl rfl rfl ?_
          refine mr_if_ne (tgt := 64) d_m_isBad_57 (by decide) ?_ ?_
          · refine mr_iconst (v := 0) d_m_isBad_64 mc_iconst_0 ?_
            exact mr_zret d_m_isBad_65 rfl rfl
          · refine mr_sub (lv' := []) [] rfl ?_
            exact w_b60
set_option maxRecDepth 100000 in
set_option maxHeartbeats 4000000 in
theorem e_m_order {g : mz_G} {ex : Bool} {hT : List mz_E} {m_thrown : Int32} {m_n : Int32} {m_collateral : Nat → Int32} {m_many : Nat → Int32} {m_need : Nat → Int64} {m_isBlock : Nat → Int32} {m_hours : Nat → Int32} {m_side : Nat → Int32} {m_quantity : Nat → Int32} {m_limit : Nat → Int32} {m_sent : Nat → Int32} {m_sealed : Nat → Int32} {m_rounds : Int32} {m_liar : Int32} {m_told : Nat → Int32} {m_passed : Nat → Int32} {m_vectors : Nat → Int32} {m_meters : Nat → Int32} {m_cleared : Nat → Int32} {m_prices : Nat → Int32} {m_trades : Nat → Int32} {m_fills : Nat → Int32} {m_welfares : Nat → Int64} {m_orderEntry : Nat → Int32} {m_orderFill : Nat → Int32} {m_orders : Int32} {m_blockEntry : Nat → Int32} {m_blockFill : Nat → Int32} {m_blocks : Int32} {m_price : Nat → Int32} {m_trade : Nat → Int32} {m_filled : Nat → Int32} {m_rest : Nat → Int64} {m_out : Nat → Int64} {x1 : Int32} {x2 : Int32} {x3 : Int32} {x4 : Int32} {x5 : Int32} {x6 : Int32} : mz_M g M_m_order 3 [.ref 54, .int x1, .int x2, .int x3, .int x4, .int x5, .int x6] ex (hT, HM m_thrown m_n m_collateral m_many m_need m_isBlock m_hours m_side m_quantity m_limit m_sent m_sealed m_rounds m_liar m_told m_passed m_vectors m_meters m_cleared m_prices m_trades m_fills m_welfares m_orderEntry m_orderFill m_orders m_blockEntry m_blockFill m_blocks m_price m_trade m_filled m_rest m_out) (f_m_order m_thrown m_n m_collateral m_many m_need m_isBlock m_hours m_side m_quantity m_limit m_sent m_sealed x1 x2 x3 x4 x5 x6) (fun r => (0, some (.int r.1), ex, (hT, HM r.2.1 m_n m_collateral r.2.2.1 r.2.2.2.1 r.2.2.2.2.1 r.2.2.2.2.2.1 r.2.2.2.2.2.2.1 r.2.2.2.2.2.2.2.1 r.2.2.2.2.2.2.2.2.1 r.2.2.2.2.2.2.2.2.2 m_sealed m_rounds m_liar m_told m_passed m_vectors m_meters m_cleared m_prices m_trades m_fills m_welfares m_orderEntry m_orderFill m_orders m_blockEntry m_blockFill m_blocks m_price m_trade m_filled m_rest m_out), 0, 0)) := by
  have w_b56 : ∀ (m_thrown : Int32) (m_many : Nat → Int32) (m_need : Nat → Int64) (m_isBlock : Nat → Int32) (m_hours : Nat → Int32) (m_side : Nat → Int32) (m_quantity : Nat → Int32) (m_limit : Nat → Int32) (m_sent : Nat → Int32) (s1 : Int32) (s2 : Int32), mz_A g M_m_order (mz_rm 3) (fun r => (0, some (.int r.1), ex, (hT, HM r.2.1 m_n m_collateral r.2.2.1 r.2.2.2.1 r.2.2.2.2.1 r.2.2.2.2.2.1 r.2.2.2.2.2.2.1 r.2.2.2.2.2.2.2.1 r.2.2.2.2.2.2.2.2.1 r.2.2.2.2.2.2.2.2.2 m_sealed m_rounds m_liar m_told m_passed m_vectors m_meters m_cleared m_prices m_trades m_fills m_welfares m_orderEntry m_orderFill m_orders m_blockEntry m_blockFill m_blocks m_price m_trade m_filled m_rest m_out), 0, 0)) 56 [(0, .ref 54), (1, .int x1), (2, .int x2), (3, .int x3), (4, .int x4), (5, .int x5), (6, .int x6)] [.int s2, .int s1, .ref 54] ex (hT, HM m_thrown m_n m_collateral m_many m_need m_isBlock m_hours m_side m_quantity m_limit m_sent m_sealed m_rounds m_liar m_told m_passed m_vectors m_meters m_cleared m_prices m_trades m_fills m_welfares m_orderEntry m_orderFill m_orders m_blockEntry m_blockFill m_blocks m_price m_trade m_filled m_rest m_out) 0 0 (f_m_order_b56 m_n m_collateral m_sealed x1 x2 x3 x4 x5 x6 m_thrown m_many m_need m_isBlock m_hours m_side m_quantity m_limit m_sent s1 s2) := by
    intro  m_thrown m_many m_need m_isBlock m_hours m_side m_quantity m_limit m_sent s1 s2
    rw [f_m_order_b56]
    refine mz_go (st := []) e_m_throwing (fun _ => rfl) U_m_throwing (mz_vV d_m_order_56 U_m_throwing rfl lk_m_m_119 I_m_throwing s_m_throwing np_m_throwing rfl rfl) (Nat.le_of_ble_eq_true rfl) (by decide) (fun r4 => ?_)
    refine mr_eq (st' := [.int r4.1]) (ex' := ex) (h2 := (hT, HM r4.2 m_n m_collateral m_many m_need m_isBlock m_hours m_side m_quantity m_limit m_sent m_sealed m_rounds m_liar m_told m_passed m_vectors m_meters m_cleared m_prices m_trades m_fills m_welfares m_orderEntry m_orderFill m_orders m_blockEntry m_blockFill m_blocks m_price m_trade m_filled m_rest m_out)) (k' := 0) (n' := 0) rfl rfl rfl rfl rfl ?_
    refine mr_if_eq (tgt := 64) d_m_order_59 (by decide) ?_ ?_
    · refine mr_aload_n d_m_order_64 rfl rfl ?_
      refine mr_iload_n d_m_order_65 rfl rfl ?_
      refine mr_iload_n d_m_order_66 rfl rfl ?_
      refine mr_iconst (v := 0) d_m_order_67 mc_iconst_0 ?_
      refine mr_iload_n d_m_order_68 rfl rfl ?_
      refine mr_iload d_m_order_69 rfl ?_
      refine mr_iload d_m_order_71 rfl ?_
      refine mr_iload d_m_order_73 rfl ?_
      refine mr_iconst (v := 1) d_m_order_75 mc_iconst_1 ?_
      refine mz_go (st := []) e_m_send (fun _ => rfl) U_m_send (mz_vV d_m_order_76 U_m_send rfl lk_m_m_139 I_m_send s_m_send np_m_send rfl rfl) (Nat.le_of_ble_eq_true rfl) (by decide) (fun r5 => ?_)
      refine mr_eq (st' := [.int r5.1]) (ex' := ex) (h2 := (hT, HM r4.2 m_n m_collateral r5.2.1 r5.2.2.1 r5.2.2.2.1 r5.2.2.2.2.1 r5.2.2.2.2.2.1 r5.2.2.2.2.2.2.1 r5.2.2.2.2.2.2.2.1 r5.2.2.2.2.2.2.2.2 m_sealed m_rounds m_liar m_told m_passed m_vectors m_meters m_cleared m_prices m_trades m_fills m_welfares m_orderEntry m_orderFill m_orders m_blockEntry m_blockFill m_blocks m_price m_trade m_filled m_rest m_out)) (k' := 0) (n' := 0) rfl rfl rfl rfl rfl ?_
      exact mr_iret d_m_order_79 rfl rfl
    · refine mr_iconst (v := 0) d_m_order_62 mc_iconst_0 ?_
      exact mr_iret d_m_order_63 rfl rfl
  have w_b55 : ∀ (m_thrown : Int32) (m_many : Nat → Int32) (m_need : Nat → Int64) (m_isBlock : Nat → Int32) (m_hours : Nat → Int32) (m_side : Nat → Int32) (m_quantity : Nat → Int32) (m_limit : Nat → Int32) (m_sent : Nat → Int32) (s1 : Int32), mz_A g M_m_order (mz_rm 3) (fun r => (0, some (.int r.1), ex, (hT, HM r.2.1 m_n m_collateral r.2.2.1 r.2.2.2.1 r.2.2.2.2.1 r.2.2.2.2.2.1 r.2.2.2.2.2.2.1 r.2.2.2.2.2.2.2.1 r.2.2.2.2.2.2.2.2.1 r.2.2.2.2.2.2.2.2.2 m_sealed m_rounds m_liar m_told m_passed m_vectors m_meters m_cleared m_prices m_trades m_fills m_welfares m_orderEntry m_orderFill m_orders m_blockEntry m_blockFill m_blocks m_price m_trade m_filled m_rest m_out), 0, 0)) 55 [(0, .ref 54), (1, .int x1), (2, .int x2), (3, .int x3), (4, .int x4), (5, .int x5), (6, .int x6)] [.int s1, .ref 54] ex (hT, HM m_thrown m_n m_collateral m_many m_need m_isBlock m_hours m_side m_quantity m_limit m_sent m_sealed m_rounds m_liar m_told m_passed m_vectors m_meters m_cleared m_prices m_trades m_fills m_welfares m_orderEntry m_orderFill m_orders m_blockEntry m_blockFill m_blocks m_price m_trade m_filled m_rest m_out) 0 0 (f_m_order_b55 m_n m_collateral m_sealed x1 x2 x3 x4 x5 x6 m_thrown m_many m_need m_isBlock m_hours m_side m_quantity m_limit m_sent s1) := by
    intro  m_thrown m_many m_need m_isBlock m_hours m_side m_quantity m_limit m_sent s1
    rw [f_m_order_b55]
    refine mr_iconst (v := 0) d_m_order_55 mc_iconst_0 ?_
    exact w_b56 _ _ _ _ _ _ _ _ _ _ _
  have w_b32 : ∀ (m_thrown : Int32) (m_many : Nat → Int32) (m_need : Nat → Int64) (m_isBlock : Nat → Int32) (m_hours : Nat → Int32) (m_side : Nat → Int32) (m_quantity : Nat → Int32) (m_limit : Nat → Int32) (m_sent : Nat → Int32) (s0 : Int32), mz_A g M_m_order (mz_rm 3) (fun r => (0, some (.int r.1), ex, (hT, HM r.2.1 m_n m_collateral r.2.2.1 r.2.2.2.1 r.2.2.2.2.1 r.2.2.2.2.2.1 r.2.2.2.2.2.2.1 r.2.2.2.2.2.2.2.1 r.2.2.2.2.2.2.2.2.1 r.2.2.2.2.2.2.2.2.2 m_sealed m_rounds m_liar m_told m_passed m_vectors m_meters m_cleared m_prices m_trades m_fills m_welfares m_orderEntry m_orderFill m_orders m_blockEntry m_blockFill m_blocks m_price m_trade m_filled m_rest m_out), 0, 0)) 32 [(0, .ref 54), (1, .int x1), (2, .int x2), (3, .int x3), (4, .int x4), (5, .int x5), (6, .int x6)] [.int s0] ex (hT, HM m_thrown m_n m_collateral m_many m_need m_isBlock m_hours m_side m_quantity m_limit m_sent m_sealed m_rounds m_liar m_told m_passed m_vectors m_meters m_cleared m_prices m_trades m_fills m_welfares m_orderEntry m_orderFill m_orders m_blockEntry m_blockFill m_blocks m_price m_trade m_filled m_rest m_out) 0 0 (f_m_order_b32 m_n m_collateral m_sealed x1 x2 x3 x4 x5 x6 m_thrown m_many m_need m_isBlock m_hours m_side m_quantity m_limit m_sent s0) := by
    intro  m_thrown m_many m_need m_isBlock m_hours m_side m_quantity m_limit m_sent s0
    rw [f_m_order_b32]
    refine mr_istore (lv' := [(7, .int s0), (0, .ref 54), (1, .int x1), (2, .int x2), (3, .int x3), (4, .int x4), (5, .int x5), (6, .int x6)]) d_m_order_32 (by decide) rfl ?_
    refine mr_aload_n d_m_order_34 rfl rfl ?_
    refine mr_iload d_m_order_35 rfl ?_
    refine mr_iload d_m_order_37 rfl ?_
    refine mr_if_ne (tgt := 55) d_m_order_39 (by decide) ?_ ?_
    · refine mr_sub (lv' := [(0, .ref 54), (1, .int x1), (2, .int x2), (3, .int x3), (4, .int x4), (5, .int x5), (6, .int x6)]) [1, 2, 3, 4, 5, 6, 7] rfl ?_
      exact w_b55 _ _ _ _ _ _ _ _ _ _
    · refine mr_aload_n d_m_order_42 rfl rfl ?_
      refine mr_get K_m 11 d_m_order_43 lk_f_m_39 (by decide) rfl rfl ?_
      refine mr_iload_n d_m_order_46 rfl rfl ?_
      refine mr_zald d_m_order_47 rfl (fun hc3 => ?_)
      refine mr_if_eq (tgt := 55) d_m_order_48 (by decide) ?_ ?_
      · refine mr_sub (lv' := [(0, .ref 54), (1, .int x1), (2, .int x2), (3, .int x3), (4, .int x4), (5, .int x5), (6, .int x6)]) [1, 2, 3, 4, 5, 6, 7] rfl ?_
        exact w_b55 _ _ _ _ _ _ _ _ _ _
      · refine mr_iconst (v := 1) d_m_order_51 mc_iconst_1 ?_
        refine mr_goto (tgt := 56) d_m_order_52 (by decide) ?_
        refine mr_sub (lv' := [(0, .ref 54), (1, .int x1), (2, .int x2), (3, .int x3), (4, .int x4), (5, .int x5), (6, .int x6)]) [1, 2, 3, 4, 5, 6, 7] rfl ?_
        exact w_b56 _ _ _ _ _ _ _ _ _ _ _
  have w_b27 : ∀ (m_thrown : Int32) (m_many : Nat → Int32) (m_need : Nat → Int64) (m_isBlock : Nat → Int32) (m_hours : Nat → Int32) (m_side : Nat → Int32) (m_quantity : Nat → Int32) (m_limit : Nat → Int32) (m_sent : Nat → Int32), mz_A g M_m_order (mz_rm 3) (fun r => (0, some (.int r.1), ex, (hT, HM r.2.1 m_n m_collateral r.2.2.1 r.2.2.2.1 r.2.2.2.2.1 r.2.2.2.2.2.1 r.2.2.2.2.2.2.1 r.2.2.2.2.2.2.2.1 r.2.2.2.2.2.2.2.2.1 r.2.2.2.2.2.2.2.2.2 m_sealed m_rounds m_liar m_told m_passed m_vectors m_meters m_cleared m_prices m_trades m_fills m_welfares m_orderEntry m_orderFill m_orders m_blockEntry m_blockFill m_blocks m_price m_trade m_filled m_rest m_out), 0, 0)) 27 [(0, .ref 54), (1, .int x1), (2, .int x2), (3, .int x3), (4, .int x4), (5, .int x5), (6, .int x6)] [] ex (hT, HM m_thrown m_n m_collateral m_many m_need m_isBlock m_hours m_side m_quantity m_limit m_sent m_sealed m_rounds m_liar m_told m_passed m_vectors m_meters m_cleared m_prices m_trades m_fills m_welfares m_orderEntry m_orderFill m_orders m_blockEntry m_blockFill m_blocks m_price m_trade m_filled m_rest m_out) 0 0 (f_m_order_b27 m_n m_collateral m_sealed x1 x2 x3 x4 x5 x6 m_thrown m_many m_need m_isBlock m_hours m_side m_quantity m_limit m_sent) := by
    intro  m_thrown m_many m_need m_isBlock m_hours m_side m_quantity m_limit m_sent
    rw [f_m_order_b27]
    refine mr_iconst (v := 1) d_m_order_27 mc_iconst_1 ?_
    refine mr_goto (tgt := 32) d_m_order_28 (by decide) ?_
    exact w_b32 _ _ _ _ _ _ _ _ _ _
  refine mz_of (by decide) (Nat.le_of_ble_eq_true rfl) ?_
  rw [f_m_order]
  show mz_A g M_m_order (mz_rm 3) _ 0 [(0, .ref 54), (1, .int x1), (2, .int x2), (3, .int x3), (4, .int x4), (5, .int x5), (6, .int x6)] [] ex (hT, HM m_thrown m_n m_collateral m_many m_need m_isBlock m_hours m_side m_quantity m_limit m_sent m_sealed m_rounds m_liar m_told m_passed m_vectors m_meters m_cleared m_prices m_trades m_fills m_welfares m_orderEntry m_orderFill m_orders m_blockEntry m_blockFill m_blocks m_price m_trade m_filled m_rest m_out) 0 0 _
  refine mr_aload_n d_m_order_0 rfl rfl ?_
  refine mr_iload_n d_m_order_1 rfl rfl ?_
  refine mr_iload_n d_m_order_2 rfl rfl ?_
  refine mr_iload d_m_order_3 rfl ?_
  refine mr_iload d_m_order_5 rfl ?_
  refine mr_iload d_m_order_7 rfl ?_
  refine mz_go (st := []) e_m_isBad (fun _ => rfl) U_m_isBad (mz_vV d_m_order_9 U_m_isBad rfl lk_m_m_133 I_m_isBad s_m_isBad np_m_isBad rfl rfl) (Nat.le_of_ble_eq_true rfl) (by decide) (fun r1 => ?_)
  refine mr_eq (st' := [.int r1]) (ex' := ex) (h2 := (hT, HM m_thrown m_n m_collateral m_many m_need m_isBlock m_hours m_side m_quantity m_limit m_sent m_sealed m_rounds m_liar m_told m_passed m_vectors m_meters m_cleared m_prices m_trades m_fills m_welfares m_orderEntry m_orderFill m_orders m_blockEntry m_blockFill m_blocks m_price m_trade m_filled m_rest m_out)) (k' := 0) (n' := 0) rfl rfl rfl rfl rfl ?_
  refine mr_if_ne (tgt := 27) d_m_order_12 (by decide) ?_ ?_
  · exact w_b27 _ _ _ _ _ _ _ _ _
  · refine mr_iload_n d_m_order_15 rfl rfl ?_
    refine mr_i2l d_m_order_16 ?_
    refine mr_lconst (v := 0) d_m_order_17 mc_lconst_0 ?_
    refine mr_ldc2 (v := 2) d_m_order_18 lk_k_m_137 ?_
    refine mz_go (st := []) e_m_in (fun _ => rfl) U_m_in (mz_vS d_m_order_21 U_m_in lk_m_m_106 S_m_in np_m_in) (Nat.le_of_ble_eq_true rfl) (by decide) (fun r2 => ?_)
    refine mr_eq (st' := [.int r2]) (ex' := ex) (h2 := (hT, HM m_thrown m_n m_collateral m_many m_need m_isBlock m_hours m_side m_quantity m_limit m_sent m_sealed m_rounds m_liar m_told m_passed m_vectors m_meters m_cleared m_prices m_trades m_fills m_welfares m_orderEntry m_orderFill m_orders m_blockEntry m_blockFill m_blocks m_price m_trade m_filled m_rest m_out)) (k' := 0) (n' := 0) rfl rfl rfl rfl rfl ?_
    refine mr_if_ne (tgt := 31) d_m_order_24 (by decide) ?_ ?_
    · refine mr_iconst (v := 0) d_m_order_31 mc_iconst_0 ?_
      exact w_b32 _ _ _ _ _ _ _ _ _ _
    · exact w_b27 _ _ _ _ _ _ _ _ _
set_option maxRecDepth 100000 in
set_option maxHeartbeats 4000000 in
theorem e_m_block {g : mz_G} {ex : Bool} {hT : List mz_E} {m_thrown : Int32} {m_n : Int32} {m_collateral : Nat → Int32} {m_many : Nat → Int32} {m_need : Nat → Int64} {m_isBlock : Nat → Int32} {m_hours : Nat → Int32} {m_side : Nat → Int32} {m_quantity : Nat → Int32} {m_limit : Nat → Int32} {m_sent : Nat → Int32} {m_sealed : Nat → Int32} {m_rounds : Int32} {m_liar : Int32} {m_told : Nat → Int32} {m_passed : Nat → Int32} {m_vectors : Nat → Int32} {m_meters : Nat → Int32} {m_cleared : Nat → Int32} {m_prices : Nat → Int32} {m_trades : Nat → Int32} {m_fills : Nat → Int32} {m_welfares : Nat → Int64} {m_orderEntry : Nat → Int32} {m_orderFill : Nat → Int32} {m_orders : Int32} {m_blockEntry : Nat → Int32} {m_blockFill : Nat → Int32} {m_blocks : Int32} {m_price : Nat → Int32} {m_trade : Nat → Int32} {m_filled : Nat → Int32} {m_rest : Nat → Int64} {m_out : Nat → Int64} {x1 : Int32} {x2 : Int32} {x3 : Int32} {x4 : Int32} {x5 : Int32} {x6 : Int32} : mz_M g M_m_block 3 [.ref 54, .int x1, .int x2, .int x3, .int x4, .int x5, .int x6] ex (hT, HM m_thrown m_n m_collateral m_many m_need m_isBlock m_hours m_side m_quantity m_limit m_sent m_sealed m_rounds m_liar m_told m_passed m_vectors m_meters m_cleared m_prices m_trades m_fills m_welfares m_orderEntry m_orderFill m_orders m_blockEntry m_blockFill m_blocks m_price m_trade m_filled m_rest m_out) (f_m_block m_thrown m_n m_collateral m_many m_need m_isBlock m_hours m_side m_quantity m_limit m_sent m_sealed x1 x2 x3 x4 x5 x6) (fun r => (0, some (.int r.1), ex, (hT, HM r.2.1 m_n m_collateral r.2.2.1 r.2.2.2.1 r.2.2.2.2.1 r.2.2.2.2.2.1 r.2.2.2.2.2.2.1 r.2.2.2.2.2.2.2.1 r.2.2.2.2.2.2.2.2.1 r.2.2.2.2.2.2.2.2.2 m_sealed m_rounds m_liar m_told m_passed m_vectors m_meters m_cleared m_prices m_trades m_fills m_welfares m_orderEntry m_orderFill m_orders m_blockEntry m_blockFill m_blocks m_price m_trade m_filled m_rest m_out), 0, 0)) := by
  have w_b64 : ∀ (m_thrown : Int32) (m_many : Nat → Int32) (m_need : Nat → Int64) (m_isBlock : Nat → Int32) (m_hours : Nat → Int32) (m_side : Nat → Int32) (m_quantity : Nat → Int32) (m_limit : Nat → Int32) (m_sent : Nat → Int32) (s1 : Int32) (s2 : Int32), mz_A g M_m_block (mz_rm 3) (fun r => (0, some (.int r.1), ex, (hT, HM r.2.1 m_n m_collateral r.2.2.1 r.2.2.2.1 r.2.2.2.2.1 r.2.2.2.2.2.1 r.2.2.2.2.2.2.1 r.2.2.2.2.2.2.2.1 r.2.2.2.2.2.2.2.2.1 r.2.2.2.2.2.2.2.2.2 m_sealed m_rounds m_liar m_told m_passed m_vectors m_meters m_cleared m_prices m_trades m_fills m_welfares m_orderEntry m_orderFill m_orders m_blockEntry m_blockFill m_blocks m_price m_trade m_filled m_rest m_out), 0, 0)) 64 [(0, .ref 54), (1, .int x1), (2, .int x2), (3, .int x3), (4, .int x4), (5, .int x5), (6, .int x6)] [.int s2, .int s1, .ref 54] ex (hT, HM m_thrown m_n m_collateral m_many m_need m_isBlock m_hours m_side m_quantity m_limit m_sent m_sealed m_rounds m_liar m_told m_passed m_vectors m_meters m_cleared m_prices m_trades m_fills m_welfares m_orderEntry m_orderFill m_orders m_blockEntry m_blockFill m_blocks m_price m_trade m_filled m_rest m_out) 0 0 (f_m_block_b64 m_n m_collateral m_sealed x1 x2 x3 x4 x5 x6 m_thrown m_many m_need m_isBlock m_hours m_side m_quantity m_limit m_sent s1 s2) := by
    intro  m_thrown m_many m_need m_isBlock m_hours m_side m_quantity m_limit m_sent s1 s2
    rw [f_m_block_b64]
    refine mz_go (st := []) e_m_throwing (fun _ => rfl) U_m_throwing (mz_vV d_m_block_64 U_m_throwing rfl lk_m_m_119 I_m_throwing s_m_throwing np_m_throwing rfl rfl) (Nat.le_of_ble_eq_true rfl) (by decide) (fun r3 => ?_)
    refine mr_eq (st' := [.int r3.1]) (ex' := ex) (h2 := (hT, HM r3.2 m_n m_collateral m_many m_need m_isBlock m_hours m_side m_quantity m_limit m_sent m_sealed m_rounds m_liar m_told m_passed m_vectors m_meters m_cleared m_prices m_trades m_fills m_welfares m_orderEntry m_orderFill m_orders m_blockEntry m_blockFill m_blocks m_price m_trade m_filled m_rest m_out)) (k' := 0) (n' := 0) rfl rfl rfl rfl rfl ?_
    refine mr_if_eq (tgt := 72) d_m_block_67 (by decide) ?_ ?_
    · refine mr_aload_n d_m_block_72 rfl rfl ?_
      refine mr_iload_n d_m_block_73 rfl rfl ?_
      refine mr_iload_n d_m_block_74 rfl rfl ?_
      refine mr_iconst (v := 1) d_m_block_75 mc_iconst_1 ?_
      refine mr_iload_n d_m_block_76 rfl rfl ?_
      refine mr_iload d_m_block_77 rfl ?_
      refine mr_iload d_m_block_79 rfl ?_
      refine mr_iload d_m_block_81 rfl ?_
      refine mr_iload_n d_m_block_83 rfl rfl ?_
      refine mr_iconst (v := 4) d_m_block_84 mc_iconst_4 ?_
      refine mr_iremK d_m_block_85 (by decide) ?_
      refine mr_iload_n d_m_block_86 rfl rfl ?_
      refine mr_iconst (v := 4) d_m_block_87 mc_iconst_4 ?_
      refine mr_idivK d_m_block_88 (by decide) ?_
      refine mr_isub d_m_block_89 ?_
      refine mr_iconst (v := 1) d_m_block_90 mc_iconst_1 ?_
      refine mr_iadd d_m_block_91 ?_
      refine mz_go (st := []) e_m_send (fun _ => rfl) U_m_send (mz_vV d_m_block_92 U_m_send rfl lk_m_m_139 I_m_send s_m_send np_m_send rfl rfl) (Nat.le_of_ble_eq_true rfl) (by decide) (fun r4 => ?_)
      refine mr_eq (st' := [.int r4.1]) (ex' := ex) (h2 := (hT, HM r3.2 m_n m_collateral r4.2.1 r4.2.2.1 r4.2.2.2.1 r4.2.2.2.2.1 r4.2.2.2.2.2.1 r4.2.2.2.2.2.2.1 r4.2.2.2.2.2.2.2.1 r4.2.2.2.2.2.2.2.2 m_sealed m_rounds m_liar m_told m_passed m_vectors m_meters m_cleared m_prices m_trades m_fills m_welfares m_orderEntry m_orderFill m_orders m_blockEntry m_blockFill m_blocks m_price m_trade m_filled m_rest m_out)) (k' := 0) (n' := 0) rfl rfl rfl rfl rfl ?_
      exact mr_iret d_m_block_95 rfl rfl
    · refine mr_iconst (v := 0) d_m_block_70 mc_iconst_0 ?_
      exact mr_iret d_m_block_71 rfl rfl
  have w_b63 : ∀ (m_thrown : Int32) (m_many : Nat → Int32) (m_need : Nat → Int64) (m_isBlock : Nat → Int32) (m_hours : Nat → Int32) (m_side : Nat → Int32) (m_quantity : Nat → Int32) (m_limit : Nat → Int32) (m_sent : Nat → Int32) (s1 : Int32), mz_A g M_m_block (mz_rm 3) (fun r => (0, some (.int r.1), ex, (hT, HM r.2.1 m_n m_collateral r.2.2.1 r.2.2.2.1 r.2.2.2.2.1 r.2.2.2.2.2.1 r.2.2.2.2.2.2.1 r.2.2.2.2.2.2.2.1 r.2.2.2.2.2.2.2.2.1 r.2.2.2.2.2.2.2.2.2 m_sealed m_rounds m_liar m_told m_passed m_vectors m_meters m_cleared m_prices m_trades m_fills m_welfares m_orderEntry m_orderFill m_orders m_blockEntry m_blockFill m_blocks m_price m_trade m_filled m_rest m_out), 0, 0)) 63 [(0, .ref 54), (1, .int x1), (2, .int x2), (3, .int x3), (4, .int x4), (5, .int x5), (6, .int x6)] [.int s1, .ref 54] ex (hT, HM m_thrown m_n m_collateral m_many m_need m_isBlock m_hours m_side m_quantity m_limit m_sent m_sealed m_rounds m_liar m_told m_passed m_vectors m_meters m_cleared m_prices m_trades m_fills m_welfares m_orderEntry m_orderFill m_orders m_blockEntry m_blockFill m_blocks m_price m_trade m_filled m_rest m_out) 0 0 (f_m_block_b63 m_n m_collateral m_sealed x1 x2 x3 x4 x5 x6 m_thrown m_many m_need m_isBlock m_hours m_side m_quantity m_limit m_sent s1) := by
    intro  m_thrown m_many m_need m_isBlock m_hours m_side m_quantity m_limit m_sent s1
    rw [f_m_block_b63]
    refine mr_iconst (v := 0) d_m_block_63 mc_iconst_0 ?_
    exact w_b64 _ _ _ _ _ _ _ _ _ _ _
  have w_b40 : ∀ (m_thrown : Int32) (m_many : Nat → Int32) (m_need : Nat → Int64) (m_isBlock : Nat → Int32) (m_hours : Nat → Int32) (m_side : Nat → Int32) (m_quantity : Nat → Int32) (m_limit : Nat → Int32) (m_sent : Nat → Int32) (s0 : Int32), mz_A g M_m_block (mz_rm 3) (fun r => (0, some (.int r.1), ex, (hT, HM r.2.1 m_n m_collateral r.2.2.1 r.2.2.2.1 r.2.2.2.2.1 r.2.2.2.2.2.1 r.2.2.2.2.2.2.1 r.2.2.2.2.2.2.2.1 r.2.2.2.2.2.2.2.2.1 r.2.2.2.2.2.2.2.2.2 m_sealed m_rounds m_liar m_told m_passed m_vectors m_meters m_cleared m_prices m_trades m_fills m_welfares m_orderEntry m_orderFill m_orders m_blockEntry m_blockFill m_blocks m_price m_trade m_filled m_rest m_out), 0, 0)) 40 [(0, .ref 54), (1, .int x1), (2, .int x2), (3, .int x3), (4, .int x4), (5, .int x5), (6, .int x6)] [.int s0] ex (hT, HM m_thrown m_n m_collateral m_many m_need m_isBlock m_hours m_side m_quantity m_limit m_sent m_sealed m_rounds m_liar m_told m_passed m_vectors m_meters m_cleared m_prices m_trades m_fills m_welfares m_orderEntry m_orderFill m_orders m_blockEntry m_blockFill m_blocks m_price m_trade m_filled m_rest m_out) 0 0 (f_m_block_b40 m_n m_collateral m_sealed x1 x2 x3 x4 x5 x6 m_thrown m_many m_need m_isBlock m_hours m_side m_quantity m_limit m_sent s0) := by
    intro  m_thrown m_many m_need m_isBlock m_hours m_side m_quantity m_limit m_sent s0
    rw [f_m_block_b40]
    refine mr_istore (lv' := [(7, .int s0), (0, .ref 54), (1, .int x1), (2, .int x2), (3, .int x3), (4, .int x4), (5, .int x5), (6, .int x6)]) d_m_block_40 (by decide) rfl ?_
    refine mr_aload_n d_m_block_42 rfl rfl ?_
    refine mr_iload d_m_block_43 rfl ?_
    refine mr_iload d_m_block_45 rfl ?_
    refine mr_if_ne (tgt := 63) d_m_block_47 (by decide) ?_ ?_
    · refine mr_sub (lv' := [(0, .ref 54), (1, .int x1), (2, .int x2), (3, .int x3), (4, .int x4), (5, .int x5), (6, .int x6)]) [1, 2, 3, 4, 5, 6, 7] rfl ?_
      exact w_b63 _ _ _ _ _ _ _ _ _ _
    · refine mr_aload_n d_m_block_50 rfl rfl ?_
      refine mr_get K_m 11 d_m_block_51 lk_f_m_39 (by decide) rfl rfl ?_
      refine mr_iload_n d_m_block_54 rfl rfl ?_
      refine mr_zald d_m_block_55 rfl (fun hc2 => ?_)
      refine mr_if_eq (tgt := 63) d_m_block_56 (by decide) ?_ ?_
      · refine mr_sub (lv' := [(0, .ref 54), (1, .int x1), (2, .int x2), (3, .int x3), (4, .int x4), (5, .int x5), (6, .int x6)]) [1, 2, 3, 4, 5, 6, 7] rfl ?_
        exact w_b63 _ _ _ _ _ _ _ _ _ _
      · refine mr_iconst (v := 1) d_m_block_59 mc_iconst_1 ?_
        refine mr_goto (tgt := 64) d_m_block_60 (by decide) ?_
        refine mr_sub (lv' := [(0, .ref 54), (1, .int x1), (2, .int x2), (3, .int x3), (4, .int x4), (5, .int x5), (6, .int x6)]) [1, 2, 3, 4, 5, 6, 7] rfl ?_
        exact w_b64 _ _ _ _ _ _ _ _ _ _ _
  have w_b35 : ∀ (m_thrown : Int32) (m_many : Nat → Int32) (m_need : Nat → Int64) (m_isBlock : Nat → Int32) (m_hours : Nat → Int32) (m_side : Nat → Int32) (m_quantity : Nat → Int32) (m_limit : Nat → Int32) (m_sent : Nat → Int32), mz_A g M_m_block (mz_rm 3) (fun r => (0, some (.int r.1), ex, (hT, HM r.2.1 m_n m_collateral r.2.2.1 r.2.2.2.1 r.2.2.2.2.1 r.2.2.2.2.2.1 r.2.2.2.2.2.2.1 r.2.2.2.2.2.2.2.1 r.2.2.2.2.2.2.2.2.1 r.2.2.2.2.2.2.2.2.2 m_sealed m_rounds m_liar m_told m_passed m_vectors m_meters m_cleared m_prices m_trades m_fills m_welfares m_orderEntry m_orderFill m_orders m_blockEntry m_blockFill m_blocks m_price m_trade m_filled m_rest m_out), 0, 0)) 35 [(0, .ref 54), (1, .int x1), (2, .int x2), (3, .int x3), (4, .int x4), (5, .int x5), (6, .int x6)] [] ex (hT, HM m_thrown m_n m_collateral m_many m_need m_isBlock m_hours m_side m_quantity m_limit m_sent m_sealed m_rounds m_liar m_told m_passed m_vectors m_meters m_cleared m_prices m_trades m_fills m_welfares m_orderEntry m_orderFill m_orders m_blockEntry m_blockFill m_blocks m_price m_trade m_filled m_rest m_out) 0 0 (f_m_block_b35 m_n m_collateral m_sealed x1 x2 x3 x4 x5 x6 m_thrown m_many m_need m_isBlock m_hours m_side m_quantity m_limit m_sent) := by
    intro  m_thrown m_many m_need m_isBlock m_hours m_side m_quantity m_limit m_sent
    rw [f_m_block_b35]
    refine mr_iconst (v := 1) d_m_block_35 mc_iconst_1 ?_
    refine mr_goto (tgt := 40) d_m_block_36 (by decide) ?_
    exact w_b40 _ _ _ _ _ _ _ _ _ _
  refine mz_of (by decide) (Nat.le_of_ble_eq_true rfl) ?_
  rw [f_m_block]
  show mz_A g M_m_block (mz_rm 3) _ 0 [(0, .ref 54), (1, .int x1), (2, .int x2), (3, .int x3), (4, .int x4), (5, .int x5), (6, .int x6)] [] ex (hT, HM m_thrown m_n m_collateral m_many m_need m_isBlock m_hours m_side m_quantity m_limit m_sent m_sealed m_rounds m_liar m_told m_passed m_vectors m_meters m_cleared m_prices m_trades m_fills m_welfares m_orderEntry m_orderFill m_orders m_blockEntry m_blockFill m_blocks m_price m_trade m_filled m_rest m_out) 0 0 _
  refine mr_aload_n d_m_block_0 rfl rfl ?_
  refine mr_iload_n d_m_block_1 rfl rfl ?_
  refine mr_iload_n d_m_block_2 rfl rfl ?_
  refine mr_iload d_m_block_3 rfl ?_
  refine mr_iload d_m_block_5 rfl ?_
  refine mr_iload d_m_block_7 rfl ?_
  refine mz_go (st := []) e_m_isBad (fun _ => rfl) U_m_isBad (mz_vV d_m_block_9 U_m_isBad rfl lk_m_m_133 I_m_isBad s_m_isBad np_m_isBad rfl rfl) (Nat.le_of_ble_eq_true rfl) (by decide) (fun r1 => ?_)
  refine mr_eq (st' := [.int r1]) (ex' := ex) (h2 := (hT, HM m_thrown m_n m_collateral m_many m_need m_isBlock m_hours m_side m_quantity m_limit m_sent m_sealed m_rounds m_liar m_told m_passed m_vectors m_meters m_cleared m_prices m_trades m_fills m_welfares m_orderEntry m_orderFill m_orders m_blockEntry m_blockFill m_blocks m_price m_trade m_filled m_rest m_out)) (k' := 0) (n' := 0) rfl rfl rfl rfl rfl ?_
  refine mr_if_ne (tgt := 35) d_m_block_12 (by decide) ?_ ?_
  · exact w_b35 _ _ _ _ _ _ _ _ _
  · refine mr_iload_n d_m_block_15 rfl rfl ?_
    refine mr_if_lt (tgt := 35) d_m_block_16 (by decide) ?_ ?_
    · exact w_b35 _ _ _ _ _ _ _ _ _
    · refine mr_iload_n d_m_block_19 rfl rfl ?_
      refine mr_iconst (v := 4) d_m_block_20 mc_iconst_4 ?_
      refine mr_iremK d_m_block_21 (by decide) ?_
      refine mr_iconst (v := 2) d_m_block_22 mc_iconst_2 ?_
      refine mr_icmp_gt (tgt := 35) d_m_block_23 (by decide) ?_ ?_
      · exact w_b35 _ _ _ _ _ _ _ _ _
      · refine mr_iload_n d_m_block_26 rfl rfl ?_
        refine mr_iconst (v := 4) d_m_block_27 mc_iconst_4 ?_
        refine mr_idivK d_m_block_28 (by decide) ?_
        refine mr_iload_n d_m_block_29 rfl rfl ?_
        refine mr_iconst (v := 4) d_m_block_30 mc_iconst_4 ?_
        refine mr_iremK d_m_block_31 (by decide) ?_
        refine mr_icmp_le (tgt := 39) d_m_block_32 (by decide) ?_ ?_
        · refine mr_iconst (v := 0) d_m_block_39 mc_iconst_0 ?_
          exact w_b40 _ _ _ _ _ _ _ _ _ _
        · exact w_b35 _ _ _ _ _ _ _ _ _
set_option maxRecDepth 100000 in
set_option maxHeartbeats 4000000 in
theorem e_m_sealedOnes {g : mz_G} {ex : Bool} {hT : List mz_E} {m_thrown : Int32} {m_n : Int32} {m_collateral : Nat → Int32} {m_many : Nat → Int32} {m_need : Nat → Int64} {m_isBlock : Nat → Int32} {m_hours : Nat → Int32} {m_side : Nat → Int32} {m_quantity : Nat → Int32} {m_limit : Nat → Int32} {m_sent : Nat → Int32} {m_sealed : Nat → Int32} {m_rounds : Int32} {m_liar : Int32} {m_told : Nat → Int32} {m_passed : Nat → Int32} {m_vectors : Nat → Int32} {m_meters : Nat → Int32} {m_cleared : Nat → Int32} {m_prices : Nat → Int32} {m_trades : Nat → Int32} {m_fills : Nat → Int32} {m_welfares : Nat → Int64} {m_orderEntry : Nat → Int32} {m_orderFill : Nat → Int32} {m_orders : Int32} {m_blockEntry : Nat → Int32} {m_blockFill : Nat → Int32} {m_blocks : Int32} {m_price : Nat → Int32} {m_trade : Nat → Int32} {m_filled : Nat → Int32} {m_rest : Nat → Int64} {m_out : Nat → Int64} : mz_M g M_m_sealedOnes 0 [.ref 54] ex (hT, HM m_thrown m_n m_collateral m_many m_need m_isBlock m_hours m_side m_quantity m_limit m_sent m_sealed m_rounds m_liar m_told m_passed m_vectors m_meters m_cleared m_prices m_trades m_fills m_welfares m_orderEntry m_orderFill m_orders m_blockEntry m_blockFill m_blocks m_price m_trade m_filled m_rest m_out) (f_m_sealedOnes m_n m_sealed) (fun r => (0, some (.int r), ex, (hT, HM m_thrown m_n m_collateral m_many m_need m_isBlock m_hours m_side m_quantity m_limit m_sent m_sealed m_rounds m_liar m_told m_passed m_vectors m_meters m_cleared m_prices m_trades m_fills m_welfares m_orderEntry m_orderFill m_orders m_blockEntry m_blockFill m_blocks m_price m_trade m_filled m_rest m_out), 0, 0)) := by
  have w_L4 : ∀ (n : Nat) (x1 : Int32) (x2 : Int32), mz_A g M_m_sealedOnes (mz_rm 0) (fun r => (0, some (.int r), ex, (hT, HM m_thrown m_n m_collateral m_many m_need m_isBlock m_hours m_side m_quantity m_limit m_sent m_sealed m_rounds m_liar m_told m_passed m_vectors m_meters m_cleared m_prices m_trades m_fills m_welfares m_orderEntry m_orderFill m_orders m_blockEntry m_blockFill m_blocks m_price m_trade m_filled m_rest m_out), 0, 0)) 4 [(0, .ref 54), (1, .int x1), (2, .int x2)] [] ex (hT, HM m_thrown m_n m_collateral m_many m_need m_isBlock m_hours m_side m_quantity m_limit m_sent m_sealed m_rounds m_liar m_told m_passed m_vectors m_meters m_cleared m_prices m_trades m_fills m_welfares m_orderEntry m_orderFill m_orders m_blockEntry m_blockFill m_blocks m_price m_trade m_filled m_rest m_out) 0 0 (f_m_sealedOnes_L4 m_n m_sealed n x1 x2) := by
    intro n
    induction n with
    | zero => intro x1 x2; exact mr_none
    | succ n ih =>
      intro x1 x2
      rw [f_m_sealedOnes_L4]
      refine mr_iload_n d_m_sealedOnes_4 rfl rfl ?_
      refine mr_aload_n d_m_sealedOnes_5 rfl rfl ?_
      refine mr_get K_m 1 d_m_sealedOnes_6 lk_f_m_97 (by decide) rfl rfl ?_
      refine mr_icmp_ge (tgt := 35) d_m_sealedOnes_9 (by decide) ?_ ?_
      · refine mr_iload_n d_m_sealedOnes_35 rfl rfl ?_
        exact mr_iret d_m_sealedOnes_36 rfl rfl
      · refine mr_iload_n d_m_sealedOnes_12 rfl rfl ?_
        refine mr_aload_n d_m_sealedOnes_13 rfl rfl ?_
        refine mr_get K_m 11 d_m_sealedOnes_14 lk_f_m_39 (by decide) rfl rfl ?_
        refine mr_iload_n d_m_sealedOnes_17 rfl rfl ?_
        refine mr_zald d_m_sealedOnes_18 rfl (fun hc1 => ?_)
        refine mr_if_eq (tgt := 26) d_m_sealedOnes_19 (by decide) ?_ ?_
        · refine mr_iconst (v := 0) d_m_sealedOnes_26 mc_iconst_0 ?_
          refine mr_iadd d_m_sealedOnes_27 ?_
          refine mr_istore_n (lv' := [(1, .int (x1 + 0)), (0, .ref 54), (2, .int x2)]) d_m_sealedOnes_28 rfl (by decide) rfl ?_
          refine mr_iinc (v := (x2 + 1)) (lv' := [(2, .int (x2 + 1)), (1, .int (x1 + 0)), (0, .ref 54)]) d_m_sealedOnes_29 rfl rfl (by decide) rfl ?_
          refine mr_goto (tgt := 4) d_m_sealedOnes_32 (by decide) ?_
          refine mr_sub (lv' := [(0, .ref 54), (1, .int (x1 + 0)), (2, .int (x2 + 1))]) [2, 1, 0] rfl ?_
          exact ih _ _
        · refine mr_iconst (v := 1) d_m_sealedOnes_22 mc_iconst_1 ?_
          refine mr_goto (tgt := 27) d_m_sealedOnes_23 (by decide) ?_
          refine mr_iadd d_m_sealedOnes_27 ?_
          refine mr_istore_n (lv' := [(1, .int (x1 + 1)), (0, .ref 54), (2, .int x2)]) d_m_sealedOnes_28 rfl (by decide) rfl ?_
          refine mr_iinc (v := (x2 + 1)) (lv' := [(2, .int (x2 + 1)), (1, .int (x1 + 1)), (0, .ref 54)]) d_m_sealedOnes_29 rfl rfl (by decide) rfl ?_
          refine mr_goto (tgt := 4) d_m_sealedOnes_32 (by decide) ?_
          refine mr_sub (lv' := [(0, .ref 54), (1, .int (x1 + 1)), (2, .int (x2 + 1))]) [2, 1, 0] rfl ?_
          exact ih _ _
  refine mz_of (by decide) (Nat.le_of_ble_eq_true rfl) ?_
  rw [f_m_sealedOnes]
  show mz_A g M_m_sealedOnes (mz_rm 0) _ 0 [(0, .ref 54)] [] ex (hT, HM m_thrown m_n m_collateral m_many m_need m_isBlock m_hours m_side m_quantity m_limit m_sent m_sealed m_rounds m_liar m_told m_passed m_vectors m_meters m_cleared m_prices m_trades m_fills m_welfares m_orderEntry m_orderFill m_orders m_blockEntry m_blockFill m_blocks m_price m_trade m_filled m_rest m_out) 0 0 _
  refine mr_iconst (v := 0) d_m_sealedOnes_0 mc_iconst_0 ?_
  refine mr_istore_n (lv' := [(1, .int 0), (0, .ref 54)]) d_m_sealedOnes_1 rfl (by decide) rfl ?_
  refine mr_iconst (v := 0) d_m_sealedOnes_2 mc_iconst_0 ?_
  refine mr_istore_n (lv' := [(2, .int 0), (1, .int 0), (0, .ref 54)]) d_m_sealedOnes_3 rfl (by decide) rfl ?_
  refine mr_sub (lv' := [(0, .ref 54), (1, .int 0), (2, .int 0)]) [2, 1, 0] rfl ?_
  exact w_L4 1000 _ _
set_option maxRecDepth 100000 in
set_option maxHeartbeats 4000000 in
theorem e_m_seal {g : mz_G} {ex : Bool} {hT : List mz_E} {m_thrown : Int32} {m_n : Int32} {m_collateral : Nat → Int32} {m_many : Nat → Int32} {m_need : Nat → Int64} {m_isBlock : Nat → Int32} {m_hours : Nat → Int32} {m_side : Nat → Int32} {m_quantity : Nat → Int32} {m_limit : Nat → Int32} {m_sent : Nat → Int32} {m_sealed : Nat → Int32} {m_rounds : Int32} {m_liar : Int32} {m_told : Nat → Int32} {m_passed : Nat → Int32} {m_vectors : Nat → Int32} {m_meters : Nat → Int32} {m_cleared : Nat → Int32} {m_prices : Nat → Int32} {m_trades : Nat → Int32} {m_fills : Nat → Int32} {m_welfares : Nat → Int64} {m_orderEntry : Nat → Int32} {m_orderFill : Nat → Int32} {m_orders : Int32} {m_blockEntry : Nat → Int32} {m_blockFill : Nat → Int32} {m_blocks : Int32} {m_price : Nat → Int32} {m_trade : Nat → Int32} {m_filled : Nat → Int32} {m_rest : Nat → Int64} {m_out : Nat → Int64} {x1 : Int32} : mz_M g M_m_seal 2 [.ref 54, .int x1] ex (hT, HM m_thrown m_n m_collateral m_many m_need m_isBlock m_hours m_side m_quantity m_limit m_sent m_sealed m_rounds m_liar m_told m_passed m_vectors m_meters m_cleared m_prices m_trades m_fills m_welfares m_orderEntry m_orderFill m_orders m_blockEntry m_blockFill m_blocks m_price m_trade m_filled m_rest m_out) (f_m_seal m_thrown m_n m_sealed x1) (fun r => (0, some (.int r.1), ex, (hT, HM r.2.1 m_n m_collateral m_many m_need m_isBlock m_hours m_side m_quantity m_limit m_sent r.2.2 m_rounds m_liar m_told m_passed m_vectors m_meters m_cleared m_prices m_trades m_fills m_welfares m_orderEntry m_orderFill m_orders m_blockEntry m_blockFill m_blocks m_price m_trade m_filled m_rest m_out), 0, 0)) := by
  have w_b34 : ∀ (m_thrown : Int32) (m_sealed : Nat → Int32) (s1 : Int32) (s2 : Int32), mz_A g M_m_seal (mz_rm 2) (fun r => (0, some (.int r.1), ex, (hT, HM r.2.1 m_n m_collateral m_many m_need m_isBlock m_hours m_side m_quantity m_limit m_sent r.2.2 m_rounds m_liar m_told m_passed m_vectors m_meters m_cleared m_prices m_trades m_fills m_welfares m_orderEntry m_orderFill m_orders m_blockEntry m_blockFill m_blocks m_price m_trade m_filled m_rest m_out), 0, 0)) 34 [(0, .ref 54), (1, .int x1)] [.int s2, .int s1, .ref 54] ex (hT, HM m_thrown m_n m_collateral m_many m_need m_isBlock m_hours m_side m_quantity m_limit m_sent m_sealed m_rounds m_liar m_told m_passed m_vectors m_meters m_cleared m_prices m_trades m_fills m_welfares m_orderEntry m_orderFill m_orders m_blockEntry m_blockFill m_blocks m_price m_trade m_filled m_rest m_out) 0 0 (f_m_seal_b34 m_n x1 m_thrown m_sealed s1 s2) := by
    intro  m_thrown m_sealed s1 s2
    rw [f_m_seal_b34]
    refine mz_go (st := []) e_m_throwing (fun _ => rfl) U_m_throwing (mz_vV d_m_seal_34 U_m_throwing rfl lk_m_m_119 I_m_throwing s_m_throwing np_m_throwing rfl rfl) (Nat.le_of_ble_eq_true rfl) (by decide) (fun r3 => ?_)
    refine mr_eq (st' := [.int r3.1]) (ex' := ex) (h2 := (hT, HM r3.2 m_n m_collateral m_many m_need m_isBlock m_hours m_side m_quantity m_limit m_sent m_sealed m_rounds m_liar m_told m_passed m_vectors m_meters m_cleared m_prices m_trades m_fills m_welfares m_orderEntry m_orderFill m_orders m_blockEntry m_blockFill m_blocks m_price m_trade m_filled m_rest m_out)) (k' := 0) (n' := 0) rfl rfl rfl rfl rfl ?_
    refine mr_if_eq (tgt := 42) d_m_seal_37 (by decide) ?_ ?_
    · refine mr_aload_n d_m_seal_42 rfl rfl ?_
      refine mr_get K_m 11 d_m_seal_43 lk_f_m_39 (by decide) rfl rfl ?_
      refine mr_iload_n d_m_seal_46 rfl rfl ?_
      refine mr_iconst (v := 1) d_m_seal_47 mc_iconst_1 ?_
      refine mr_zast (h2 := (hT, HM r3.2 m_n m_collateral m_many m_need m_isBlock m_hours m_side m_quantity m_limit m_sent (upd m_sealed x1.toNatClampNeg (vp_nar .boolean 1)) m_rounds m_liar m_told m_passed m_vectors m_meters m_cleared m_prices m_trades m_fills m_welfares m_orderEntry m_orderFill m_orders m_blockEntry m_blockFill m_blocks m_price m_trade m_filled m_rest m_out)) d_m_seal_48 rfl rfl (fun hc4 => ?_)
      refine mr_aload_n d_m_seal_49 rfl rfl ?_
      refine mz_go (st := []) e_m_sealedOnes (fun _ => rfl) U_m_sealedOnes (mz_vV d_m_seal_50 U_m_sealedOnes rfl lk_m_m_143 I_m_sealedOnes s_m_sealedOnes np_m_sealedOnes rfl rfl) (Nat.le_of_ble_eq_true rfl) (by decide) (fun r5 => ?_)
      refine mr_eq (st' := [.int r5]) (ex' := ex) (h2 := (hT, HM r3.2 m_n m_collateral m_many m_need m_isBlock m_hours m_side m_quantity m_limit m_sent (upd m_sealed x1.toNatClampNeg (vp_nar .boolean 1)) m_rounds m_liar m_told m_passed m_vectors m_meters m_cleared m_prices m_trades m_fills m_welfares m_orderEntry m_orderFill m_orders m_blockEntry m_blockFill m_blocks m_price m_trade m_filled m_rest m_out)) (k' := 0) (n' := 0) rfl rfl rfl rfl rfl ?_
      exact mr_iret d_m_seal_53 rfl rfl
    · refine mr_iconst (v := 0) d_m_seal_40 mc_iconst_0 ?_
      exact mr_iret d_m_seal_41 rfl rfl
  have w_b33 : ∀ (m_thrown : Int32) (m_sealed : Nat → Int32) (s1 : Int32), mz_A g M_m_seal (mz_rm 2) (fun r => (0, some (.int r.1), ex, (hT, HM r.2.1 m_n m_collateral m_many m_need m_isBlock m_hours m_side m_quantity m_limit m_sent r.2.2 m_rounds m_liar m_told m_passed m_vectors m_meters m_cleared m_prices m_trades m_fills m_welfares m_orderEntry m_orderFill m_orders m_blockEntry m_blockFill m_blocks m_price m_trade m_filled m_rest m_out), 0, 0)) 33 [(0, .ref 54), (1, .int x1)] [.int s1, .ref 54] ex (hT, HM m_thrown m_n m_collateral m_many m_need m_isBlock m_hours m_side m_quantity m_limit m_sent m_sealed m_rounds m_liar m_told m_passed m_vectors m_meters m_cleared m_prices m_trades m_fills m_welfares m_orderEntry m_orderFill m_orders m_blockEntry m_blockFill m_blocks m_price m_trade m_filled m_rest m_out) 0 0 (f_m_seal_b33 m_n x1 m_thrown m_sealed s1) := by
    intro  m_thrown m_sealed s1
    rw [f_m_seal_b33]
    refine mr_iconst (v := 0) d_m_seal_33 mc_iconst_0 ?_
    exact w_b34 _ _ _ _
  have w_b13 : ∀ (m_thrown : Int32) (m_sealed : Nat → Int32) (s0 : Int32), mz_A g M_m_seal (mz_rm 2) (fun r => (0, some (.int r.1), ex, (hT, HM r.2.1 m_n m_collateral m_many m_need m_isBlock m_hours m_side m_quantity m_limit m_sent r.2.2 m_rounds m_liar m_told m_passed m_vectors m_meters m_cleared m_prices m_trades m_fills m_welfares m_orderEntry m_orderFill m_orders m_blockEntry m_blockFill m_blocks m_price m_trade m_filled m_rest m_out), 0, 0)) 13 [(0, .ref 54), (1, .int x1)] [.int s0] ex (hT, HM m_thrown m_n m_collateral m_many m_need m_isBlock m_hours m_side m_quantity m_limit m_sent m_sealed m_rounds m_liar m_told m_passed m_vectors m_meters m_cleared m_prices m_trades m_fills m_welfares m_orderEntry m_orderFill m_orders m_blockEntry m_blockFill m_blocks m_price m_trade m_filled m_rest m_out) 0 0 (f_m_seal_b13 m_n x1 m_thrown m_sealed s0) := by
    intro  m_thrown m_sealed s0
    rw [f_m_seal_b13]
    refine mr_istore_n (lv' := [(2, .int s0), (0, .ref 54), (1, .int x1)]) d_m_seal_13 rfl (by decide) rfl ?_
    refine mr_aload_n d_m_seal_14 rfl rfl ?_
    refine mr_iload_n d_m_seal_15 rfl rfl ?_
    refine mr_iload_n d_m_seal_16 rfl rfl ?_
    refine mr_if_ne (tgt := 33) d_m_seal_17 (by decide) ?_ ?_
    · refine mr_sub (lv' := [(0, .ref 54), (1, .int x1)]) [1, 2] rfl ?_
      exact w_b33 _ _ _
    · refine mr_aload_n d_m_seal_20 rfl rfl ?_
      refine mr_get K_m 11 d_m_seal_21 lk_f_m_39 (by decide) rfl rfl ?_
      refine mr_iload_n d_m_seal_24 rfl rfl ?_
      refine mr_zald d_m_seal_25 rfl (fun hc2 => ?_)
      refine mr_if_eq (tgt := 33) d_m_seal_26 (by decide) ?_ ?_
      · refine mr_sub (lv' := [(0, .ref 54), (1, .int x1)]) [1, 2] rfl ?_
        exact w_b33 _ _ _
      · refine mr_iconst (v := 1) d_m_seal_29 mc_iconst_1 ?_
        refine mr_goto (tgt := 34) d_m_seal_30 (by decide) ?_
        refine mr_sub (lv' := [(0, .ref 54), (1, .int x1)]) [1, 2] rfl ?_
        exact w_b34 _ _ _ _
  refine mz_of (by decide) (Nat.le_of_ble_eq_true rfl) ?_
  rw [f_m_seal]
  show mz_A g M_m_seal (mz_rm 2) _ 0 [(0, .ref 54), (1, .int x1)] [] ex (hT, HM m_thrown m_n m_collateral m_many m_need m_isBlock m_hours m_side m_quantity m_limit m_sent m_sealed m_rounds m_liar m_told m_passed m_vectors m_meters m_cleared m_prices m_trades m_fills m_welfares m_orderEntry m_orderFill m_orders m_blockEntry m_blockFill m_blocks m_price m_trade m_filled m_rest m_out) 0 0 _
  refine mr_aload_n d_m_seal_0 rfl rfl ?_
  refine mr_iload_n d_m_seal_1 rfl rfl ?_
  refine mz_go (st := []) e_m_isMember (fun _ => rfl) U_m_isMember (mz_vV d_m_seal_2 U_m_isMember rfl lk_m_m_113 I_m_isMember s_m_isMember np_m_isMember rfl rfl) (Nat.le_of_ble_eq_true rfl) (by decide) (fun r1 => ?_)
  refine mr_eq (st' := [.int r1]) (ex' := ex) (h2 := (hT, HM m_thrown m_n m_collateral m_many m_need m_isBlock m_hours m_side m_quantity m_limit m_sent m_sealed m_rounds m_liar m_told m_passed m_vectors m_meters m_cleared m_prices m_trades m_fills m_welfares m_orderEntry m_orderFill m_orders m_blockEntry m_blockFill m_blocks m_price m_trade m_filled m_rest m_out)) (k' := 0) (n' := 0) rfl rfl rfl rfl rfl ?_
  refine mr_if_ne (tgt := 12) d_m_seal_5 (by decide) ?_ ?_
  · refine mr_iconst (v := 0) d_m_seal_12 mc_iconst_0 ?_
    exact w_b13 _ _ _
  · refine mr_iconst (v := 1) d_m_seal_8 mc_iconst_1 ?_
    refine mr_goto (tgt := 13) d_m_seal_9 (by decide) ?_
    exact w_b13 _ _ _
set_option maxRecDepth 100000 in
set_option maxHeartbeats 4000000 in
theorem e_m_liar {g : mz_G} {ex : Bool} {hT : List mz_E} {m_thrown : Int32} {m_n : Int32} {m_collateral : Nat → Int32} {m_many : Nat → Int32} {m_need : Nat → Int64} {m_isBlock : Nat → Int32} {m_hours : Nat → Int32} {m_side : Nat → Int32} {m_quantity : Nat → Int32} {m_limit : Nat → Int32} {m_sent : Nat → Int32} {m_sealed : Nat → Int32} {m_rounds : Int32} {m_liar : Int32} {m_told : Nat → Int32} {m_passed : Nat → Int32} {m_vectors : Nat → Int32} {m_meters : Nat → Int32} {m_cleared : Nat → Int32} {m_prices : Nat → Int32} {m_trades : Nat → Int32} {m_fills : Nat → Int32} {m_welfares : Nat → Int64} {m_orderEntry : Nat → Int32} {m_orderFill : Nat → Int32} {m_orders : Int32} {m_blockEntry : Nat → Int32} {m_blockFill : Nat → Int32} {m_blocks : Int32} {m_price : Nat → Int32} {m_trade : Nat → Int32} {m_filled : Nat → Int32} {m_rest : Nat → Int64} {m_out : Nat → Int64} {x1 : Int32} : mz_M g M_m_liar 1 [.ref 54, .int x1] ex (hT, HM m_thrown m_n m_collateral m_many m_need m_isBlock m_hours m_side m_quantity m_limit m_sent m_sealed m_rounds m_liar m_told m_passed m_vectors m_meters m_cleared m_prices m_trades m_fills m_welfares m_orderEntry m_orderFill m_orders m_blockEntry m_blockFill m_blocks m_price m_trade m_filled m_rest m_out) (f_m_liar m_thrown m_rounds m_liar x1) (fun r => (0, none, ex, (hT, HM r.1 m_n m_collateral m_many m_need m_isBlock m_hours m_side m_quantity m_limit m_sent m_sealed m_rounds r.2 m_told m_passed m_vectors m_meters m_cleared m_prices m_trades m_fills m_welfares m_orderEntry m_orderFill m_orders m_blockEntry m_blockFill m_blocks m_price m_trade m_filled m_rest m_out), 0, 0)) := by
  have w_b43 : ∀ (m_thrown : Int32) (m_liar : Int32) (s1 : Int32) (s2 : Int32), mz_A g M_m_liar (mz_rm 1) (fun r => (0, none, ex, (hT, HM r.1 m_n m_collateral m_many m_need m_isBlock m_hours m_side m_quantity m_limit m_sent m_sealed m_rounds r.2 m_told m_passed m_vectors m_meters m_cleared m_prices m_trades m_fills m_welfares m_orderEntry m_orderFill m_orders m_blockEntry m_blockFill m_blocks m_price m_trade m_filled m_rest m_out), 0, 0)) 43 [(0, .ref 54), (1, .int x1)] [.int s2, .int s1, .ref 54] ex (hT, HM m_thrown m_n m_collateral m_many m_need m_isBlock m_hours m_side m_quantity m_limit m_sent m_sealed m_rounds m_liar m_told m_passed m_vectors m_meters m_cleared m_prices m_trades m_fills m_welfares m_orderEntry m_orderFill m_orders m_blockEntry m_blockFill m_blocks m_price m_trade m_filled m_rest m_out) 0 0 (f_m_liar_b43 m_rounds x1 m_thrown m_liar s1 s2) := by
    intro  m_thrown m_liar s1 s2
    rw [f_m_liar_b43]
    refine mz_go (st := []) e_m_throwing (fun _ => rfl) U_m_throwing (mz_vV d_m_liar_43 U_m_throwing rfl lk_m_m_119 I_m_throwing s_m_throwing np_m_throwing rfl rfl) (Nat.le_of_ble_eq_true rfl) (by decide) (fun r2 => ?_)
    refine mr_eq (st' := [.int r2.1]) (ex' := ex) (h2 := (hT, HM r2.2 m_n m_collateral m_many m_need m_isBlock m_hours m_side m_quantity m_limit m_sent m_sealed m_rounds m_liar m_told m_passed m_vectors m_meters m_cleared m_prices m_trades m_fills m_welfares m_orderEntry m_orderFill m_orders m_blockEntry m_blockFill m_blocks m_price m_trade m_filled m_rest m_out)) (k' := 0) (n' := 0) rfl rfl rfl rfl rfl ?_
    refine mr_if_eq (tgt := 50) d_m_liar_46 (by decide) ?_ ?_
    · refine mr_aload_n d_m_liar_50 rfl rfl ?_
      refine mr_iload_n d_m_liar_51 rfl rfl ?_
      refine mr_put (h2 := (hT, HM r2.2 m_n m_collateral m_many m_need m_isBlock m_hours m_side m_quantity m_limit m_sent m_sealed m_rounds x1 m_told m_passed m_vectors m_meters m_cleared m_prices m_trades m_fills m_welfares m_orderEntry m_orderFill m_orders m_blockEntry m_blockFill m_blocks m_price m_trade m_filled m_rest m_out)) K_m 13 d_m_liar_52 lk_f_m_42 (by decide) rfl rfl rfl (Nat.le_of_ble_eq_true rfl) rfl rfl ?_
      exact mr_vret d_m_liar_55 rfl rfl
    · exact mr_vret d_m_liar_49 rfl rfl
  have w_b38 : ∀ (m_thrown : Int32) (m_liar : Int32) (s1 : Int32), mz_A g M_m_liar (mz_rm 1) (fun r => (0, none, ex, (hT, HM r.1 m_n m_collateral m_many m_need m_isBlock m_hours m_side m_quantity m_limit m_sent m_sealed m_rounds r.2 m_told m_passed m_vectors m_meters m_cleared m_prices m_trades m_fills m_welfares m_orderEntry m_orderFill m_orders m_blockEntry m_blockFill m_blocks m_price m_trade m_filled m_rest m_out), 0, 0)) 38 [(0, .ref 54), (1, .int x1)] [.int s1, .ref 54] ex (hT, HM m_thrown m_n m_collateral m_many m_need m_isBlock m_hours m_side m_quantity m_limit m_sent m_sealed m_rounds m_liar m_told m_passed m_vectors m_meters m_cleared m_prices m_trades m_fills m_welfares m_orderEntry m_orderFill m_orders m_blockEntry m_blockFill m_blocks m_price m_trade m_filled m_rest m_out) 0 0 (f_m_liar_b38 m_rounds x1 m_thrown m_liar s1) := by
    intro  m_thrown m_liar s1
    rw [f_m_liar_b38]
    refine mr_iconst (v := 1) d_m_liar_38 mc_iconst_1 ?_
    refine mr_goto (tgt := 43) d_m_liar_39 (by decide) ?_
    exact w_b43 _ _ _ _
  have w_b42 : ∀ (m_thrown : Int32) (m_liar : Int32) (s1 : Int32), mz_A g M_m_liar (mz_rm 1) (fun r => (0, none, ex, (hT, HM r.1 m_n m_collateral m_many m_need m_isBlock m_hours m_side m_quantity m_limit m_sent m_sealed m_rounds r.2 m_told m_passed m_vectors m_meters m_cleared m_prices m_trades m_fills m_welfares m_orderEntry m_orderFill m_orders m_blockEntry m_blockFill m_blocks m_price m_trade m_filled m_rest m_out), 0, 0)) 42 [(0, .ref 54), (1, .int x1)] [.int s1, .ref 54] ex (hT, HM m_thrown m_n m_collateral m_many m_need m_isBlock m_hours m_side m_quantity m_limit m_sent m_sealed m_rounds m_liar m_told m_passed m_vectors m_meters m_cleared m_prices m_trades m_fills m_welfares m_orderEntry m_orderFill m_orders m_blockEntry m_blockFill m_blocks m_price m_trade m_filled m_rest m_out) 0 0 (f_m_liar_b42 m_rounds x1 m_thrown m_liar s1) := by
    intro  m_thrown m_liar s1
    rw [f_m_liar_b42]
    refine mr_iconst (v := 0) d_m_liar_42 mc_iconst_0 ?_
    exact w_b43 _ _ _ _
  have w_b17 : ∀ (m_thrown : Int32) (m_liar : Int32) (s0 : Int32), mz_A g M_m_liar (mz_rm 1) (fun r => (0, none, ex, (hT, HM r.1 m_n m_collateral m_many m_need m_isBlock m_hours m_side m_quantity m_limit m_sent m_sealed m_rounds r.2 m_told m_passed m_vectors m_meters m_cleared m_prices m_trades m_fills m_welfares m_orderEntry m_orderFill m_orders m_blockEntry m_blockFill m_blocks m_price m_trade m_filled m_rest m_out), 0, 0)) 17 [(0, .ref 54), (1, .int x1)] [.int s0] ex (hT, HM m_thrown m_n m_collateral m_many m_need m_isBlock m_hours m_side m_quantity m_limit m_sent m_sealed m_rounds m_liar m_told m_passed m_vectors m_meters m_cleared m_prices m_trades m_fills m_welfares m_orderEntry m_orderFill m_orders m_blockEntry m_blockFill m_blocks m_price m_trade m_filled m_rest m_out) 0 0 (f_m_liar_b17 m_rounds x1 m_thrown m_liar s0) := by
    intro  m_thrown m_liar s0
    rw [f_m_liar_b17]
    refine mr_istore_n (lv' := [(2, .int s0), (0, .ref 54), (1, .int x1)]) d_m_liar_17 rfl (by decide) rfl ?_
    refine mr_aload_n d_m_liar_18 rfl rfl ?_
    refine mr_iload_n d_m_liar_19 rfl rfl ?_
    refine mr_iload_n d_m_liar_20 rfl rfl ?_
    refine mr_if_ne (tgt := 42) d_m_liar_21 (by decide) ?_ ?_
    · refine mr_sub (lv' := [(0, .ref 54), (1, .int x1)]) [1, 2] rfl ?_
      exact w_b42 _ _ _
    · refine mr_aload_n d_m_liar_24 rfl rfl ?_
      refine mr_get K_m 13 d_m_liar_25 lk_f_m_42 (by decide) rfl rfl ?_
      refine mr_if_ge (tgt := 38) d_m_liar_28 (by decide) ?_ ?_
      · refine mr_sub (lv' := [(0, .ref 54), (1, .int x1)]) [1, 2] rfl ?_
        exact w_b38 _ _ _
      · refine mr_aload_n d_m_liar_31 rfl rfl ?_
        refine mr_get K_m 12 d_m_liar_32 lk_f_m_110 (by decide) rfl rfl ?_
        refine mr_if_le (tgt := 42) d_m_liar_35 (by decide) ?_ ?_
        · refine mr_sub (lv' := [(0, .ref 54), (1, .int x1)]) [1, 2] rfl ?_
          exact w_b42 _ _ _
        · refine mr_sub (lv' := [(0, .ref 54), (1, .int x1)]) [1, 2] rfl ?_
          exact w_b38 _ _ _
  refine mz_of (by decide) (Nat.le_of_ble_eq_true rfl) ?_
  rw [f_m_liar]
  show mz_A g M_m_liar (mz_rm 1) _ 0 [(0, .ref 54), (1, .int x1)] [] ex (hT, HM m_thrown m_n m_collateral m_many m_need m_isBlock m_hours m_side m_quantity m_limit m_sent m_sealed m_rounds m_liar m_told m_passed m_vectors m_meters m_cleared m_prices m_trades m_fills m_welfares m_orderEntry m_orderFill m_orders m_blockEntry m_blockFill m_blocks m_price m_trade m_filled m_rest m_out) 0 0 _
  refine mr_iload_n d_m_liar_0 rfl rfl ?_
  refine mr_i2l d_m_liar_1 ?_
  refine mr_lconst (v := 0) d_m_liar_2 mc_lconst_0 ?_
  refine mr_ldc2 (v := 3) d_m_liar_3 lk_k_m_125 ?_
  refine mz_go (st := []) e_m_in (fun _ => rfl) U_m_in (mz_vS d_m_liar_6 U_m_in lk_m_m_106 S_m_in np_m_in) (Nat.le_of_ble_eq_true rfl) (by decide) (fun r1 => ?_)
  refine mr_eq (st' := [.int r1]) (ex' := ex) (h2 := (hT, HM m_thrown m_n m_collateral m_many m_need m_isBlock m_hours m_side m_quantity m_limit m_sent m_sealed m_rounds m_liar m_told m_passed m_vectors m_meters m_cleared m_prices m_trades m_fills m_welfares m_orderEntry m_orderFill m_orders m_blockEntry m_blockFill m_blocks m_price m_trade m_filled m_rest m_out)) (k' := 0) (n' := 0) rfl rfl rfl rfl rfl ?_
  refine mr_if_ne (tgt := 16) d_m_liar_9 (by decide) ?_ ?_
  · refine mr_iconst (v := 0) d_m_liar_16 mc_iconst_0 ?_
    exact w_b17 _ _ _
  · refine mr_iconst (v := 1) d_m_liar_12 mc_iconst_1 ?_
    refine mr_goto (tgt := 17) d_m_liar_13 (by decide) ?_
    exact w_b17 _ _ _
set_option maxRecDepth 100000 in
set_option maxHeartbeats 4000000 in
theorem e_m_tell {g : mz_G} {ex : Bool} {hT : List mz_E} {m_thrown : Int32} {m_n : Int32} {m_collateral : Nat → Int32} {m_many : Nat → Int32} {m_need : Nat → Int64} {m_isBlock : Nat → Int32} {m_hours : Nat → Int32} {m_side : Nat → Int32} {m_quantity : Nat → Int32} {m_limit : Nat → Int32} {m_sent : Nat → Int32} {m_sealed : Nat → Int32} {m_rounds : Int32} {m_liar : Int32} {m_told : Nat → Int32} {m_passed : Nat → Int32} {m_vectors : Nat → Int32} {m_meters : Nat → Int32} {m_cleared : Nat → Int32} {m_prices : Nat → Int32} {m_trades : Nat → Int32} {m_fills : Nat → Int32} {m_welfares : Nat → Int64} {m_orderEntry : Nat → Int32} {m_orderFill : Nat → Int32} {m_orders : Int32} {m_blockEntry : Nat → Int32} {m_blockFill : Nat → Int32} {m_blocks : Int32} {m_price : Nat → Int32} {m_trade : Nat → Int32} {m_filled : Nat → Int32} {m_rest : Nat → Int64} {m_out : Nat → Int64} {x1 : Int32} {x2 : Int32} {x3 : Int32} {x4 : Int32} : mz_M g M_m_tell 2 [.ref 54, .int x1, .int x2, .int x3, .int x4] ex (hT, HM m_thrown m_n m_collateral m_many m_need m_isBlock m_hours m_side m_quantity m_limit m_sent m_sealed m_rounds m_liar m_told m_passed m_vectors m_meters m_cleared m_prices m_trades m_fills m_welfares m_orderEntry m_orderFill m_orders m_blockEntry m_blockFill m_blocks m_price m_trade m_filled m_rest m_out) (f_m_tell m_thrown m_n m_rounds m_liar m_told m_passed x1 x2 x3 x4) (fun r => (0, none, ex, (hT, HM r.1 m_n m_collateral m_many m_need m_isBlock m_hours m_side m_quantity m_limit m_sent m_sealed m_rounds m_liar r.2.1 r.2.2 m_vectors m_meters m_cleared m_prices m_trades m_fills m_welfares m_orderEntry m_orderFill m_orders m_blockEntry m_blockFill m_blocks m_price m_trade m_filled m_rest m_out), 0, 0)) := by
  have w_b167 : ∀ (m_thrown : Int32) (m_told : Nat → Int32) (m_passed : Nat → Int32) (x6 : Int32) (s1 : Int32), mz_A g M_m_tell (mz_rm 2) (fun r => (0, none, ex, (hT, HM r.1 m_n m_collateral m_many m_need m_isBlock m_hours m_side m_quantity m_limit m_sent m_sealed m_rounds m_liar r.2.1 r.2.2 m_vectors m_meters m_cleared m_prices m_trades m_fills m_welfares m_orderEntry m_orderFill m_orders m_blockEntry m_blockFill m_blocks m_price m_trade m_filled m_rest m_out), 0, 0)) 167 [(0, .ref 54), (1, .int x1), (2, .int x2), (3, .int x3), (4, .int x4), (6, .int x6)] [.int s1, .ref 54] ex (hT, HM m_thrown m_n m_collateral m_many m_need m_isBlock m_hours m_side m_quantity m_limit m_sent m_sealed m_rounds m_liar m_told m_passed m_vectors m_meters m_cleared m_prices m_trades m_fills m_welfares m_orderEntry m_orderFill m_orders m_blockEntry m_blockFill m_blocks m_price m_trade m_filled m_rest m_out) 0 0 (f_m_tell_b167 m_n m_rounds m_liar x1 x2 x3 x4 m_thrown m_told m_passed x6 s1) := by
    intro  m_thrown m_told m_passed x6 s1
    rw [f_m_tell_b167]
    refine mr_iload d_m_tell_167 rfl ?_
    refine mz_go (st := []) e_m_throwing (fun _ => rfl) U_m_throwing (mz_vV d_m_tell_169 U_m_throwing rfl lk_m_m_119 I_m_throwing s_m_throwing np_m_throwing rfl rfl) (Nat.le_of_ble_eq_true rfl) (by decide) (fun r6 => ?_)
    refine mr_eq (st' := [.int r6.1]) (ex' := ex) (h2 := (hT, HM r6.2 m_n m_collateral m_many m_need m_isBlock m_hours m_side m_quantity m_limit m_sent m_sealed m_rounds m_liar m_told m_passed m_vectors m_meters m_cleared m_prices m_trades m_fills m_welfares m_orderEntry m_orderFill m_orders m_blockEntry m_blockFill m_blocks m_price m_trade m_filled m_rest m_out)) (k' := 0) (n' := 0) rfl rfl rfl rfl rfl ?_
    refine mr_if_eq (tgt := 176) d_m_tell_172 (by decide) ?_ ?_
    · refine mr_aload_n d_m_tell_176 rfl rfl ?_
      refine mr_get K_m 12 d_m_tell_177 lk_f_m_110 (by decide) rfl rfl ?_
      refine mr_iconst (v := 1) d_m_tell_180 mc_iconst_1 ?_
      refine mr_icmp_ne (tgt := 200) d_m_tell_181 (by decide) ?_ ?_
      · refine mr_aload_n d_m_tell_200 rfl rfl ?_
        refine mr_get K_m 15 d_m_tell_201 lk_f_m_49 (by decide) rfl rfl ?_
        refine mr_bipush (v := 24) d_m_tell_204 mc_bipush_24 ?_
        refine mr_iload_n d_m_tell_206 rfl rfl ?_
        refine mr_imul d_m_tell_207 ?_
        refine mr_bipush (v := 6) d_m_tell_208 mc_bipush_6 ?_
        refine mr_iload_n d_m_tell_210 rfl rfl ?_
        refine mr_imul d_m_tell_211 ?_
        refine mr_iadd d_m_tell_212 ?_
        refine mr_iload_n d_m_tell_213 rfl rfl ?_
        refine mr_iadd d_m_tell_214 ?_
        refine mr_iload d_m_tell_215 rfl ?_
        refine mr_iast (h2 := (hT, HM r6.2 m_n m_collateral m_many m_need m_isBlock m_hours m_side m_quantity m_limit m_sent m_sealed m_rounds m_liar m_told (upd m_passed (((24 * x1) + (6 * x2)) + x3).toNatClampNeg x4) m_vectors m_meters m_cleared m_prices m_trades m_fills m_welfares m_orderEntry m_orderFill m_orders m_blockEntry m_blockFill m_blocks m_price m_trade m_filled m_rest m_out)) d_m_tell_217 rfl rfl (fun hc7 => ?_)
        exact mr_vret d_m_tell_218 rfl rfl
      · refine mr_aload_n d_m_tell_184 rfl rfl ?_
        refine mr_get K_m 14 d_m_tell_185 lk_f_m_46 (by decide) rfl rfl ?_
        refine mr_bipush (v := 6) d_m_tell_188 mc_bipush_6 ?_
        refine mr_iload_n d_m_tell_190 rfl rfl ?_
        refine mr_imul d_m_tell_191 ?_
        refine mr_iload_n d_m_tell_192 rfl rfl ?_
        refine mr_iadd d_m_tell_193 ?_
        refine mr_iload d_m_tell_194 rfl ?_
        refine mr_iast (h2 := (hT, HM r6.2 m_n m_collateral m_many m_need m_isBlock m_hours m_side m_quantity m_limit m_sent m_sealed m_rounds m_liar (upd m_told ((6 * x1) + x3).toNatClampNeg x4) m_passed m_vectors m_meters m_cleared m_prices m_trades m_fills m_welfares m_orderEntry m_orderFill m_orders m_blockEntry m_blockFill m_blocks m_price m_trade m_filled m_rest m_out)) d_m_tell_196 rfl rfl (fun hc8 => ?_)
        refine mr_goto (tgt := 218) d_m_tell_197 (by decide) ?_
        exact mr_vret d_m_tell_218 rfl rfl
    · exact mr_vret d_m_tell_175 rfl rfl
  have w_b162 : ∀ (m_thrown : Int32) (m_told : Nat → Int32) (m_passed : Nat → Int32) (x6 : Int32), mz_A g M_m_tell (mz_rm 2) (fun r => (0, none, ex, (hT, HM r.1 m_n m_collateral m_many m_need m_isBlock m_hours m_side m_quantity m_limit m_sent m_sealed m_rounds m_liar r.2.1 r.2.2 m_vectors m_meters m_cleared m_prices m_trades m_fills m_welfares m_orderEntry m_orderFill m_orders m_blockEntry m_blockFill m_blocks m_price m_trade m_filled m_rest m_out), 0, 0)) 162 [(0, .ref 54), (1, .int x1), (2, .int x2), (3, .int x3), (4, .int x4), (6, .int x6)] [.ref 54] ex (hT, HM m_thrown m_n m_collateral m_many m_need m_isBlock m_hours m_side m_quantity m_limit m_sent m_sealed m_rounds m_liar m_told m_passed m_vectors m_meters m_cleared m_prices m_trades m_fills m_welfares m_orderEntry m_orderFill m_orders m_blockEntry m_blockFill m_blocks m_price m_trade m_filled m_rest m_out) 0 0 (f_m_tell_b162 m_n m_rounds m_liar x1 x2 x3 x4 m_thrown m_told m_passed x6) := by
    intro  m_thrown m_told m_passed x6
    rw [f_m_tell_b162]
    refine mr_iconst (v := 1) d_m_tell_162 mc_iconst_1 ?_
    refine mr_goto (tgt := 167) d_m_tell_163 (by decide) ?_
    exact w_b167 _ _ _ _ _
  have w_b149 : ∀ (m_thrown : Int32) (m_told : Nat → Int32) (m_passed : Nat → Int32) (x5 : Int32) (x6 : Int32) (s0 : Int32), mz_A g M_m_tell (mz_rm 2) (fun r => (0, none, ex, (hT, HM r.1 m_n m_collateral m_many m_need m_isBlock m_hours m_side m_quantity m_limit m_sent m_sealed m_rounds m_liar r.2.1 r.2.2 m_vectors m_meters m_cleared m_prices m_trades m_fills m_welfares m_orderEntry m_orderFill m_orders m_blockEntry m_blockFill m_blocks m_price m_trade m_filled m_rest m_out), 0, 0)) 149 [(0, .ref 54), (1, .int x1), (2, .int x2), (3, .int x3), (4, .int x4), (5, .int x5), (6, .int x6)] [.int s0] ex (hT, HM m_thrown m_n m_collateral m_many m_need m_isBlock m_hours m_side m_quantity m_limit m_sent m_sealed m_rounds m_liar m_told m_passed m_vectors m_meters m_cleared m_prices m_trades m_fills m_welfares m_orderEntry m_orderFill m_orders m_blockEntry m_blockFill m_blocks m_price m_trade m_filled m_rest m_out) 0 0 (f_m_tell_b149 m_n m_rounds m_liar x1 x2 x3 x4 m_thrown m_told m_passed x5 x6 s0) := by
    intro  m_thrown m_told m_passed x5 x6 s0
    rw [f_m_tell_b149]
    refine mr_istore (lv' := [(7, .int s0), (0, .ref 54), (1, .int x1), (2, .int x2), (3, .int x3), (4, .int x4), (5, .int x5), (6, .int x6)]) d_m_tell_149 (by decide) rfl ?_
    refine mr_aload_n d_m_tell_151 rfl rfl ?_
    refine mr_iload d_m_tell_152 rfl ?_
    refine mr_if_ne (tgt := 162) d_m_tell_154 (by decide) ?_ ?_
    · refine mr_sub (lv' := [(0, .ref 54), (1, .int x1), (2, .int x2), (3, .int x3), (4, .int x4), (6, .int x6)]) [1, 2, 3, 4, 5, 7] rfl ?_
      exact w_b162 _ _ _ _
    · refine mr_iload d_m_tell_157 rfl ?_
      refine mr_if_eq (tgt := 166) d_m_tell_159 (by decide) ?_ ?_
      · refine mr_iconst (v := 0) d_m_tell_166 mc_iconst_0 ?_
        refine mr_sub (lv' := [(0, .ref 54), (1, .int x1), (2, .int x2), (3, .int x3), (4, .int x4), (6, .int x6)]) [1, 2, 3, 4, 5, 7] rfl ?_
        exact w_b167 _ _ _ _ _
      · refine mr_sub (lv' := [(0, .ref 54), (1, .int x1), (2, .int x2), (3, .int x3), (4, .int x4), (6, .int x6)]) [1, 2, 3, 4, 5, 7] rfl ?_
        exact w_b162 _ _ _ _
  have w_b144 : ∀ (m_thrown : Int32) (m_told : Nat → Int32) (m_passed : Nat → Int32) (x5 : Int32) (x6 : Int32), mz_A g M_m_tell (mz_rm 2) (fun r => (0, none, ex, (hT, HM r.1 m_n m_collateral m_many m_need m_isBlock m_hours m_side m_quantity m_limit m_sent m_sealed m_rounds m_liar r.2.1 r.2.2 m_vectors m_meters m_cleared m_prices m_trades m_fills m_welfares m_orderEntry m_orderFill m_orders m_blockEntry m_blockFill m_blocks m_price m_trade m_filled m_rest m_out), 0, 0)) 144 [(0, .ref 54), (1, .int x1), (2, .int x2), (3, .int x3), (4, .int x4), (5, .int x5), (6, .int x6)] [] ex (hT, HM m_thrown m_n m_collateral m_many m_need m_isBlock m_hours m_side m_quantity m_limit m_sent m_sealed m_rounds m_liar m_told m_passed m_vectors m_meters m_cleared m_prices m_trades m_fills m_welfares m_orderEntry m_orderFill m_orders m_blockEntry m_blockFill m_blocks m_price m_trade m_filled m_rest m_out) 0 0 (f_m_tell_b144 m_n m_rounds m_liar x1 x2 x3 x4 m_thrown m_told m_passed x5 x6) := by
    intro  m_thrown m_told m_passed x5 x6
    rw [f_m_tell_b144]
    refine mr_iconst (v := 1) d_m_tell_144 mc_iconst_1 ?_
    refine mr_goto (tgt := 149) d_m_tell_145 (by decide) ?_
    exact w_b149 _ _ _ _ _ _
  have w_b148 : ∀ (m_thrown : Int32) (m_told : Nat → Int32) (m_passed : Nat → Int32) (x5 : Int32) (x6 : Int32), mz_A g M_m_tell (mz_rm 2) (fun r => (0, none, ex, (hT, HM r.1 m_n m_collateral m_many m_need m_isBlock m_hours m_side m_quantity m_limit m_sent m_sealed m_rounds m_liar r.2.1 r.2.2 m_vectors m_meters m_cleared m_prices m_trades m_fills m_welfares m_orderEntry m_orderFill m_orders m_blockEntry m_blockFill m_blocks m_price m_trade m_filled m_rest m_out), 0, 0)) 148 [(0, .ref 54), (1, .int x1), (2, .int x2), (3, .int x3), (4, .int x4), (5, .int x5), (6, .int x6)] [] ex (hT, HM m_thrown m_n m_collateral m_many m_need m_isBlock m_hours m_side m_quantity m_limit m_sent m_sealed m_rounds m_liar m_told m_passed m_vectors m_meters m_cleared m_prices m_trades m_fills m_welfares m_orderEntry m_orderFill m_orders m_blockEntry m_blockFill m_blocks m_price m_trade m_filled m_rest m_out) 0 0 (f_m_tell_b148 m_n m_rounds m_liar x1 x2 x3 x4 m_thrown m_told m_passed x5 x6) := by
    intro  m_thrown m_told m_passed x5 x6
    rw [f_m_tell_b148]
    refine mr_iconst (v := 0) d_m_tell_148 mc_iconst_0 ?_
    exact w_b149 _ _ _ _ _ _
  have w_b92 : ∀ (m_thrown : Int32) (m_told : Nat → Int32) (m_passed : Nat → Int32) (x5 : Int32) (s0 : Int32), mz_A g M_m_tell (mz_rm 2) (fun r => (0, none, ex, (hT, HM r.1 m_n m_collateral m_many m_need m_isBlock m_hours m_side m_quantity m_limit m_sent m_sealed m_rounds m_liar r.2.1 r.2.2 m_vectors m_meters m_cleared m_prices m_trades m_fills m_welfares m_orderEntry m_orderFill m_orders m_blockEntry m_blockFill m_blocks m_price m_trade m_filled m_rest m_out), 0, 0)) 92 [(0, .ref 54), (1, .int x1), (2, .int x2), (3, .int x3), (4, .int x4), (5, .int x5)] [.int s0] ex (hT, HM m_thrown m_n m_collateral m_many m_need m_isBlock m_hours m_side m_quantity m_limit m_sent m_sealed m_rounds m_liar m_told m_passed m_vectors m_meters m_cleared m_prices m_trades m_fills m_welfares m_orderEntry m_orderFill m_orders m_blockEntry m_blockFill m_blocks m_price m_trade m_filled m_rest m_out) 0 0 (f_m_tell_b92 m_n m_rounds m_liar x1 x2 x3 x4 m_thrown m_told m_passed x5 s0) := by
    intro  m_thrown m_told m_passed x5 s0
    rw [f_m_tell_b92]
    refine mr_istore (lv' := [(6, .int s0), (0, .ref 54), (1, .int x1), (2, .int x2), (3, .int x3), (4, .int x4), (5, .int x5)]) d_m_tell_92 (by decide) rfl ?_
    refine mr_iload d_m_tell_94 rfl ?_
    refine mr_if_ne (tgt := 148) d_m_tell_96 (by decide) ?_ ?_
    · refine mr_sub (lv' := [(0, .ref 54), (1, .int x1), (2, .int x2), (3, .int x3), (4, .int x4), (5, .int x5), (6, .int s0)]) [1, 2, 3, 4, 5, 6, 0] rfl ?_
      exact w_b148 _ _ _ _ _
    · refine mr_iload d_m_tell_99 rfl ?_
      refine mr_if_ne (tgt := 148) d_m_tell_101 (by decide) ?_ ?_
      · refine mr_sub (lv' := [(0, .ref 54), (1, .int x1), (2, .int x2), (3, .int x3), (4, .int x4), (5, .int x5), (6, .int s0)]) [1, 2, 3, 4, 5, 6, 0] rfl ?_
        exact w_b148 _ _ _ _ _
      · refine mr_iload_n d_m_tell_104 rfl rfl ?_
        refine mr_aload_n d_m_tell_105 rfl rfl ?_
        refine mr_get K_m 13 d_m_tell_106 lk_f_m_42 (by decide) rfl rfl ?_
        refine mr_icmp_eq (tgt := 144) d_m_tell_109 (by decide) ?_ ?_
        · refine mr_sub (lv' := [(0, .ref 54), (1, .int x1), (2, .int x2), (3, .int x3), (4, .int x4), (5, .int x5), (6, .int s0)]) [1, 2, 3, 4, 5, 6, 0] rfl ?_
          exact w_b144 _ _ _ _ _
        · refine mr_aload_n d_m_tell_112 rfl rfl ?_
          refine mr_get K_m 12 d_m_tell_113 lk_f_m_110 (by decide) rfl rfl ?_
          refine mr_iconst (v := 1) d_m_tell_116 mc_iconst_1 ?_
          refine mr_icmp_ne (tgt := 131) d_m_tell_117 (by decide) ?_ ?_
          · refine mr_iload_n d_m_tell_131 rfl rfl ?_
            refine mr_aload_n d_m_tell_132 rfl rfl ?_
            refine mr_get K_m 13 d_m_tell_133 lk_f_m_42 (by decide) rfl rfl ?_
            refine mr_icmp_eq (tgt := 144) d_m_tell_136 (by decide) ?_ ?_
            · refine mr_sub (lv' := [(0, .ref 54), (1, .int x1), (2, .int x2), (3, .int x3), (4, .int x4), (5, .int x5), (6, .int s0)]) [1, 2, 3, 4, 5, 6, 0] rfl ?_
              exact w_b144 _ _ _ _ _
            · refine mr_iload_n d_m_tell_139 rfl rfl ?_
              refine mr_iload_n d_m_tell_140 rfl rfl ?_
              refine mr_icmp_ne (tgt := 148) d_m_tell_141 (by decide) ?_ ?_
              · refine mr_sub (lv' := [(0, .ref 54), (1, .int x1), (2, .int x2), (3, .int x3), (4, .int x4), (5, .int x5), (6, .int s0)]) [1, 2, 3, 4, 5, 6, 0] rfl ?_
                exact w_b148 _ _ _ _ _
              · refine mr_sub (lv' := [(0, .ref 54), (1, .int x1), (2, .int x2), (3, .int x3), (4, .int x4), (5, .int x5), (6, .int s0)]) [1, 2, 3, 4, 5, 6, 0] rfl ?_
                exact w_b144 _ _ _ _ _
          · refine mr_iload_n d_m_tell_120 rfl rfl ?_
            refine mr_aload_n d_m_tell_121 rfl rfl ?_
            refine mr_get K_m 13 d_m_tell_122 lk_f_m_42 (by decide) rfl rfl ?_
            refine mr_icmp_eq (tgt := 148) d_m_tell_125 (by decide) ?_ ?_
            · refine mr_sub (lv' := [(0, .ref 54), (1, .int x1), (2, .int x2), (3, .int x3), (4, .int x4), (5, .int x5), (6, .int s0)]) [1, 2, 3, 4, 5, 6, 0] rfl ?_
              exact w_b148 _ _ _ _ _
            · refine mr_goto (tgt := 144) d_m_tell_128 (by decide) ?_
              refine mr_sub (lv' := [(0, .ref 54), (1, .int x1), (2, .int x2), (3, .int x3), (4, .int x4), (5, .int x5), (6, .int s0)]) [1, 2, 3, 4, 5, 6, 0] rfl ?_
              exact w_b144 _ _ _ _ _
  have w_b87 : ∀ (m_thrown : Int32) (m_told : Nat → Int32) (m_passed : Nat → Int32) (x5 : Int32), mz_A g M_m_tell (mz_rm 2) (fun r => (0, none, ex, (hT, HM r.1 m_n m_collateral m_many m_need m_isBlock m_hours m_side m_quantity m_limit m_sent m_sealed m_rounds m_liar r.2.1 r.2.2 m_vectors m_meters m_cleared m_prices m_trades m_fills m_welfares m_orderEntry m_orderFill m_orders m_blockEntry m_blockFill m_blocks m_price m_trade m_filled m_rest m_out), 0, 0)) 87 [(0, .ref 54), (1, .int x1), (2, .int x2), (3, .int x3), (4, .int x4), (5, .int x5)] [] ex (hT, HM m_thrown m_n m_collateral m_many m_need m_isBlock m_hours m_side m_quantity m_limit m_sent m_sealed m_rounds m_liar m_told m_passed m_vectors m_meters m_cleared m_prices m_trades m_fills m_welfares m_orderEntry m_orderFill m_orders m_blockEntry m_blockFill m_blocks m_price m_trade m_filled m_rest m_out) 0 0 (f_m_tell_b87 m_n m_rounds m_liar x1 x2 x3 x4 m_thrown m_told m_passed x5) := by
    intro  m_thrown m_told m_passed x5
    rw [f_m_tell_b87]
    refine mr_iconst (v := 1) d_m_tell_87 mc_iconst_1 ?_
    refine mr_goto (tgt := 92) d_m_tell_88 (by decide) ?_
    exact w_b92 _ _ _ _ _
  have w_b91 : ∀ (m_thrown : Int32) (m_told : Nat → Int32) (m_passed : Nat → Int32) (x5 : Int32), mz_A g M_m_tell (mz_rm 2) (fun r => (0, none, ex, (hT, HM r.1 m_n m_collateral m_many m_need m_isBlock m_hours m_side m_quantity m_limit m_sent m_sealed m_rounds m_liar r.2.1 r.2.2 m_vectors m_meters m_cleared m_prices m_trades m_fills m_welfares m_orderEntry m_orderFill m_orders m_blockEntry m_blockFill m_blocks m_price m_trade m_filled m_rest m_out), 0, 0)) 91 [(0, .ref 54), (1, .int x1), (2, .int x2), (3, .int x3), (4, .int x4), (5, .int x5)] [] ex (hT, HM m_thrown m_n m_collateral m_many m_need m_isBlock m_hours m_side m_quantity m_limit m_sent m_sealed m_rounds m_liar m_told m_passed m_vectors m_meters m_cleared m_prices m_trades m_fills m_welfares m_orderEntry m_orderFill m_orders m_blockEntry m_blockFill m_blocks m_price m_trade m_filled m_rest m_out) 0 0 (f_m_tell_b91 m_n m_rounds m_liar x1 x2 x3 x4 m_thrown m_told m_passed x5) := by
    intro  m_thrown m_told m_passed x5
    rw [f_m_tell_b91]
    refine mr_iconst (v := 0) d_m_tell_91 mc_iconst_0 ?_
    exact w_b92 _ _ _ _ _
  have w_b58 : ∀ (m_thrown : Int32) (m_told : Nat → Int32) (m_passed : Nat → Int32) (s0 : Int32), mz_A g M_m_tell (mz_rm 2) (fun r => (0, none, ex, (hT, HM r.1 m_n m_collateral m_many m_need m_isBlock m_hours m_side m_quantity m_limit m_sent m_sealed m_rounds m_liar r.2.1 r.2.2 m_vectors m_meters m_cleared m_prices m_trades m_fills m_welfares m_orderEntry m_orderFill m_orders m_blockEntry m_blockFill m_blocks m_price m_trade m_filled m_rest m_out), 0, 0)) 58 [(0, .ref 54), (1, .int x1), (2, .int x2), (3, .int x3), (4, .int x4)] [.int s0] ex (hT, HM m_thrown m_n m_collateral m_many m_need m_isBlock m_hours m_side m_quantity m_limit m_sent m_sealed m_rounds m_liar m_told m_passed m_vectors m_meters m_cleared m_prices m_trades m_fills m_welfares m_orderEntry m_orderFill m_orders m_blockEntry m_blockFill m_blocks m_price m_trade m_filled m_rest m_out) 0 0 (f_m_tell_b58 m_n m_rounds m_liar x1 x2 x3 x4 m_thrown m_told m_passed s0) := by
    intro  m_thrown m_told m_passed s0
    rw [f_m_tell_b58]
    refine mr_istore (lv' := [(5, .int s0), (0, .ref 54), (1, .int x1), (2, .int x2), (3, .int x3), (4, .int x4)]) d_m_tell_58 (by decide) rfl ?_
    refine mr_iload d_m_tell_60 rfl ?_
    refine mr_if_ne (tgt := 91) d_m_tell_62 (by decide) ?_ ?_
    · refine mr_sub (lv' := [(0, .ref 54), (1, .int x1), (2, .int x2), (3, .int x3), (4, .int x4), (5, .int s0)]) [1, 2, 3, 4, 5, 0] rfl ?_
      exact w_b91 _ _ _ _
    · refine mr_aload_n d_m_tell_65 rfl rfl ?_
      refine mr_get K_m 13 d_m_tell_66 lk_f_m_42 (by decide) rfl rfl ?_
      refine mr_if_lt (tgt := 87) d_m_tell_69 (by decide) ?_ ?_
      · refine mr_sub (lv' := [(0, .ref 54), (1, .int x1), (2, .int x2), (3, .int x3), (4, .int x4), (5, .int s0)]) [1, 2, 3, 4, 5, 0] rfl ?_
        exact w_b87 _ _ _ _
      · refine mr_aload_n d_m_tell_72 rfl rfl ?_
        refine mr_get K_m 12 d_m_tell_73 lk_f_m_110 (by decide) rfl rfl ?_
        refine mr_i2l d_m_tell_76 ?_
        refine mr_lconst (v := 1) d_m_tell_77 mc_lconst_1 ?_
        refine mr_ldc2 (v := 2) d_m_tell_78 lk_k_m_137 ?_
        refine mz_go (st := []) e_m_in (fun _ => rfl) U_m_in (mz_vS d_m_tell_81 U_m_in lk_m_m_106 S_m_in np_m_in) (Nat.le_of_ble_eq_true rfl) (by decide) (fun r5 => ?_)
        refine mr_eq (st' := [.int r5]) (ex' := ex) (h2 := (hT, HM m_thrown m_n m_collateral m_many m_need m_isBlock m_hours m_side m_quantity m_limit m_sent m_sealed m_rounds m_liar m_told m_passed m_vectors m_meters m_cleared m_prices m_trades m_fills m_welfares m_orderEntry m_orderFill m_orders m_blockEntry m_blockFill m_blocks m_price m_trade m_filled m_rest m_out)) (k' := 0) (n' := 0) rfl rfl rfl rfl rfl ?_
        refine mr_if_ne (tgt := 91) d_m_tell_84 (by decide) ?_ ?_
        · refine mr_sub (lv' := [(0, .ref 54), (1, .int x1), (2, .int x2), (3, .int x3), (4, .int x4), (5, .int s0)]) [1, 2, 3, 4, 5, 0] rfl ?_
          exact w_b91 _ _ _ _
        · refine mr_sub (lv' := [(0, .ref 54), (1, .int x1), (2, .int x2), (3, .int x3), (4, .int x4), (5, .int s0)]) [1, 2, 3, 4, 5, 0] rfl ?_
          exact w_b87 _ _ _ _
  have w_b53 : ∀ (m_thrown : Int32) (m_told : Nat → Int32) (m_passed : Nat → Int32), mz_A g M_m_tell (mz_rm 2) (fun r => (0, none, ex, (hT, HM r.1 m_n m_collateral m_many m_need m_isBlock m_hours m_side m_quantity m_limit m_sent m_sealed m_rounds m_liar r.2.1 r.2.2 m_vectors m_meters m_cleared m_prices m_trades m_fills m_welfares m_orderEntry m_orderFill m_orders m_blockEntry m_blockFill m_blocks m_price m_trade m_filled m_rest m_out), 0, 0)) 53 [(0, .ref 54), (1, .int x1), (2, .int x2), (3, .int x3), (4, .int x4)] [] ex (hT, HM m_thrown m_n m_collateral m_many m_need m_isBlock m_hours m_side m_quantity m_limit m_sent m_sealed m_rounds m_liar m_told m_passed m_vectors m_meters m_cleared m_prices m_trades m_fills m_welfares m_orderEntry m_orderFill m_orders m_blockEntry m_blockFill m_blocks m_price m_trade m_filled m_rest m_out) 0 0 (f_m_tell_b53 m_n m_rounds m_liar x1 x2 x3 x4 m_thrown m_told m_passed) := by
    intro  m_thrown m_told m_passed
    rw [f_m_tell_b53]
    refine mr_iconst (v := 1) d_m_tell_53 mc_iconst_1 ?_
    refine mr_goto (tgt := 58) d_m_tell_54 (by decide) ?_
    exact w_b58 _ _ _ _
  refine mz_of (by decide) (Nat.le_of_ble_eq_true rfl) ?_
  rw [f_m_tell]
  show mz_A g M_m_tell (mz_rm 2) _ 0 [(0, .ref 54), (1, .int x1), (2, .int x2), (3, .int x3), (4, .int x4)] [] ex (hT, HM m_thrown m_n m_collateral m_many m_need m_isBlock m_hours m_side m_quantity m_limit m_sent m_sealed m_rounds m_liar m_told m_passed m_vectors m_meters m_cleared m_prices m_trades m_fills m_welfares m_orderEntry m_orderFill m_orders m_blockEntry m_blockFill m_blocks m_price m_trade m_filled m_rest m_out) 0 0 _
  refine mr_iload_n d_m_tell_0 rfl rfl ?_
  refine mr_i2l d_m_tell_1 ?_
  refine mr_lconst (v := 0) d_m_tell_2 mc_lconst_0 ?_
  refine mr_ldc2 (v := 3) d_m_tell_3 lk_k_m_125 ?_
  refine mz_go (st := []) e_m_in (fun _ => rfl) U_m_in (mz_vS d_m_tell_6 U_m_in lk_m_m_106 S_m_in np_m_in) (Nat.le_of_ble_eq_true rfl) (by decide) (fun r1 => ?_)
  refine mr_eq (st' := [.int r1]) (ex' := ex) (h2 := (hT, HM m_thrown m_n m_collateral m_many m_need m_isBlock m_hours m_side m_quantity m_limit m_sent m_sealed m_rounds m_liar m_told m_passed m_vectors m_meters m_cleared m_prices m_trades m_fills m_welfares m_orderEntry m_orderFill m_orders m_blockEntry m_blockFill m_blocks m_price m_trade m_filled m_rest m_out)) (k' := 0) (n' := 0) rfl rfl rfl rfl rfl ?_
  refine mr_if_eq (tgt := 53) d_m_tell_9 (by decide) ?_ ?_
  · exact w_b53 _ _ _
  · refine mr_iload_n d_m_tell_12 rfl rfl ?_
    refine mr_i2l d_m_tell_13 ?_
    refine mr_lconst (v := 0) d_m_tell_14 mc_lconst_0 ?_
    refine mr_ldc2 (v := 3) d_m_tell_15 lk_k_m_125 ?_
    refine mz_go (st := []) e_m_in (fun _ => rfl) U_m_in (mz_vS d_m_tell_18 U_m_in lk_m_m_106 S_m_in np_m_in) (Nat.le_of_ble_eq_true rfl) (by decide) (fun r2 => ?_)
    refine mr_eq (st' := [.int r2]) (ex' := ex) (h2 := (hT, HM m_thrown m_n m_collateral m_many m_need m_isBlock m_hours m_side m_quantity m_limit m_sent m_sealed m_rounds m_liar m_told m_passed m_vectors m_meters m_cleared m_prices m_trades m_fills m_welfares m_orderEntry m_orderFill m_orders m_blockEntry m_blockFill m_blocks m_price m_trade m_filled m_rest m_out)) (k' := 0) (n' := 0) rfl rfl rfl rfl rfl ?_
    refine mr_if_eq (tgt := 53) d_m_tell_21 (by decide) ?_ ?_
    · exact w_b53 _ _ _
    · refine mr_aload_n d_m_tell_24 rfl rfl ?_
      refine mr_iload_n d_m_tell_25 rfl rfl ?_
      refine mz_go (st := []) e_m_isMember (fun _ => rfl) U_m_isMember (mz_vV d_m_tell_26 U_m_isMember rfl lk_m_m_113 I_m_isMember s_m_isMember np_m_isMember rfl rfl) (Nat.le_of_ble_eq_true rfl) (by decide) (fun r3 => ?_)
      refine mr_eq (st' := [.int r3]) (ex' := ex) (h2 := (hT, HM m_thrown m_n m_collateral m_many m_need m_isBlock m_hours m_side m_quantity m_limit m_sent m_sealed m_rounds m_liar m_told m_passed m_vectors m_meters m_cleared m_prices m_trades m_fills m_welfares m_orderEntry m_orderFill m_orders m_blockEntry m_blockFill m_blocks m_price m_trade m_filled m_rest m_out)) (k' := 0) (n' := 0) rfl rfl rfl rfl rfl ?_
      refine mr_if_eq (tgt := 53) d_m_tell_29 (by decide) ?_ ?_
      · exact w_b53 _ _ _
      · refine mr_iload d_m_tell_32 rfl ?_
        refine mr_i2l d_m_tell_34 ?_
        refine mr_ldc2 (v := (-1)) d_m_tell_35 lk_k_m_123 ?_
        refine mr_iconst (v := 4) d_m_tell_38 mc_iconst_4 ?_
        refine mr_aload_n d_m_tell_39 rfl rfl ?_
        refine mr_get K_m 1 d_m_tell_40 lk_f_m_97 (by decide) rfl rfl ?_
        refine mr_imul d_m_tell_43 ?_
        refine mr_iconst (v := 1) d_m_tell_44 mc_iconst_1 ?_
        refine mr_isub d_m_tell_45 ?_
        refine mr_i2l d_m_tell_46 ?_
        refine mz_go (st := []) e_m_in (fun _ => rfl) U_m_in (mz_vS d_m_tell_47 U_m_in lk_m_m_106 S_m_in np_m_in) (Nat.le_of_ble_eq_true rfl) (by decide) (fun r4 => ?_)
        refine mr_eq (st' := [.int r4]) (ex' := ex) (h2 := (hT, HM m_thrown m_n m_collateral m_many m_need m_isBlock m_hours m_side m_quantity m_limit m_sent m_sealed m_rounds m_liar m_told m_passed m_vectors m_meters m_cleared m_prices m_trades m_fills m_welfares m_orderEntry m_orderFill m_orders m_blockEntry m_blockFill m_blocks m_price m_trade m_filled m_rest m_out)) (k' := 0) (n' := 0) rfl rfl rfl rfl rfl ?_
        refine mr_if_ne (tgt := 57) d_m_tell_50 (by decide) ?_ ?_
        · refine mr_iconst (v := 0) d_m_tell_57 mc_iconst_0 ?_
          exact w_b58 _ _ _ _
        · exact w_b53 _ _ _
