set_option maxRecDepth 100000 in
set_option maxHeartbeats 4000000 in
theorem e_m_size {g : mz_G} {ex : Bool} {hT : List mz_E} {m_thrown : Int32} {m_n : Int32} {m_collateral : Nat → Int32} {m_many : Nat → Int32} {m_need : Nat → Int64} {m_isBlock : Nat → Int32} {m_hours : Nat → Int32} {m_side : Nat → Int32} {m_quantity : Nat → Int32} {m_limit : Nat → Int32} {m_sent : Nat → Int32} {m_sealed : Nat → Int32} {m_rounds : Int32} {m_liar : Int32} {m_told : Nat → Int32} {m_passed : Nat → Int32} {m_vectors : Nat → Int32} {m_meters : Nat → Int32} {m_cleared : Nat → Int32} {m_prices : Nat → Int32} {m_trades : Nat → Int32} {m_fills : Nat → Int32} {m_welfares : Nat → Int64} {m_orderEntry : Nat → Int32} {m_orderFill : Nat → Int32} {m_orders : Int32} {m_blockEntry : Nat → Int32} {m_blockFill : Nat → Int32} {m_blocks : Int32} {m_price : Nat → Int32} {m_trade : Nat → Int32} {m_filled : Nat → Int32} {m_rest : Nat → Int64} {m_out : Nat → Int64} {x1 : Int32} : mz_M g M_m_size 0 [.ref 54, .int x1] ex (hT, HM m_thrown m_n m_collateral m_many m_need m_isBlock m_hours m_side m_quantity m_limit m_sent m_sealed m_rounds m_liar m_told m_passed m_vectors m_meters m_cleared m_prices m_trades m_fills m_welfares m_orderEntry m_orderFill m_orders m_blockEntry m_blockFill m_blocks m_price m_trade m_filled m_rest m_out) (f_m_size m_many x1) (fun r => (0, some (.int r), ex, (hT, HM m_thrown m_n m_collateral m_many m_need m_isBlock m_hours m_side m_quantity m_limit m_sent m_sealed m_rounds m_liar m_told m_passed m_vectors m_meters m_cleared m_prices m_trades m_fills m_welfares m_orderEntry m_orderFill m_orders m_blockEntry m_blockFill m_blocks m_price m_trade m_filled m_rest m_out), 0, 0)) := by
  refine mz_of (by decide) (Nat.le_of_ble_eq_true rfl) ?_
  rw [f_m_size]
  show mz_A g M_m_size (mz_rm 0) _ 0 [(0, .ref 54), (1, .int x1)] [] ex (hT, HM m_thrown m_n m_collateral m_many m_need m_isBlock m_hours m_side m_quantity m_limit m_sent m_sealed m_rounds m_liar m_told m_passed m_vectors m_meters m_cleared m_prices m_trades m_fills m_welfares m_orderEntry m_orderFill m_orders m_blockEntry m_blockFill m_blocks m_price m_trade m_filled m_rest m_out) 0 0 _
  refine mr_iload_n d_m_size_0 rfl rfl ?_
  refine mr_if_ge (tgt := 8) d_m_size_1 (by decide) ?_ ?_
  · refine mr_aload_n d_m_size_8 rfl rfl ?_
    refine mr_get K_m 3 d_m_size_9 lk_f_m_13 (by decide) rfl rfl ?_
    refine mr_iload_n d_m_size_12 rfl rfl ?_
    refine mr_iald d_m_size_13 rfl (fun hc1 => ?_)
    exact mr_iret d_m_size_14 rfl rfl
  · refine mr_iconst (v := 0) d_m_size_4 mc_iconst_0 ?_
    refine mr_goto (tgt := 14) d_m_size_5 (by decide) ?_
    exact mr_iret d_m_size_14 rfl rfl
set_option maxRecDepth 100000 in
set_option maxHeartbeats 4000000 in
theorem e_m_alike {g : mz_G} {ex : Bool} {hT : List mz_E} {m_thrown : Int32} {m_n : Int32} {m_collateral : Nat → Int32} {m_many : Nat → Int32} {m_need : Nat → Int64} {m_isBlock : Nat → Int32} {m_hours : Nat → Int32} {m_side : Nat → Int32} {m_quantity : Nat → Int32} {m_limit : Nat → Int32} {m_sent : Nat → Int32} {m_sealed : Nat → Int32} {m_rounds : Int32} {m_liar : Int32} {m_told : Nat → Int32} {m_passed : Nat → Int32} {m_vectors : Nat → Int32} {m_meters : Nat → Int32} {m_cleared : Nat → Int32} {m_prices : Nat → Int32} {m_trades : Nat → Int32} {m_fills : Nat → Int32} {m_welfares : Nat → Int64} {m_orderEntry : Nat → Int32} {m_orderFill : Nat → Int32} {m_orders : Int32} {m_blockEntry : Nat → Int32} {m_blockFill : Nat → Int32} {m_blocks : Int32} {m_price : Nat → Int32} {m_trade : Nat → Int32} {m_filled : Nat → Int32} {m_rest : Nat → Int64} {m_out : Nat → Int64} {x1 : Int32} {x2 : Int32} : mz_M g M_m_alike 1 [.ref 54, .int x1, .int x2] ex (hT, HM m_thrown m_n m_collateral m_many m_need m_isBlock m_hours m_side m_quantity m_limit m_sent m_sealed m_rounds m_liar m_told m_passed m_vectors m_meters m_cleared m_prices m_trades m_fills m_welfares m_orderEntry m_orderFill m_orders m_blockEntry m_blockFill m_blocks m_price m_trade m_filled m_rest m_out) (f_m_alike m_many m_isBlock m_hours m_side m_quantity m_limit x1 x2) (fun r => (0, some (.int r), ex, (hT, HM m_thrown m_n m_collateral m_many m_need m_isBlock m_hours m_side m_quantity m_limit m_sent m_sealed m_rounds m_liar m_told m_passed m_vectors m_meters m_cleared m_prices m_trades m_fills m_welfares m_orderEntry m_orderFill m_orders m_blockEntry m_blockFill m_blocks m_price m_trade m_filled m_rest m_out), 0, 0)) := by
  have w_L22 : ∀ (n : Nat) (x3 : Int32) (x4 : Int32), mz_A g M_m_alike (mz_rm 1) (fun r => (0, some (.int r), ex, (hT, HM m_thrown m_n m_collateral m_many m_need m_isBlock m_hours m_side m_quantity m_limit m_sent m_sealed m_rounds m_liar m_told m_passed m_vectors m_meters m_cleared m_prices m_trades m_fills m_welfares m_orderEntry m_orderFill m_orders m_blockEntry m_blockFill m_blocks m_price m_trade m_filled m_rest m_out), 0, 0)) 22 [(0, .ref 54), (1, .int x1), (2, .int x2), (3, .int x3), (4, .int x4)] [] ex (hT, HM m_thrown m_n m_collateral m_many m_need m_isBlock m_hours m_side m_quantity m_limit m_sent m_sealed m_rounds m_liar m_told m_passed m_vectors m_meters m_cleared m_prices m_trades m_fills m_welfares m_orderEntry m_orderFill m_orders m_blockEntry m_blockFill m_blocks m_price m_trade m_filled m_rest m_out) 0 0 (f_m_alike_L22 m_many m_isBlock m_hours m_side m_quantity m_limit x1 x2 n x3 x4) := by
    intro n
    induction n with
    | zero => intro x3 x4; exact mr_none
    | succ n ih =>
      intro x3 x4
      rw [f_m_alike_L22]
      refine mr_iload d_m_alike_22 rfl ?_
      refine mr_aload_n d_m_alike_24 rfl rfl ?_
      refine mr_iload_n d_m_alike_25 rfl rfl ?_
      refine mz_go (st := [.int x4]) e_m_size (fun _ => rfl) U_m_size (mz_vV d_m_alike_26 U_m_size rfl lk_m_m_151 I_m_size s_m_size np_m_size rfl rfl) (Nat.le_of_ble_eq_true rfl) (by decide) (fun r3 => ?_)
      refine mr_eq (st' := [.int r3, .int x4]) (ex' := ex) (h2 := (hT, HM m_thrown m_n m_collateral m_many m_need m_isBlock m_hours m_side m_quantity m_limit m_sent m_sealed m_rounds m_liar m_told m_passed m_vectors m_meters m_cleared m_prices m_trades m_fills m_welfares m_orderEntry m_orderFill m_orders m_blockEntry m_blockFill m_blocks m_price m_trade m_filled m_rest m_out)) (k' := 0) (n' := 0) rfl rfl rfl rfl rfl ?_
      refine mr_icmp_ge (tgt := 151) d_m_alike_29 (by decide) ?_ ?_
      · refine mr_iload_n d_m_alike_151 rfl rfl ?_
        exact mr_zret d_m_alike_152 rfl rfl
      · refine mr_iload_n d_m_alike_32 rfl rfl ?_
        refine mr_if_eq (tgt := 151) d_m_alike_33 (by decide) ?_ ?_
        · refine mr_iload_n d_m_alike_151 rfl rfl ?_
          exact mr_zret d_m_alike_152 rfl rfl
        · refine mr_bipush (v := 10) d_m_alike_36 mc_bipush_10 ?_
          refine mr_iload_n d_m_alike_38 rfl rfl ?_
          refine mr_imul d_m_alike_39 ?_
          refine mr_iload d_m_alike_40 rfl ?_
          refine mr_iadd d_m_alike_42 ?_
          refine mr_istore (lv' := [(5, .int ((10 * x1) + x4)), (0, .ref 54), (1, .int x1), (2, .int x2), (3, .int x3), (4, .int x4)]) d_m_alike_43 (by decide) rfl ?_
          refine mr_bipush (v := 10) d_m_alike_45 mc_bipush_10 ?_
          refine mr_iload_n d_m_alike_47 rfl rfl ?_
          refine mr_imul d_m_alike_48 ?_
          refine mr_iload d_m_alike_49 rfl ?_
          refine mr_iadd d_m_alike_51 ?_
          refine mr_istore (lv' := [(6, .int ((10 * x2) + x4)), (5, .int ((10 * x1) + x4)), (0, .ref 54), (1, .int x1), (2, .int x2), (3, .int x3), (4, .int x4)]) d_m_alike_52 (by decide) rfl ?_
          refine mr_aload_n d_m_alike_54 rfl rfl ?_
          refine mr_get K_m 5 d_m_alike_55 lk_f_m_20 (by decide) rfl rfl ?_
          refine mr_iload d_m_alike_58 rfl ?_
          refine mr_zald d_m_alike_60 rfl (fun hc4 => ?_)
          refine mr_aload_n d_m_alike_61 rfl rfl ?_
          refine mr_get K_m 5 d_m_alike_62 lk_f_m_20 (by decide) rfl rfl ?_
          refine mr_iload d_m_alike_65 rfl ?_
          refine mr_zald d_m_alike_67 rfl (fun hc5 => ?_)
          refine mr_icmp_ne (tgt := 143) d_m_alike_68 (by decide) ?_ ?_
          · refine mr_iconst (v := 0) d_m_alike_143 mc_iconst_0 ?_
            refine mr_istore_n (lv' := [(3, .int 0), (6, .int ((10 * x2) + x4)), (5, .int ((10 * x1) + x4)), (0, .ref 54), (1, .int x1), (2, .int x2), (4, .int x4)]) d_m_alike_144 rfl (by decide) rfl ?_
            refine mr_iinc (v := (x4 + 1)) (lv' := [(4, .int (x4 + 1)), (3, .int 0), (6, .int ((10 * x2) + x4)), (5, .int ((10 * x1) + x4)), (0, .ref 54), (1, .int x1), (2, .int x2)]) d_m_alike_145 rfl rfl (by decide) rfl ?_
            refine mr_goto (tgt := 22) d_m_alike_148 (by decide) ?_
            refine mr_sub (lv' := [(0, .ref 54), (1, .int x1), (2, .int x2), (3, .int 0), (4, .int (x4 + 1))]) [4, 5, 6, 1, 0] rfl ?_
            exact ih _ _
          · refine mr_aload_n d_m_alike_71 rfl rfl ?_
            refine mr_get K_m 6 d_m_alike_72 lk_f_m_24 (by decide) rfl rfl ?_
            refine mr_iload d_m_alike_75 rfl ?_
            refine mr_ialdK d_m_alike_77 rfl hc4 ?_
            refine mr_aload_n d_m_alike_78 rfl rfl ?_
            refine mr_get K_m 6 d_m_alike_79 lk_f_m_24 (by decide) rfl rfl ?_
            refine mr_iload d_m_alike_82 rfl ?_
            refine mr_ialdK d_m_alike_84 rfl hc5 ?_
            refine mr_icmp_ne (tgt := 143) d_m_alike_85 (by decide) ?_ ?_
            · refine mr_iconst (v := 0) d_m_alike_143 mc_iconst_0 ?_
              refine mr_istore_n (lv' := [(3, .int 0), (6, .int ((10 * x2) + x4)), (5, .int ((10 * x1) + x4)), (0, .ref 54), (1, .int x1), (2, .int x2), (4, .int x4)]) d_m_alike_144 rfl (by decide) rfl ?_
              refine mr_iinc (v := (x4 + 1)) (lv' := [(4, .int (x4 + 1)), (3, .int 0), (6, .int ((10 * x2) + x4)), (5, .int ((10 * x1) + x4)), (0, .ref 54), (1, .int x1), (2, .int x2)]) d_m_alike_145 rfl rfl (by decide) rfl ?_
              refine mr_goto (tgt := 22) d_m_alike_148 (by decide) ?_
              refine mr_sub (lv' := [(0, .ref 54), (1, .int x1), (2, .int x2), (3, .int 0), (4, .int (x4 + 1))]) [4, 5, 6, 1, 0] rfl ?_
              exact ih _ _
            · refine mr_aload_n d_m_alike_88 rfl rfl ?_
              refine mr_get K_m 7 d_m_alike_89 lk_f_m_27 (by decide) rfl rfl ?_
              refine mr_iload d_m_alike_92 rfl ?_
              refine mr_ialdK d_m_alike_94 rfl hc4 ?_
              refine mr_aload_n d_m_alike_95 rfl rfl ?_
              refine mr_get K_m 7 d_m_alike_96 lk_f_m_27 (by decide) rfl rfl ?_
              refine mr_iload d_m_alike_99 rfl ?_
              refine mr_ialdK d_m_alike_101 rfl hc5 ?_
              refine mr_icmp_ne (tgt := 143) d_m_alike_102 (by decide) ?_ ?_
              · refine mr_iconst (v := 0) d_m_alike_143 mc_iconst_0 ?_
                refine mr_istore_n (lv' := [(3, .int 0), (6, .int ((10 * x2) + x4)), (5, .int ((10 * x1) + x4)), (0, .ref 54), (1, .int x1), (2, .int x2), (4, .int x4)]) d_m_alike_144 rfl (by decide) rfl ?_
                refine mr_iinc (v := (x4 + 1)) (lv' := [(4, .int (x4 + 1)), (3, .int 0), (6, .int ((10 * x2) + x4)), (5, .int ((10 * x1) + x4)), (0, .ref 54), (1, .int x1), (2, .int x2)]) d_m_alike_145 rfl rfl (by decide) rfl ?_
                refine mr_goto (tgt := 22) d_m_alike_148 (by decide) ?_
                refine mr_sub (lv' := [(0, .ref 54), (1, .int x1), (2, .int x2), (3, .int 0), (4, .int (x4 + 1))]) [4, 5, 6, 1, 0] rfl ?_
                exact ih _ _
              · refine mr_aload_n d_m_alike_105 rfl rfl ?_
                refine mr_get K_m 8 d_m_alike_106 lk_f_m_30 (by decide) rfl rfl ?_
                refine mr_iload d_m_alike_109 rfl ?_
                refine mr_ialdK d_m_alike_111 rfl hc4 ?_
                refine mr_aload_n d_m_alike_112 rfl rfl ?_
                refine mr_get K_m 8 d_m_alike_113 lk_f_m_30 (by decide) rfl rfl ?_
                refine mr_iload d_m_alike_116 rfl ?_
                refine mr_ialdK d_m_alike_118 rfl hc5 ?_
                refine mr_icmp_ne (tgt := 143) d_m_alike_119 (by decide) ?_ ?_
                · refine mr_iconst (v := 0) d_m_alike_143 mc_iconst_0 ?_
                  refine mr_istore_n (lv' := [(3, .int 0), (6, .int ((10 * x2) + x4)), (5, .int ((10 * x1) + x4)), (0, .ref 54), (1, .int x1), (2, .int x2), (4, .int x4)]) d_m_alike_144 rfl (by decide) rfl ?_
                  refine mr_iinc (v := (x4 + 1)) (lv' := [(4, .int (x4 + 1)), (3, .int 0), (6, .int ((10 * x2) + x4)), (5, .int ((10 * x1) + x4)), (0, .ref 54), (1, .int x1), (2, .int x2)]) d_m_alike_145 rfl rfl (by decide) rfl ?_
                  refine mr_goto (tgt := 22) d_m_alike_148 (by decide) ?_
                  refine mr_sub (lv' := [(0, .ref 54), (1, .int x1), (2, .int x2), (3, .int 0), (4, .int (x4 + 1))]) [4, 5, 6, 1, 0] rfl ?_
                  exact ih _ _
                · refine mr_aload_n d_m_alike_122 rfl rfl ?_
                  refine mr_get K_m 9 d_m_alike_123 lk_f_m_33 (by decide) rfl rfl ?_
                  refine mr_iload d_m_alike_126 rfl ?_
                  refine mr_ialdK d_m_alike_128 rfl hc4 ?_
                  refine mr_aload_n d_m_alike_129 rfl rfl ?_
                  refine mr_get K_m 9 d_m_alike_130 lk_f_m_33 (by decide) rfl rfl ?_
                  refine mr_iload d_m_alike_133 rfl ?_
                  refine mr_ialdK d_m_alike_135 rfl hc5 ?_
                  refine mr_icmp_ne (tgt := 143) d_m_alike_136 (by decide) ?_ ?_
                  · refine mr_iconst (v := 0) d_m_alike_143 mc_iconst_0 ?_
                    refine mr_istore_n (lv' := [(3, .int 0), (6, .int ((10 * x2) + x4)), (5, .int ((10 * x1) + x4)), (0, .ref 54), (1, .int x1), (2, .int x2), (4, .int x4)]) d_m_alike_144 rfl (by decide) rfl ?_
                    refine mr_iinc (v := (x4 + 1)) (lv' := [(4, .int (x4 + 1)), (3, .int 0), (6, .int ((10 * x2) + x4)), (5, .int ((10 * x1) + x4)), (0, .ref 54), (1, .int x1), (2, .int x2)]) d_m_alike_145 rfl rfl (by decide) rfl ?_
                    refine mr_goto (tgt := 22) d_m_alike_148 (by decide) ?_
                    refine mr_sub (lv' := [(0, .ref 54), (1, .int x1), (2, .int x2), (3, .int 0), (4, .int (x4 + 1))]) [4, 5, 6, 1, 0] rfl ?_
                    exact ih _ _
                  · refine mr_iconst (v := 1) d_m_alike_139 mc_iconst_1 ?_
                    refine mr_goto (tgt := 144) d_m_alike_140 (by decide) ?_
                    refine mr_istore_n (lv' := [(3, .int 1), (6, .int ((10 * x2) + x4)), (5, .int ((10 * x1) + x4)), (0, .ref 54), (1, .int x1), (2, .int x2), (4, .int x4)]) d_m_alike_144 rfl (by decide) rfl ?_
                    refine mr_iinc (v := (x4 + 1)) (lv' := [(4, .int (x4 + 1)), (3, .int 1), (6, .int ((10 * x2) + x4)), (5, .int ((10 * x1) + x4)), (0, .ref 54), (1, .int x1), (2, .int x2)]) d_m_alike_145 rfl rfl (by decide) rfl ?_
                    refine mr_goto (tgt := 22) d_m_alike_148 (by decide) ?_
                    refine mr_sub (lv' := [(0, .ref 54), (1, .int x1), (2, .int x2), (3, .int 1), (4, .int (x4 + 1))]) [4, 5, 6, 1, 0] rfl ?_
                    exact ih _ _
  have w_b18 : ∀ (s0 : Int32), mz_A g M_m_alike (mz_rm 1) (fun r => (0, some (.int r), ex, (hT, HM m_thrown m_n m_collateral m_many m_need m_isBlock m_hours m_side m_quantity m_limit m_sent m_sealed m_rounds m_liar m_told m_passed m_vectors m_meters m_cleared m_prices m_trades m_fills m_welfares m_orderEntry m_orderFill m_orders m_blockEntry m_blockFill m_blocks m_price m_trade m_filled m_rest m_out), 0, 0)) 18 [(0, .ref 54), (1, .int x1), (2, .int x2)] [.int s0] ex (hT, HM m_thrown m_n m_collateral m_many m_need m_isBlock m_hours m_side m_quantity m_limit m_sent m_sealed m_rounds m_liar m_told m_passed m_vectors m_meters m_cleared m_prices m_trades m_fills m_welfares m_orderEntry m_orderFill m_orders m_blockEntry m_blockFill m_blocks m_price m_trade m_filled m_rest m_out) 0 0 (f_m_alike_b18 m_many m_isBlock m_hours m_side m_quantity m_limit x1 x2 s0) := by
    intro  s0
    rw [f_m_alike_b18]
    refine mr_istore_n (lv' := [(3, .int s0), (0, .ref 54), (1, .int x1), (2, .int x2)]) d_m_alike_18 rfl (by decide) rfl ?_
    refine mr_iconst (v := 0) d_m_alike_19 mc_iconst_0 ?_
    refine mr_istore (lv' := [(4, .int 0), (3, .int s0), (0, .ref 54), (1, .int x1), (2, .int x2)]) d_m_alike_20 (by decide) rfl ?_
    refine mr_sub (lv' := [(0, .ref 54), (1, .int x1), (2, .int x2), (3, .int s0), (4, .int 0)]) [2, 3, 4, 1, 0] rfl ?_
    exact w_L22 1000 _ _
  refine mz_of (by decide) (Nat.le_of_ble_eq_true rfl) ?_
  rw [f_m_alike]
  show mz_A g M_m_alike (mz_rm 1) _ 0 [(0, .ref 54), (1, .int x1), (2, .int x2)] [] ex (hT, HM m_thrown m_n m_collateral m_many m_need m_isBlock m_hours m_side m_quantity m_limit m_sent m_sealed m_rounds m_liar m_told m_passed m_vectors m_meters m_cleared m_prices m_trades m_fills m_welfares m_orderEntry m_orderFill m_orders m_blockEntry m_blockFill m_blocks m_price m_trade m_filled m_rest m_out) 0 0 _
  refine mr_aload_n d_m_alike_0 rfl rfl ?_
  refine mr_iload_n d_m_alike_1 rfl rfl ?_
  refine mz_go (st := []) e_m_size (fun _ => rfl) U_m_size (mz_vV d_m_alike_2 U_m_size rfl lk_m_m_151 I_m_size s_m_size np_m_size rfl rfl) (Nat.le_of_ble_eq_true rfl) (by decide) (fun r1 => ?_)
  refine mr_eq (st' := [.int r1]) (ex' := ex) (h2 := (hT, HM m_thrown m_n m_collateral m_many m_need m_isBlock m_hours m_side m_quantity m_limit m_sent m_sealed m_rounds m_liar m_told m_passed m_vectors m_meters m_cleared m_prices m_trades m_fills m_welfares m_orderEntry m_orderFill m_orders m_blockEntry m_blockFill m_blocks m_price m_trade m_filled m_rest m_out)) (k' := 0) (n' := 0) rfl rfl rfl rfl rfl ?_
  refine mr_aload_n d_m_alike_5 rfl rfl ?_
  refine mr_iload_n d_m_alike_6 rfl rfl ?_
  refine mz_go (st := [.int r1]) e_m_size (fun _ => rfl) U_m_size (mz_vV d_m_alike_7 U_m_size rfl lk_m_m_151 I_m_size s_m_size np_m_size rfl rfl) (Nat.le_of_ble_eq_true rfl) (by decide) (fun r2 => ?_)
  refine mr_eq (st' := [.int r2, .int r1]) (ex' := ex) (h2 := (hT, HM m_thrown m_n m_collateral m_many m_need m_isBlock m_hours m_side m_quantity m_limit m_sent m_sealed m_rounds m_liar m_told m_passed m_vectors m_meters m_cleared m_prices m_trades m_fills m_welfares m_orderEntry m_orderFill m_orders m_blockEntry m_blockFill m_blocks m_price m_trade m_filled m_rest m_out)) (k' := 0) (n' := 0) rfl rfl rfl rfl rfl ?_
  refine mr_icmp_ne (tgt := 17) d_m_alike_10 (by decide) ?_ ?_
  · refine mr_iconst (v := 0) d_m_alike_17 mc_iconst_0 ?_
    exact w_b18 _
  · refine mr_iconst (v := 1) d_m_alike_13 mc_iconst_1 ?_
    refine mr_goto (tgt := 18) d_m_alike_14 (by decide) ?_
    exact w_b18 _
set_option maxRecDepth 100000 in
set_option maxHeartbeats 4000000 in
theorem e_m_toldTo {g : mz_G} {ex : Bool} {hT : List mz_E} {m_thrown : Int32} {m_n : Int32} {m_collateral : Nat → Int32} {m_many : Nat → Int32} {m_need : Nat → Int64} {m_isBlock : Nat → Int32} {m_hours : Nat → Int32} {m_side : Nat → Int32} {m_quantity : Nat → Int32} {m_limit : Nat → Int32} {m_sent : Nat → Int32} {m_sealed : Nat → Int32} {m_rounds : Int32} {m_liar : Int32} {m_told : Nat → Int32} {m_passed : Nat → Int32} {m_vectors : Nat → Int32} {m_meters : Nat → Int32} {m_cleared : Nat → Int32} {m_prices : Nat → Int32} {m_trades : Nat → Int32} {m_fills : Nat → Int32} {m_welfares : Nat → Int64} {m_orderEntry : Nat → Int32} {m_orderFill : Nat → Int32} {m_orders : Int32} {m_blockEntry : Nat → Int32} {m_blockFill : Nat → Int32} {m_blocks : Int32} {m_price : Nat → Int32} {m_trade : Nat → Int32} {m_filled : Nat → Int32} {m_rest : Nat → Int64} {m_out : Nat → Int64} {x1 : Int32} {x2 : Int32} {x3 : Int32} : mz_M g M_m_toldTo 0 [.ref 54, .int x1, .int x2, .int x3] ex (hT, HM m_thrown m_n m_collateral m_many m_need m_isBlock m_hours m_side m_quantity m_limit m_sent m_sealed m_rounds m_liar m_told m_passed m_vectors m_meters m_cleared m_prices m_trades m_fills m_welfares m_orderEntry m_orderFill m_orders m_blockEntry m_blockFill m_blocks m_price m_trade m_filled m_rest m_out) (f_m_toldTo m_liar m_told x1 x2 x3) (fun r => (0, some (.int r), ex, (hT, HM m_thrown m_n m_collateral m_many m_need m_isBlock m_hours m_side m_quantity m_limit m_sent m_sealed m_rounds m_liar m_told m_passed m_vectors m_meters m_cleared m_prices m_trades m_fills m_welfares m_orderEntry m_orderFill m_orders m_blockEntry m_blockFill m_blocks m_price m_trade m_filled m_rest m_out), 0, 0)) := by
  refine mz_of (by decide) (Nat.le_of_ble_eq_true rfl) ?_
  rw [f_m_toldTo]
  show mz_A g M_m_toldTo (mz_rm 0) _ 0 [(0, .ref 54), (1, .int x1), (2, .int x2), (3, .int x3)] [] ex (hT, HM m_thrown m_n m_collateral m_many m_need m_isBlock m_hours m_side m_quantity m_limit m_sent m_sealed m_rounds m_liar m_told m_passed m_vectors m_meters m_cleared m_prices m_trades m_fills m_welfares m_orderEntry m_orderFill m_orders m_blockEntry m_blockFill m_blocks m_price m_trade m_filled m_rest m_out) 0 0 _
  refine mr_iload_n d_m_toldTo_0 rfl rfl ?_
  refine mr_aload_n d_m_toldTo_1 rfl rfl ?_
  refine mr_get K_m 13 d_m_toldTo_2 lk_f_m_42 (by decide) rfl rfl ?_
  refine mr_icmp_ne (tgt := 38) d_m_toldTo_5 (by decide) ?_ ?_
  · refine mr_iconst (v := 4) d_m_toldTo_38 mc_iconst_4 ?_
    refine mr_iload_n d_m_toldTo_39 rfl rfl ?_
    refine mr_imul d_m_toldTo_40 ?_
    refine mr_iload_n d_m_toldTo_41 rfl rfl ?_
    refine mr_iadd d_m_toldTo_42 ?_
    exact mr_iret d_m_toldTo_43 rfl rfl
  · refine mr_aload_n d_m_toldTo_8 rfl rfl ?_
    refine mr_get K_m 14 d_m_toldTo_9 lk_f_m_46 (by decide) rfl rfl ?_
    refine mr_bipush (v := 6) d_m_toldTo_12 mc_bipush_6 ?_
    refine mr_iload_n d_m_toldTo_14 rfl rfl ?_
    refine mr_imul d_m_toldTo_15 ?_
    refine mr_iload_n d_m_toldTo_16 rfl rfl ?_
    refine mr_iadd d_m_toldTo_17 ?_
    refine mr_iald d_m_toldTo_18 rfl (fun hc1 => ?_)
    refine mr_bipush (v := (-2)) d_m_toldTo_19 mc_bipush_m2 ?_
    refine mr_icmp_eq (tgt := 38) d_m_toldTo_21 (by decide) ?_ ?_
    · refine mr_iconst (v := 4) d_m_toldTo_38 mc_iconst_4 ?_
      refine mr_iload_n d_m_toldTo_39 rfl rfl ?_
      refine mr_imul d_m_toldTo_40 ?_
      refine mr_iload_n d_m_toldTo_41 rfl rfl ?_
      refine mr_iadd d_m_toldTo_42 ?_
      exact mr_iret d_m_toldTo_43 rfl rfl
    · refine mr_aload_n d_m_toldTo_24 rfl rfl ?_
      refine mr_get K_m 14 d_m_toldTo_25 lk_f_m_46 (by decide) rfl rfl ?_
      refine mr_bipush (v := 6) d_m_toldTo_28 mc_bipush_6 ?_
      refine mr_iload_n d_m_toldTo_30 rfl rfl ?_
      refine mr_imul d_m_toldTo_31 ?_
      refine mr_iload_n d_m_toldTo_32 rfl rfl ?_
      refine mr_iadd d_m_toldTo_33 ?_
      refine mr_ialdK d_m_toldTo_34 rfl hc1 ?_
      refine mr_goto (tgt := 43) d_m_toldTo_35 (by decide) ?_
      exact mr_iret d_m_toldTo_43 rfl rfl
set_option maxRecDepth 100000 in
set_option maxHeartbeats 4000000 in
theorem e_m_passedTo {g : mz_G} {ex : Bool} {hT : List mz_E} {m_thrown : Int32} {m_n : Int32} {m_collateral : Nat → Int32} {m_many : Nat → Int32} {m_need : Nat → Int64} {m_isBlock : Nat → Int32} {m_hours : Nat → Int32} {m_side : Nat → Int32} {m_quantity : Nat → Int32} {m_limit : Nat → Int32} {m_sent : Nat → Int32} {m_sealed : Nat → Int32} {m_rounds : Int32} {m_liar : Int32} {m_told : Nat → Int32} {m_passed : Nat → Int32} {m_vectors : Nat → Int32} {m_meters : Nat → Int32} {m_cleared : Nat → Int32} {m_prices : Nat → Int32} {m_trades : Nat → Int32} {m_fills : Nat → Int32} {m_welfares : Nat → Int64} {m_orderEntry : Nat → Int32} {m_orderFill : Nat → Int32} {m_orders : Int32} {m_blockEntry : Nat → Int32} {m_blockFill : Nat → Int32} {m_blocks : Int32} {m_price : Nat → Int32} {m_trade : Nat → Int32} {m_filled : Nat → Int32} {m_rest : Nat → Int64} {m_out : Nat → Int64} {x1 : Int32} {x2 : Int32} {x3 : Int32} {x4 : Int32} : mz_M g M_m_passedTo 1 [.ref 54, .int x1, .int x2, .int x3, .int x4] ex (hT, HM m_thrown m_n m_collateral m_many m_need m_isBlock m_hours m_side m_quantity m_limit m_sent m_sealed m_rounds m_liar m_told m_passed m_vectors m_meters m_cleared m_prices m_trades m_fills m_welfares m_orderEntry m_orderFill m_orders m_blockEntry m_blockFill m_blocks m_price m_trade m_filled m_rest m_out) (f_m_passedTo m_liar m_told m_passed x1 x2 x3 x4) (fun r => (0, some (.int r), ex, (hT, HM m_thrown m_n m_collateral m_many m_need m_isBlock m_hours m_side m_quantity m_limit m_sent m_sealed m_rounds m_liar m_told m_passed m_vectors m_meters m_cleared m_prices m_trades m_fills m_welfares m_orderEntry m_orderFill m_orders m_blockEntry m_blockFill m_blocks m_price m_trade m_filled m_rest m_out), 0, 0)) := by
  have w_b44 : mz_A g M_m_passedTo (mz_rm 1) (fun r => (0, some (.int r), ex, (hT, HM m_thrown m_n m_collateral m_many m_need m_isBlock m_hours m_side m_quantity m_limit m_sent m_sealed m_rounds m_liar m_told m_passed m_vectors m_meters m_cleared m_prices m_trades m_fills m_welfares m_orderEntry m_orderFill m_orders m_blockEntry m_blockFill m_blocks m_price m_trade m_filled m_rest m_out), 0, 0)) 44 [(0, .ref 54), (1, .int x1), (2, .int x2), (4, .int x4)] [] ex (hT, HM m_thrown m_n m_collateral m_many m_need m_isBlock m_hours m_side m_quantity m_limit m_sent m_sealed m_rounds m_liar m_told m_passed m_vectors m_meters m_cleared m_prices m_trades m_fills m_welfares m_orderEntry m_orderFill m_orders m_blockEntry m_blockFill m_blocks m_price m_trade m_filled m_rest m_out) 0 0 (f_m_passedTo_b44 m_liar m_told m_passed x1 x2 x4) := by
    rw [f_m_passedTo_b44]
    refine mr_aload_n d_m_passedTo_44 rfl rfl ?_
    refine mr_iload_n d_m_passedTo_45 rfl rfl ?_
    refine mr_iload_n d_m_passedTo_46 rfl rfl ?_
    refine mr_iload d_m_passedTo_47 rfl ?_
    refine mz_go (st := []) e_m_toldTo (fun _ => rfl) U_m_toldTo (mz_vV d_m_passedTo_49 U_m_toldTo rfl lk_m_m_155 I_m_toldTo s_m_toldTo np_m_toldTo rfl rfl) (Nat.le_of_ble_eq_true rfl) (by decide) (fun r2 => ?_)
    refine mr_eq (st' := [.int r2]) (ex' := ex) (h2 := (hT, HM m_thrown m_n m_collateral m_many m_need m_isBlock m_hours m_side m_quantity m_limit m_sent m_sealed m_rounds m_liar m_told m_passed m_vectors m_meters m_cleared m_prices m_trades m_fills m_welfares m_orderEntry m_orderFill m_orders m_blockEntry m_blockFill m_blocks m_price m_trade m_filled m_rest m_out)) (k' := 0) (n' := 0) rfl rfl rfl rfl rfl ?_
    exact mr_iret d_m_passedTo_52 rfl rfl
  refine mz_of (by decide) (Nat.le_of_ble_eq_true rfl) ?_
  rw [f_m_passedTo]
  show mz_A g M_m_passedTo (mz_rm 1) _ 0 [(0, .ref 54), (1, .int x1), (2, .int x2), (3, .int x3), (4, .int x4)] [] ex (hT, HM m_thrown m_n m_collateral m_many m_need m_isBlock m_hours m_side m_quantity m_limit m_sent m_sealed m_rounds m_liar m_told m_passed m_vectors m_meters m_cleared m_prices m_trades m_fills m_welfares m_orderEntry m_orderFill m_orders m_blockEntry m_blockFill m_blocks m_price m_trade m_filled m_rest m_out) 0 0 _
  refine mr_bipush (v := 24) d_m_passedTo_0 mc_bipush_24 ?_
  refine mr_iload_n d_m_passedTo_2 rfl rfl ?_
  refine mr_imul d_m_passedTo_3 ?_
  refine mr_bipush (v := 6) d_m_passedTo_4 mc_bipush_6 ?_
  refine mr_iload_n d_m_passedTo_6 rfl rfl ?_
  refine mr_imul d_m_passedTo_7 ?_
  refine mr_iadd d_m_passedTo_8 ?_
  refine mr_iload d_m_passedTo_9 rfl ?_
  refine mr_iadd d_m_passedTo_11 ?_
  refine mr_istore (lv' := [(5, .int (((24 * x3) + (6 * x2)) + x4)), (0, .ref 54), (1, .int x1), (2, .int x2), (3, .int x3), (4, .int x4)]) d_m_passedTo_12 (by decide) rfl ?_
  refine mr_iload_n d_m_passedTo_14 rfl rfl ?_
  refine mr_aload_n d_m_passedTo_15 rfl rfl ?_
  refine mr_get K_m 13 d_m_passedTo_16 lk_f_m_42 (by decide) rfl rfl ?_
  refine mr_icmp_ne (tgt := 44) d_m_passedTo_19 (by decide) ?_ ?_
  · refine mr_sub (lv' := [(0, .ref 54), (1, .int x1), (2, .int x2), (4, .int x4)]) [1, 2, 3, 5] rfl ?_
    exact w_b44
  · refine mr_aload_n d_m_passedTo_22 rfl rfl ?_
    refine mr_get K_m 15 d_m_passedTo_23 lk_f_m_49 (by decide) rfl rfl ?_
    refine mr_iload d_m_passedTo_26 rfl ?_
    refine mr_iald d_m_passedTo_28 rfl (fun hc1 => ?_)
    refine mr_bipush (v := (-2)) d_m_passedTo_29 mc_bipush_m2 ?_
    refine mr_icmp_eq (tgt := 44) d_m_passedTo_31 (by decide) ?_ ?_
    · refine mr_sub (lv' := [(0, .ref 54), (1, .int x1), (2, .int x2), (4, .int x4)]) [1, 2, 3, 5] rfl ?_
      exact w_b44
    · refine mr_aload_n d_m_passedTo_34 rfl rfl ?_
      refine mr_get K_m 15 d_m_passedTo_35 lk_f_m_49 (by decide) rfl rfl ?_
      refine mr_iload d_m_passedTo_38 rfl ?_
      refine mr_ialdK d_m_passedTo_40 rfl hc1 ?_
      refine mr_goto (tgt := 52) d_m_passedTo_41 (by decide) ?_
      exact mr_iret d_m_passedTo_52 rfl rfl
set_option maxRecDepth 100000 in
set_option maxHeartbeats 4000000 in
theorem e_m_word {g : mz_G} {ex : Bool} {hT : List mz_E} {m_thrown : Int32} {m_n : Int32} {m_collateral : Nat → Int32} {m_many : Nat → Int32} {m_need : Nat → Int64} {m_isBlock : Nat → Int32} {m_hours : Nat → Int32} {m_side : Nat → Int32} {m_quantity : Nat → Int32} {m_limit : Nat → Int32} {m_sent : Nat → Int32} {m_sealed : Nat → Int32} {m_rounds : Int32} {m_liar : Int32} {m_told : Nat → Int32} {m_passed : Nat → Int32} {m_vectors : Nat → Int32} {m_meters : Nat → Int32} {m_cleared : Nat → Int32} {m_prices : Nat → Int32} {m_trades : Nat → Int32} {m_fills : Nat → Int32} {m_welfares : Nat → Int64} {m_orderEntry : Nat → Int32} {m_orderFill : Nat → Int32} {m_orders : Int32} {m_blockEntry : Nat → Int32} {m_blockFill : Nat → Int32} {m_blocks : Int32} {m_price : Nat → Int32} {m_trade : Nat → Int32} {m_filled : Nat → Int32} {m_rest : Nat → Int64} {m_out : Nat → Int64} {x1 : Int32} {x2 : Int32} {x3 : Int32} : mz_M g M_m_word 2 [.ref 54, .int x1, .int x2, .int x3] ex (hT, HM m_thrown m_n m_collateral m_many m_need m_isBlock m_hours m_side m_quantity m_limit m_sent m_sealed m_rounds m_liar m_told m_passed m_vectors m_meters m_cleared m_prices m_trades m_fills m_welfares m_orderEntry m_orderFill m_orders m_blockEntry m_blockFill m_blocks m_price m_trade m_filled m_rest m_out) (f_m_word m_many m_isBlock m_hours m_side m_quantity m_limit m_liar m_told m_passed x1 x2 x3) (fun r => (0, some (.int r), ex, (hT, HM m_thrown m_n m_collateral m_many m_need m_isBlock m_hours m_side m_quantity m_limit m_sent m_sealed m_rounds m_liar m_told m_passed m_vectors m_meters m_cleared m_prices m_trades m_fills m_welfares m_orderEntry m_orderFill m_orders m_blockEntry m_blockFill m_blocks m_price m_trade m_filled m_rest m_out), 0, 0)) := by
  have w_b73 : ∀ (K32 : Int32 → Int32 → Int32 → Int32 → Int32 → Option (Int32)), (∀ (x4 : Int32) (x5 : Int32) (x6 : Int32) (x7 : Int32) (x8 : Int32), mz_A g M_m_word (mz_rm 2) (fun r => (0, some (.int r), ex, (hT, HM m_thrown m_n m_collateral m_many m_need m_isBlock m_hours m_side m_quantity m_limit m_sent m_sealed m_rounds m_liar m_told m_passed m_vectors m_meters m_cleared m_prices m_trades m_fills m_welfares m_orderEntry m_orderFill m_orders m_blockEntry m_blockFill m_blocks m_price m_trade m_filled m_rest m_out), 0, 0)) 32 [(0, .ref 54), (1, .int x1), (2, .int x2), (3, .int x3), (4, .int x4), (5, .int x5), (6, .int x6), (7, .int x7), (8, .int x8)] [] ex (hT, HM m_thrown m_n m_collateral m_many m_need m_isBlock m_hours m_side m_quantity m_limit m_sent m_sealed m_rounds m_liar m_told m_passed m_vectors m_meters m_cleared m_prices m_trades m_fills m_welfares m_orderEntry m_orderFill m_orders m_blockEntry m_blockFill m_blocks m_price m_trade m_filled m_rest m_out) 0 0 (K32 x4 x5 x6 x7 x8)) → ∀ (x4 : Int32) (x6 : Int32) (x7 : Int32) (x8 : Int32) (x9 : Int32) (s0 : Int32), mz_A g M_m_word (mz_rm 2) (fun r => (0, some (.int r), ex, (hT, HM m_thrown m_n m_collateral m_many m_need m_isBlock m_hours m_side m_quantity m_limit m_sent m_sealed m_rounds m_liar m_told m_passed m_vectors m_meters m_cleared m_prices m_trades m_fills m_welfares m_orderEntry m_orderFill m_orders m_blockEntry m_blockFill m_blocks m_price m_trade m_filled m_rest m_out), 0, 0)) 73 [(0, .ref 54), (1, .int x1), (2, .int x2), (3, .int x3), (4, .int x4), (6, .int x6), (7, .int x7), (8, .int x8), (9, .int x9)] [.int s0] ex (hT, HM m_thrown m_n m_collateral m_many m_need m_isBlock m_hours m_side m_quantity m_limit m_sent m_sealed m_rounds m_liar m_told m_passed m_vectors m_meters m_cleared m_prices m_trades m_fills m_welfares m_orderEntry m_orderFill m_orders m_blockEntry m_blockFill m_blocks m_price m_trade m_filled m_rest m_out) 0 0 (f_m_word_b73 m_many m_isBlock m_hours m_side m_quantity m_limit m_liar m_told m_passed x1 x2 x3 K32 x4 x6 x7 x8 x9 s0) := by
    intro K32 hK32 x4 x6 x7 x8 x9 s0
    rw [f_m_word_b73]
    refine mr_istore (lv' := [(5, .int s0), (0, .ref 54), (1, .int x1), (2, .int x2), (3, .int x3), (4, .int x4), (6, .int x6), (7, .int x7), (8, .int x8), (9, .int x9)]) d_m_word_73 (by decide) rfl ?_
    refine mr_iload d_m_word_75 rfl ?_
    refine mr_if_eq (tgt := 85) d_m_word_77 (by decide) ?_ ?_
    · refine mr_iload d_m_word_85 rfl ?_
      refine mr_istore (lv' := [(6, .int x9), (5, .int s0), (0, .ref 54), (1, .int x1), (2, .int x2), (3, .int x3), (4, .int x4), (7, .int x7), (8, .int x8), (9, .int x9)]) d_m_word_87 (by decide) rfl ?_
      refine mr_iconst (v := 0) d_m_word_89 mc_iconst_0 ?_
      refine mr_istore (lv' := [(7, .int 0), (6, .int x9), (5, .int s0), (0, .ref 54), (1, .int x1), (2, .int x2), (3, .int x3), (4, .int x4), (8, .int x8), (9, .int x9)]) d_m_word_90 (by decide) rfl ?_
      refine mr_iinc (v := (x8 + 1)) (lv' := [(8, .int (x8 + 1)), (7, .int 0), (6, .int x9), (5, .int s0), (0, .ref 54), (1, .int x1), (2, .int x2), (3, .int x3), (4, .int x4), (9, .int x9)]) d_m_word_92 rfl rfl (by decide) rfl ?_
      refine mr_goto (tgt := 32) d_m_word_95 (by decide) ?_
      refine mr_sub (lv' := [(0, .ref 54), (1, .int x1), (2, .int x2), (3, .int x3), (4, .int x4), (5, .int s0), (6, .int x9), (7, .int 0), (8, .int (x8 + 1))]) [4, 5, 6, 7, 8, 3, 2, 1, 0] rfl ?_
      exact hK32 _ _ _ _ _
    · refine mr_iload d_m_word_80 rfl ?_
      refine mr_goto (tgt := 87) d_m_word_82 (by decide) ?_
      refine mr_istore (lv' := [(6, .int x6), (5, .int s0), (0, .ref 54), (1, .int x1), (2, .int x2), (3, .int x3), (4, .int x4), (7, .int x7), (8, .int x8), (9, .int x9)]) d_m_word_87 (by decide) rfl ?_
      refine mr_iconst (v := 0) d_m_word_89 mc_iconst_0 ?_
      refine mr_istore (lv' := [(7, .int 0), (6, .int x6), (5, .int s0), (0, .ref 54), (1, .int x1), (2, .int x2), (3, .int x3), (4, .int x4), (8, .int x8), (9, .int x9)]) d_m_word_90 (by decide) rfl ?_
      refine mr_iinc (v := (x8 + 1)) (lv' := [(8, .int (x8 + 1)), (7, .int 0), (6, .int x6), (5, .int s0), (0, .ref 54), (1, .int x1), (2, .int x2), (3, .int x3), (4, .int x4), (9, .int x9)]) d_m_word_92 rfl rfl (by decide) rfl ?_
      refine mr_goto (tgt := 32) d_m_word_95 (by decide) ?_
      refine mr_sub (lv' := [(0, .ref 54), (1, .int x1), (2, .int x2), (3, .int x3), (4, .int x4), (5, .int s0), (6, .int x6), (7, .int 0), (8, .int (x8 + 1))]) [4, 5, 6, 7, 8, 3, 2, 1, 0] rfl ?_
      exact hK32 _ _ _ _ _
  have w_b120 : ∀ (x4 : Int32), mz_A g M_m_word (mz_rm 2) (fun r => (0, some (.int r), ex, (hT, HM m_thrown m_n m_collateral m_many m_need m_isBlock m_hours m_side m_quantity m_limit m_sent m_sealed m_rounds m_liar m_told m_passed m_vectors m_meters m_cleared m_prices m_trades m_fills m_welfares m_orderEntry m_orderFill m_orders m_blockEntry m_blockFill m_blocks m_price m_trade m_filled m_rest m_out), 0, 0)) 120 [(4, .int x4)] [] ex (hT, HM m_thrown m_n m_collateral m_many m_need m_isBlock m_hours m_side m_quantity m_limit m_sent m_sealed m_rounds m_liar m_told m_passed m_vectors m_meters m_cleared m_prices m_trades m_fills m_welfares m_orderEntry m_orderFill m_orders m_blockEntry m_blockFill m_blocks m_price m_trade m_filled m_rest m_out) 0 0 (f_m_word_b120 m_many m_isBlock m_hours m_side m_quantity m_limit m_liar m_told m_passed x4) := by
    intro  x4
    rw [f_m_word_b120]
    refine mr_iload d_m_word_120 rfl ?_
    refine mr_goto (tgt := 142) d_m_word_122 (by decide) ?_
    exact mr_iret d_m_word_142 rfl rfl
  have w_L32 : ∀ (n : Nat) (x4 : Int32) (x5 : Int32) (x6 : Int32) (x7 : Int32) (x8 : Int32), mz_A g M_m_word (mz_rm 2) (fun r => (0, some (.int r), ex, (hT, HM m_thrown m_n m_collateral m_many m_need m_isBlock m_hours m_side m_quantity m_limit m_sent m_sealed m_rounds m_liar m_told m_passed m_vectors m_meters m_cleared m_prices m_trades m_fills m_welfares m_orderEntry m_orderFill m_orders m_blockEntry m_blockFill m_blocks m_price m_trade m_filled m_rest m_out), 0, 0)) 32 [(0, .ref 54), (1, .int x1), (2, .int x2), (3, .int x3), (4, .int x4), (5, .int x5), (6, .int x6), (7, .int x7), (8, .int x8)] [] ex (hT, HM m_thrown m_n m_collateral m_many m_need m_isBlock m_hours m_side m_quantity m_limit m_sent m_sealed m_rounds m_liar m_told m_passed m_vectors m_meters m_cleared m_prices m_trades m_fills m_welfares m_orderEntry m_orderFill m_orders m_blockEntry m_blockFill m_blocks m_price m_trade m_filled m_rest m_out) 0 0 (f_m_word_L32 m_many m_isBlock m_hours m_side m_quantity m_limit m_liar m_told m_passed x1 x2 x3 n x4 x5 x6 x7 x8) := by
    intro n
    induction n with
    | zero => intro x4 x5 x6 x7 x8; exact mr_none
    | succ n ih =>
      intro x4 x5 x6 x7 x8
      rw [f_m_word_L32]
      refine mr_iload d_m_word_32 rfl ?_
      refine mr_iconst (v := 4) d_m_word_34 mc_iconst_4 ?_
      refine mr_icmp_ge (tgt := 98) d_m_word_35 (by decide) ?_ ?_
      · refine mr_aload_n d_m_word_98 rfl rfl ?_
        refine mr_iload d_m_word_99 rfl ?_
        refine mr_iload d_m_word_101 rfl ?_
        refine mz_go (st := []) e_m_alike (fun _ => rfl) U_m_alike (mz_vV d_m_word_103 U_m_alike rfl lk_m_m_163 I_m_alike s_m_alike np_m_alike rfl rfl) (Nat.le_of_ble_eq_true rfl) (by decide) (fun r2 => ?_)
        refine mr_eq (st' := [.int r2]) (ex' := ex) (h2 := (hT, HM m_thrown m_n m_collateral m_many m_need m_isBlock m_hours m_side m_quantity m_limit m_sent m_sealed m_rounds m_liar m_told m_passed m_vectors m_meters m_cleared m_prices m_trades m_fills m_welfares m_orderEntry m_orderFill m_orders m_blockEntry m_blockFill m_blocks m_price m_trade m_filled m_rest m_out)) (k' := 0) (n' := 0) rfl rfl rfl rfl rfl ?_
        refine mr_if_ne (tgt := 120) d_m_word_106 (by decide) ?_ ?_
        · refine mr_sub (lv' := [(4, .int x4)]) [4] rfl ?_
          exact w_b120 _
        · refine mr_aload_n d_m_word_109 rfl rfl ?_
          refine mr_iload d_m_word_110 rfl ?_
          refine mr_iload d_m_word_112 rfl ?_
          refine mz_go (st := []) e_m_alike (fun _ => rfl) U_m_alike (mz_vV d_m_word_114 U_m_alike rfl lk_m_m_163 I_m_alike s_m_alike np_m_alike rfl rfl) (Nat.le_of_ble_eq_true rfl) (by decide) (fun r3 => ?_)
          refine mr_eq (st' := [.int r3]) (ex' := ex) (h2 := (hT, HM m_thrown m_n m_collateral m_many m_need m_isBlock m_hours m_side m_quantity m_limit m_sent m_sealed m_rounds m_liar m_told m_passed m_vectors m_meters m_cleared m_prices m_trades m_fills m_welfares m_orderEntry m_orderFill m_orders m_blockEntry m_blockFill m_blocks m_price m_trade m_filled m_rest m_out)) (k' := 0) (n' := 0) rfl rfl rfl rfl rfl ?_
          refine mr_if_eq (tgt := 125) d_m_word_117 (by decide) ?_ ?_
          · refine mr_aload_n d_m_word_125 rfl rfl ?_
            refine mr_iload d_m_word_126 rfl ?_
            refine mr_iload d_m_word_128 rfl ?_
            refine mz_go (st := []) e_m_alike (fun _ => rfl) U_m_alike (mz_vV d_m_word_130 U_m_alike rfl lk_m_m_163 I_m_alike s_m_alike np_m_alike rfl rfl) (Nat.le_of_ble_eq_true rfl) (by decide) (fun r4 => ?_)
            refine mr_eq (st' := [.int r4]) (ex' := ex) (h2 := (hT, HM m_thrown m_n m_collateral m_many m_need m_isBlock m_hours m_side m_quantity m_limit m_sent m_sealed m_rounds m_liar m_told m_passed m_vectors m_meters m_cleared m_prices m_trades m_fills m_welfares m_orderEntry m_orderFill m_orders m_blockEntry m_blockFill m_blocks m_price m_trade m_filled m_rest m_out)) (k' := 0) (n' := 0) rfl rfl rfl rfl rfl ?_
            refine mr_if_eq (tgt := 141) d_m_word_133 (by decide) ?_ ?_
            · refine mr_iconst (v := (-1)) d_m_word_141 mc_iconst_m1 ?_
              exact mr_iret d_m_word_142 rfl rfl
            · refine mr_iload d_m_word_136 rfl ?_
              refine mr_goto (tgt := 142) d_m_word_138 (by decide) ?_
              exact mr_iret d_m_word_142 rfl rfl
          · refine mr_sub (lv' := [(4, .int x4)]) [4] rfl ?_
            exact w_b120 _
      · refine mr_iload d_m_word_38 rfl ?_
        refine mr_iload_n d_m_word_40 rfl rfl ?_
        refine mr_icmp_eq (tgt := 92) d_m_word_41 (by decide) ?_ ?_
        · refine mr_iinc (v := (x8 + 1)) (lv' := [(8, .int (x8 + 1)), (0, .ref 54), (1, .int x1), (2, .int x2), (3, .int x3), (4, .int x4), (5, .int x5), (6, .int x6), (7, .int x7)]) d_m_word_92 rfl rfl (by decide) rfl ?_
          refine mr_goto (tgt := 32) d_m_word_95 (by decide) ?_
          refine mr_sub (lv' := [(0, .ref 54), (1, .int x1), (2, .int x2), (3, .int x3), (4, .int x4), (5, .int x5), (6, .int x6), (7, .int x7), (8, .int (x8 + 1))]) [1, 2, 3, 4, 5, 6, 7, 8, 0] rfl ?_
          exact ih _ _ _ _ _
        · refine mr_iload d_m_word_44 rfl ?_
          refine mr_iload_n d_m_word_46 rfl rfl ?_
          refine mr_icmp_eq (tgt := 92) d_m_word_47 (by decide) ?_ ?_
          · refine mr_iinc (v := (x8 + 1)) (lv' := [(8, .int (x8 + 1)), (0, .ref 54), (1, .int x1), (2, .int x2), (3, .int x3), (4, .int x4), (5, .int x5), (6, .int x6), (7, .int x7)]) d_m_word_92 rfl rfl (by decide) rfl ?_
            refine mr_goto (tgt := 32) d_m_word_95 (by decide) ?_
            refine mr_sub (lv' := [(0, .ref 54), (1, .int x1), (2, .int x2), (3, .int x3), (4, .int x4), (5, .int x5), (6, .int x6), (7, .int x7), (8, .int (x8 + 1))]) [1, 2, 3, 4, 5, 6, 7, 8, 0] rfl ?_
            exact ih _ _ _ _ _
          · refine mr_aload_n d_m_word_50 rfl rfl ?_
            refine mr_iload d_m_word_51 rfl ?_
            refine mr_iload_n d_m_word_53 rfl rfl ?_
            refine mr_iload_n d_m_word_54 rfl rfl ?_
            refine mr_iload_n d_m_word_55 rfl rfl ?_
            refine mz_go (st := []) e_m_passedTo (fun _ => rfl) U_m_passedTo (mz_vV d_m_word_56 U_m_passedTo rfl lk_m_m_159 I_m_passedTo s_m_passedTo np_m_passedTo rfl rfl) (Nat.le_of_ble_eq_true rfl) (by decide) (fun r5 => ?_)
            refine mr_eq (st' := [.int r5]) (ex' := ex) (h2 := (hT, HM m_thrown m_n m_collateral m_many m_need m_isBlock m_hours m_side m_quantity m_limit m_sent m_sealed m_rounds m_liar m_told m_passed m_vectors m_meters m_cleared m_prices m_trades m_fills m_welfares m_orderEntry m_orderFill m_orders m_blockEntry m_blockFill m_blocks m_price m_trade m_filled m_rest m_out)) (k' := 0) (n' := 0) rfl rfl rfl rfl rfl ?_
            refine mr_istore (lv' := [(9, .int r5), (0, .ref 54), (1, .int x1), (2, .int x2), (3, .int x3), (4, .int x4), (5, .int x5), (6, .int x6), (7, .int x7), (8, .int x8)]) d_m_word_59 (by decide) rfl ?_
            refine mr_iload d_m_word_61 rfl ?_
            refine mr_if_eq (tgt := 71) d_m_word_63 (by decide) ?_ ?_
            · refine mr_iload d_m_word_71 rfl ?_
              refine mr_sub (lv' := [(0, .ref 54), (1, .int x1), (2, .int x2), (3, .int x3), (4, .int x4), (6, .int x6), (7, .int x7), (8, .int x8), (9, .int r5)]) [1, 2, 3, 4, 5, 7, 8, 9, 0] rfl ?_
              exact w_b73 _ ih _ _ _ _ _ _
            · refine mr_iload d_m_word_66 rfl ?_
              refine mr_goto (tgt := 73) d_m_word_68 (by decide) ?_
              refine mr_sub (lv' := [(0, .ref 54), (1, .int x1), (2, .int x2), (3, .int x3), (4, .int x4), (6, .int x6), (7, .int x7), (8, .int x8), (9, .int r5)]) [1, 2, 3, 4, 5, 7, 8, 9, 0] rfl ?_
              exact w_b73 _ ih _ _ _ _ _ _
  refine mz_of (by decide) (Nat.le_of_ble_eq_true rfl) ?_
  rw [f_m_word]
  show mz_A g M_m_word (mz_rm 2) _ 0 [(0, .ref 54), (1, .int x1), (2, .int x2), (3, .int x3)] [] ex (hT, HM m_thrown m_n m_collateral m_many m_need m_isBlock m_hours m_side m_quantity m_limit m_sent m_sealed m_rounds m_liar m_told m_passed m_vectors m_meters m_cleared m_prices m_trades m_fills m_welfares m_orderEntry m_orderFill m_orders m_blockEntry m_blockFill m_blocks m_price m_trade m_filled m_rest m_out) 0 0 _
  refine mr_iload_n d_m_word_0 rfl rfl ?_
  refine mr_iload_n d_m_word_1 rfl rfl ?_
  refine mr_icmp_ne (tgt := 11) d_m_word_2 (by decide) ?_ ?_
  · refine mr_aload_n d_m_word_11 rfl rfl ?_
    refine mr_iload_n d_m_word_12 rfl rfl ?_
    refine mr_iload_n d_m_word_13 rfl rfl ?_
    refine mr_iload_n d_m_word_14 rfl rfl ?_
    refine mz_go (st := []) e_m_toldTo (fun _ => rfl) U_m_toldTo (mz_vV d_m_word_15 U_m_toldTo rfl lk_m_m_155 I_m_toldTo s_m_toldTo np_m_toldTo rfl rfl) (Nat.le_of_ble_eq_true rfl) (by decide) (fun r1 => ?_)
    refine mr_eq (st' := [.int r1]) (ex' := ex) (h2 := (hT, HM m_thrown m_n m_collateral m_many m_need m_isBlock m_hours m_side m_quantity m_limit m_sent m_sealed m_rounds m_liar m_told m_passed m_vectors m_meters m_cleared m_prices m_trades m_fills m_welfares m_orderEntry m_orderFill m_orders m_blockEntry m_blockFill m_blocks m_price m_trade m_filled m_rest m_out)) (k' := 0) (n' := 0) rfl rfl rfl rfl rfl ?_
    refine mr_istore (lv' := [(4, .int r1), (0, .ref 54), (1, .int x1), (2, .int x2), (3, .int x3)]) d_m_word_18 (by decide) rfl ?_
    refine mr_iconst (v := (-1)) d_m_word_20 mc_iconst_m1 ?_
    refine mr_istore (lv' := [(5, .int (-1)), (4, .int r1), (0, .ref 54), (1, .int x1), (2, .int x2), (3, .int x3)]) d_m_word_21 (by decide) rfl ?_
    refine mr_iconst (v := (-1)) d_m_word_23 mc_iconst_m1 ?_
    refine mr_istore (lv' := [(6, .int (-1)), (5, .int (-1)), (4, .int r1), (0, .ref 54), (1, .int x1), (2, .int x2), (3, .int x3)]) d_m_word_24 (by decide) rfl ?_
    refine mr_iconst (v := 1) d_m_word_26 mc_iconst_1 ?_
    refine mr_istore (lv' := [(7, .int 1), (6, .int (-1)), (5, .int (-1)), (4, .int r1), (0, .ref 54), (1, .int x1), (2, .int x2), (3, .int x3)]) d_m_word_27 (by decide) rfl ?_
    refine mr_iconst (v := 0) d_m_word_29 mc_iconst_0 ?_
    refine mr_istore (lv' := [(8, .int 0), (7, .int 1), (6, .int (-1)), (5, .int (-1)), (4, .int r1), (0, .ref 54), (1, .int x1), (2, .int x2), (3, .int x3)]) d_m_word_30 (by decide) rfl ?_
    refine mr_sub (lv' := [(0, .ref 54), (1, .int x1), (2, .int x2), (3, .int x3), (4, .int r1), (5, .int (-1)), (6, .int (-1)), (7, .int 1), (8, .int 0)]) [5, 6, 7, 8, 4, 3, 2, 1, 0] rfl ?_
    exact w_L32 1000 _ _ _ _ _
  · refine mr_iconst (v := 4) d_m_word_5 mc_iconst_4 ?_
    refine mr_iload_n d_m_word_6 rfl rfl ?_
    refine mr_imul d_m_word_7 ?_
    refine mr_iload_n d_m_word_8 rfl rfl ?_
    refine mr_iadd d_m_word_9 ?_
    exact mr_iret d_m_word_10 rfl rfl
set_option maxRecDepth 100000 in
set_option maxHeartbeats 4000000 in
theorem e_m_vote {g : mz_G} {ex : Bool} {hT : List mz_E} {m_thrown : Int32} {m_n : Int32} {m_collateral : Nat → Int32} {m_many : Nat → Int32} {m_need : Nat → Int64} {m_isBlock : Nat → Int32} {m_hours : Nat → Int32} {m_side : Nat → Int32} {m_quantity : Nat → Int32} {m_limit : Nat → Int32} {m_sent : Nat → Int32} {m_sealed : Nat → Int32} {m_rounds : Int32} {m_liar : Int32} {m_told : Nat → Int32} {m_passed : Nat → Int32} {m_vectors : Nat → Int32} {m_meters : Nat → Int32} {m_cleared : Nat → Int32} {m_prices : Nat → Int32} {m_trades : Nat → Int32} {m_fills : Nat → Int32} {m_welfares : Nat → Int64} {m_orderEntry : Nat → Int32} {m_orderFill : Nat → Int32} {m_orders : Int32} {m_blockEntry : Nat → Int32} {m_blockFill : Nat → Int32} {m_blocks : Int32} {m_price : Nat → Int32} {m_trade : Nat → Int32} {m_filled : Nat → Int32} {m_rest : Nat → Int64} {m_out : Nat → Int64} {x1 : Int32} {x2 : Int32} : mz_M g M_m_vote 3 [.ref 54, .int x1, .int x2] ex (hT, HM m_thrown m_n m_collateral m_many m_need m_isBlock m_hours m_side m_quantity m_limit m_sent m_sealed m_rounds m_liar m_told m_passed m_vectors m_meters m_cleared m_prices m_trades m_fills m_welfares m_orderEntry m_orderFill m_orders m_blockEntry m_blockFill m_blocks m_price m_trade m_filled m_rest m_out) (f_m_vote m_many m_isBlock m_hours m_side m_quantity m_limit m_liar m_told m_passed x1 x2) (fun r => (0, some (.int r), ex, (hT, HM m_thrown m_n m_collateral m_many m_need m_isBlock m_hours m_side m_quantity m_limit m_sent m_sealed m_rounds m_liar m_told m_passed m_vectors m_meters m_cleared m_prices m_trades m_fills m_welfares m_orderEntry m_orderFill m_orders m_blockEntry m_blockFill m_blocks m_price m_trade m_filled m_rest m_out), 0, 0)) := by
  have w_L27 : ∀ (K5 : Int32 → Int32 → Option (Int32)), (∀ (x3 : Int32) (x4 : Int32), mz_A g M_m_vote (mz_rm 3) (fun r => (0, some (.int r), ex, (hT, HM m_thrown m_n m_collateral m_many m_need m_isBlock m_hours m_side m_quantity m_limit m_sent m_sealed m_rounds m_liar m_told m_passed m_vectors m_meters m_cleared m_prices m_trades m_fills m_welfares m_orderEntry m_orderFill m_orders m_blockEntry m_blockFill m_blocks m_price m_trade m_filled m_rest m_out), 0, 0)) 5 [(0, .ref 54), (1, .int x1), (2, .int x2), (3, .int x3), (4, .int x4)] [] ex (hT, HM m_thrown m_n m_collateral m_many m_need m_isBlock m_hours m_side m_quantity m_limit m_sent m_sealed m_rounds m_liar m_told m_passed m_vectors m_meters m_cleared m_prices m_trades m_fills m_welfares m_orderEntry m_orderFill m_orders m_blockEntry m_blockFill m_blocks m_price m_trade m_filled m_rest m_out) 0 0 (K5 x3 x4)) → ∀ (n : Nat) (x3 : Int32) (x4 : Int32) (x5 : Int32) (x6 : Int32) (x7 : Int32), mz_A g M_m_vote (mz_rm 3) (fun r => (0, some (.int r), ex, (hT, HM m_thrown m_n m_collateral m_many m_need m_isBlock m_hours m_side m_quantity m_limit m_sent m_sealed m_rounds m_liar m_told m_passed m_vectors m_meters m_cleared m_prices m_trades m_fills m_welfares m_orderEntry m_orderFill m_orders m_blockEntry m_blockFill m_blocks m_price m_trade m_filled m_rest m_out), 0, 0)) 27 [(0, .ref 54), (1, .int x1), (2, .int x2), (3, .int x3), (4, .int x4), (5, .int x5), (6, .int x6), (7, .int x7)] [] ex (hT, HM m_thrown m_n m_collateral m_many m_need m_isBlock m_hours m_side m_quantity m_limit m_sent m_sealed m_rounds m_liar m_told m_passed m_vectors m_meters m_cleared m_prices m_trades m_fills m_welfares m_orderEntry m_orderFill m_orders m_blockEntry m_blockFill m_blocks m_price m_trade m_filled m_rest m_out) 0 0 (f_m_vote_L27 m_many m_isBlock m_hours m_side m_quantity m_limit m_liar m_told m_passed x1 x2 K5 n x3 x4 x5 x6 x7) := by
    intro K5 hK5
    intro n
    induction n with
    | zero => intro x3 x4 x5 x6 x7; exact mr_none
    | succ n ih =>
      intro x3 x4 x5 x6 x7
      rw [f_m_vote_L27]
      refine mr_iload d_m_vote_27 rfl ?_
      refine mr_iconst (v := 4) d_m_vote_29 mc_iconst_4 ?_
      refine mr_icmp_ge (tgt := 66) d_m_vote_30 (by decide) ?_ ?_
      · refine mr_iload d_m_vote_66 rfl ?_
        refine mr_iconst (v := 2) d_m_vote_68 mc_iconst_2 ?_
        refine mr_icmp_le (tgt := 77) d_m_vote_69 (by decide) ?_ ?_
        · refine mr_iload_n d_m_vote_77 rfl rfl ?_
          refine mr_istore_n (lv' := [(3, .int x3), (0, .ref 54), (1, .int x1), (2, .int x2), (4, .int x4), (5, .int x5), (6, .int x6), (7, .int x7)]) d_m_vote_78 rfl (by decide) rfl ?_
          refine mr_iinc (v := (x4 + 1)) (lv' := [(4, .int (x4 + 1)), (3, .int x3), (0, .ref 54), (1, .int x1), (2, .int x2), (5, .int x5), (6, .int x6), (7, .int x7)]) d_m_vote_79 rfl rfl (by decide) rfl ?_
          refine mr_goto (tgt := 5) d_m_vote_82 (by decide) ?_
          refine mr_sub (lv' := [(0, .ref 54), (1, .int x1), (2, .int x2), (3, .int x3), (4, .int (x4 + 1))]) [2, 3, 4, 1, 0] rfl ?_
          exact hK5 _ _
        · refine mr_iload d_m_vote_72 rfl ?_
          refine mr_goto (tgt := 78) d_m_vote_74 (by decide) ?_
          refine mr_istore_n (lv' := [(3, .int x5), (0, .ref 54), (1, .int x1), (2, .int x2), (4, .int x4), (5, .int x5), (6, .int x6), (7, .int x7)]) d_m_vote_78 rfl (by decide) rfl ?_
          refine mr_iinc (v := (x4 + 1)) (lv' := [(4, .int (x4 + 1)), (3, .int x5), (0, .ref 54), (1, .int x1), (2, .int x2), (5, .int x5), (6, .int x6), (7, .int x7)]) d_m_vote_79 rfl rfl (by decide) rfl ?_
          refine mr_goto (tgt := 5) d_m_vote_82 (by decide) ?_
          refine mr_sub (lv' := [(0, .ref 54), (1, .int x1), (2, .int x2), (3, .int x5), (4, .int (x4 + 1))]) [2, 3, 4, 1, 0] rfl ?_
          exact hK5 _ _
      · refine mr_iload d_m_vote_33 rfl ?_
        refine mr_aload_n d_m_vote_35 rfl rfl ?_
        refine mr_iload d_m_vote_36 rfl ?_
        refine mr_aload_n d_m_vote_38 rfl rfl ?_
        refine mr_iload_n d_m_vote_39 rfl rfl ?_
        refine mr_iload d_m_vote_40 rfl ?_
        refine mr_iload_n d_m_vote_42 rfl rfl ?_
        refine mz_go (st := [.int x5, .ref 54, .int x6]) e_m_word (fun _ => rfl) U_m_word (mz_vV d_m_vote_43 U_m_word rfl lk_m_m_167 I_m_word s_m_word np_m_word rfl rfl) (Nat.le_of_ble_eq_true rfl) (by decide) (fun r2 => ?_)
        refine mr_eq (st' := [.int r2, .int x5, .ref 54, .int x6]) (ex' := ex) (h2 := (hT, HM m_thrown m_n m_collateral m_many m_need m_isBlock m_hours m_side m_quantity m_limit m_sent m_sealed m_rounds m_liar m_told m_passed m_vectors m_meters m_cleared m_prices m_trades m_fills m_welfares m_orderEntry m_orderFill m_orders m_blockEntry m_blockFill m_blocks m_price m_trade m_filled m_rest m_out)) (k' := 0) (n' := 0) rfl rfl rfl rfl rfl ?_
        refine mz_go (st := [.int x6]) e_m_alike (fun _ => rfl) U_m_alike (mz_vV d_m_vote_46 U_m_alike rfl lk_m_m_163 I_m_alike s_m_alike np_m_alike rfl rfl) (Nat.le_of_ble_eq_true rfl) (by decide) (fun r3 => ?_)
        refine mr_eq (st' := [.int r3, .int x6]) (ex' := ex) (h2 := (hT, HM m_thrown m_n m_collateral m_many m_need m_isBlock m_hours m_side m_quantity m_limit m_sent m_sealed m_rounds m_liar m_told m_passed m_vectors m_meters m_cleared m_prices m_trades m_fills m_welfares m_orderEntry m_orderFill m_orders m_blockEntry m_blockFill m_blocks m_price m_trade m_filled m_rest m_out)) (k' := 0) (n' := 0) rfl rfl rfl rfl rfl ?_
        refine mr_if_eq (tgt := 56) d_m_vote_49 (by decide) ?_ ?_
        · refine mr_iconst (v := 0) d_m_vote_56 mc_iconst_0 ?_
          refine mr_iadd d_m_vote_57 ?_
          refine mr_istore (lv' := [(6, .int (x6 + 0)), (0, .ref 54), (1, .int x1), (2, .int x2), (3, .int x3), (4, .int x4), (5, .int x5), (7, .int x7)]) d_m_vote_58 (by decide) rfl ?_
          refine mr_iinc (v := (x7 + 1)) (lv' := [(7, .int (x7 + 1)), (6, .int (x6 + 0)), (0, .ref 54), (1, .int x1), (2, .int x2), (3, .int x3), (4, .int x4), (5, .int x5)]) d_m_vote_60 rfl rfl (by decide) rfl ?_
          refine mr_goto (tgt := 27) d_m_vote_63 (by decide) ?_
          refine mr_sub (lv' := [(0, .ref 54), (1, .int x1), (2, .int x2), (3, .int x3), (4, .int x4), (5, .int x5), (6, .int (x6 + 0)), (7, .int (x7 + 1))]) [2, 3, 4, 5, 6, 7, 1, 0] rfl ?_
          exact ih _ _ _ _ _
        · refine mr_iconst (v := 1) d_m_vote_52 mc_iconst_1 ?_
          refine mr_goto (tgt := 57) d_m_vote_53 (by decide) ?_
          refine mr_iadd d_m_vote_57 ?_
          refine mr_istore (lv' := [(6, .int (x6 + 1)), (0, .ref 54), (1, .int x1), (2, .int x2), (3, .int x3), (4, .int x4), (5, .int x5), (7, .int x7)]) d_m_vote_58 (by decide) rfl ?_
          refine mr_iinc (v := (x7 + 1)) (lv' := [(7, .int (x7 + 1)), (6, .int (x6 + 1)), (0, .ref 54), (1, .int x1), (2, .int x2), (3, .int x3), (4, .int x4), (5, .int x5)]) d_m_vote_60 rfl rfl (by decide) rfl ?_
          refine mr_goto (tgt := 27) d_m_vote_63 (by decide) ?_
          refine mr_sub (lv' := [(0, .ref 54), (1, .int x1), (2, .int x2), (3, .int x3), (4, .int x4), (5, .int x5), (6, .int (x6 + 1)), (7, .int (x7 + 1))]) [2, 3, 4, 5, 6, 7, 1, 0] rfl ?_
          exact ih _ _ _ _ _
  have w_L5 : ∀ (n : Nat) (x3 : Int32) (x4 : Int32), mz_A g M_m_vote (mz_rm 3) (fun r => (0, some (.int r), ex, (hT, HM m_thrown m_n m_collateral m_many m_need m_isBlock m_hours m_side m_quantity m_limit m_sent m_sealed m_rounds m_liar m_told m_passed m_vectors m_meters m_cleared m_prices m_trades m_fills m_welfares m_orderEntry m_orderFill m_orders m_blockEntry m_blockFill m_blocks m_price m_trade m_filled m_rest m_out), 0, 0)) 5 [(0, .ref 54), (1, .int x1), (2, .int x2), (3, .int x3), (4, .int x4)] [] ex (hT, HM m_thrown m_n m_collateral m_many m_need m_isBlock m_hours m_side m_quantity m_limit m_sent m_sealed m_rounds m_liar m_told m_passed m_vectors m_meters m_cleared m_prices m_trades m_fills m_welfares m_orderEntry m_orderFill m_orders m_blockEntry m_blockFill m_blocks m_price m_trade m_filled m_rest m_out) 0 0 (f_m_vote_L5 m_many m_isBlock m_hours m_side m_quantity m_limit m_liar m_told m_passed x1 x2 n x3 x4) := by
    intro n
    induction n with
    | zero => intro x3 x4; exact mr_none
    | succ n ih =>
      intro x3 x4
      rw [f_m_vote_L5]
      refine mr_iload d_m_vote_5 rfl ?_
      refine mr_iconst (v := 4) d_m_vote_7 mc_iconst_4 ?_
      refine mr_icmp_ge (tgt := 85) d_m_vote_8 (by decide) ?_ ?_
      · refine mr_iload_n d_m_vote_85 rfl rfl ?_
        exact mr_iret d_m_vote_86 rfl rfl
      · refine mr_aload_n d_m_vote_11 rfl rfl ?_
        refine mr_iload_n d_m_vote_12 rfl rfl ?_
        refine mr_iload d_m_vote_13 rfl ?_
        refine mr_iload_n d_m_vote_15 rfl rfl ?_
        refine mz_go (st := []) e_m_word (fun _ => rfl) U_m_word (mz_vV d_m_vote_16 U_m_word rfl lk_m_m_167 I_m_word s_m_word np_m_word rfl rfl) (Nat.le_of_ble_eq_true rfl) (by decide) (fun r1 => ?_)
        refine mr_eq (st' := [.int r1]) (ex' := ex) (h2 := (hT, HM m_thrown m_n m_collateral m_many m_need m_isBlock m_hours m_side m_quantity m_limit m_sent m_sealed m_rounds m_liar m_told m_passed m_vectors m_meters m_cleared m_prices m_trades m_fills m_welfares m_orderEntry m_orderFill m_orders m_blockEntry m_blockFill m_blocks m_price m_trade m_filled m_rest m_out)) (k' := 0) (n' := 0) rfl rfl rfl rfl rfl ?_
        refine mr_istore (lv' := [(5, .int r1), (0, .ref 54), (1, .int x1), (2, .int x2), (3, .int x3), (4, .int x4)]) d_m_vote_19 (by decide) rfl ?_
        refine mr_iconst (v := 0) d_m_vote_21 mc_iconst_0 ?_
        refine mr_istore (lv' := [(6, .int 0), (5, .int r1), (0, .ref 54), (1, .int x1), (2, .int x2), (3, .int x3), (4, .int x4)]) d_m_vote_22 (by decide) rfl ?_
        refine mr_iconst (v := 0) d_m_vote_24 mc_iconst_0 ?_
        refine mr_istore (lv' := [(7, .int 0), (6, .int 0), (5, .int r1), (0, .ref 54), (1, .int x1), (2, .int x2), (3, .int x3), (4, .int x4)]) d_m_vote_25 (by decide) rfl ?_
        refine mr_sub (lv' := [(0, .ref 54), (1, .int x1), (2, .int x2), (3, .int x3), (4, .int x4), (5, .int r1), (6, .int 0), (7, .int 0)]) [3, 4, 5, 6, 7, 2, 1, 0] rfl ?_
        exact w_L27 _ ih 1000 _ _ _ _ _
  refine mz_of (by decide) (Nat.le_of_ble_eq_true rfl) ?_
  rw [f_m_vote]
  show mz_A g M_m_vote (mz_rm 3) _ 0 [(0, .ref 54), (1, .int x1), (2, .int x2)] [] ex (hT, HM m_thrown m_n m_collateral m_many m_need m_isBlock m_hours m_side m_quantity m_limit m_sent m_sealed m_rounds m_liar m_told m_passed m_vectors m_meters m_cleared m_prices m_trades m_fills m_welfares m_orderEntry m_orderFill m_orders m_blockEntry m_blockFill m_blocks m_price m_trade m_filled m_rest m_out) 0 0 _
  refine mr_iconst (v := (-1)) d_m_vote_0 mc_iconst_m1 ?_
  refine mr_istore_n (lv' := [(3, .int (-1)), (0, .ref 54), (1, .int x1), (2, .int x2)]) d_m_vote_1 rfl (by decide) rfl ?_
  refine mr_iconst (v := 0) d_m_vote_2 mc_iconst_0 ?_
  refine mr_istore (lv' := [(4, .int 0), (3, .int (-1)), (0, .ref 54), (1, .int x1), (2, .int x2)]) d_m_vote_3 (by decide) rfl ?_
  refine mr_sub (lv' := [(0, .ref 54), (1, .int x1), (2, .int x2), (3, .int (-1)), (4, .int 0)]) [2, 3, 4, 1, 0] rfl ?_
  exact w_L5 1000 _ _
set_option maxRecDepth 100000 in
set_option maxHeartbeats 4000000 in
theorem e_m_round {g : mz_G} {ex : Bool} {hT : List mz_E} {m_thrown : Int32} {m_n : Int32} {m_collateral : Nat → Int32} {m_many : Nat → Int32} {m_need : Nat → Int64} {m_isBlock : Nat → Int32} {m_hours : Nat → Int32} {m_side : Nat → Int32} {m_quantity : Nat → Int32} {m_limit : Nat → Int32} {m_sent : Nat → Int32} {m_sealed : Nat → Int32} {m_rounds : Int32} {m_liar : Int32} {m_told : Nat → Int32} {m_passed : Nat → Int32} {m_vectors : Nat → Int32} {m_meters : Nat → Int32} {m_cleared : Nat → Int32} {m_prices : Nat → Int32} {m_trades : Nat → Int32} {m_fills : Nat → Int32} {m_welfares : Nat → Int64} {m_orderEntry : Nat → Int32} {m_orderFill : Nat → Int32} {m_orders : Int32} {m_blockEntry : Nat → Int32} {m_blockFill : Nat → Int32} {m_blocks : Int32} {m_price : Nat → Int32} {m_trade : Nat → Int32} {m_filled : Nat → Int32} {m_rest : Nat → Int64} {m_out : Nat → Int64} : mz_M g M_m_round 4 [.ref 54] ex (hT, HM m_thrown m_n m_collateral m_many m_need m_isBlock m_hours m_side m_quantity m_limit m_sent m_sealed m_rounds m_liar m_told m_passed m_vectors m_meters m_cleared m_prices m_trades m_fills m_welfares m_orderEntry m_orderFill m_orders m_blockEntry m_blockFill m_blocks m_price m_trade m_filled m_rest m_out) (f_m_round m_thrown m_n m_many m_isBlock m_hours m_side m_quantity m_limit m_sealed m_rounds m_liar m_told m_passed m_vectors) (fun r => (0, some (.int r.1), ex, (hT, HM r.2.1 m_n m_collateral m_many m_need m_isBlock m_hours m_side m_quantity m_limit m_sent m_sealed r.2.2.1 m_liar m_told m_passed r.2.2.2 m_meters m_cleared m_prices m_trades m_fills m_welfares m_orderEntry m_orderFill m_orders m_blockEntry m_blockFill m_blocks m_price m_trade m_filled m_rest m_out), 0, 0)) := by
  have w_L61 : ∀ (K54 : Int32 → Int32 → (Nat → Int32) → Int32 → Option (Int32 × Int32 × Int32 × (Nat → Int32))), (∀ (m_thrown : Int32) (m_rounds : Int32) (m_vectors : Nat → Int32) (x1 : Int32), mz_A g M_m_round (mz_rm 4) (fun r => (0, some (.int r.1), ex, (hT, HM r.2.1 m_n m_collateral m_many m_need m_isBlock m_hours m_side m_quantity m_limit m_sent m_sealed r.2.2.1 m_liar m_told m_passed r.2.2.2 m_meters m_cleared m_prices m_trades m_fills m_welfares m_orderEntry m_orderFill m_orders m_blockEntry m_blockFill m_blocks m_price m_trade m_filled m_rest m_out), 0, 0)) 54 [(0, .ref 54), (1, .int x1)] [] ex (hT, HM m_thrown m_n m_collateral m_many m_need m_isBlock m_hours m_side m_quantity m_limit m_sent m_sealed m_rounds m_liar m_told m_passed m_vectors m_meters m_cleared m_prices m_trades m_fills m_welfares m_orderEntry m_orderFill m_orders m_blockEntry m_blockFill m_blocks m_price m_trade m_filled m_rest m_out) 0 0 (K54 m_thrown m_rounds m_vectors x1)) → ∀ (n : Nat) (m_thrown : Int32) (m_rounds : Int32) (m_vectors : Nat → Int32) (x1 : Int32) (x2 : Int32), mz_A g M_m_round (mz_rm 4) (fun r => (0, some (.int r.1), ex, (hT, HM r.2.1 m_n m_collateral m_many m_need m_isBlock m_hours m_side m_quantity m_limit m_sent m_sealed r.2.2.1 m_liar m_told m_passed r.2.2.2 m_meters m_cleared m_prices m_trades m_fills m_welfares m_orderEntry m_orderFill m_orders m_blockEntry m_blockFill m_blocks m_price m_trade m_filled m_rest m_out), 0, 0)) 61 [(0, .ref 54), (1, .int x1), (2, .int x2)] [] ex (hT, HM m_thrown m_n m_collateral m_many m_need m_isBlock m_hours m_side m_quantity m_limit m_sent m_sealed m_rounds m_liar m_told m_passed m_vectors m_meters m_cleared m_prices m_trades m_fills m_welfares m_orderEntry m_orderFill m_orders m_blockEntry m_blockFill m_blocks m_price m_trade m_filled m_rest m_out) 0 0 (f_m_round_L61 m_n m_many m_isBlock m_hours m_side m_quantity m_limit m_sealed m_liar m_told m_passed K54 n m_thrown m_rounds m_vectors x1 x2) := by
    intro K54 hK54
    intro n
    induction n with
    | zero => intro m_thrown m_rounds m_vectors x1 x2; exact mr_none
    | succ n ih =>
      intro m_thrown m_rounds m_vectors x1 x2
      rw [f_m_round_L61]
      refine mr_iload_n d_m_round_61 rfl rfl ?_
      refine mr_aload_n d_m_round_62 rfl rfl ?_
      refine mr_get K_m 1 d_m_round_63 lk_f_m_97 (by decide) rfl rfl ?_
      refine mr_icmp_ge (tgt := 92) d_m_round_66 (by decide) ?_ ?_
      · refine mr_iinc (v := (x1 + 1)) (lv' := [(1, .int (x1 + 1)), (0, .ref 54), (2, .int x2)]) d_m_round_92 rfl rfl (by decide) rfl ?_
        refine mr_goto (tgt := 54) d_m_round_95 (by decide) ?_
        refine mr_sub (lv' := [(0, .ref 54), (1, .int (x1 + 1))]) [1, 0] rfl ?_
        exact hK54 _ _ _ _
      · refine mr_aload_n d_m_round_69 rfl rfl ?_
        refine mr_get K_m 16 d_m_round_70 lk_f_m_52 (by decide) rfl rfl ?_
        refine mr_bipush (v := 6) d_m_round_73 mc_bipush_6 ?_
        refine mr_iload_n d_m_round_75 rfl rfl ?_
        refine mr_imul d_m_round_76 ?_
        refine mr_iload_n d_m_round_77 rfl rfl ?_
        refine mr_iadd d_m_round_78 ?_
        refine mr_aload_n d_m_round_79 rfl rfl ?_
        refine mr_iload_n d_m_round_80 rfl rfl ?_
        refine mr_iload_n d_m_round_81 rfl rfl ?_
        refine mz_go (st := [.int ((6 * x1) + x2), .ref 67]) e_m_vote (fun _ => rfl) U_m_vote (mz_vV d_m_round_82 U_m_vote rfl lk_m_m_147 I_m_vote s_m_vote np_m_vote rfl rfl) (Nat.le_of_ble_eq_true rfl) (by decide) (fun r3 => ?_)
        refine mr_eq (st' := [.int r3, .int ((6 * x1) + x2), .ref 67]) (ex' := ex) (h2 := (hT, HM m_thrown m_n m_collateral m_many m_need m_isBlock m_hours m_side m_quantity m_limit m_sent m_sealed m_rounds m_liar m_told m_passed m_vectors m_meters m_cleared m_prices m_trades m_fills m_welfares m_orderEntry m_orderFill m_orders m_blockEntry m_blockFill m_blocks m_price m_trade m_filled m_rest m_out)) (k' := 0) (n' := 0) rfl rfl rfl rfl rfl ?_
        refine mr_iast (h2 := (hT, HM m_thrown m_n m_collateral m_many m_need m_isBlock m_hours m_side m_quantity m_limit m_sent m_sealed m_rounds m_liar m_told m_passed (upd m_vectors ((6 * x1) + x2).toNatClampNeg r3) m_meters m_cleared m_prices m_trades m_fills m_welfares m_orderEntry m_orderFill m_orders m_blockEntry m_blockFill m_blocks m_price m_trade m_filled m_rest m_out)) d_m_round_85 rfl rfl (fun hc4 => ?_)
        refine mr_iinc (v := (x2 + 1)) (lv' := [(2, .int (x2 + 1)), (0, .ref 54), (1, .int x1)]) d_m_round_86 rfl rfl (by decide) rfl ?_
        refine mr_goto (tgt := 61) d_m_round_89 (by decide) ?_
        refine mr_sub (lv' := [(0, .ref 54), (1, .int x1), (2, .int (x2 + 1))]) [1, 2, 0] rfl ?_
        exact ih _ _ _ _ _
  have w_L54 : ∀ (n : Nat) (m_thrown : Int32) (m_rounds : Int32) (m_vectors : Nat → Int32) (x1 : Int32), mz_A g M_m_round (mz_rm 4) (fun r => (0, some (.int r.1), ex, (hT, HM r.2.1 m_n m_collateral m_many m_need m_isBlock m_hours m_side m_quantity m_limit m_sent m_sealed r.2.2.1 m_liar m_told m_passed r.2.2.2 m_meters m_cleared m_prices m_trades m_fills m_welfares m_orderEntry m_orderFill m_orders m_blockEntry m_blockFill m_blocks m_price m_trade m_filled m_rest m_out), 0, 0)) 54 [(0, .ref 54), (1, .int x1)] [] ex (hT, HM m_thrown m_n m_collateral m_many m_need m_isBlock m_hours m_side m_quantity m_limit m_sent m_sealed m_rounds m_liar m_told m_passed m_vectors m_meters m_cleared m_prices m_trades m_fills m_welfares m_orderEntry m_orderFill m_orders m_blockEntry m_blockFill m_blocks m_price m_trade m_filled m_rest m_out) 0 0 (f_m_round_L54 m_n m_many m_isBlock m_hours m_side m_quantity m_limit m_sealed m_liar m_told m_passed n m_thrown m_rounds m_vectors x1) := by
    intro n
    induction n with
    | zero => intro m_thrown m_rounds m_vectors x1; exact mr_none
    | succ n ih =>
      intro m_thrown m_rounds m_vectors x1
      rw [f_m_round_L54]
      refine mr_iload_n d_m_round_54 rfl rfl ?_
      refine mr_iconst (v := 4) d_m_round_55 mc_iconst_4 ?_
      refine mr_icmp_ge (tgt := 98) d_m_round_56 (by decide) ?_ ?_
      · refine mr_aload_n d_m_round_98 rfl rfl ?_
        refine mr_get K_m 12 d_m_round_99 lk_f_m_110 (by decide) rfl rfl ?_
        exact mr_iret d_m_round_102 rfl rfl
      · refine mr_iconst (v := 0) d_m_round_59 mc_iconst_0 ?_
        refine mr_istore_n (lv' := [(2, .int 0), (0, .ref 54), (1, .int x1)]) d_m_round_60 rfl (by decide) rfl ?_
        refine mr_sub (lv' := [(0, .ref 54), (1, .int x1), (2, .int 0)]) [1, 2, 0] rfl ?_
        exact w_L61 _ ih 1000 _ _ _ _ _
  have w_b25 : ∀ (m_thrown : Int32) (m_rounds : Int32) (m_vectors : Nat → Int32) (s1 : Int32), mz_A g M_m_round (mz_rm 4) (fun r => (0, some (.int r.1), ex, (hT, HM r.2.1 m_n m_collateral m_many m_need m_isBlock m_hours m_side m_quantity m_limit m_sent m_sealed r.2.2.1 m_liar m_told m_passed r.2.2.2 m_meters m_cleared m_prices m_trades m_fills m_welfares m_orderEntry m_orderFill m_orders m_blockEntry m_blockFill m_blocks m_price m_trade m_filled m_rest m_out), 0, 0)) 25 [(0, .ref 54)] [.int s1, .ref 54] ex (hT, HM m_thrown m_n m_collateral m_many m_need m_isBlock m_hours m_side m_quantity m_limit m_sent m_sealed m_rounds m_liar m_told m_passed m_vectors m_meters m_cleared m_prices m_trades m_fills m_welfares m_orderEntry m_orderFill m_orders m_blockEntry m_blockFill m_blocks m_price m_trade m_filled m_rest m_out) 0 0 (f_m_round_b25 m_n m_many m_isBlock m_hours m_side m_quantity m_limit m_sealed m_liar m_told m_passed m_thrown m_rounds m_vectors s1) := by
    intro  m_thrown m_rounds m_vectors s1
    rw [f_m_round_b25]
    refine mr_iconst (v := 0) d_m_round_25 mc_iconst_0 ?_
    refine mz_go (st := []) e_m_throwing (fun _ => rfl) U_m_throwing (mz_vV d_m_round_26 U_m_throwing rfl lk_m_m_119 I_m_throwing s_m_throwing np_m_throwing rfl rfl) (Nat.le_of_ble_eq_true rfl) (by decide) (fun r2 => ?_)
    refine mr_eq (st' := [.int r2.1]) (ex' := ex) (h2 := (hT, HM r2.2 m_n m_collateral m_many m_need m_isBlock m_hours m_side m_quantity m_limit m_sent m_sealed m_rounds m_liar m_told m_passed m_vectors m_meters m_cleared m_prices m_trades m_fills m_welfares m_orderEntry m_orderFill m_orders m_blockEntry m_blockFill m_blocks m_price m_trade m_filled m_rest m_out)) (k' := 0) (n' := 0) rfl rfl rfl rfl rfl ?_
    refine mr_if_eq (tgt := 34) d_m_round_29 (by decide) ?_ ?_
    · refine mr_aload_n d_m_round_34 rfl rfl ?_
      refine mr_dup d_m_round_35 rfl ?_
      refine mr_get K_m 12 d_m_round_36 lk_f_m_110 (by decide) rfl rfl ?_
      refine mr_iconst (v := 1) d_m_round_39 mc_iconst_1 ?_
      refine mr_iadd d_m_round_40 ?_
      refine mr_put (h2 := (hT, HM r2.2 m_n m_collateral m_many m_need m_isBlock m_hours m_side m_quantity m_limit m_sent m_sealed (m_rounds + 1) m_liar m_told m_passed m_vectors m_meters m_cleared m_prices m_trades m_fills m_welfares m_orderEntry m_orderFill m_orders m_blockEntry m_blockFill m_blocks m_price m_trade m_filled m_rest m_out)) K_m 12 d_m_round_41 lk_f_m_110 (by decide) rfl rfl rfl (Nat.le_of_ble_eq_true rfl) rfl rfl ?_
      refine mr_aload_n d_m_round_44 rfl rfl ?_
      refine mr_get K_m 12 d_m_round_45 lk_f_m_110 (by decide) rfl rfl ?_
      refine mr_iconst (v := 3) d_m_round_48 mc_iconst_3 ?_
      refine mr_icmp_ne (tgt := 98) d_m_round_49 (by decide) ?_ ?_
      · refine mr_aload_n d_m_round_98 rfl rfl ?_
        refine mr_get K_m 12 d_m_round_99 lk_f_m_110 (by decide) rfl rfl ?_
        exact mr_iret d_m_round_102 rfl rfl
      · refine mr_iconst (v := 0) d_m_round_52 mc_iconst_0 ?_
        refine mr_istore_n (lv' := [(1, .int 0), (0, .ref 54)]) d_m_round_53 rfl (by decide) rfl ?_
        refine mr_sub (lv' := [(0, .ref 54), (1, .int 0)]) [1, 0] rfl ?_
        exact w_L54 1000 _ _ _ _
    · refine mr_iconst (v := 0) d_m_round_32 mc_iconst_0 ?_
      exact mr_iret d_m_round_33 rfl rfl
  have w_b20 : ∀ (m_thrown : Int32) (m_rounds : Int32) (m_vectors : Nat → Int32), mz_A g M_m_round (mz_rm 4) (fun r => (0, some (.int r.1), ex, (hT, HM r.2.1 m_n m_collateral m_many m_need m_isBlock m_hours m_side m_quantity m_limit m_sent m_sealed r.2.2.1 m_liar m_told m_passed r.2.2.2 m_meters m_cleared m_prices m_trades m_fills m_welfares m_orderEntry m_orderFill m_orders m_blockEntry m_blockFill m_blocks m_price m_trade m_filled m_rest m_out), 0, 0)) 20 [(0, .ref 54)] [.ref 54] ex (hT, HM m_thrown m_n m_collateral m_many m_need m_isBlock m_hours m_side m_quantity m_limit m_sent m_sealed m_rounds m_liar m_told m_passed m_vectors m_meters m_cleared m_prices m_trades m_fills m_welfares m_orderEntry m_orderFill m_orders m_blockEntry m_blockFill m_blocks m_price m_trade m_filled m_rest m_out) 0 0 (f_m_round_b20 m_n m_many m_isBlock m_hours m_side m_quantity m_limit m_sealed m_liar m_told m_passed m_thrown m_rounds m_vectors) := by
    intro  m_thrown m_rounds m_vectors
    rw [f_m_round_b20]
    refine mr_iconst (v := 1) d_m_round_20 mc_iconst_1 ?_
    refine mr_goto (tgt := 25) d_m_round_21 (by decide) ?_
    exact w_b25 _ _ _ _
  refine mz_of (by decide) (Nat.le_of_ble_eq_true rfl) ?_
  rw [f_m_round]
  show mz_A g M_m_round (mz_rm 4) _ 0 [(0, .ref 54)] [] ex (hT, HM m_thrown m_n m_collateral m_many m_need m_isBlock m_hours m_side m_quantity m_limit m_sent m_sealed m_rounds m_liar m_told m_passed m_vectors m_meters m_cleared m_prices m_trades m_fills m_welfares m_orderEntry m_orderFill m_orders m_blockEntry m_blockFill m_blocks m_price m_trade m_filled m_rest m_out) 0 0 _
  refine mr_aload_n d_m_round_0 rfl rfl ?_
  refine mr_aload_n d_m_round_1 rfl rfl ?_
  refine mz_go (st := [.ref 54]) e_m_sealedOnes (fun _ => rfl) U_m_sealedOnes (mz_vV d_m_round_2 U_m_sealedOnes rfl lk_m_m_143 I_m_sealedOnes s_m_sealedOnes np_m_sealedOnes rfl rfl) (Nat.le_of_ble_eq_true rfl) (by decide) (fun r1 => ?_)
  refine mr_eq (st' := [.int r1, .ref 54]) (ex' := ex) (h2 := (hT, HM m_thrown m_n m_collateral m_many m_need m_isBlock m_hours m_side m_quantity m_limit m_sent m_sealed m_rounds m_liar m_told m_passed m_vectors m_meters m_cleared m_prices m_trades m_fills m_welfares m_orderEntry m_orderFill m_orders m_blockEntry m_blockFill m_blocks m_price m_trade m_filled m_rest m_out)) (k' := 0) (n' := 0) rfl rfl rfl rfl rfl ?_
  refine mr_aload_n d_m_round_5 rfl rfl ?_
  refine mr_get K_m 1 d_m_round_6 lk_f_m_97 (by decide) rfl rfl ?_
  refine mr_icmp_lt (tgt := 20) d_m_round_9 (by decide) ?_ ?_
  · exact w_b20 _ _ _
  · refine mr_aload_n d_m_round_12 rfl rfl ?_
    refine mr_get K_m 12 d_m_round_13 lk_f_m_110 (by decide) rfl rfl ?_
    refine mr_iconst (v := 3) d_m_round_16 mc_iconst_3 ?_
    refine mr_icmp_ne (tgt := 24) d_m_round_17 (by decide) ?_ ?_
    · refine mr_iconst (v := 0) d_m_round_24 mc_iconst_0 ?_
      exact w_b25 _ _ _ _
    · exact w_b20 _ _ _
set_option maxRecDepth 100000 in
set_option maxHeartbeats 4000000 in
theorem e_m_vector {g : mz_G} {ex : Bool} {hT : List mz_E} {m_thrown : Int32} {m_n : Int32} {m_collateral : Nat → Int32} {m_many : Nat → Int32} {m_need : Nat → Int64} {m_isBlock : Nat → Int32} {m_hours : Nat → Int32} {m_side : Nat → Int32} {m_quantity : Nat → Int32} {m_limit : Nat → Int32} {m_sent : Nat → Int32} {m_sealed : Nat → Int32} {m_rounds : Int32} {m_liar : Int32} {m_told : Nat → Int32} {m_passed : Nat → Int32} {m_vectors : Nat → Int32} {m_meters : Nat → Int32} {m_cleared : Nat → Int32} {m_prices : Nat → Int32} {m_trades : Nat → Int32} {m_fills : Nat → Int32} {m_welfares : Nat → Int64} {m_orderEntry : Nat → Int32} {m_orderFill : Nat → Int32} {m_orders : Int32} {m_blockEntry : Nat → Int32} {m_blockFill : Nat → Int32} {m_blocks : Int32} {m_price : Nat → Int32} {m_trade : Nat → Int32} {m_filled : Nat → Int32} {m_rest : Nat → Int64} {m_out : Nat → Int64} {x1 : Int32} {x2 : Int32} {x3 : Int32} {x4 : Int32} : mz_M g M_m_vector 2 [.ref 54, .int x1, .int x2, .int x3, .int x4] ex (hT, HM m_thrown m_n m_collateral m_many m_need m_isBlock m_hours m_side m_quantity m_limit m_sent m_sealed m_rounds m_liar m_told m_passed m_vectors m_meters m_cleared m_prices m_trades m_fills m_welfares m_orderEntry m_orderFill m_orders m_blockEntry m_blockFill m_blocks m_price m_trade m_filled m_rest m_out) (f_m_vector m_thrown m_n m_many m_isBlock m_hours m_side m_quantity m_limit m_rounds m_vectors x1 x2 x3 x4) (fun r => (0, some (.int r.1), ex, (hT, HM r.2 m_n m_collateral m_many m_need m_isBlock m_hours m_side m_quantity m_limit m_sent m_sealed m_rounds m_liar m_told m_passed m_vectors m_meters m_cleared m_prices m_trades m_fills m_welfares m_orderEntry m_orderFill m_orders m_blockEntry m_blockFill m_blocks m_price m_trade m_filled m_rest m_out), 0, 0)) := by
  have w_b162 : ∀ (m_thrown : Int32) (s0 : Int32) (s1 : Int32), mz_A g M_m_vector (mz_rm 2) (fun r => (0, some (.int r.1), ex, (hT, HM r.2 m_n m_collateral m_many m_need m_isBlock m_hours m_side m_quantity m_limit m_sent m_sealed m_rounds m_liar m_told m_passed m_vectors m_meters m_cleared m_prices m_trades m_fills m_welfares m_orderEntry m_orderFill m_orders m_blockEntry m_blockFill m_blocks m_price m_trade m_filled m_rest m_out), 0, 0)) 162 [] [.int s1, .int s0] ex (hT, HM m_thrown m_n m_collateral m_many m_need m_isBlock m_hours m_side m_quantity m_limit m_sent m_sealed m_rounds m_liar m_told m_passed m_vectors m_meters m_cleared m_prices m_trades m_fills m_welfares m_orderEntry m_orderFill m_orders m_blockEntry m_blockFill m_blocks m_price m_trade m_filled m_rest m_out) 0 0 (f_m_vector_b162 m_n m_many m_isBlock m_hours m_side m_quantity m_limit m_rounds m_vectors m_thrown s0 s1) := by
    intro  m_thrown s0 s1
    rw [f_m_vector_b162]
    refine mr_iadd d_m_vector_162 ?_
    refine mr_goto (tgt := 205) d_m_vector_163 (by decide) ?_
    exact mr_iret d_m_vector_205 rfl rfl
  have w_b113 : ∀ (m_thrown : Int32) (x5 : Int32) (s1 : Int32), mz_A g M_m_vector (mz_rm 2) (fun r => (0, some (.int r.1), ex, (hT, HM r.2 m_n m_collateral m_many m_need m_isBlock m_hours m_side m_quantity m_limit m_sent m_sealed m_rounds m_liar m_told m_passed m_vectors m_meters m_cleared m_prices m_trades m_fills m_welfares m_orderEntry m_orderFill m_orders m_blockEntry m_blockFill m_blocks m_price m_trade m_filled m_rest m_out), 0, 0)) 113 [(0, .ref 54), (3, .int x3), (4, .int x4), (5, .int x5)] [.int s1, .ref 54] ex (hT, HM m_thrown m_n m_collateral m_many m_need m_isBlock m_hours m_side m_quantity m_limit m_sent m_sealed m_rounds m_liar m_told m_passed m_vectors m_meters m_cleared m_prices m_trades m_fills m_welfares m_orderEntry m_orderFill m_orders m_blockEntry m_blockFill m_blocks m_price m_trade m_filled m_rest m_out) 0 0 (f_m_vector_b113 m_n m_many m_isBlock m_hours m_side m_quantity m_limit m_rounds m_vectors x3 x4 m_thrown x5 s1) := by
    intro  m_thrown x5 s1
    rw [f_m_vector_b113]
    refine mr_put (h2 := (hT, HM s1 m_n m_collateral m_many m_need m_isBlock m_hours m_side m_quantity m_limit m_sent m_sealed m_rounds m_liar m_told m_passed m_vectors m_meters m_cleared m_prices m_trades m_fills m_welfares m_orderEntry m_orderFill m_orders m_blockEntry m_blockFill m_blocks m_price m_trade m_filled m_rest m_out)) K_m 0 d_m_vector_113 lk_f_m_103 (by decide) rfl rfl rfl (Nat.le_of_ble_eq_true rfl) rfl rfl ?_
    refine mr_aload_n d_m_vector_116 rfl rfl ?_
    refine mr_get K_m 0 d_m_vector_117 lk_f_m_103 (by decide) rfl rfl ?_
    refine mr_if_le (tgt := 125) d_m_vector_120 (by decide) ?_ ?_
    · refine mr_bipush (v := 10) d_m_vector_125 mc_bipush_10 ?_
      refine mr_iload d_m_vector_127 rfl ?_
      refine mr_imul d_m_vector_129 ?_
      refine mr_iload_n d_m_vector_130 rfl rfl ?_
      refine mr_iadd d_m_vector_131 ?_
      refine mr_istore (lv' := [(6, .int ((10 * x5) + x3)), (0, .ref 54), (3, .int x3), (4, .int x4), (5, .int x5)]) d_m_vector_132 (by decide) rfl ?_
      refine mr_iload d_m_vector_134 rfl ?_
      refine mr_if_ne (tgt := 166) d_m_vector_136 (by decide) ?_ ?_
      · refine mr_iload d_m_vector_166 rfl ?_
        refine mr_iconst (v := 1) d_m_vector_168 mc_iconst_1 ?_
        refine mr_icmp_ne (tgt := 182) d_m_vector_169 (by decide) ?_ ?_
        · refine mr_iload d_m_vector_182 rfl ?_
          refine mr_iconst (v := 2) d_m_vector_184 mc_iconst_2 ?_
          refine mr_icmp_ne (tgt := 198) d_m_vector_185 (by decide) ?_ ?_
          · refine mr_aload_n d_m_vector_198 rfl rfl ?_
            refine mr_get K_m 9 d_m_vector_199 lk_f_m_33 (by decide) rfl rfl ?_
            refine mr_iload d_m_vector_202 rfl ?_
            refine mr_iald d_m_vector_204 rfl (fun hc8 => ?_)
            exact mr_iret d_m_vector_205 rfl rfl
          · refine mr_aload_n d_m_vector_188 rfl rfl ?_
            refine mr_get K_m 8 d_m_vector_189 lk_f_m_30 (by decide) rfl rfl ?_
            refine mr_iload d_m_vector_192 rfl ?_
            refine mr_iald d_m_vector_194 rfl (fun hc9 => ?_)
            refine mr_goto (tgt := 205) d_m_vector_195 (by decide) ?_
            exact mr_iret d_m_vector_205 rfl rfl
        · refine mr_aload_n d_m_vector_172 rfl rfl ?_
          refine mr_get K_m 7 d_m_vector_173 lk_f_m_27 (by decide) rfl rfl ?_
          refine mr_iload d_m_vector_176 rfl ?_
          refine mr_iald d_m_vector_178 rfl (fun hc10 => ?_)
          refine mr_goto (tgt := 205) d_m_vector_179 (by decide) ?_
          exact mr_iret d_m_vector_205 rfl rfl
      · refine mr_aload_n d_m_vector_139 rfl rfl ?_
        refine mr_get K_m 6 d_m_vector_140 lk_f_m_24 (by decide) rfl rfl ?_
        refine mr_iload d_m_vector_143 rfl ?_
        refine mr_iald d_m_vector_145 rfl (fun hc11 => ?_)
        refine mr_aload_n d_m_vector_146 rfl rfl ?_
        refine mr_get K_m 5 d_m_vector_147 lk_f_m_20 (by decide) rfl rfl ?_
        refine mr_iload d_m_vector_150 rfl ?_
        refine mr_zaldK d_m_vector_152 rfl hc11 ?_
        refine mr_if_eq (tgt := 161) d_m_vector_153 (by decide) ?_ ?_
        · refine mr_iconst (v := 0) d_m_vector_161 mc_iconst_0 ?_
          refine mr_sub (lv' := []) [] rfl ?_
          exact w_b162 _ _ _
        · refine mr_bipush (v := 100) d_m_vector_156 mc_bipush_100 ?_
          refine mr_goto (tgt := 162) d_m_vector_158 (by decide) ?_
          refine mr_sub (lv' := []) [] rfl ?_
          exact w_b162 _ _ _
    · refine mr_iconst (v := 0) d_m_vector_123 mc_iconst_0 ?_
      exact mr_iret d_m_vector_124 rfl rfl
  have w_b51 : ∀ (m_thrown : Int32) (s1 : Int32), mz_A g M_m_vector (mz_rm 2) (fun r => (0, some (.int r.1), ex, (hT, HM r.2 m_n m_collateral m_many m_need m_isBlock m_hours m_side m_quantity m_limit m_sent m_sealed m_rounds m_liar m_told m_passed m_vectors m_meters m_cleared m_prices m_trades m_fills m_welfares m_orderEntry m_orderFill m_orders m_blockEntry m_blockFill m_blocks m_price m_trade m_filled m_rest m_out), 0, 0)) 51 [(0, .ref 54), (1, .int x1), (2, .int x2), (3, .int x3), (4, .int x4)] [.int s1, .ref 54] ex (hT, HM m_thrown m_n m_collateral m_many m_need m_isBlock m_hours m_side m_quantity m_limit m_sent m_sealed m_rounds m_liar m_told m_passed m_vectors m_meters m_cleared m_prices m_trades m_fills m_welfares m_orderEntry m_orderFill m_orders m_blockEntry m_blockFill m_blocks m_price m_trade m_filled m_rest m_out) 0 0 (f_m_vector_b51 m_n m_many m_isBlock m_hours m_side m_quantity m_limit m_rounds m_vectors x1 x2 x3 x4 m_thrown s1) := by
    intro  m_thrown s1
    rw [f_m_vector_b51]
    refine mr_put (h2 := (hT, HM s1 m_n m_collateral m_many m_need m_isBlock m_hours m_side m_quantity m_limit m_sent m_sealed m_rounds m_liar m_told m_passed m_vectors m_meters m_cleared m_prices m_trades m_fills m_welfares m_orderEntry m_orderFill m_orders m_blockEntry m_blockFill m_blocks m_price m_trade m_filled m_rest m_out)) K_m 0 d_m_vector_51 lk_f_m_103 (by decide) rfl rfl rfl (Nat.le_of_ble_eq_true rfl) rfl rfl ?_
    refine mr_aload_n d_m_vector_54 rfl rfl ?_
    refine mr_get K_m 0 d_m_vector_55 lk_f_m_103 (by decide) rfl rfl ?_
    refine mr_if_le (tgt := 63) d_m_vector_58 (by decide) ?_ ?_
    · refine mr_aload_n d_m_vector_63 rfl rfl ?_
      refine mr_get K_m 16 d_m_vector_64 lk_f_m_52 (by decide) rfl rfl ?_
      refine mr_bipush (v := 6) d_m_vector_67 mc_bipush_6 ?_
      refine mr_iload_n d_m_vector_69 rfl rfl ?_
      refine mr_imul d_m_vector_70 ?_
      refine mr_iload_n d_m_vector_71 rfl rfl ?_
      refine mr_iadd d_m_vector_72 ?_
      refine mr_iald d_m_vector_73 rfl (fun hc4 => ?_)
      refine mr_istore (lv' := [(5, .int (m_vectors ((6 * x1) + x2).toNatClampNeg)), (0, .ref 54), (1, .int x1), (2, .int x2), (3, .int x3), (4, .int x4)]) d_m_vector_74 (by decide) rfl ?_
      refine mr_iload d_m_vector_76 rfl ?_
      refine mr_iconst (v := 4) d_m_vector_78 mc_iconst_4 ?_
      refine mr_icmp_ne (tgt := 89) d_m_vector_79 (by decide) ?_ ?_
      · refine mr_aload_n d_m_vector_89 rfl rfl ?_
        refine mr_iload_n d_m_vector_90 rfl rfl ?_
        refine mr_i2l d_m_vector_91 ?_
        refine mr_lconst (v := 0) d_m_vector_92 mc_lconst_0 ?_
        refine mr_aload_n d_m_vector_93 rfl rfl ?_
        refine mr_iload d_m_vector_94 rfl ?_
        refine mz_go (st := [.long 0, .long (Int32.toInt64 x3), .ref 54]) e_m_size (fun _ => rfl) U_m_size (mz_vV d_m_vector_96 U_m_size rfl lk_m_m_151 I_m_size s_m_size np_m_size rfl rfl) (Nat.le_of_ble_eq_true rfl) (by decide) (fun r5 => ?_)
        refine mr_eq (st' := [.int r5, .long 0, .long (Int32.toInt64 x3), .ref 54]) (ex' := ex) (h2 := (hT, HM s1 m_n m_collateral m_many m_need m_isBlock m_hours m_side m_quantity m_limit m_sent m_sealed m_rounds m_liar m_told m_passed m_vectors m_meters m_cleared m_prices m_trades m_fills m_welfares m_orderEntry m_orderFill m_orders m_blockEntry m_blockFill m_blocks m_price m_trade m_filled m_rest m_out)) (k' := 0) (n' := 0) rfl rfl rfl rfl rfl ?_
        refine mr_iconst (v := 1) d_m_vector_99 mc_iconst_1 ?_
        refine mr_isub d_m_vector_100 ?_
        refine mr_i2l d_m_vector_101 ?_
        refine mz_go (st := [.ref 54]) e_m_in (fun _ => rfl) U_m_in (mz_vS d_m_vector_102 U_m_in lk_m_m_106 S_m_in np_m_in) (Nat.le_of_ble_eq_true rfl) (by decide) (fun r6 => ?_)
        refine mr_eq (st' := [.int r6, .ref 54]) (ex' := ex) (h2 := (hT, HM s1 m_n m_collateral m_many m_need m_isBlock m_hours m_side m_quantity m_limit m_sent m_sealed m_rounds m_liar m_told m_passed m_vectors m_meters m_cleared m_prices m_trades m_fills m_welfares m_orderEntry m_orderFill m_orders m_blockEntry m_blockFill m_blocks m_price m_trade m_filled m_rest m_out)) (k' := 0) (n' := 0) rfl rfl rfl rfl rfl ?_
        refine mr_if_eq (tgt := 112) d_m_vector_105 (by decide) ?_ ?_
        · refine mr_iconst (v := 1) d_m_vector_112 mc_iconst_1 ?_
          refine mr_sub (lv' := [(0, .ref 54), (3, .int x3), (4, .int x4), (5, .int (m_vectors ((6 * x1) + x2).toNatClampNeg))]) [1, 4, 5, 0] rfl ?_
          exact w_b113 _ _ _
        · refine mr_iconst (v := 0) d_m_vector_108 mc_iconst_0 ?_
          refine mr_goto (tgt := 113) d_m_vector_109 (by decide) ?_
          refine mr_sub (lv' := [(0, .ref 54), (3, .int x3), (4, .int x4), (5, .int (m_vectors ((6 * x1) + x2).toNatClampNeg))]) [1, 4, 5, 0] rfl ?_
          exact w_b113 _ _ _
      · refine mr_aload_n d_m_vector_82 rfl rfl ?_
        refine mr_iload d_m_vector_83 rfl ?_
        refine mz_go (st := []) e_m_size (fun _ => rfl) U_m_size (mz_vV d_m_vector_85 U_m_size rfl lk_m_m_151 I_m_size s_m_size np_m_size rfl rfl) (Nat.le_of_ble_eq_true rfl) (by decide) (fun r7 => ?_)
        refine mr_eq (st' := [.int r7]) (ex' := ex) (h2 := (hT, HM s1 m_n m_collateral m_many m_need m_isBlock m_hours m_side m_quantity m_limit m_sent m_sealed m_rounds m_liar m_told m_passed m_vectors m_meters m_cleared m_prices m_trades m_fills m_welfares m_orderEntry m_orderFill m_orders m_blockEntry m_blockFill m_blocks m_price m_trade m_filled m_rest m_out)) (k' := 0) (n' := 0) rfl rfl rfl rfl rfl ?_
        exact mr_iret d_m_vector_88 rfl rfl
    · refine mr_iconst (v := 0) d_m_vector_61 mc_iconst_0 ?_
      exact mr_iret d_m_vector_62 rfl rfl
  have w_b46 : ∀ (m_thrown : Int32), mz_A g M_m_vector (mz_rm 2) (fun r => (0, some (.int r.1), ex, (hT, HM r.2 m_n m_collateral m_many m_need m_isBlock m_hours m_side m_quantity m_limit m_sent m_sealed m_rounds m_liar m_told m_passed m_vectors m_meters m_cleared m_prices m_trades m_fills m_welfares m_orderEntry m_orderFill m_orders m_blockEntry m_blockFill m_blocks m_price m_trade m_filled m_rest m_out), 0, 0)) 46 [(0, .ref 54), (1, .int x1), (2, .int x2), (3, .int x3), (4, .int x4)] [.ref 54] ex (hT, HM m_thrown m_n m_collateral m_many m_need m_isBlock m_hours m_side m_quantity m_limit m_sent m_sealed m_rounds m_liar m_told m_passed m_vectors m_meters m_cleared m_prices m_trades m_fills m_welfares m_orderEntry m_orderFill m_orders m_blockEntry m_blockFill m_blocks m_price m_trade m_filled m_rest m_out) 0 0 (f_m_vector_b46 m_n m_many m_isBlock m_hours m_side m_quantity m_limit m_rounds m_vectors x1 x2 x3 x4 m_thrown) := by
    intro  m_thrown
    rw [f_m_vector_b46]
    refine mr_iconst (v := 1) d_m_vector_46 mc_iconst_1 ?_
    refine mr_goto (tgt := 51) d_m_vector_47 (by decide) ?_
    exact w_b51 _ _
  refine mz_of (by decide) (Nat.le_of_ble_eq_true rfl) ?_
  rw [f_m_vector]
  show mz_A g M_m_vector (mz_rm 2) _ 0 [(0, .ref 54), (1, .int x1), (2, .int x2), (3, .int x3), (4, .int x4)] [] ex (hT, HM m_thrown m_n m_collateral m_many m_need m_isBlock m_hours m_side m_quantity m_limit m_sent m_sealed m_rounds m_liar m_told m_passed m_vectors m_meters m_cleared m_prices m_trades m_fills m_welfares m_orderEntry m_orderFill m_orders m_blockEntry m_blockFill m_blocks m_price m_trade m_filled m_rest m_out) 0 0 _
  refine mr_aload_n d_m_vector_0 rfl rfl ?_
  refine mr_aload_n d_m_vector_1 rfl rfl ?_
  refine mr_get K_m 12 d_m_vector_2 lk_f_m_110 (by decide) rfl rfl ?_
  refine mr_iconst (v := 3) d_m_vector_5 mc_iconst_3 ?_
  refine mr_icmp_ge (tgt := 13) d_m_vector_6 (by decide) ?_ ?_
  · refine mr_iload_n d_m_vector_13 rfl rfl ?_
    refine mr_i2l d_m_vector_14 ?_
    refine mr_lconst (v := 0) d_m_vector_15 mc_lconst_0 ?_
    refine mr_ldc2 (v := 3) d_m_vector_16 lk_k_m_125 ?_
    refine mz_go (st := [.ref 54]) e_m_in (fun _ => rfl) U_m_in (mz_vS d_m_vector_19 U_m_in lk_m_m_106 S_m_in np_m_in) (Nat.le_of_ble_eq_true rfl) (by decide) (fun r1 => ?_)
    refine mr_eq (st' := [.int r1, .ref 54]) (ex' := ex) (h2 := (hT, HM m_thrown m_n m_collateral m_many m_need m_isBlock m_hours m_side m_quantity m_limit m_sent m_sealed m_rounds m_liar m_told m_passed m_vectors m_meters m_cleared m_prices m_trades m_fills m_welfares m_orderEntry m_orderFill m_orders m_blockEntry m_blockFill m_blocks m_price m_trade m_filled m_rest m_out)) (k' := 0) (n' := 0) rfl rfl rfl rfl rfl ?_
    refine mr_if_eq (tgt := 46) d_m_vector_22 (by decide) ?_ ?_
    · exact w_b46 _
    · refine mr_aload_n d_m_vector_25 rfl rfl ?_
      refine mr_iload_n d_m_vector_26 rfl rfl ?_
      refine mz_go (st := [.ref 54]) e_m_isMember (fun _ => rfl) U_m_isMember (mz_vV d_m_vector_27 U_m_isMember rfl lk_m_m_113 I_m_isMember s_m_isMember np_m_isMember rfl rfl) (Nat.le_of_ble_eq_true rfl) (by decide) (fun r2 => ?_)
      refine mr_eq (st' := [.int r2, .ref 54]) (ex' := ex) (h2 := (hT, HM m_thrown m_n m_collateral m_many m_need m_isBlock m_hours m_side m_quantity m_limit m_sent m_sealed m_rounds m_liar m_told m_passed m_vectors m_meters m_cleared m_prices m_trades m_fills m_welfares m_orderEntry m_orderFill m_orders m_blockEntry m_blockFill m_blocks m_price m_trade m_filled m_rest m_out)) (k' := 0) (n' := 0) rfl rfl rfl rfl rfl ?_
      refine mr_if_eq (tgt := 46) d_m_vector_30 (by decide) ?_ ?_
      · exact w_b46 _
      · refine mr_iload d_m_vector_33 rfl ?_
        refine mr_i2l d_m_vector_35 ?_
        refine mr_lconst (v := 0) d_m_vector_36 mc_lconst_0 ?_
        refine mr_ldc2 (v := 4) d_m_vector_37 lk_k_m_170 ?_
        refine mz_go (st := [.ref 54]) e_m_in (fun _ => rfl) U_m_in (mz_vS d_m_vector_40 U_m_in lk_m_m_106 S_m_in np_m_in) (Nat.le_of_ble_eq_true rfl) (by decide) (fun r3 => ?_)
        refine mr_eq (st' := [.int r3, .ref 54]) (ex' := ex) (h2 := (hT, HM m_thrown m_n m_collateral m_many m_need m_isBlock m_hours m_side m_quantity m_limit m_sent m_sealed m_rounds m_liar m_told m_passed m_vectors m_meters m_cleared m_prices m_trades m_fills m_welfares m_orderEntry m_orderFill m_orders m_blockEntry m_blockFill m_blocks m_price m_trade m_filled m_rest m_out)) (k' := 0) (n' := 0) rfl rfl rfl rfl rfl ?_
        refine mr_if_ne (tgt := 50) d_m_vector_43 (by decide) ?_ ?_
        · refine mr_iconst (v := 0) d_m_vector_50 mc_iconst_0 ?_
          exact w_b51 _ _
        · exact w_b46 _
  · refine mr_iconst (v := 2) d_m_vector_9 mc_iconst_2 ?_
    refine mr_goto (tgt := 51) d_m_vector_10 (by decide) ?_
    exact w_b51 _ _
set_option maxRecDepth 100000 in
set_option maxHeartbeats 4000000 in
theorem e_m_gather {g : mz_G} {ex : Bool} {hT : List mz_E} {m_thrown : Int32} {m_n : Int32} {m_collateral : Nat → Int32} {m_many : Nat → Int32} {m_need : Nat → Int64} {m_isBlock : Nat → Int32} {m_hours : Nat → Int32} {m_side : Nat → Int32} {m_quantity : Nat → Int32} {m_limit : Nat → Int32} {m_sent : Nat → Int32} {m_sealed : Nat → Int32} {m_rounds : Int32} {m_liar : Int32} {m_told : Nat → Int32} {m_passed : Nat → Int32} {m_vectors : Nat → Int32} {m_meters : Nat → Int32} {m_cleared : Nat → Int32} {m_prices : Nat → Int32} {m_trades : Nat → Int32} {m_fills : Nat → Int32} {m_welfares : Nat → Int64} {m_orderEntry : Nat → Int32} {m_orderFill : Nat → Int32} {m_orders : Int32} {m_blockEntry : Nat → Int32} {m_blockFill : Nat → Int32} {m_blocks : Int32} {m_price : Nat → Int32} {m_trade : Nat → Int32} {m_filled : Nat → Int32} {m_rest : Nat → Int64} {m_out : Nat → Int64} {x1 : Int32} : mz_M g M_m_gather 1 [.ref 54, .int x1] ex (hT, HM m_thrown m_n m_collateral m_many m_need m_isBlock m_hours m_side m_quantity m_limit m_sent m_sealed m_rounds m_liar m_told m_passed m_vectors m_meters m_cleared m_prices m_trades m_fills m_welfares m_orderEntry m_orderFill m_orders m_blockEntry m_blockFill m_blocks m_price m_trade m_filled m_rest m_out) (f_m_gather m_n m_many m_isBlock m_vectors m_orderEntry m_orderFill m_orders m_blockEntry m_blockFill m_blocks x1) (fun r => (0, none, ex, (hT, HM m_thrown m_n m_collateral m_many m_need m_isBlock m_hours m_side m_quantity m_limit m_sent m_sealed m_rounds m_liar m_told m_passed m_vectors m_meters m_cleared m_prices m_trades m_fills m_welfares r.1 r.2.1 r.2.2.1 r.2.2.2.1 r.2.2.2.2.1 r.2.2.2.2.2 m_price m_trade m_filled m_rest m_out), 0, 0)) := by
  have w_L35 : ∀ (K12 : (Nat → Int32) → (Nat → Int32) → Int32 → (Nat → Int32) → (Nat → Int32) → Int32 → Int32 → Option ((Nat → Int32) × (Nat → Int32) × Int32 × (Nat → Int32) × (Nat → Int32) × Int32)), (∀ (m_orderEntry : Nat → Int32) (m_orderFill : Nat → Int32) (m_orders : Int32) (m_blockEntry : Nat → Int32) (m_blockFill : Nat → Int32) (m_blocks : Int32) (x2 : Int32), mz_A g M_m_gather (mz_rm 1) (fun r => (0, none, ex, (hT, HM m_thrown m_n m_collateral m_many m_need m_isBlock m_hours m_side m_quantity m_limit m_sent m_sealed m_rounds m_liar m_told m_passed m_vectors m_meters m_cleared m_prices m_trades m_fills m_welfares r.1 r.2.1 r.2.2.1 r.2.2.2.1 r.2.2.2.2.1 r.2.2.2.2.2 m_price m_trade m_filled m_rest m_out), 0, 0)) 12 [(0, .ref 54), (1, .int x1), (2, .int x2)] [] ex (hT, HM m_thrown m_n m_collateral m_many m_need m_isBlock m_hours m_side m_quantity m_limit m_sent m_sealed m_rounds m_liar m_told m_passed m_vectors m_meters m_cleared m_prices m_trades m_fills m_welfares m_orderEntry m_orderFill m_orders m_blockEntry m_blockFill m_blocks m_price m_trade m_filled m_rest m_out) 0 0 (K12 m_orderEntry m_orderFill m_orders m_blockEntry m_blockFill m_blocks x2)) → ∀ (n : Nat) (m_orderEntry : Nat → Int32) (m_orderFill : Nat → Int32) (m_orders : Int32) (m_blockEntry : Nat → Int32) (m_blockFill : Nat → Int32) (m_blocks : Int32) (x2 : Int32) (x3 : Int32) (x4 : Int32), mz_A g M_m_gather (mz_rm 1) (fun r => (0, none, ex, (hT, HM m_thrown m_n m_collateral m_many m_need m_isBlock m_hours m_side m_quantity m_limit m_sent m_sealed m_rounds m_liar m_told m_passed m_vectors m_meters m_cleared m_prices m_trades m_fills m_welfares r.1 r.2.1 r.2.2.1 r.2.2.2.1 r.2.2.2.2.1 r.2.2.2.2.2 m_price m_trade m_filled m_rest m_out), 0, 0)) 35 [(0, .ref 54), (1, .int x1), (2, .int x2), (3, .int x3), (4, .int x4)] [] ex (hT, HM m_thrown m_n m_collateral m_many m_need m_isBlock m_hours m_side m_quantity m_limit m_sent m_sealed m_rounds m_liar m_told m_passed m_vectors m_meters m_cleared m_prices m_trades m_fills m_welfares m_orderEntry m_orderFill m_orders m_blockEntry m_blockFill m_blocks m_price m_trade m_filled m_rest m_out) 0 0 (f_m_gather_L35 m_n m_many m_isBlock m_vectors x1 K12 n m_orderEntry m_orderFill m_orders m_blockEntry m_blockFill m_blocks x2 x3 x4) := by
    intro K12 hK12
    intro n
    induction n with
    | zero => intro m_orderEntry m_orderFill m_orders m_blockEntry m_blockFill m_blocks x2 x3 x4; exact mr_none
    | succ n ih =>
      intro m_orderEntry m_orderFill m_orders m_blockEntry m_blockFill m_blocks x2 x3 x4
      rw [f_m_gather_L35]
      refine mr_iload d_m_gather_35 rfl ?_
      refine mr_aload_n d_m_gather_37 rfl rfl ?_
      refine mr_iload_n d_m_gather_38 rfl rfl ?_
      refine mz_go (st := [.int x4]) e_m_size (fun _ => rfl) U_m_size (mz_vV d_m_gather_39 U_m_size rfl lk_m_m_151 I_m_size s_m_size np_m_size rfl rfl) (Nat.le_of_ble_eq_true rfl) (by decide) (fun r2 => ?_)
      refine mr_eq (st' := [.int r2, .int x4]) (ex' := ex) (h2 := (hT, HM m_thrown m_n m_collateral m_many m_need m_isBlock m_hours m_side m_quantity m_limit m_sent m_sealed m_rounds m_liar m_told m_passed m_vectors m_meters m_cleared m_prices m_trades m_fills m_welfares m_orderEntry m_orderFill m_orders m_blockEntry m_blockFill m_blocks m_price m_trade m_filled m_rest m_out)) (k' := 0) (n' := 0) rfl rfl rfl rfl rfl ?_
      refine mr_icmp_ge (tgt := 166) d_m_gather_42 (by decide) ?_ ?_
      · refine mr_iinc (v := (x2 + 1)) (lv' := [(2, .int (x2 + 1)), (0, .ref 54), (1, .int x1), (3, .int x3), (4, .int x4)]) d_m_gather_166 rfl rfl (by decide) rfl ?_
        refine mr_goto (tgt := 12) d_m_gather_169 (by decide) ?_
        refine mr_sub (lv' := [(0, .ref 54), (1, .int x1), (2, .int (x2 + 1))]) [1, 2, 0] rfl ?_
        exact hK12 _ _ _ _ _ _ _
      · refine mr_bipush (v := 10) d_m_gather_45 mc_bipush_10 ?_
        refine mr_iload_n d_m_gather_47 rfl rfl ?_
        refine mr_imul d_m_gather_48 ?_
        refine mr_iload d_m_gather_49 rfl ?_
        refine mr_iadd d_m_gather_51 ?_
        refine mr_istore (lv' := [(5, .int ((10 * x3) + x4)), (0, .ref 54), (1, .int x1), (2, .int x2), (3, .int x3), (4, .int x4)]) d_m_gather_52 (by decide) rfl ?_
        refine mr_aload_n d_m_gather_54 rfl rfl ?_
        refine mr_get K_m 5 d_m_gather_55 lk_f_m_20 (by decide) rfl rfl ?_
        refine mr_iload d_m_gather_58 rfl ?_
        refine mr_zald d_m_gather_60 rfl (fun hc3 => ?_)
        refine mr_if_ne (tgt := 109) d_m_gather_61 (by decide) ?_ ?_
        · refine mr_aload_n d_m_gather_109 rfl rfl ?_
          refine mr_get K_m 28 d_m_gather_110 lk_f_m_175 (by decide) rfl rfl ?_
          refine mr_bipush (v := 8) d_m_gather_113 mc_bipush_8 ?_
          refine mr_icmp_ge (tgt := 160) d_m_gather_115 (by decide) ?_ ?_
          · refine mr_iinc (v := (x4 + 1)) (lv' := [(4, .int (x4 + 1)), (5, .int ((10 * x3) + x4)), (0, .ref 54), (1, .int x1), (2, .int x2), (3, .int x3)]) d_m_gather_160 rfl rfl (by decide) rfl ?_
            refine mr_goto (tgt := 35) d_m_gather_163 (by decide) ?_
            refine mr_sub (lv' := [(0, .ref 54), (1, .int x1), (2, .int x2), (3, .int x3), (4, .int (x4 + 1))]) [2, 3, 4, 5, 0] rfl ?_
            exact ih _ _ _ _ _ _ _ _ _
          · refine mr_aload_n d_m_gather_118 rfl rfl ?_
            refine mr_get K_m 26 d_m_gather_119 lk_f_m_79 (by decide) rfl rfl ?_
            refine mr_aload_n d_m_gather_122 rfl rfl ?_
            refine mr_get K_m 28 d_m_gather_123 lk_f_m_175 (by decide) rfl rfl ?_
            refine mr_iload d_m_gather_126 rfl ?_
            refine mr_iast (h2 := (hT, HM m_thrown m_n m_collateral m_many m_need m_isBlock m_hours m_side m_quantity m_limit m_sent m_sealed m_rounds m_liar m_told m_passed m_vectors m_meters m_cleared m_prices m_trades m_fills m_welfares m_orderEntry m_orderFill m_orders (upd m_blockEntry m_blocks.toNatClampNeg ((10 * x3) + x4)) m_blockFill m_blocks m_price m_trade m_filled m_rest m_out)) d_m_gather_128 rfl rfl (fun hc4 => ?_)
            refine mr_aload_n d_m_gather_129 rfl rfl ?_
            refine mr_get K_m 27 d_m_gather_130 lk_f_m_82 (by decide) rfl rfl ?_
            refine mr_aload_n d_m_gather_133 rfl rfl ?_
            refine mr_get K_m 28 d_m_gather_134 lk_f_m_175 (by decide) rfl rfl ?_
            refine mr_bipush (v := 60) d_m_gather_137 mc_bipush_60 ?_
            refine mr_iload_n d_m_gather_139 rfl rfl ?_
            refine mr_imul d_m_gather_140 ?_
            refine mr_bipush (v := 10) d_m_gather_141 mc_bipush_10 ?_
            refine mr_iload_n d_m_gather_143 rfl rfl ?_
            refine mr_imul d_m_gather_144 ?_
            refine mr_iadd d_m_gather_145 ?_
            refine mr_iload d_m_gather_146 rfl ?_
            refine mr_iadd d_m_gather_148 ?_
            refine mr_iastK (h2 := (hT, HM m_thrown m_n m_collateral m_many m_need m_isBlock m_hours m_side m_quantity m_limit m_sent m_sealed m_rounds m_liar m_told m_passed m_vectors m_meters m_cleared m_prices m_trades m_fills m_welfares m_orderEntry m_orderFill m_orders (upd m_blockEntry m_blocks.toNatClampNeg ((10 * x3) + x4)) (upd m_blockFill m_blocks.toNatClampNeg (((60 * x1) + (10 * x2)) + x4)) m_blocks m_price m_trade m_filled m_rest m_out)) d_m_gather_149 rfl rfl hc4 ?_
            refine mr_aload_n d_m_gather_150 rfl rfl ?_
            refine mr_dup d_m_gather_151 rfl ?_
            refine mr_get K_m 28 d_m_gather_152 lk_f_m_175 (by decide) rfl rfl ?_
            refine mr_iconst (v := 1) d_m_gather_155 mc_iconst_1 ?_
            refine mr_iadd d_m_gather_156 ?_
            refine mr_put (h2 := (hT, HM m_thrown m_n m_collateral m_many m_need m_isBlock m_hours m_side m_quantity m_limit m_sent m_sealed m_rounds m_liar m_told m_passed m_vectors m_meters m_cleared m_prices m_trades m_fills m_welfares m_orderEntry m_orderFill m_orders (upd m_blockEntry m_blocks.toNatClampNeg ((10 * x3) + x4)) (upd m_blockFill m_blocks.toNatClampNeg (((60 * x1) + (10 * x2)) + x4)) (m_blocks + 1) m_price m_trade m_filled m_rest m_out)) K_m 28 d_m_gather_157 lk_f_m_175 (by decide) rfl rfl rfl (Nat.le_of_ble_eq_true rfl) rfl rfl ?_
            refine mr_iinc (v := (x4 + 1)) (lv' := [(4, .int (x4 + 1)), (5, .int ((10 * x3) + x4)), (0, .ref 54), (1, .int x1), (2, .int x2), (3, .int x3)]) d_m_gather_160 rfl rfl (by decide) rfl ?_
            refine mr_goto (tgt := 35) d_m_gather_163 (by decide) ?_
            refine mr_sub (lv' := [(0, .ref 54), (1, .int x1), (2, .int x2), (3, .int x3), (4, .int (x4 + 1))]) [2, 3, 4, 5, 0] rfl ?_
            exact ih _ _ _ _ _ _ _ _ _
        · refine mr_aload_n d_m_gather_64 rfl rfl ?_
          refine mr_get K_m 23 d_m_gather_65 lk_f_m_73 (by decide) rfl rfl ?_
          refine mr_aload_n d_m_gather_68 rfl rfl ?_
          refine mr_get K_m 25 d_m_gather_69 lk_f_m_172 (by decide) rfl rfl ?_
          refine mr_iload d_m_gather_72 rfl ?_
          refine mr_iast (h2 := (hT, HM m_thrown m_n m_collateral m_many m_need m_isBlock m_hours m_side m_quantity m_limit m_sent m_sealed m_rounds m_liar m_told m_passed m_vectors m_meters m_cleared m_prices m_trades m_fills m_welfares (upd m_orderEntry m_orders.toNatClampNeg ((10 * x3) + x4)) m_orderFill m_orders m_blockEntry m_blockFill m_blocks m_price m_trade m_filled m_rest m_out)) d_m_gather_74 rfl rfl (fun hc5 => ?_)
          refine mr_aload_n d_m_gather_75 rfl rfl ?_
          refine mr_get K_m 24 d_m_gather_76 lk_f_m_76 (by decide) rfl rfl ?_
          refine mr_aload_n d_m_gather_79 rfl rfl ?_
          refine mr_get K_m 25 d_m_gather_80 lk_f_m_172 (by decide) rfl rfl ?_
          refine mr_bipush (v := 60) d_m_gather_83 mc_bipush_60 ?_
          refine mr_iload_n d_m_gather_85 rfl rfl ?_
          refine mr_imul d_m_gather_86 ?_
          refine mr_bipush (v := 10) d_m_gather_87 mc_bipush_10 ?_
          refine mr_iload_n d_m_gather_89 rfl rfl ?_
          refine mr_imul d_m_gather_90 ?_
          refine mr_iadd d_m_gather_91 ?_
          refine mr_iload d_m_gather_92 rfl ?_
          refine mr_iadd d_m_gather_94 ?_
          refine mr_iastK (h2 := (hT, HM m_thrown m_n m_collateral m_many m_need m_isBlock m_hours m_side m_quantity m_limit m_sent m_sealed m_rounds m_liar m_told m_passed m_vectors m_meters m_cleared m_prices m_trades m_fills m_welfares (upd m_orderEntry m_orders.toNatClampNeg ((10 * x3) + x4)) (upd m_orderFill m_orders.toNatClampNeg (((60 * x1) + (10 * x2)) + x4)) m_orders m_blockEntry m_blockFill m_blocks m_price m_trade m_filled m_rest m_out)) d_m_gather_95 rfl rfl hc5 ?_
          refine mr_aload_n d_m_gather_96 rfl rfl ?_
          refine mr_dup d_m_gather_97 rfl ?_
          refine mr_get K_m 25 d_m_gather_98 lk_f_m_172 (by decide) rfl rfl ?_
          refine mr_iconst (v := 1) d_m_gather_101 mc_iconst_1 ?_
          refine mr_iadd d_m_gather_102 ?_
          refine mr_put (h2 := (hT, HM m_thrown m_n m_collateral m_many m_need m_isBlock m_hours m_side m_quantity m_limit m_sent m_sealed m_rounds m_liar m_told m_passed m_vectors m_meters m_cleared m_prices m_trades m_fills m_welfares (upd m_orderEntry m_orders.toNatClampNeg ((10 * x3) + x4)) (upd m_orderFill m_orders.toNatClampNeg (((60 * x1) + (10 * x2)) + x4)) (m_orders + 1) m_blockEntry m_blockFill m_blocks m_price m_trade m_filled m_rest m_out)) K_m 25 d_m_gather_103 lk_f_m_172 (by decide) rfl rfl rfl (Nat.le_of_ble_eq_true rfl) rfl rfl ?_
          refine mr_goto (tgt := 160) d_m_gather_106 (by decide) ?_
          refine mr_iinc (v := (x4 + 1)) (lv' := [(4, .int (x4 + 1)), (5, .int ((10 * x3) + x4)), (0, .ref 54), (1, .int x1), (2, .int x2), (3, .int x3)]) d_m_gather_160 rfl rfl (by decide) rfl ?_
          refine mr_goto (tgt := 35) d_m_gather_163 (by decide) ?_
          refine mr_sub (lv' := [(0, .ref 54), (1, .int x1), (2, .int x2), (3, .int x3), (4, .int (x4 + 1))]) [2, 3, 4, 5, 0] rfl ?_
          exact ih _ _ _ _ _ _ _ _ _
  have w_L12 : ∀ (n : Nat) (m_orderEntry : Nat → Int32) (m_orderFill : Nat → Int32) (m_orders : Int32) (m_blockEntry : Nat → Int32) (m_blockFill : Nat → Int32) (m_blocks : Int32) (x2 : Int32), mz_A g M_m_gather (mz_rm 1) (fun r => (0, none, ex, (hT, HM m_thrown m_n m_collateral m_many m_need m_isBlock m_hours m_side m_quantity m_limit m_sent m_sealed m_rounds m_liar m_told m_passed m_vectors m_meters m_cleared m_prices m_trades m_fills m_welfares r.1 r.2.1 r.2.2.1 r.2.2.2.1 r.2.2.2.2.1 r.2.2.2.2.2 m_price m_trade m_filled m_rest m_out), 0, 0)) 12 [(0, .ref 54), (1, .int x1), (2, .int x2)] [] ex (hT, HM m_thrown m_n m_collateral m_many m_need m_isBlock m_hours m_side m_quantity m_limit m_sent m_sealed m_rounds m_liar m_told m_passed m_vectors m_meters m_cleared m_prices m_trades m_fills m_welfares m_orderEntry m_orderFill m_orders m_blockEntry m_blockFill m_blocks m_price m_trade m_filled m_rest m_out) 0 0 (f_m_gather_L12 m_n m_many m_isBlock m_vectors x1 n m_orderEntry m_orderFill m_orders m_blockEntry m_blockFill m_blocks x2) := by
    intro n
    induction n with
    | zero => intro m_orderEntry m_orderFill m_orders m_blockEntry m_blockFill m_blocks x2; exact mr_none
    | succ n ih =>
      intro m_orderEntry m_orderFill m_orders m_blockEntry m_blockFill m_blocks x2
      rw [f_m_gather_L12]
      refine mr_iload_n d_m_gather_12 rfl rfl ?_
      refine mr_aload_n d_m_gather_13 rfl rfl ?_
      refine mr_get K_m 1 d_m_gather_14 lk_f_m_97 (by decide) rfl rfl ?_
      refine mr_icmp_ge (tgt := 172) d_m_gather_17 (by decide) ?_ ?_
      · exact mr_vret d_m_gather_172 rfl rfl
      · refine mr_aload_n d_m_gather_20 rfl rfl ?_
        refine mr_get K_m 16 d_m_gather_21 lk_f_m_52 (by decide) rfl rfl ?_
        refine mr_bipush (v := 6) d_m_gather_24 mc_bipush_6 ?_
        refine mr_iload_n d_m_gather_26 rfl rfl ?_
        refine mr_imul d_m_gather_27 ?_
        refine mr_iload_n d_m_gather_28 rfl rfl ?_
        refine mr_iadd d_m_gather_29 ?_
        refine mr_iald d_m_gather_30 rfl (fun hc1 => ?_)
        refine mr_istore_n (lv' := [(3, .int (m_vectors ((6 * x1) + x2).toNatClampNeg)), (0, .ref 54), (1, .int x1), (2, .int x2)]) d_m_gather_31 rfl (by decide) rfl ?_
        refine mr_iconst (v := 0) d_m_gather_32 mc_iconst_0 ?_
        refine mr_istore (lv' := [(4, .int 0), (3, .int (m_vectors ((6 * x1) + x2).toNatClampNeg)), (0, .ref 54), (1, .int x1), (2, .int x2)]) d_m_gather_33 (by decide) rfl ?_
        refine mr_sub (lv' := [(0, .ref 54), (1, .int x1), (2, .int x2), (3, .int (m_vectors ((6 * x1) + x2).toNatClampNeg)), (4, .int 0)]) [2, 3, 4, 1, 0] rfl ?_
        exact w_L35 _ ih 1000 _ _ _ _ _ _ _ _ _
  refine mz_of (by decide) (Nat.le_of_ble_eq_true rfl) ?_
  rw [f_m_gather]
  show mz_A g M_m_gather (mz_rm 1) _ 0 [(0, .ref 54), (1, .int x1)] [] ex (hT, HM m_thrown m_n m_collateral m_many m_need m_isBlock m_hours m_side m_quantity m_limit m_sent m_sealed m_rounds m_liar m_told m_passed m_vectors m_meters m_cleared m_prices m_trades m_fills m_welfares m_orderEntry m_orderFill m_orders m_blockEntry m_blockFill m_blocks m_price m_trade m_filled m_rest m_out) 0 0 _
  refine mr_aload_n d_m_gather_0 rfl rfl ?_
  refine mr_iconst (v := 0) d_m_gather_1 mc_iconst_0 ?_
  refine mr_put (h2 := (hT, HM m_thrown m_n m_collateral m_many m_need m_isBlock m_hours m_side m_quantity m_limit m_sent m_sealed m_rounds m_liar m_told m_passed m_vectors m_meters m_cleared m_prices m_trades m_fills m_welfares m_orderEntry m_orderFill 0 m_blockEntry m_blockFill m_blocks m_price m_trade m_filled m_rest m_out)) K_m 25 d_m_gather_2 lk_f_m_172 (by decide) rfl rfl rfl (Nat.le_of_ble_eq_true rfl) rfl rfl ?_
  refine mr_aload_n d_m_gather_5 rfl rfl ?_
  refine mr_iconst (v := 0) d_m_gather_6 mc_iconst_0 ?_
  refine mr_put (h2 := (hT, HM m_thrown m_n m_collateral m_many m_need m_isBlock m_hours m_side m_quantity m_limit m_sent m_sealed m_rounds m_liar m_told m_passed m_vectors m_meters m_cleared m_prices m_trades m_fills m_welfares m_orderEntry m_orderFill 0 m_blockEntry m_blockFill 0 m_price m_trade m_filled m_rest m_out)) K_m 28 d_m_gather_7 lk_f_m_175 (by decide) rfl rfl rfl (Nat.le_of_ble_eq_true rfl) rfl rfl ?_
  refine mr_iconst (v := 0) d_m_gather_10 mc_iconst_0 ?_
  refine mr_istore_n (lv' := [(2, .int 0), (0, .ref 54), (1, .int x1)]) d_m_gather_11 rfl (by decide) rfl ?_
  refine mr_sub (lv' := [(0, .ref 54), (1, .int x1), (2, .int 0)]) [1, 2, 0] rfl ?_
  exact w_L12 1000 _ _ _ _ _ _ _
set_option maxRecDepth 100000 in
set_option maxHeartbeats 4000000 in
theorem e_m_covers {g : mz_G} {ex : Bool} {h : mz_H} {x0 : Int32} {x1 : Int32} : mz_M g M_m_covers 0 [.int x0, .int x1] ex h (f_m_covers x0 x1) (fun r => (0, some (.int r), ex, h, 0, 0)) := by
  refine mz_of (by decide) (Nat.le_of_ble_eq_true rfl) ?_
  rw [f_m_covers]
  show mz_A g M_m_covers (mz_rm 0) _ 0 [(0, .int x0), (1, .int x1)] [] ex h 0 0 _
  refine mr_iload_n d_m_covers_0 rfl rfl ?_
  refine mr_iconst (v := 4) d_m_covers_1 mc_iconst_4 ?_
  refine mr_idivK d_m_covers_2 (by decide) ?_
  refine mr_iload_n d_m_covers_3 rfl rfl ?_
  refine mr_icmp_gt (tgt := 18) d_m_covers_4 (by decide) ?_ ?_
  · refine mr_iconst (v := 0) d_m_covers_18 mc_iconst_0 ?_
    exact mr_zret d_m_covers_19 rfl rfl
  · refine mr_iload_n d_m_covers_7 rfl rfl ?_
    refine mr_iload_n d_m_covers_8 rfl rfl ?_
    refine mr_iconst (v := 4) d_m_covers_9 mc_iconst_4 ?_
    refine mr_iremK d_m_covers_10 (by decide) ?_
    refine mr_icmp_gt (tgt := 18) d_m_covers_11 (by decide) ?_ ?_
    · refine mr_iconst (v := 0) d_m_covers_18 mc_iconst_0 ?_
      exact mr_zret d_m_covers_19 rfl rfl
    · refine mr_iconst (v := 1) d_m_covers_14 mc_iconst_1 ?_
      refine mr_goto (tgt := 19) d_m_covers_15 (by decide) ?_
      exact mr_zret d_m_covers_19 rfl rfl
set_option maxRecDepth 100000 in
set_option maxHeartbeats 4000000 in
theorem e_m_volume {g : mz_G} {ex : Bool} {hT : List mz_E} {m_thrown : Int32} {m_n : Int32} {m_collateral : Nat → Int32} {m_many : Nat → Int32} {m_need : Nat → Int64} {m_isBlock : Nat → Int32} {m_hours : Nat → Int32} {m_side : Nat → Int32} {m_quantity : Nat → Int32} {m_limit : Nat → Int32} {m_sent : Nat → Int32} {m_sealed : Nat → Int32} {m_rounds : Int32} {m_liar : Int32} {m_told : Nat → Int32} {m_passed : Nat → Int32} {m_vectors : Nat → Int32} {m_meters : Nat → Int32} {m_cleared : Nat → Int32} {m_prices : Nat → Int32} {m_trades : Nat → Int32} {m_fills : Nat → Int32} {m_welfares : Nat → Int64} {m_orderEntry : Nat → Int32} {m_orderFill : Nat → Int32} {m_orders : Int32} {m_blockEntry : Nat → Int32} {m_blockFill : Nat → Int32} {m_blocks : Int32} {m_price : Nat → Int32} {m_trade : Nat → Int32} {m_filled : Nat → Int32} {m_rest : Nat → Int64} {m_out : Nat → Int64} {x1 : Int32} {x2 : Int32} {x3 : Int32} {x4 : Int32} {x5 : Int32} : mz_M g M_m_volume 1 [.ref 54, .int x1, .int x2, .int x3, .int x4, .int x5] ex (hT, HM m_thrown m_n m_collateral m_many m_need m_isBlock m_hours m_side m_quantity m_limit m_sent m_sealed m_rounds m_liar m_told m_passed m_vectors m_meters m_cleared m_prices m_trades m_fills m_welfares m_orderEntry m_orderFill m_orders m_blockEntry m_blockFill m_blocks m_price m_trade m_filled m_rest m_out) (f_m_volume m_hours m_side m_quantity m_limit m_orderEntry m_orders m_blockEntry m_blocks x1 x2 x3 x4 x5) (fun r => (0, some (.int r), ex, (hT, HM m_thrown m_n m_collateral m_many m_need m_isBlock m_hours m_side m_quantity m_limit m_sent m_sealed m_rounds m_liar m_told m_passed m_vectors m_meters m_cleared m_prices m_trades m_fills m_welfares m_orderEntry m_orderFill m_orders m_blockEntry m_blockFill m_blocks m_price m_trade m_filled m_rest m_out), 0, 0)) := by
  have w_b177 : ∀ (K85 : Int32 → Int32 → Option (Int32)), (∀ (x6 : Int32) (x7 : Int32), mz_A g M_m_volume (mz_rm 1) (fun r => (0, some (.int r), ex, (hT, HM m_thrown m_n m_collateral m_many m_need m_isBlock m_hours m_side m_quantity m_limit m_sent m_sealed m_rounds m_liar m_told m_passed m_vectors m_meters m_cleared m_prices m_trades m_fills m_welfares m_orderEntry m_orderFill m_orders m_blockEntry m_blockFill m_blocks m_price m_trade m_filled m_rest m_out), 0, 0)) 85 [(0, .ref 54), (2, .int x2), (3, .int x3), (4, .int x4), (5, .int x5), (6, .int x6), (7, .int x7)] [] ex (hT, HM m_thrown m_n m_collateral m_many m_need m_isBlock m_hours m_side m_quantity m_limit m_sent m_sealed m_rounds m_liar m_told m_passed m_vectors m_meters m_cleared m_prices m_trades m_fills m_welfares m_orderEntry m_orderFill m_orders m_blockEntry m_blockFill m_blocks m_price m_trade m_filled m_rest m_out) 0 0 (K85 x6 x7)) → ∀ (x6 : Int32) (x7 : Int32) (x8 : Int32) (s0 : Int32), mz_A g M_m_volume (mz_rm 1) (fun r => (0, some (.int r), ex, (hT, HM m_thrown m_n m_collateral m_many m_need m_isBlock m_hours m_side m_quantity m_limit m_sent m_sealed m_rounds m_liar m_told m_passed m_vectors m_meters m_cleared m_prices m_trades m_fills m_welfares m_orderEntry m_orderFill m_orders m_blockEntry m_blockFill m_blocks m_price m_trade m_filled m_rest m_out), 0, 0)) 177 [(0, .ref 54), (2, .int x2), (3, .int x3), (4, .int x4), (5, .int x5), (6, .int x6), (7, .int x7), (8, .int x8)] [.int s0] ex (hT, HM m_thrown m_n m_collateral m_many m_need m_isBlock m_hours m_side m_quantity m_limit m_sent m_sealed m_rounds m_liar m_told m_passed m_vectors m_meters m_cleared m_prices m_trades m_fills m_welfares m_orderEntry m_orderFill m_orders m_blockEntry m_blockFill m_blocks m_price m_trade m_filled m_rest m_out) 0 0 (f_m_volume_b177 m_hours m_side m_quantity m_limit m_orderEntry m_orders m_blockEntry m_blocks x2 x3 x4 x5 K85 x6 x7 x8 s0) := by
    intro K85 hK85 x6 x7 x8 s0
    rw [f_m_volume_b177]
    refine mr_istore (lv' := [(9, .int s0), (0, .ref 54), (2, .int x2), (3, .int x3), (4, .int x4), (5, .int x5), (6, .int x6), (7, .int x7), (8, .int x8)]) d_m_volume_177 (by decide) rfl ?_
    refine mr_iload d_m_volume_179 rfl ?_
    refine mr_iload d_m_volume_181 rfl ?_
    refine mr_if_eq (tgt := 196) d_m_volume_183 (by decide) ?_ ?_
    · refine mr_iconst (v := 0) d_m_volume_196 mc_iconst_0 ?_
      refine mr_iadd d_m_volume_197 ?_
      refine mr_istore (lv' := [(6, .int (x6 + 0)), (9, .int s0), (0, .ref 54), (2, .int x2), (3, .int x3), (4, .int x4), (5, .int x5), (7, .int x7), (8, .int x8)]) d_m_volume_198 (by decide) rfl ?_
      refine mr_iinc (v := (x7 + 1)) (lv' := [(7, .int (x7 + 1)), (6, .int (x6 + 0)), (9, .int s0), (0, .ref 54), (2, .int x2), (3, .int x3), (4, .int x4), (5, .int x5), (8, .int x8)]) d_m_volume_200 rfl rfl (by decide) rfl ?_
      refine mr_goto (tgt := 85) d_m_volume_203 (by decide) ?_
      refine mr_sub (lv' := [(0, .ref 54), (2, .int x2), (3, .int x3), (4, .int x4), (5, .int x5), (6, .int (x6 + 0)), (7, .int (x7 + 1))]) [3, 4, 5, 6, 7, 1, 0] rfl ?_
      exact hK85 _ _
    · refine mr_aload_n d_m_volume_186 rfl rfl ?_
      refine mr_get K_m 8 d_m_volume_187 lk_f_m_30 (by decide) rfl rfl ?_
      refine mr_iload d_m_volume_190 rfl ?_
      refine mr_iald d_m_volume_192 rfl (fun hc7 => ?_)
      refine mr_goto (tgt := 197) d_m_volume_193 (by decide) ?_
      refine mr_iadd d_m_volume_197 ?_
      refine mr_istore (lv' := [(6, .int (x6 + (m_quantity x8.toNatClampNeg))), (9, .int s0), (0, .ref 54), (2, .int x2), (3, .int x3), (4, .int x4), (5, .int x5), (7, .int x7), (8, .int x8)]) d_m_volume_198 (by decide) rfl ?_
      refine mr_iinc (v := (x7 + 1)) (lv' := [(7, .int (x7 + 1)), (6, .int (x6 + (m_quantity x8.toNatClampNeg))), (9, .int s0), (0, .ref 54), (2, .int x2), (3, .int x3), (4, .int x4), (5, .int x5), (8, .int x8)]) d_m_volume_200 rfl rfl (by decide) rfl ?_
      refine mr_goto (tgt := 85) d_m_volume_203 (by decide) ?_
      refine mr_sub (lv' := [(0, .ref 54), (2, .int x2), (3, .int x3), (4, .int x4), (5, .int x5), (6, .int (x6 + (m_quantity x8.toNatClampNeg))), (7, .int (x7 + 1))]) [3, 4, 5, 6, 7, 1, 0] rfl ?_
      exact hK85 _ _
  have w_b172 : ∀ (K85 : Int32 → Int32 → Option (Int32)), (∀ (x6 : Int32) (x7 : Int32), mz_A g M_m_volume (mz_rm 1) (fun r => (0, some (.int r), ex, (hT, HM m_thrown m_n m_collateral m_many m_need m_isBlock m_hours m_side m_quantity m_limit m_sent m_sealed m_rounds m_liar m_told m_passed m_vectors m_meters m_cleared m_prices m_trades m_fills m_welfares m_orderEntry m_orderFill m_orders m_blockEntry m_blockFill m_blocks m_price m_trade m_filled m_rest m_out), 0, 0)) 85 [(0, .ref 54), (2, .int x2), (3, .int x3), (4, .int x4), (5, .int x5), (6, .int x6), (7, .int x7)] [] ex (hT, HM m_thrown m_n m_collateral m_many m_need m_isBlock m_hours m_side m_quantity m_limit m_sent m_sealed m_rounds m_liar m_told m_passed m_vectors m_meters m_cleared m_prices m_trades m_fills m_welfares m_orderEntry m_orderFill m_orders m_blockEntry m_blockFill m_blocks m_price m_trade m_filled m_rest m_out) 0 0 (K85 x6 x7)) → ∀ (x6 : Int32) (x7 : Int32) (x8 : Int32), mz_A g M_m_volume (mz_rm 1) (fun r => (0, some (.int r), ex, (hT, HM m_thrown m_n m_collateral m_many m_need m_isBlock m_hours m_side m_quantity m_limit m_sent m_sealed m_rounds m_liar m_told m_passed m_vectors m_meters m_cleared m_prices m_trades m_fills m_welfares m_orderEntry m_orderFill m_orders m_blockEntry m_blockFill m_blocks m_price m_trade m_filled m_rest m_out), 0, 0)) 172 [(0, .ref 54), (2, .int x2), (3, .int x3), (4, .int x4), (5, .int x5), (6, .int x6), (7, .int x7), (8, .int x8)] [] ex (hT, HM m_thrown m_n m_collateral m_many m_need m_isBlock m_hours m_side m_quantity m_limit m_sent m_sealed m_rounds m_liar m_told m_passed m_vectors m_meters m_cleared m_prices m_trades m_fills m_welfares m_orderEntry m_orderFill m_orders m_blockEntry m_blockFill m_blocks m_price m_trade m_filled m_rest m_out) 0 0 (f_m_volume_b172 m_hours m_side m_quantity m_limit m_orderEntry m_orders m_blockEntry m_blocks x2 x3 x4 x5 K85 x6 x7 x8) := by
    intro K85 hK85 x6 x7 x8
    rw [f_m_volume_b172]
    refine mr_iconst (v := 1) d_m_volume_172 mc_iconst_1 ?_
    refine mr_goto (tgt := 177) d_m_volume_173 (by decide) ?_
    exact w_b177 _ hK85 _ _ _ _
  have w_b176 : ∀ (K85 : Int32 → Int32 → Option (Int32)), (∀ (x6 : Int32) (x7 : Int32), mz_A g M_m_volume (mz_rm 1) (fun r => (0, some (.int r), ex, (hT, HM m_thrown m_n m_collateral m_many m_need m_isBlock m_hours m_side m_quantity m_limit m_sent m_sealed m_rounds m_liar m_told m_passed m_vectors m_meters m_cleared m_prices m_trades m_fills m_welfares m_orderEntry m_orderFill m_orders m_blockEntry m_blockFill m_blocks m_price m_trade m_filled m_rest m_out), 0, 0)) 85 [(0, .ref 54), (2, .int x2), (3, .int x3), (4, .int x4), (5, .int x5), (6, .int x6), (7, .int x7)] [] ex (hT, HM m_thrown m_n m_collateral m_many m_need m_isBlock m_hours m_side m_quantity m_limit m_sent m_sealed m_rounds m_liar m_told m_passed m_vectors m_meters m_cleared m_prices m_trades m_fills m_welfares m_orderEntry m_orderFill m_orders m_blockEntry m_blockFill m_blocks m_price m_trade m_filled m_rest m_out) 0 0 (K85 x6 x7)) → ∀ (x6 : Int32) (x7 : Int32) (x8 : Int32), mz_A g M_m_volume (mz_rm 1) (fun r => (0, some (.int r), ex, (hT, HM m_thrown m_n m_collateral m_many m_need m_isBlock m_hours m_side m_quantity m_limit m_sent m_sealed m_rounds m_liar m_told m_passed m_vectors m_meters m_cleared m_prices m_trades m_fills m_welfares m_orderEntry m_orderFill m_orders m_blockEntry m_blockFill m_blocks m_price m_trade m_filled m_rest m_out), 0, 0)) 176 [(0, .ref 54), (2, .int x2), (3, .int x3), (4, .int x4), (5, .int x5), (6, .int x6), (7, .int x7), (8, .int x8)] [] ex (hT, HM m_thrown m_n m_collateral m_many m_need m_isBlock m_hours m_side m_quantity m_limit m_sent m_sealed m_rounds m_liar m_told m_passed m_vectors m_meters m_cleared m_prices m_trades m_fills m_welfares m_orderEntry m_orderFill m_orders m_blockEntry m_blockFill m_blocks m_price m_trade m_filled m_rest m_out) 0 0 (f_m_volume_b176 m_hours m_side m_quantity m_limit m_orderEntry m_orders m_blockEntry m_blocks x2 x3 x4 x5 K85 x6 x7 x8) := by
    intro K85 hK85 x6 x7 x8
    rw [f_m_volume_b176]
    refine mr_iconst (v := 0) d_m_volume_176 mc_iconst_0 ?_
    exact w_b177 _ hK85 _ _ _ _
  have w_b156 : ∀ (K85 : Int32 → Int32 → Option (Int32)), (∀ (x6 : Int32) (x7 : Int32), mz_A g M_m_volume (mz_rm 1) (fun r => (0, some (.int r), ex, (hT, HM m_thrown m_n m_collateral m_many m_need m_isBlock m_hours m_side m_quantity m_limit m_sent m_sealed m_rounds m_liar m_told m_passed m_vectors m_meters m_cleared m_prices m_trades m_fills m_welfares m_orderEntry m_orderFill m_orders m_blockEntry m_blockFill m_blocks m_price m_trade m_filled m_rest m_out), 0, 0)) 85 [(0, .ref 54), (2, .int x2), (3, .int x3), (4, .int x4), (5, .int x5), (6, .int x6), (7, .int x7)] [] ex (hT, HM m_thrown m_n m_collateral m_many m_need m_isBlock m_hours m_side m_quantity m_limit m_sent m_sealed m_rounds m_liar m_told m_passed m_vectors m_meters m_cleared m_prices m_trades m_fills m_welfares m_orderEntry m_orderFill m_orders m_blockEntry m_blockFill m_blocks m_price m_trade m_filled m_rest m_out) 0 0 (K85 x6 x7)) → ∀ (x6 : Int32) (x7 : Int32) (x8 : Int32), mz_A g M_m_volume (mz_rm 1) (fun r => (0, some (.int r), ex, (hT, HM m_thrown m_n m_collateral m_many m_need m_isBlock m_hours m_side m_quantity m_limit m_sent m_sealed m_rounds m_liar m_told m_passed m_vectors m_meters m_cleared m_prices m_trades m_fills m_welfares m_orderEntry m_orderFill m_orders m_blockEntry m_blockFill m_blocks m_price m_trade m_filled m_rest m_out), 0, 0)) 156 [(0, .ref 54), (2, .int x2), (3, .int x3), (4, .int x4), (5, .int x5), (6, .int x6), (7, .int x7), (8, .int x8)] [] ex (hT, HM m_thrown m_n m_collateral m_many m_need m_isBlock m_hours m_side m_quantity m_limit m_sent m_sealed m_rounds m_liar m_told m_passed m_vectors m_meters m_cleared m_prices m_trades m_fills m_welfares m_orderEntry m_orderFill m_orders m_blockEntry m_blockFill m_blocks m_price m_trade m_filled m_rest m_out) 0 0 (f_m_volume_b156 m_hours m_side m_quantity m_limit m_orderEntry m_orders m_blockEntry m_blocks x2 x3 x4 x5 K85 x6 x7 x8) := by
    intro K85 hK85 x6 x7 x8
    rw [f_m_volume_b156]
    refine mr_iload d_m_volume_156 rfl ?_
    refine mr_if_eq (tgt := 176) d_m_volume_158 (by decide) ?_ ?_
    · exact w_b176 _ hK85 _ _ _
    · refine mr_aload_n d_m_volume_161 rfl rfl ?_
      refine mr_get K_m 9 d_m_volume_162 lk_f_m_33 (by decide) rfl rfl ?_
      refine mr_iload d_m_volume_165 rfl ?_
      refine mr_iald d_m_volume_167 rfl (fun hc6 => ?_)
      refine mr_iload_n d_m_volume_168 rfl rfl ?_
      refine mr_icmp_ne (tgt := 176) d_m_volume_169 (by decide) ?_ ?_
      · exact w_b176 _ hK85 _ _ _
      · exact w_b172 _ hK85 _ _ _
  have w_L85 : ∀ (n : Nat) (x6 : Int32) (x7 : Int32), mz_A g M_m_volume (mz_rm 1) (fun r => (0, some (.int r), ex, (hT, HM m_thrown m_n m_collateral m_many m_need m_isBlock m_hours m_side m_quantity m_limit m_sent m_sealed m_rounds m_liar m_told m_passed m_vectors m_meters m_cleared m_prices m_trades m_fills m_welfares m_orderEntry m_orderFill m_orders m_blockEntry m_blockFill m_blocks m_price m_trade m_filled m_rest m_out), 0, 0)) 85 [(0, .ref 54), (2, .int x2), (3, .int x3), (4, .int x4), (5, .int x5), (6, .int x6), (7, .int x7)] [] ex (hT, HM m_thrown m_n m_collateral m_many m_need m_isBlock m_hours m_side m_quantity m_limit m_sent m_sealed m_rounds m_liar m_told m_passed m_vectors m_meters m_cleared m_prices m_trades m_fills m_welfares m_orderEntry m_orderFill m_orders m_blockEntry m_blockFill m_blocks m_price m_trade m_filled m_rest m_out) 0 0 (f_m_volume_L85 m_hours m_side m_quantity m_limit m_orderEntry m_orders m_blockEntry m_blocks x2 x3 x4 x5 n x6 x7) := by
    intro n
    induction n with
    | zero => intro x6 x7; exact mr_none
    | succ n ih =>
      intro x6 x7
      rw [f_m_volume_L85]
      refine mr_iload d_m_volume_85 rfl ?_
      refine mr_aload_n d_m_volume_87 rfl rfl ?_
      refine mr_get K_m 25 d_m_volume_88 lk_f_m_172 (by decide) rfl rfl ?_
      refine mr_icmp_ge (tgt := 206) d_m_volume_91 (by decide) ?_ ?_
      · refine mr_iload d_m_volume_206 rfl ?_
        exact mr_iret d_m_volume_208 rfl rfl
      · refine mr_aload_n d_m_volume_94 rfl rfl ?_
        refine mr_get K_m 23 d_m_volume_95 lk_f_m_73 (by decide) rfl rfl ?_
        refine mr_iload d_m_volume_98 rfl ?_
        refine mr_iald d_m_volume_100 rfl (fun hc4 => ?_)
        refine mr_istore (lv' := [(8, .int (m_orderEntry x7.toNatClampNeg)), (0, .ref 54), (2, .int x2), (3, .int x3), (4, .int x4), (5, .int x5), (6, .int x6), (7, .int x7)]) d_m_volume_101 (by decide) rfl ?_
        refine mr_aload_n d_m_volume_103 rfl rfl ?_
        refine mr_get K_m 7 d_m_volume_104 lk_f_m_27 (by decide) rfl rfl ?_
        refine mr_iload d_m_volume_107 rfl ?_
        refine mr_iald d_m_volume_109 rfl (fun hc5 => ?_)
        refine mr_iload d_m_volume_110 rfl ?_
        refine mr_icmp_ne (tgt := 176) d_m_volume_112 (by decide) ?_ ?_
        · refine mr_sub (lv' := [(0, .ref 54), (2, .int x2), (3, .int x3), (4, .int x4), (5, .int x5), (6, .int x6), (7, .int x7), (8, .int (m_orderEntry x7.toNatClampNeg))]) [1, 2, 3, 4, 5, 6, 7, 0] rfl ?_
          exact w_b176 _ ih _ _ _
        · refine mr_aload_n d_m_volume_115 rfl rfl ?_
          refine mr_get K_m 6 d_m_volume_116 lk_f_m_24 (by decide) rfl rfl ?_
          refine mr_iload d_m_volume_119 rfl ?_
          refine mr_ialdK d_m_volume_121 rfl hc5 ?_
          refine mr_iload_n d_m_volume_122 rfl rfl ?_
          refine mr_icmp_ne (tgt := 176) d_m_volume_123 (by decide) ?_ ?_
          · refine mr_sub (lv' := [(0, .ref 54), (2, .int x2), (3, .int x3), (4, .int x4), (5, .int x5), (6, .int x6), (7, .int x7), (8, .int (m_orderEntry x7.toNatClampNeg))]) [1, 2, 3, 4, 5, 6, 7, 0] rfl ?_
            exact w_b176 _ ih _ _ _
          · refine mr_iload d_m_volume_126 rfl ?_
            refine mr_if_ne (tgt := 145) d_m_volume_128 (by decide) ?_ ?_
            · refine mr_aload_n d_m_volume_145 rfl rfl ?_
              refine mr_get K_m 9 d_m_volume_146 lk_f_m_33 (by decide) rfl rfl ?_
              refine mr_iload d_m_volume_149 rfl ?_
              refine mr_ialdK d_m_volume_151 rfl hc5 ?_
              refine mr_iload_n d_m_volume_152 rfl rfl ?_
              refine mr_icmp_lt (tgt := 172) d_m_volume_153 (by decide) ?_ ?_
              · refine mr_sub (lv' := [(0, .ref 54), (2, .int x2), (3, .int x3), (4, .int x4), (5, .int x5), (6, .int x6), (7, .int x7), (8, .int (m_orderEntry x7.toNatClampNeg))]) [1, 2, 3, 4, 5, 6, 7, 0] rfl ?_
                exact w_b172 _ ih _ _ _
              · refine mr_sub (lv' := [(0, .ref 54), (2, .int x2), (3, .int x3), (4, .int x4), (5, .int x5), (6, .int x6), (7, .int x7), (8, .int (m_orderEntry x7.toNatClampNeg))]) [1, 2, 3, 4, 5, 6, 7, 0] rfl ?_
                exact w_b156 _ ih _ _ _
            · refine mr_aload_n d_m_volume_131 rfl rfl ?_
              refine mr_get K_m 9 d_m_volume_132 lk_f_m_33 (by decide) rfl rfl ?_
              refine mr_iload d_m_volume_135 rfl ?_
              refine mr_ialdK d_m_volume_137 rfl hc5 ?_
              refine mr_iload_n d_m_volume_138 rfl rfl ?_
              refine mr_icmp_le (tgt := 156) d_m_volume_139 (by decide) ?_ ?_
              · refine mr_sub (lv' := [(0, .ref 54), (2, .int x2), (3, .int x3), (4, .int x4), (5, .int x5), (6, .int x6), (7, .int x7), (8, .int (m_orderEntry x7.toNatClampNeg))]) [1, 2, 3, 4, 5, 6, 7, 0] rfl ?_
                exact w_b156 _ ih _ _ _
              · refine mr_goto (tgt := 172) d_m_volume_142 (by decide) ?_
                refine mr_sub (lv' := [(0, .ref 54), (2, .int x2), (3, .int x3), (4, .int x4), (5, .int x5), (6, .int x6), (7, .int x7), (8, .int (m_orderEntry x7.toNatClampNeg))]) [1, 2, 3, 4, 5, 6, 7, 0] rfl ?_
                exact w_b172 _ ih _ _ _
  have w_L6 : ∀ (n : Nat) (x6 : Int32) (x7 : Int32), mz_A g M_m_volume (mz_rm 1) (fun r => (0, some (.int r), ex, (hT, HM m_thrown m_n m_collateral m_many m_need m_isBlock m_hours m_side m_quantity m_limit m_sent m_sealed m_rounds m_liar m_told m_passed m_vectors m_meters m_cleared m_prices m_trades m_fills m_welfares m_orderEntry m_orderFill m_orders m_blockEntry m_blockFill m_blocks m_price m_trade m_filled m_rest m_out), 0, 0)) 6 [(0, .ref 54), (1, .int x1), (2, .int x2), (3, .int x3), (4, .int x4), (5, .int x5), (6, .int x6), (7, .int x7)] [] ex (hT, HM m_thrown m_n m_collateral m_many m_need m_isBlock m_hours m_side m_quantity m_limit m_sent m_sealed m_rounds m_liar m_told m_passed m_vectors m_meters m_cleared m_prices m_trades m_fills m_welfares m_orderEntry m_orderFill m_orders m_blockEntry m_blockFill m_blocks m_price m_trade m_filled m_rest m_out) 0 0 (f_m_volume_L6 m_hours m_side m_quantity m_limit m_orderEntry m_orders m_blockEntry m_blocks x1 x2 x3 x4 x5 n x6 x7) := by
    intro n
    induction n with
    | zero => intro x6 x7; exact mr_none
    | succ n ih =>
      intro x6 x7
      rw [f_m_volume_L6]
      refine mr_iload d_m_volume_6 rfl ?_
      refine mr_aload_n d_m_volume_8 rfl rfl ?_
      refine mr_get K_m 28 d_m_volume_9 lk_f_m_175 (by decide) rfl rfl ?_
      refine mr_icmp_ge (tgt := 82) d_m_volume_12 (by decide) ?_ ?_
      · refine mr_iconst (v := 0) d_m_volume_82 mc_iconst_0 ?_
        refine mr_istore (lv' := [(7, .int 0), (0, .ref 54), (1, .int x1), (2, .int x2), (3, .int x3), (4, .int x4), (5, .int x5), (6, .int x6)]) d_m_volume_83 (by decide) rfl ?_
        refine mr_sub (lv' := [(0, .ref 54), (2, .int x2), (3, .int x3), (4, .int x4), (5, .int x5), (6, .int x6), (7, .int 0)]) [1, 3, 4, 5, 6, 7, 0] rfl ?_
        exact w_L85 1000 _ _
      · refine mr_aload_n d_m_volume_15 rfl rfl ?_
        refine mr_get K_m 26 d_m_volume_16 lk_f_m_79 (by decide) rfl rfl ?_
        refine mr_iload d_m_volume_19 rfl ?_
        refine mr_iald d_m_volume_21 rfl (fun hc1 => ?_)
        refine mr_istore (lv' := [(8, .int (m_blockEntry x7.toNatClampNeg)), (0, .ref 54), (1, .int x1), (2, .int x2), (3, .int x3), (4, .int x4), (5, .int x5), (6, .int x6), (7, .int x7)]) d_m_volume_22 (by decide) rfl ?_
        refine mr_iload d_m_volume_24 rfl ?_
        refine mr_iload_n d_m_volume_26 rfl rfl ?_
        refine mr_iload d_m_volume_27 rfl ?_
        refine mr_ishr d_m_volume_29 ?_
        refine mr_iconst (v := 1) d_m_volume_30 mc_iconst_1 ?_
        refine mr_iand d_m_volume_31 ?_
        refine mr_iconst (v := 1) d_m_volume_32 mc_iconst_1 ?_
        refine mr_icmp_ne (tgt := 72) d_m_volume_33 (by decide) ?_ ?_
        · refine mr_iconst (v := 0) d_m_volume_72 mc_iconst_0 ?_
          refine mr_iadd d_m_volume_73 ?_
          refine mr_istore (lv' := [(6, .int (x6 + 0)), (8, .int (m_blockEntry x7.toNatClampNeg)), (0, .ref 54), (1, .int x1), (2, .int x2), (3, .int x3), (4, .int x4), (5, .int x5), (7, .int x7)]) d_m_volume_74 (by decide) rfl ?_
          refine mr_iinc (v := (x7 + 1)) (lv' := [(7, .int (x7 + 1)), (6, .int (x6 + 0)), (8, .int (m_blockEntry x7.toNatClampNeg)), (0, .ref 54), (1, .int x1), (2, .int x2), (3, .int x3), (4, .int x4), (5, .int x5)]) d_m_volume_76 rfl rfl (by decide) rfl ?_
          refine mr_goto (tgt := 6) d_m_volume_79 (by decide) ?_
          refine mr_sub (lv' := [(0, .ref 54), (1, .int x1), (2, .int x2), (3, .int x3), (4, .int x4), (5, .int x5), (6, .int (x6 + 0)), (7, .int (x7 + 1))]) [3, 4, 5, 6, 7, 8, 1, 0] rfl ?_
          exact ih _ _
        · refine mr_aload_n d_m_volume_36 rfl rfl ?_
          refine mr_get K_m 7 d_m_volume_37 lk_f_m_27 (by decide) rfl rfl ?_
          refine mr_iload d_m_volume_40 rfl ?_
          refine mr_iald d_m_volume_42 rfl (fun hc2 => ?_)
          refine mr_iload d_m_volume_43 rfl ?_
          refine mr_icmp_ne (tgt := 72) d_m_volume_45 (by decide) ?_ ?_
          · refine mr_iconst (v := 0) d_m_volume_72 mc_iconst_0 ?_
            refine mr_iadd d_m_volume_73 ?_
            refine mr_istore (lv' := [(6, .int (x6 + 0)), (8, .int (m_blockEntry x7.toNatClampNeg)), (0, .ref 54), (1, .int x1), (2, .int x2), (3, .int x3), (4, .int x4), (5, .int x5), (7, .int x7)]) d_m_volume_74 (by decide) rfl ?_
            refine mr_iinc (v := (x7 + 1)) (lv' := [(7, .int (x7 + 1)), (6, .int (x6 + 0)), (8, .int (m_blockEntry x7.toNatClampNeg)), (0, .ref 54), (1, .int x1), (2, .int x2), (3, .int x3), (4, .int x4), (5, .int x5)]) d_m_volume_76 rfl rfl (by decide) rfl ?_
            refine mr_goto (tgt := 6) d_m_volume_79 (by decide) ?_
            refine mr_sub (lv' := [(0, .ref 54), (1, .int x1), (2, .int x2), (3, .int x3), (4, .int x4), (5, .int x5), (6, .int (x6 + 0)), (7, .int (x7 + 1))]) [3, 4, 5, 6, 7, 8, 1, 0] rfl ?_
            exact ih _ _
          · refine mr_aload_n d_m_volume_48 rfl rfl ?_
            refine mr_get K_m 6 d_m_volume_49 lk_f_m_24 (by decide) rfl rfl ?_
            refine mr_iload d_m_volume_52 rfl ?_
            refine mr_ialdK d_m_volume_54 rfl hc2 ?_
            refine mr_iload_n d_m_volume_55 rfl rfl ?_
            refine mz_go (st := [.int x6]) e_m_covers (fun _ => rfl) U_m_covers (mz_vS d_m_volume_56 U_m_covers lk_m_m_178 S_m_covers np_m_covers) (Nat.le_of_ble_eq_true rfl) (by decide) (fun r3 => ?_)
            refine mr_eq (st' := [.int r3, .int x6]) (ex' := ex) (h2 := (hT, HM m_thrown m_n m_collateral m_many m_need m_isBlock m_hours m_side m_quantity m_limit m_sent m_sealed m_rounds m_liar m_told m_passed m_vectors m_meters m_cleared m_prices m_trades m_fills m_welfares m_orderEntry m_orderFill m_orders m_blockEntry m_blockFill m_blocks m_price m_trade m_filled m_rest m_out)) (k' := 0) (n' := 0) rfl rfl rfl rfl rfl ?_
            refine mr_if_eq (tgt := 72) d_m_volume_59 (by decide) ?_ ?_
            · refine mr_iconst (v := 0) d_m_volume_72 mc_iconst_0 ?_
              refine mr_iadd d_m_volume_73 ?_
              refine mr_istore (lv' := [(6, .int (x6 + 0)), (8, .int (m_blockEntry x7.toNatClampNeg)), (0, .ref 54), (1, .int x1), (2, .int x2), (3, .int x3), (4, .int x4), (5, .int x5), (7, .int x7)]) d_m_volume_74 (by decide) rfl ?_
              refine mr_iinc (v := (x7 + 1)) (lv' := [(7, .int (x7 + 1)), (6, .int (x6 + 0)), (8, .int (m_blockEntry x7.toNatClampNeg)), (0, .ref 54), (1, .int x1), (2, .int x2), (3, .int x3), (4, .int x4), (5, .int x5)]) d_m_volume_76 rfl rfl (by decide) rfl ?_
              refine mr_goto (tgt := 6) d_m_volume_79 (by decide) ?_
              refine mr_sub (lv' := [(0, .ref 54), (1, .int x1), (2, .int x2), (3, .int x3), (4, .int x4), (5, .int x5), (6, .int (x6 + 0)), (7, .int (x7 + 1))]) [3, 4, 5, 6, 7, 8, 1, 0] rfl ?_
              exact ih _ _
            · refine mr_aload_n d_m_volume_62 rfl rfl ?_
              refine mr_get K_m 8 d_m_volume_63 lk_f_m_30 (by decide) rfl rfl ?_
              refine mr_iload d_m_volume_66 rfl ?_
              refine mr_ialdK d_m_volume_68 rfl hc2 ?_
              refine mr_goto (tgt := 73) d_m_volume_69 (by decide) ?_
              refine mr_iadd d_m_volume_73 ?_
              refine mr_istore (lv' := [(6, .int (x6 + (m_quantity (m_blockEntry x7.toNatClampNeg).toNatClampNeg))), (8, .int (m_blockEntry x7.toNatClampNeg)), (0, .ref 54), (1, .int x1), (2, .int x2), (3, .int x3), (4, .int x4), (5, .int x5), (7, .int x7)]) d_m_volume_74 (by decide) rfl ?_
              refine mr_iinc (v := (x7 + 1)) (lv' := [(7, .int (x7 + 1)), (6, .int (x6 + (m_quantity (m_blockEntry x7.toNatClampNeg).toNatClampNeg))), (8, .int (m_blockEntry x7.toNatClampNeg)), (0, .ref 54), (1, .int x1), (2, .int x2), (3, .int x3), (4, .int x4), (5, .int x5)]) d_m_volume_76 rfl rfl (by decide) rfl ?_
              refine mr_goto (tgt := 6) d_m_volume_79 (by decide) ?_
              refine mr_sub (lv' := [(0, .ref 54), (1, .int x1), (2, .int x2), (3, .int x3), (4, .int x4), (5, .int x5), (6, .int (x6 + (m_quantity (m_blockEntry x7.toNatClampNeg).toNatClampNeg))), (7, .int (x7 + 1))]) [3, 4, 5, 6, 7, 8, 1, 0] rfl ?_
              exact ih _ _
  refine mz_of (by decide) (Nat.le_of_ble_eq_true rfl) ?_
  rw [f_m_volume]
  show mz_A g M_m_volume (mz_rm 1) _ 0 [(0, .ref 54), (1, .int x1), (2, .int x2), (3, .int x3), (4, .int x4), (5, .int x5)] [] ex (hT, HM m_thrown m_n m_collateral m_many m_need m_isBlock m_hours m_side m_quantity m_limit m_sent m_sealed m_rounds m_liar m_told m_passed m_vectors m_meters m_cleared m_prices m_trades m_fills m_welfares m_orderEntry m_orderFill m_orders m_blockEntry m_blockFill m_blocks m_price m_trade m_filled m_rest m_out) 0 0 _
  refine mr_iconst (v := 0) d_m_volume_0 mc_iconst_0 ?_
  refine mr_istore (lv' := [(6, .int 0), (0, .ref 54), (1, .int x1), (2, .int x2), (3, .int x3), (4, .int x4), (5, .int x5)]) d_m_volume_1 (by decide) rfl ?_
  refine mr_iconst (v := 0) d_m_volume_3 mc_iconst_0 ?_
  refine mr_istore (lv' := [(7, .int 0), (6, .int 0), (0, .ref 54), (1, .int x1), (2, .int x2), (3, .int x3), (4, .int x4), (5, .int x5)]) d_m_volume_4 (by decide) rfl ?_
  refine mr_sub (lv' := [(0, .ref 54), (1, .int x1), (2, .int x2), (3, .int x3), (4, .int x4), (5, .int x5), (6, .int 0), (7, .int 0)]) [2, 3, 4, 5, 6, 7, 1, 0] rfl ?_
  exact w_L6 1000 _ _
set_option maxRecDepth 100000 in
set_option maxHeartbeats 4000000 in
theorem e_m_least {g : mz_G} {ex : Bool} {hT : List mz_E} {m_thrown : Int32} {m_n : Int32} {m_collateral : Nat → Int32} {m_many : Nat → Int32} {m_need : Nat → Int64} {m_isBlock : Nat → Int32} {m_hours : Nat → Int32} {m_side : Nat → Int32} {m_quantity : Nat → Int32} {m_limit : Nat → Int32} {m_sent : Nat → Int32} {m_sealed : Nat → Int32} {m_rounds : Int32} {m_liar : Int32} {m_told : Nat → Int32} {m_passed : Nat → Int32} {m_vectors : Nat → Int32} {m_meters : Nat → Int32} {m_cleared : Nat → Int32} {m_prices : Nat → Int32} {m_trades : Nat → Int32} {m_fills : Nat → Int32} {m_welfares : Nat → Int64} {m_orderEntry : Nat → Int32} {m_orderFill : Nat → Int32} {m_orders : Int32} {m_blockEntry : Nat → Int32} {m_blockFill : Nat → Int32} {m_blocks : Int32} {m_price : Nat → Int32} {m_trade : Nat → Int32} {m_filled : Nat → Int32} {m_rest : Nat → Int64} {m_out : Nat → Int64} {x1 : Int32} {x2 : Int32} : mz_M g M_m_least 2 [.ref 54, .int x1, .int x2] ex (hT, HM m_thrown m_n m_collateral m_many m_need m_isBlock m_hours m_side m_quantity m_limit m_sent m_sealed m_rounds m_liar m_told m_passed m_vectors m_meters m_cleared m_prices m_trades m_fills m_welfares m_orderEntry m_orderFill m_orders m_blockEntry m_blockFill m_blocks m_price m_trade m_filled m_rest m_out) (f_m_least m_hours m_side m_quantity m_limit m_orderEntry m_orders m_blockEntry m_blocks x1 x2) (fun r => (0, some (.int r), ex, (hT, HM m_thrown m_n m_collateral m_many m_need m_isBlock m_hours m_side m_quantity m_limit m_sent m_sealed m_rounds m_liar m_told m_passed m_vectors m_meters m_cleared m_prices m_trades m_fills m_welfares m_orderEntry m_orderFill m_orders m_blockEntry m_blockFill m_blocks m_price m_trade m_filled m_rest m_out), 0, 0)) := by
  have w_L8 : ∀ (n : Nat) (x3 : Int32) (x4 : Int32), mz_A g M_m_least (mz_rm 2) (fun r => (0, some (.int r), ex, (hT, HM m_thrown m_n m_collateral m_many m_need m_isBlock m_hours m_side m_quantity m_limit m_sent m_sealed m_rounds m_liar m_told m_passed m_vectors m_meters m_cleared m_prices m_trades m_fills m_welfares m_orderEntry m_orderFill m_orders m_blockEntry m_blockFill m_blocks m_price m_trade m_filled m_rest m_out), 0, 0)) 8 [(0, .ref 54), (1, .int x1), (2, .int x2), (3, .int x3), (4, .int x4)] [] ex (hT, HM m_thrown m_n m_collateral m_many m_need m_isBlock m_hours m_side m_quantity m_limit m_sent m_sealed m_rounds m_liar m_told m_passed m_vectors m_meters m_cleared m_prices m_trades m_fills m_welfares m_orderEntry m_orderFill m_orders m_blockEntry m_blockFill m_blocks m_price m_trade m_filled m_rest m_out) 0 0 (f_m_least_L8 m_hours m_side m_quantity m_limit m_orderEntry m_orders m_blockEntry m_blocks x1 x2 n x3 x4) := by
    intro n
    induction n with
    | zero => intro x3 x4; exact mr_none
    | succ n ih =>
      intro x3 x4
      rw [f_m_least_L8]
      refine mr_iload_n d_m_least_8 rfl rfl ?_
      refine mr_iload d_m_least_9 rfl ?_
      refine mr_icmp_ge (tgt := 62) d_m_least_11 (by decide) ?_ ?_
      · refine mr_iload_n d_m_least_62 rfl rfl ?_
        exact mr_iret d_m_least_63 rfl rfl
      · refine mr_iload_n d_m_least_14 rfl rfl ?_
        refine mr_iload d_m_least_15 rfl ?_
        refine mr_iload_n d_m_least_17 rfl rfl ?_
        refine mr_isub d_m_least_18 ?_
        refine mr_iconst (v := 2) d_m_least_19 mc_iconst_2 ?_
        refine mr_idivK d_m_least_20 (by decide) ?_
        refine mr_iadd d_m_least_21 ?_
        refine mr_istore (lv' := [(5, .int (x3 + ((x4 - x3) / 2))), (0, .ref 54), (1, .int x1), (2, .int x2), (3, .int x3), (4, .int x4)]) d_m_least_22 (by decide) rfl ?_
        refine mr_aload_n d_m_least_24 rfl rfl ?_
        refine mr_iload_n d_m_least_25 rfl rfl ?_
        refine mr_iload_n d_m_least_26 rfl rfl ?_
        refine mr_iload d_m_least_27 rfl ?_
        refine mr_iconst (v := 0) d_m_least_29 mc_iconst_0 ?_
        refine mr_iconst (v := 0) d_m_least_30 mc_iconst_0 ?_
        refine mz_go (st := []) e_m_volume (fun _ => rfl) U_m_volume (mz_vV d_m_least_31 U_m_volume rfl lk_m_m_182 I_m_volume s_m_volume np_m_volume rfl rfl) (Nat.le_of_ble_eq_true rfl) (by decide) (fun r1 => ?_)
        refine mr_eq (st' := [.int r1]) (ex' := ex) (h2 := (hT, HM m_thrown m_n m_collateral m_many m_need m_isBlock m_hours m_side m_quantity m_limit m_sent m_sealed m_rounds m_liar m_told m_passed m_vectors m_meters m_cleared m_prices m_trades m_fills m_welfares m_orderEntry m_orderFill m_orders m_blockEntry m_blockFill m_blocks m_price m_trade m_filled m_rest m_out)) (k' := 0) (n' := 0) rfl rfl rfl rfl rfl ?_
        refine mr_aload_n d_m_least_34 rfl rfl ?_
        refine mr_iload_n d_m_least_35 rfl rfl ?_
        refine mr_iload_n d_m_least_36 rfl rfl ?_
        refine mr_iload d_m_least_37 rfl ?_
        refine mr_iconst (v := 1) d_m_least_39 mc_iconst_1 ?_
        refine mr_iconst (v := 1) d_m_least_40 mc_iconst_1 ?_
        refine mz_go (st := [.int r1]) e_m_volume (fun _ => rfl) U_m_volume (mz_vV d_m_least_41 U_m_volume rfl lk_m_m_182 I_m_volume s_m_volume np_m_volume rfl rfl) (Nat.le_of_ble_eq_true rfl) (by decide) (fun r2 => ?_)
        refine mr_eq (st' := [.int r2, .int r1]) (ex' := ex) (h2 := (hT, HM m_thrown m_n m_collateral m_many m_need m_isBlock m_hours m_side m_quantity m_limit m_sent m_sealed m_rounds m_liar m_told m_passed m_vectors m_meters m_cleared m_prices m_trades m_fills m_welfares m_orderEntry m_orderFill m_orders m_blockEntry m_blockFill m_blocks m_price m_trade m_filled m_rest m_out)) (k' := 0) (n' := 0) rfl rfl rfl rfl rfl ?_
        refine mr_icmp_gt (tgt := 54) d_m_least_44 (by decide) ?_ ?_
        · refine mr_iload d_m_least_54 rfl ?_
          refine mr_iconst (v := 1) d_m_least_56 mc_iconst_1 ?_
          refine mr_iadd d_m_least_57 ?_
          refine mr_istore_n (lv' := [(3, .int ((x3 + ((x4 - x3) / 2)) + 1)), (5, .int (x3 + ((x4 - x3) / 2))), (0, .ref 54), (1, .int x1), (2, .int x2), (4, .int x4)]) d_m_least_58 rfl (by decide) rfl ?_
          refine mr_goto (tgt := 8) d_m_least_59 (by decide) ?_
          refine mr_sub (lv' := [(0, .ref 54), (1, .int x1), (2, .int x2), (3, .int ((x3 + ((x4 - x3) / 2)) + 1)), (4, .int x4)]) [2, 3, 4, 0, 5] rfl ?_
          exact ih _ _
        · refine mr_iload d_m_least_47 rfl ?_
          refine mr_istore (lv' := [(4, .int (x3 + ((x4 - x3) / 2))), (5, .int (x3 + ((x4 - x3) / 2))), (0, .ref 54), (1, .int x1), (2, .int x2), (3, .int x3)]) d_m_least_49 (by decide) rfl ?_
          refine mr_goto (tgt := 59) d_m_least_51 (by decide) ?_
          refine mr_goto (tgt := 8) d_m_least_59 (by decide) ?_
          refine mr_sub (lv' := [(0, .ref 54), (1, .int x1), (2, .int x2), (3, .int x3), (4, .int (x3 + ((x4 - x3) / 2)))]) [2, 3, 4, 5, 0] rfl ?_
          exact ih _ _
  refine mz_of (by decide) (Nat.le_of_ble_eq_true rfl) ?_
  rw [f_m_least]
  show mz_A g M_m_least (mz_rm 2) _ 0 [(0, .ref 54), (1, .int x1), (2, .int x2)] [] ex (hT, HM m_thrown m_n m_collateral m_many m_need m_isBlock m_hours m_side m_quantity m_limit m_sent m_sealed m_rounds m_liar m_told m_passed m_vectors m_meters m_cleared m_prices m_trades m_fills m_welfares m_orderEntry m_orderFill m_orders m_blockEntry m_blockFill m_blocks m_price m_trade m_filled m_rest m_out) 0 0 _
  refine mr_sipush (v := (-5000)) d_m_least_0 mc_sipush_m5000 ?_
  refine mr_istore_n (lv' := [(3, .int (-5000)), (0, .ref 54), (1, .int x1), (2, .int x2)]) d_m_least_3 rfl (by decide) rfl ?_
  refine mr_ldc (v := 40001) d_m_least_4 lk_k_m_181 ?_
  refine mr_istore (lv' := [(4, .int 40001), (3, .int (-5000)), (0, .ref 54), (1, .int x1), (2, .int x2)]) d_m_least_6 (by decide) rfl ?_
  refine mr_sub (lv' := [(0, .ref 54), (1, .int x1), (2, .int x2), (3, .int (-5000)), (4, .int 40001)]) [2, 3, 4, 1, 0] rfl ?_
  exact w_L8 1000 _ _
set_option maxRecDepth 100000 in
set_option maxHeartbeats 4000000 in
theorem e_m_greatest {g : mz_G} {ex : Bool} {hT : List mz_E} {m_thrown : Int32} {m_n : Int32} {m_collateral : Nat → Int32} {m_many : Nat → Int32} {m_need : Nat → Int64} {m_isBlock : Nat → Int32} {m_hours : Nat → Int32} {m_side : Nat → Int32} {m_quantity : Nat → Int32} {m_limit : Nat → Int32} {m_sent : Nat → Int32} {m_sealed : Nat → Int32} {m_rounds : Int32} {m_liar : Int32} {m_told : Nat → Int32} {m_passed : Nat → Int32} {m_vectors : Nat → Int32} {m_meters : Nat → Int32} {m_cleared : Nat → Int32} {m_prices : Nat → Int32} {m_trades : Nat → Int32} {m_fills : Nat → Int32} {m_welfares : Nat → Int64} {m_orderEntry : Nat → Int32} {m_orderFill : Nat → Int32} {m_orders : Int32} {m_blockEntry : Nat → Int32} {m_blockFill : Nat → Int32} {m_blocks : Int32} {m_price : Nat → Int32} {m_trade : Nat → Int32} {m_filled : Nat → Int32} {m_rest : Nat → Int64} {m_out : Nat → Int64} {x1 : Int32} {x2 : Int32} : mz_M g M_m_greatest 2 [.ref 54, .int x1, .int x2] ex (hT, HM m_thrown m_n m_collateral m_many m_need m_isBlock m_hours m_side m_quantity m_limit m_sent m_sealed m_rounds m_liar m_told m_passed m_vectors m_meters m_cleared m_prices m_trades m_fills m_welfares m_orderEntry m_orderFill m_orders m_blockEntry m_blockFill m_blocks m_price m_trade m_filled m_rest m_out) (f_m_greatest m_hours m_side m_quantity m_limit m_orderEntry m_orders m_blockEntry m_blocks x1 x2) (fun r => (0, some (.int r), ex, (hT, HM m_thrown m_n m_collateral m_many m_need m_isBlock m_hours m_side m_quantity m_limit m_sent m_sealed m_rounds m_liar m_told m_passed m_vectors m_meters m_cleared m_prices m_trades m_fills m_welfares m_orderEntry m_orderFill m_orders m_blockEntry m_blockFill m_blocks m_price m_trade m_filled m_rest m_out), 0, 0)) := by
  have w_L8 : ∀ (n : Nat) (x3 : Int32) (x4 : Int32), mz_A g M_m_greatest (mz_rm 2) (fun r => (0, some (.int r), ex, (hT, HM m_thrown m_n m_collateral m_many m_need m_isBlock m_hours m_side m_quantity m_limit m_sent m_sealed m_rounds m_liar m_told m_passed m_vectors m_meters m_cleared m_prices m_trades m_fills m_welfares m_orderEntry m_orderFill m_orders m_blockEntry m_blockFill m_blocks m_price m_trade m_filled m_rest m_out), 0, 0)) 8 [(0, .ref 54), (1, .int x1), (2, .int x2), (3, .int x3), (4, .int x4)] [] ex (hT, HM m_thrown m_n m_collateral m_many m_need m_isBlock m_hours m_side m_quantity m_limit m_sent m_sealed m_rounds m_liar m_told m_passed m_vectors m_meters m_cleared m_prices m_trades m_fills m_welfares m_orderEntry m_orderFill m_orders m_blockEntry m_blockFill m_blocks m_price m_trade m_filled m_rest m_out) 0 0 (f_m_greatest_L8 m_hours m_side m_quantity m_limit m_orderEntry m_orders m_blockEntry m_blocks x1 x2 n x3 x4) := by
    intro n
    induction n with
    | zero => intro x3 x4; exact mr_none
    | succ n ih =>
      intro x3 x4
      rw [f_m_greatest_L8]
      refine mr_iload_n d_m_greatest_8 rfl rfl ?_
      refine mr_iload d_m_greatest_9 rfl ?_
      refine mr_icmp_ge (tgt := 64) d_m_greatest_11 (by decide) ?_ ?_
      · refine mr_iload_n d_m_greatest_64 rfl rfl ?_
        exact mr_iret d_m_greatest_65 rfl rfl
      · refine mr_iload_n d_m_greatest_14 rfl rfl ?_
        refine mr_iload d_m_greatest_15 rfl ?_
        refine mr_iload_n d_m_greatest_17 rfl rfl ?_
        refine mr_isub d_m_greatest_18 ?_
        refine mr_iconst (v := 1) d_m_greatest_19 mc_iconst_1 ?_
        refine mr_iadd d_m_greatest_20 ?_
        refine mr_iconst (v := 2) d_m_greatest_21 mc_iconst_2 ?_
        refine mr_idivK d_m_greatest_22 (by decide) ?_
        refine mr_iadd d_m_greatest_23 ?_
        refine mr_istore (lv' := [(5, .int (x3 + (((x4 - x3) + 1) / 2))), (0, .ref 54), (1, .int x1), (2, .int x2), (3, .int x3), (4, .int x4)]) d_m_greatest_24 (by decide) rfl ?_
        refine mr_aload_n d_m_greatest_26 rfl rfl ?_
        refine mr_iload_n d_m_greatest_27 rfl rfl ?_
        refine mr_iload_n d_m_greatest_28 rfl rfl ?_
        refine mr_iload d_m_greatest_29 rfl ?_
        refine mr_iconst (v := 1) d_m_greatest_31 mc_iconst_1 ?_
        refine mr_iconst (v := 0) d_m_greatest_32 mc_iconst_0 ?_
        refine mz_go (st := []) e_m_volume (fun _ => rfl) U_m_volume (mz_vV d_m_greatest_33 U_m_volume rfl lk_m_m_182 I_m_volume s_m_volume np_m_volume rfl rfl) (Nat.le_of_ble_eq_true rfl) (by decide) (fun r1 => ?_)
        refine mr_eq (st' := [.int r1]) (ex' := ex) (h2 := (hT, HM m_thrown m_n m_collateral m_many m_need m_isBlock m_hours m_side m_quantity m_limit m_sent m_sealed m_rounds m_liar m_told m_passed m_vectors m_meters m_cleared m_prices m_trades m_fills m_welfares m_orderEntry m_orderFill m_orders m_blockEntry m_blockFill m_blocks m_price m_trade m_filled m_rest m_out)) (k' := 0) (n' := 0) rfl rfl rfl rfl rfl ?_
        refine mr_aload_n d_m_greatest_36 rfl rfl ?_
        refine mr_iload_n d_m_greatest_37 rfl rfl ?_
        refine mr_iload_n d_m_greatest_38 rfl rfl ?_
        refine mr_iload d_m_greatest_39 rfl ?_
        refine mr_iconst (v := 0) d_m_greatest_41 mc_iconst_0 ?_
        refine mr_iconst (v := 1) d_m_greatest_42 mc_iconst_1 ?_
        refine mz_go (st := [.int r1]) e_m_volume (fun _ => rfl) U_m_volume (mz_vV d_m_greatest_43 U_m_volume rfl lk_m_m_182 I_m_volume s_m_volume np_m_volume rfl rfl) (Nat.le_of_ble_eq_true rfl) (by decide) (fun r2 => ?_)
        refine mr_eq (st' := [.int r2, .int r1]) (ex' := ex) (h2 := (hT, HM m_thrown m_n m_collateral m_many m_need m_isBlock m_hours m_side m_quantity m_limit m_sent m_sealed m_rounds m_liar m_told m_passed m_vectors m_meters m_cleared m_prices m_trades m_fills m_welfares m_orderEntry m_orderFill m_orders m_blockEntry m_blockFill m_blocks m_price m_trade m_filled m_rest m_out)) (k' := 0) (n' := 0) rfl rfl rfl rfl rfl ?_
        refine mr_icmp_gt (tgt := 55) d_m_greatest_46 (by decide) ?_ ?_
        · refine mr_iload d_m_greatest_55 rfl ?_
          refine mr_iconst (v := 1) d_m_greatest_57 mc_iconst_1 ?_
          refine mr_isub d_m_greatest_58 ?_
          refine mr_istore (lv' := [(4, .int ((x3 + (((x4 - x3) + 1) / 2)) - 1)), (5, .int (x3 + (((x4 - x3) + 1) / 2))), (0, .ref 54), (1, .int x1), (2, .int x2), (3, .int x3)]) d_m_greatest_59 (by decide) rfl ?_
          refine mr_goto (tgt := 8) d_m_greatest_61 (by decide) ?_
          refine mr_sub (lv' := [(0, .ref 54), (1, .int x1), (2, .int x2), (3, .int x3), (4, .int ((x3 + (((x4 - x3) + 1) / 2)) - 1))]) [2, 3, 4, 5, 0] rfl ?_
          exact ih _ _
        · refine mr_iload d_m_greatest_49 rfl ?_
          refine mr_istore_n (lv' := [(3, .int (x3 + (((x4 - x3) + 1) / 2))), (5, .int (x3 + (((x4 - x3) + 1) / 2))), (0, .ref 54), (1, .int x1), (2, .int x2), (4, .int x4)]) d_m_greatest_51 rfl (by decide) rfl ?_
          refine mr_goto (tgt := 61) d_m_greatest_52 (by decide) ?_
          refine mr_goto (tgt := 8) d_m_greatest_61 (by decide) ?_
          refine mr_sub (lv' := [(0, .ref 54), (1, .int x1), (2, .int x2), (3, .int (x3 + (((x4 - x3) + 1) / 2))), (4, .int x4)]) [2, 3, 4, 0, 5] rfl ?_
          exact ih _ _
  refine mz_of (by decide) (Nat.le_of_ble_eq_true rfl) ?_
  rw [f_m_greatest]
  show mz_A g M_m_greatest (mz_rm 2) _ 0 [(0, .ref 54), (1, .int x1), (2, .int x2)] [] ex (hT, HM m_thrown m_n m_collateral m_many m_need m_isBlock m_hours m_side m_quantity m_limit m_sent m_sealed m_rounds m_liar m_told m_passed m_vectors m_meters m_cleared m_prices m_trades m_fills m_welfares m_orderEntry m_orderFill m_orders m_blockEntry m_blockFill m_blocks m_price m_trade m_filled m_rest m_out) 0 0 _
  refine mr_sipush (v := (-5001)) d_m_greatest_0 mc_sipush_m5001 ?_
  refine mr_istore_n (lv' := [(3, .int (-5001)), (0, .ref 54), (1, .int x1), (2, .int x2)]) d_m_greatest_3 rfl (by decide) rfl ?_
  refine mr_ldc (v := 40000) d_m_greatest_4 lk_k_m_186 ?_
  refine mr_istore (lv' := [(4, .int 40000), (3, .int (-5001)), (0, .ref 54), (1, .int x1), (2, .int x2)]) d_m_greatest_6 (by decide) rfl ?_
  refine mr_sub (lv' := [(0, .ref 54), (1, .int x1), (2, .int x2), (3, .int (-5001)), (4, .int 40000)]) [2, 3, 4, 1, 0] rfl ?_
  exact w_L8 1000 _ _
set_option maxRecDepth 100000 in
set_option maxHeartbeats 4000000 in
theorem e_m_floorHalf {g : mz_G} {ex : Bool} {h : mz_H} {x0 : Int32} : mz_M g M_m_floorHalf 0 [.int x0] ex h (f_m_floorHalf x0) (fun r => (0, some (.int r), ex, h, 0, 0)) := by
  refine mz_of (by decide) (Nat.le_of_ble_eq_true rfl) ?_
  rw [f_m_floorHalf]
  show mz_A g M_m_floorHalf (mz_rm 0) _ 0 [(0, .int x0)] [] ex h 0 0 _
  refine mr_iload_n d_m_floorHalf_0 rfl rfl ?_
  refine mr_if_lt (tgt := 10) d_m_floorHalf_1 (by decide) ?_ ?_
  · refine mr_iconst (v := 1) d_m_floorHalf_10 mc_iconst_1 ?_
    refine mr_iload_n d_m_floorHalf_11 rfl rfl ?_
    refine mr_isub d_m_floorHalf_12 ?_
    refine mr_iconst (v := 2) d_m_floorHalf_13 mc_iconst_2 ?_
    refine mr_idivK d_m_floorHalf_14 (by decide) ?_
    refine mr_ineg d_m_floorHalf_15 ?_
    exact mr_iret d_m_floorHalf_16 rfl rfl
  · refine mr_iload_n d_m_floorHalf_4 rfl rfl ?_
    refine mr_iconst (v := 2) d_m_floorHalf_5 mc_iconst_2 ?_
    refine mr_idivK d_m_floorHalf_6 (by decide) ?_
    refine mr_goto (tgt := 16) d_m_floorHalf_7 (by decide) ?_
    exact mr_iret d_m_floorHalf_16 rfl rfl
set_option maxRecDepth 100000 in
set_option maxHeartbeats 4000000 in
theorem e_m_share {g : mz_G} {ex : Bool} {hT : List mz_E} {m_thrown : Int32} {m_n : Int32} {m_collateral : Nat → Int32} {m_many : Nat → Int32} {m_need : Nat → Int64} {m_isBlock : Nat → Int32} {m_hours : Nat → Int32} {m_side : Nat → Int32} {m_quantity : Nat → Int32} {m_limit : Nat → Int32} {m_sent : Nat → Int32} {m_sealed : Nat → Int32} {m_rounds : Int32} {m_liar : Int32} {m_told : Nat → Int32} {m_passed : Nat → Int32} {m_vectors : Nat → Int32} {m_meters : Nat → Int32} {m_cleared : Nat → Int32} {m_prices : Nat → Int32} {m_trades : Nat → Int32} {m_fills : Nat → Int32} {m_welfares : Nat → Int64} {m_orderEntry : Nat → Int32} {m_orderFill : Nat → Int32} {m_orders : Int32} {m_blockEntry : Nat → Int32} {m_blockFill : Nat → Int32} {m_blocks : Int32} {m_price : Nat → Int32} {m_trade : Nat → Int32} {m_filled : Nat → Int32} {m_rest : Nat → Int64} {m_out : Nat → Int64} {x1 : Int32} {x2 : Int32} {x3 : Int32} : mz_M g M_m_share 2 [.ref 54, .int x1, .int x2, .int x3] ex (hT, HM m_thrown m_n m_collateral m_many m_need m_isBlock m_hours m_side m_quantity m_limit m_sent m_sealed m_rounds m_liar m_told m_passed m_vectors m_meters m_cleared m_prices m_trades m_fills m_welfares m_orderEntry m_orderFill m_orders m_blockEntry m_blockFill m_blocks m_price m_trade m_filled m_rest m_out) (f_m_share m_hours m_side m_quantity m_limit m_orderEntry m_orders m_blockEntry m_blocks m_price m_trade m_filled m_rest x1 x2 x3) (fun r => (0, none, ex, (hT, HM m_thrown m_n m_collateral m_many m_need m_isBlock m_hours m_side m_quantity m_limit m_sent m_sealed m_rounds m_liar m_told m_passed m_vectors m_meters m_cleared m_prices m_trades m_fills m_welfares m_orderEntry m_orderFill m_orders m_blockEntry m_blockFill m_blocks m_price m_trade r.1 r.2 m_out), 0, 0)) := by
  have w_b238 : ∀ (K59 : (Nat → Int32) → (Nat → Int64) → Int32 → Int64 → Int64 → Int64 → Int32 → Option ((Nat → Int32) × (Nat → Int64))), (∀ (m_filled : Nat → Int32) (m_rest : Nat → Int64) (x4 : Int32) (x5 : Int64) (x7 : Int64) (x9 : Int64) (x11 : Int32), mz_A g M_m_share (mz_rm 2) (fun r => (0, none, ex, (hT, HM m_thrown m_n m_collateral m_many m_need m_isBlock m_hours m_side m_quantity m_limit m_sent m_sealed m_rounds m_liar m_told m_passed m_vectors m_meters m_cleared m_prices m_trades m_fills m_welfares m_orderEntry m_orderFill m_orders m_blockEntry m_blockFill m_blocks m_price m_trade r.1 r.2 m_out), 0, 0)) 59 [(0, .ref 54), (2, .int x2), (3, .int x3), (4, .int x4), (5, .long x5), (7, .long x7), (9, .long x9), (11, .int x11)] [] ex (hT, HM m_thrown m_n m_collateral m_many m_need m_isBlock m_hours m_side m_quantity m_limit m_sent m_sealed m_rounds m_liar m_told m_passed m_vectors m_meters m_cleared m_prices m_trades m_fills m_welfares m_orderEntry m_orderFill m_orders m_blockEntry m_blockFill m_blocks m_price m_trade m_filled m_rest m_out) 0 0 (K59 m_filled m_rest x4 x5 x7 x9 x11)) → ∀ (m_filled : Nat → Int32) (m_rest : Nat → Int64) (x4 : Int32) (x5 : Int64) (x7 : Int64) (x9 : Int64) (x11 : Int32) (x13 : Int32) (s1 : Int32) (s2 : Int64), mz_A g M_m_share (mz_rm 2) (fun r => (0, none, ex, (hT, HM m_thrown m_n m_collateral m_many m_need m_isBlock m_hours m_side m_quantity m_limit m_sent m_sealed m_rounds m_liar m_told m_passed m_vectors m_meters m_cleared m_prices m_trades m_fills m_welfares m_orderEntry m_orderFill m_orders m_blockEntry m_blockFill m_blocks m_price m_trade r.1 r.2 m_out), 0, 0)) 238 [(0, .ref 54), (2, .int x2), (3, .int x3), (4, .int x4), (5, .long x5), (7, .long x7), (9, .long x9), (11, .int x11), (13, .int x13)] [.long s2, .int s1, .ref 81] ex (hT, HM m_thrown m_n m_collateral m_many m_need m_isBlock m_hours m_side m_quantity m_limit m_sent m_sealed m_rounds m_liar m_told m_passed m_vectors m_meters m_cleared m_prices m_trades m_fills m_welfares m_orderEntry m_orderFill m_orders m_blockEntry m_blockFill m_blocks m_price m_trade m_filled m_rest m_out) 0 0 (f_m_share_b238 m_hours m_side m_quantity m_limit m_orderEntry m_orders m_blockEntry m_blocks m_price m_trade x2 x3 K59 m_filled m_rest x4 x5 x7 x9 x11 x13 s1 s2) := by
    intro K59 hK59 m_filled m_rest x4 x5 x7 x9 x11 x13 s1 s2
    rw [f_m_share_b238]
    refine mr_last (h2 := (hT, HM m_thrown m_n m_collateral m_many m_need m_isBlock m_hours m_side m_quantity m_limit m_sent m_sealed m_rounds m_liar m_told m_passed m_vectors m_meters m_cleared m_prices m_trades m_fills m_welfares m_orderEntry m_orderFill m_orders m_blockEntry m_blockFill m_blocks m_price m_trade m_filled (vp_updL m_rest s1.toNatClampNeg s2) m_out)) d_m_share_238 rfl rfl (fun hc15 => ?_)
    refine mr_lload d_m_share_239 rfl ?_
    refine mr_iload d_m_share_241 rfl ?_
    refine mr_if_eq (tgt := 257) d_m_share_243 (by decide) ?_ ?_
    · refine mr_lconst (v := 0) d_m_share_257 mc_lconst_0 ?_
      refine mr_lsub d_m_share_258 ?_
      refine mr_lstore (lv' := [(5, .long (x5 - 0)), (0, .ref 54), (2, .int x2), (3, .int x3), (4, .int x4), (7, .long x7), (9, .long x9), (11, .int x11), (13, .int x13)]) d_m_share_259 (by decide) rfl ?_
      refine mr_iinc (v := (x11 + 1)) (lv' := [(11, .int (x11 + 1)), (5, .long (x5 - 0)), (0, .ref 54), (2, .int x2), (3, .int x3), (4, .int x4), (7, .long x7), (9, .long x9), (13, .int x13)]) d_m_share_261 rfl rfl (by decide) rfl ?_
      refine mr_goto (tgt := 59) d_m_share_264 (by decide) ?_
      refine mr_sub (lv' := [(0, .ref 54), (2, .int x2), (3, .int x3), (4, .int x4), (5, .long (x5 - 0)), (7, .long x7), (9, .long x9), (11, .int (x11 + 1))]) [2, 3, 4, 5, 1, 6, 7, 0] rfl ?_
      exact hK59 _ _ _ _ _ _ _
    · refine mr_aload_n d_m_share_246 rfl rfl ?_
      refine mr_get K_m 31 d_m_share_247 lk_f_m_91 (by decide) rfl rfl ?_
      refine mr_iload d_m_share_250 rfl ?_
      refine mr_iald d_m_share_252 rfl (fun hc16 => ?_)
      refine mr_i2l d_m_share_253 ?_
      refine mr_goto (tgt := 258) d_m_share_254 (by decide) ?_
      refine mr_lsub d_m_share_258 ?_
      refine mr_lstore (lv' := [(5, .long (x5 - (Int32.toInt64 (m_filled x11.toNatClampNeg)))), (0, .ref 54), (2, .int x2), (3, .int x3), (4, .int x4), (7, .long x7), (9, .long x9), (11, .int x11), (13, .int x13)]) d_m_share_259 (by decide) rfl ?_
      refine mr_iinc (v := (x11 + 1)) (lv' := [(11, .int (x11 + 1)), (5, .long (x5 - (Int32.toInt64 (m_filled x11.toNatClampNeg)))), (0, .ref 54), (2, .int x2), (3, .int x3), (4, .int x4), (7, .long x7), (9, .long x9), (13, .int x13)]) d_m_share_261 rfl rfl (by decide) rfl ?_
      refine mr_goto (tgt := 59) d_m_share_264 (by decide) ?_
      refine mr_sub (lv' := [(0, .ref 54), (2, .int x2), (3, .int x3), (4, .int x4), (5, .long (x5 - (Int32.toInt64 (m_filled x11.toNatClampNeg)))), (7, .long x7), (9, .long x9), (11, .int (x11 + 1))]) [2, 3, 4, 5, 1, 6, 7, 0] rfl ?_
      exact hK59 _ _ _ _ _ _ _
  have w_b206 : ∀ (K59 : (Nat → Int32) → (Nat → Int64) → Int32 → Int64 → Int64 → Int64 → Int32 → Option ((Nat → Int32) × (Nat → Int64))), (∀ (m_filled : Nat → Int32) (m_rest : Nat → Int64) (x4 : Int32) (x5 : Int64) (x7 : Int64) (x9 : Int64) (x11 : Int32), mz_A g M_m_share (mz_rm 2) (fun r => (0, none, ex, (hT, HM m_thrown m_n m_collateral m_many m_need m_isBlock m_hours m_side m_quantity m_limit m_sent m_sealed m_rounds m_liar m_told m_passed m_vectors m_meters m_cleared m_prices m_trades m_fills m_welfares m_orderEntry m_orderFill m_orders m_blockEntry m_blockFill m_blocks m_price m_trade r.1 r.2 m_out), 0, 0)) 59 [(0, .ref 54), (2, .int x2), (3, .int x3), (4, .int x4), (5, .long x5), (7, .long x7), (9, .long x9), (11, .int x11)] [] ex (hT, HM m_thrown m_n m_collateral m_many m_need m_isBlock m_hours m_side m_quantity m_limit m_sent m_sealed m_rounds m_liar m_told m_passed m_vectors m_meters m_cleared m_prices m_trades m_fills m_welfares m_orderEntry m_orderFill m_orders m_blockEntry m_blockFill m_blocks m_price m_trade m_filled m_rest m_out) 0 0 (K59 m_filled m_rest x4 x5 x7 x9 x11)) → ∀ (m_filled : Nat → Int32) (m_rest : Nat → Int64) (x4 : Int32) (x5 : Int64) (x7 : Int64) (x9 : Int64) (x11 : Int32) (x12 : Int32) (x13 : Int32) (s1 : Int32) (s2 : Int32), mz_A g M_m_share (mz_rm 2) (fun r => (0, none, ex, (hT, HM m_thrown m_n m_collateral m_many m_need m_isBlock m_hours m_side m_quantity m_limit m_sent m_sealed m_rounds m_liar m_told m_passed m_vectors m_meters m_cleared m_prices m_trades m_fills m_welfares m_orderEntry m_orderFill m_orders m_blockEntry m_blockFill m_blocks m_price m_trade r.1 r.2 m_out), 0, 0)) 206 [(0, .ref 54), (2, .int x2), (3, .int x3), (4, .int x4), (5, .long x5), (7, .long x7), (9, .long x9), (11, .int x11), (12, .int x12), (13, .int x13)] [.int s2, .int s1, .ref 80] ex (hT, HM m_thrown m_n m_collateral m_many m_need m_isBlock m_hours m_side m_quantity m_limit m_sent m_sealed m_rounds m_liar m_told m_passed m_vectors m_meters m_cleared m_prices m_trades m_fills m_welfares m_orderEntry m_orderFill m_orders m_blockEntry m_blockFill m_blocks m_price m_trade m_filled m_rest m_out) 0 0 (f_m_share_b206 m_hours m_side m_quantity m_limit m_orderEntry m_orders m_blockEntry m_blocks m_price m_trade x2 x3 K59 m_filled m_rest x4 x5 x7 x9 x11 x12 x13 s1 s2) := by
    intro K59 hK59 m_filled m_rest x4 x5 x7 x9 x11 x12 x13 s1 s2
    rw [f_m_share_b206]
    refine mr_iast (h2 := (hT, HM m_thrown m_n m_collateral m_many m_need m_isBlock m_hours m_side m_quantity m_limit m_sent m_sealed m_rounds m_liar m_told m_passed m_vectors m_meters m_cleared m_prices m_trades m_fills m_welfares m_orderEntry m_orderFill m_orders m_blockEntry m_blockFill m_blocks m_price m_trade (upd m_filled s1.toNatClampNeg s2) m_rest m_out)) d_m_share_206 rfl rfl (fun hc12 => ?_)
    refine mr_aload_n d_m_share_207 rfl rfl ?_
    refine mr_get K_m 32 d_m_share_208 lk_f_m_94 (by decide) rfl rfl ?_
    refine mr_iload d_m_share_211 rfl ?_
    refine mr_iload d_m_share_213 rfl ?_
    refine mr_if_eq (tgt := 235) d_m_share_215 (by decide) ?_ ?_
    · refine mr_ldc2 (v := (-1)) d_m_share_235 lk_k_m_123 ?_
      refine mr_sub (lv' := [(0, .ref 54), (2, .int x2), (3, .int x3), (4, .int x4), (5, .long x5), (7, .long x7), (9, .long x9), (11, .int x11), (13, .int x13)]) [0, 1, 2, 3, 4, 5, 6, 7, 9] rfl ?_
      exact w_b238 _ hK59 _ _ _ _ _ _ _ _ _ _
    · refine mr_aload_n d_m_share_218 rfl rfl ?_
      refine mr_get K_m 8 d_m_share_219 lk_f_m_30 (by decide) rfl rfl ?_
      refine mr_iload d_m_share_222 rfl ?_
      refine mr_iald d_m_share_224 rfl (fun hc13 => ?_)
      refine mr_i2l d_m_share_225 ?_
      refine mr_lload d_m_share_226 rfl ?_
      refine mr_lmul d_m_share_228 ?_
      refine mr_lload d_m_share_229 rfl ?_
      refine mr_lrem d_m_share_231 (fun hz14 => ?_)
      refine mr_goto (tgt := 238) d_m_share_232 (by decide) ?_
      refine mr_sub (lv' := [(0, .ref 54), (2, .int x2), (3, .int x3), (4, .int x4), (5, .long x5), (7, .long x7), (9, .long x9), (11, .int x11), (13, .int x13)]) [0, 1, 2, 3, 4, 5, 6, 7, 9] rfl ?_
      exact w_b238 _ hK59 _ _ _ _ _ _ _ _ _ _
  have w_b159 : ∀ (K59 : (Nat → Int32) → (Nat → Int64) → Int32 → Int64 → Int64 → Int64 → Int32 → Option ((Nat → Int32) × (Nat → Int64))), (∀ (m_filled : Nat → Int32) (m_rest : Nat → Int64) (x4 : Int32) (x5 : Int64) (x7 : Int64) (x9 : Int64) (x11 : Int32), mz_A g M_m_share (mz_rm 2) (fun r => (0, none, ex, (hT, HM m_thrown m_n m_collateral m_many m_need m_isBlock m_hours m_side m_quantity m_limit m_sent m_sealed m_rounds m_liar m_told m_passed m_vectors m_meters m_cleared m_prices m_trades m_fills m_welfares m_orderEntry m_orderFill m_orders m_blockEntry m_blockFill m_blocks m_price m_trade r.1 r.2 m_out), 0, 0)) 59 [(0, .ref 54), (2, .int x2), (3, .int x3), (4, .int x4), (5, .long x5), (7, .long x7), (9, .long x9), (11, .int x11)] [] ex (hT, HM m_thrown m_n m_collateral m_many m_need m_isBlock m_hours m_side m_quantity m_limit m_sent m_sealed m_rounds m_liar m_told m_passed m_vectors m_meters m_cleared m_prices m_trades m_fills m_welfares m_orderEntry m_orderFill m_orders m_blockEntry m_blockFill m_blocks m_price m_trade m_filled m_rest m_out) 0 0 (K59 m_filled m_rest x4 x5 x7 x9 x11)) → ∀ (m_filled : Nat → Int32) (m_rest : Nat → Int64) (x4 : Int32) (x5 : Int64) (x7 : Int64) (x9 : Int64) (x11 : Int32) (x12 : Int32) (x13 : Int32) (s0 : Int32), mz_A g M_m_share (mz_rm 2) (fun r => (0, none, ex, (hT, HM m_thrown m_n m_collateral m_many m_need m_isBlock m_hours m_side m_quantity m_limit m_sent m_sealed m_rounds m_liar m_told m_passed m_vectors m_meters m_cleared m_prices m_trades m_fills m_welfares m_orderEntry m_orderFill m_orders m_blockEntry m_blockFill m_blocks m_price m_trade r.1 r.2 m_out), 0, 0)) 159 [(0, .ref 54), (2, .int x2), (3, .int x3), (4, .int x4), (5, .long x5), (7, .long x7), (9, .long x9), (11, .int x11), (12, .int x12), (13, .int x13)] [.int s0] ex (hT, HM m_thrown m_n m_collateral m_many m_need m_isBlock m_hours m_side m_quantity m_limit m_sent m_sealed m_rounds m_liar m_told m_passed m_vectors m_meters m_cleared m_prices m_trades m_fills m_welfares m_orderEntry m_orderFill m_orders m_blockEntry m_blockFill m_blocks m_price m_trade m_filled m_rest m_out) 0 0 (f_m_share_b159 m_hours m_side m_quantity m_limit m_orderEntry m_orders m_blockEntry m_blocks m_price m_trade x2 x3 K59 m_filled m_rest x4 x5 x7 x9 x11 x12 x13 s0) := by
    intro K59 hK59 m_filled m_rest x4 x5 x7 x9 x11 x12 x13 s0
    rw [f_m_share_b159]
    refine mr_istore (lv' := [(14, .int s0), (0, .ref 54), (2, .int x2), (3, .int x3), (4, .int x4), (5, .long x5), (7, .long x7), (9, .long x9), (11, .int x11), (12, .int x12), (13, .int x13)]) d_m_share_159 (by decide) rfl ?_
    refine mr_aload_n d_m_share_161 rfl rfl ?_
    refine mr_get K_m 31 d_m_share_162 lk_f_m_91 (by decide) rfl rfl ?_
    refine mr_iload d_m_share_165 rfl ?_
    refine mr_iload d_m_share_167 rfl ?_
    refine mr_if_eq (tgt := 182) d_m_share_169 (by decide) ?_ ?_
    · refine mr_iload d_m_share_182 rfl ?_
      refine mr_if_eq (tgt := 205) d_m_share_184 (by decide) ?_ ?_
      · refine mr_iconst (v := 0) d_m_share_205 mc_iconst_0 ?_
        refine mr_sub (lv' := [(0, .ref 54), (2, .int x2), (3, .int x3), (4, .int x4), (5, .long x5), (7, .long x7), (9, .long x9), (11, .int x11), (12, .int x12), (13, .int x13)]) [1, 2, 3, 4, 5, 6, 7, 8, 9, 10] rfl ?_
        exact w_b206 _ hK59 _ _ _ _ _ _ _ _ _ _ _
      · refine mr_aload_n d_m_share_187 rfl rfl ?_
        refine mr_get K_m 8 d_m_share_188 lk_f_m_30 (by decide) rfl rfl ?_
        refine mr_iload d_m_share_191 rfl ?_
        refine mr_iald d_m_share_193 rfl (fun hc9 => ?_)
        refine mr_i2l d_m_share_194 ?_
        refine mr_lload d_m_share_195 rfl ?_
        refine mr_lmul d_m_share_197 ?_
        refine mr_lload d_m_share_198 rfl ?_
        refine mr_ldiv d_m_share_200 (fun hz10 => ?_)
        refine mr_l2i d_m_share_201 ?_
        refine mr_goto (tgt := 206) d_m_share_202 (by decide) ?_
        refine mr_sub (lv' := [(0, .ref 54), (2, .int x2), (3, .int x3), (4, .int x4), (5, .long x5), (7, .long x7), (9, .long x9), (11, .int x11), (12, .int x12), (13, .int x13)]) [1, 2, 3, 4, 5, 6, 7, 8, 9, 10] rfl ?_
        exact w_b206 _ hK59 _ _ _ _ _ _ _ _ _ _ _
    · refine mr_aload_n d_m_share_172 rfl rfl ?_
      refine mr_get K_m 8 d_m_share_173 lk_f_m_30 (by decide) rfl rfl ?_
      refine mr_iload d_m_share_176 rfl ?_
      refine mr_iald d_m_share_178 rfl (fun hc11 => ?_)
      refine mr_goto (tgt := 206) d_m_share_179 (by decide) ?_
      refine mr_sub (lv' := [(0, .ref 54), (2, .int x2), (3, .int x3), (4, .int x4), (5, .long x5), (7, .long x7), (9, .long x9), (11, .int x11), (12, .int x12), (13, .int x13)]) [1, 2, 3, 4, 5, 6, 7, 8, 9, 10] rfl ?_
      exact w_b206 _ hK59 _ _ _ _ _ _ _ _ _ _ _
  have w_b116 : ∀ (K59 : (Nat → Int32) → (Nat → Int64) → Int32 → Int64 → Int64 → Int64 → Int32 → Option ((Nat → Int32) × (Nat → Int64))), (∀ (m_filled : Nat → Int32) (m_rest : Nat → Int64) (x4 : Int32) (x5 : Int64) (x7 : Int64) (x9 : Int64) (x11 : Int32), mz_A g M_m_share (mz_rm 2) (fun r => (0, none, ex, (hT, HM m_thrown m_n m_collateral m_many m_need m_isBlock m_hours m_side m_quantity m_limit m_sent m_sealed m_rounds m_liar m_told m_passed m_vectors m_meters m_cleared m_prices m_trades m_fills m_welfares m_orderEntry m_orderFill m_orders m_blockEntry m_blockFill m_blocks m_price m_trade r.1 r.2 m_out), 0, 0)) 59 [(0, .ref 54), (2, .int x2), (3, .int x3), (4, .int x4), (5, .long x5), (7, .long x7), (9, .long x9), (11, .int x11)] [] ex (hT, HM m_thrown m_n m_collateral m_many m_need m_isBlock m_hours m_side m_quantity m_limit m_sent m_sealed m_rounds m_liar m_told m_passed m_vectors m_meters m_cleared m_prices m_trades m_fills m_welfares m_orderEntry m_orderFill m_orders m_blockEntry m_blockFill m_blocks m_price m_trade m_filled m_rest m_out) 0 0 (K59 m_filled m_rest x4 x5 x7 x9 x11)) → ∀ (m_filled : Nat → Int32) (m_rest : Nat → Int64) (x4 : Int32) (x5 : Int64) (x7 : Int64) (x9 : Int64) (x11 : Int32) (x12 : Int32) (s0 : Int32), mz_A g M_m_share (mz_rm 2) (fun r => (0, none, ex, (hT, HM m_thrown m_n m_collateral m_many m_need m_isBlock m_hours m_side m_quantity m_limit m_sent m_sealed m_rounds m_liar m_told m_passed m_vectors m_meters m_cleared m_prices m_trades m_fills m_welfares m_orderEntry m_orderFill m_orders m_blockEntry m_blockFill m_blocks m_price m_trade r.1 r.2 m_out), 0, 0)) 116 [(0, .ref 54), (2, .int x2), (3, .int x3), (4, .int x4), (5, .long x5), (7, .long x7), (9, .long x9), (11, .int x11), (12, .int x12)] [.int s0] ex (hT, HM m_thrown m_n m_collateral m_many m_need m_isBlock m_hours m_side m_quantity m_limit m_sent m_sealed m_rounds m_liar m_told m_passed m_vectors m_meters m_cleared m_prices m_trades m_fills m_welfares m_orderEntry m_orderFill m_orders m_blockEntry m_blockFill m_blocks m_price m_trade m_filled m_rest m_out) 0 0 (f_m_share_b116 m_hours m_side m_quantity m_limit m_orderEntry m_orders m_blockEntry m_blocks m_price m_trade x2 x3 K59 m_filled m_rest x4 x5 x7 x9 x11 x12 s0) := by
    intro K59 hK59 m_filled m_rest x4 x5 x7 x9 x11 x12 s0
    rw [f_m_share_b116]
    refine mr_istore (lv' := [(13, .int s0), (0, .ref 54), (2, .int x2), (3, .int x3), (4, .int x4), (5, .long x5), (7, .long x7), (9, .long x9), (11, .int x11), (12, .int x12)]) d_m_share_116 (by decide) rfl ?_
    refine mr_iload_n d_m_share_118 rfl rfl ?_
    refine mr_if_ne (tgt := 142) d_m_share_119 (by decide) ?_ ?_
    · refine mr_aload_n d_m_share_142 rfl rfl ?_
      refine mr_get K_m 9 d_m_share_143 lk_f_m_33 (by decide) rfl rfl ?_
      refine mr_iload d_m_share_146 rfl ?_
      refine mr_iald d_m_share_148 rfl (fun hc7 => ?_)
      refine mr_iload d_m_share_149 rfl ?_
      refine mr_icmp_ge (tgt := 158) d_m_share_151 (by decide) ?_ ?_
      · refine mr_iconst (v := 0) d_m_share_158 mc_iconst_0 ?_
        refine mr_sub (lv' := [(0, .ref 54), (2, .int x2), (3, .int x3), (4, .int x4), (5, .long x5), (7, .long x7), (9, .long x9), (11, .int x11), (12, .int x12), (13, .int s0)]) [1, 2, 3, 4, 5, 6, 7, 8, 9, 0] rfl ?_
        exact w_b159 _ hK59 _ _ _ _ _ _ _ _ _ _
      · refine mr_iconst (v := 1) d_m_share_154 mc_iconst_1 ?_
        refine mr_goto (tgt := 159) d_m_share_155 (by decide) ?_
        refine mr_sub (lv' := [(0, .ref 54), (2, .int x2), (3, .int x3), (4, .int x4), (5, .long x5), (7, .long x7), (9, .long x9), (11, .int x11), (12, .int x12), (13, .int s0)]) [1, 2, 3, 4, 5, 6, 7, 8, 9, 0] rfl ?_
        exact w_b159 _ hK59 _ _ _ _ _ _ _ _ _ _
    · refine mr_aload_n d_m_share_122 rfl rfl ?_
      refine mr_get K_m 9 d_m_share_123 lk_f_m_33 (by decide) rfl rfl ?_
      refine mr_iload d_m_share_126 rfl ?_
      refine mr_iald d_m_share_128 rfl (fun hc8 => ?_)
      refine mr_iload d_m_share_129 rfl ?_
      refine mr_icmp_le (tgt := 138) d_m_share_131 (by decide) ?_ ?_
      · refine mr_iconst (v := 0) d_m_share_138 mc_iconst_0 ?_
        refine mr_goto (tgt := 159) d_m_share_139 (by decide) ?_
        refine mr_sub (lv' := [(0, .ref 54), (2, .int x2), (3, .int x3), (4, .int x4), (5, .long x5), (7, .long x7), (9, .long x9), (11, .int x11), (12, .int x12), (13, .int s0)]) [1, 2, 3, 4, 5, 6, 7, 8, 9, 0] rfl ?_
        exact w_b159 _ hK59 _ _ _ _ _ _ _ _ _ _
      · refine mr_iconst (v := 1) d_m_share_134 mc_iconst_1 ?_
        refine mr_goto (tgt := 159) d_m_share_135 (by decide) ?_
        refine mr_sub (lv' := [(0, .ref 54), (2, .int x2), (3, .int x3), (4, .int x4), (5, .long x5), (7, .long x7), (9, .long x9), (11, .int x11), (12, .int x12), (13, .int s0)]) [1, 2, 3, 4, 5, 6, 7, 8, 9, 0] rfl ?_
        exact w_b159 _ hK59 _ _ _ _ _ _ _ _ _ _
  have w_b360 : ∀ (K267 : (Nat → Int32) → (Nat → Int64) → Int64 → Option ((Nat → Int32) × (Nat → Int64))), (∀ (m_filled : Nat → Int32) (m_rest : Nat → Int64) (x5 : Int64), mz_A g M_m_share (mz_rm 2) (fun r => (0, none, ex, (hT, HM m_thrown m_n m_collateral m_many m_need m_isBlock m_hours m_side m_quantity m_limit m_sent m_sealed m_rounds m_liar m_told m_passed m_vectors m_meters m_cleared m_prices m_trades m_fills m_welfares m_orderEntry m_orderFill m_orders m_blockEntry m_blockFill m_blocks m_price m_trade r.1 r.2 m_out), 0, 0)) 267 [(0, .ref 54), (2, .int x2), (3, .int x3), (5, .long x5)] [] ex (hT, HM m_thrown m_n m_collateral m_many m_need m_isBlock m_hours m_side m_quantity m_limit m_sent m_sealed m_rounds m_liar m_told m_passed m_vectors m_meters m_cleared m_prices m_trades m_fills m_welfares m_orderEntry m_orderFill m_orders m_blockEntry m_blockFill m_blocks m_price m_trade m_filled m_rest m_out) 0 0 (K267 m_filled m_rest x5)) → ∀ (K280 : (Nat → Int32) → (Nat → Int64) → Int64 → Int32 → Int32 → Option ((Nat → Int32) × (Nat → Int64))), (∀ (m_filled : Nat → Int32) (m_rest : Nat → Int64) (x5 : Int64) (x11 : Int32) (x12 : Int32), mz_A g M_m_share (mz_rm 2) (fun r => (0, none, ex, (hT, HM m_thrown m_n m_collateral m_many m_need m_isBlock m_hours m_side m_quantity m_limit m_sent m_sealed m_rounds m_liar m_told m_passed m_vectors m_meters m_cleared m_prices m_trades m_fills m_welfares m_orderEntry m_orderFill m_orders m_blockEntry m_blockFill m_blocks m_price m_trade r.1 r.2 m_out), 0, 0)) 280 [(0, .ref 54), (2, .int x2), (3, .int x3), (5, .long x5), (11, .int x11), (12, .int x12)] [] ex (hT, HM m_thrown m_n m_collateral m_many m_need m_isBlock m_hours m_side m_quantity m_limit m_sent m_sealed m_rounds m_liar m_told m_passed m_vectors m_meters m_cleared m_prices m_trades m_fills m_welfares m_orderEntry m_orderFill m_orders m_blockEntry m_blockFill m_blocks m_price m_trade m_filled m_rest m_out) 0 0 (K280 m_filled m_rest x5 x11 x12)) → ∀ (m_filled : Nat → Int32) (m_rest : Nat → Int64) (x5 : Int64) (x11 : Int32) (x12 : Int32) (s0 : Int32), mz_A g M_m_share (mz_rm 2) (fun r => (0, none, ex, (hT, HM m_thrown m_n m_collateral m_many m_need m_isBlock m_hours m_side m_quantity m_limit m_sent m_sealed m_rounds m_liar m_told m_passed m_vectors m_meters m_cleared m_prices m_trades m_fills m_welfares m_orderEntry m_orderFill m_orders m_blockEntry m_blockFill m_blocks m_price m_trade r.1 r.2 m_out), 0, 0)) 360 [(0, .ref 54), (2, .int x2), (3, .int x3), (5, .long x5), (11, .int x11), (12, .int x12)] [.int s0] ex (hT, HM m_thrown m_n m_collateral m_many m_need m_isBlock m_hours m_side m_quantity m_limit m_sent m_sealed m_rounds m_liar m_told m_passed m_vectors m_meters m_cleared m_prices m_trades m_fills m_welfares m_orderEntry m_orderFill m_orders m_blockEntry m_blockFill m_blocks m_price m_trade m_filled m_rest m_out) 0 0 (f_m_share_b360 m_hours m_side m_quantity m_limit m_orderEntry m_orders m_blockEntry m_blocks m_price m_trade x2 x3 K267 K280 m_filled m_rest x5 x11 x12 s0) := by
    intro K267 hK267 K280 hK280 m_filled m_rest x5 x11 x12 s0
    rw [f_m_share_b360]
    refine mr_istore (lv' := [(14, .int s0), (0, .ref 54), (2, .int x2), (3, .int x3), (5, .long x5), (11, .int x11), (12, .int x12)]) d_m_share_360 (by decide) rfl ?_
    refine mr_iload d_m_share_362 rfl ?_
    refine mr_if_eq (tgt := 372) d_m_share_364 (by decide) ?_ ?_
    · refine mr_iload d_m_share_372 rfl ?_
      refine mr_istore (lv' := [(11, .int x11), (14, .int s0), (0, .ref 54), (2, .int x2), (3, .int x3), (5, .long x5), (12, .int x12)]) d_m_share_374 (by decide) rfl ?_
      refine mr_iinc (v := (x12 + 1)) (lv' := [(12, .int (x12 + 1)), (11, .int x11), (14, .int s0), (0, .ref 54), (2, .int x2), (3, .int x3), (5, .long x5)]) d_m_share_376 rfl rfl (by decide) rfl ?_
      refine mr_goto (tgt := 280) d_m_share_379 (by decide) ?_
      refine mr_sub (lv' := [(0, .ref 54), (2, .int x2), (3, .int x3), (5, .long x5), (11, .int x11), (12, .int (x12 + 1))]) [3, 4, 5, 6, 1, 0] rfl ?_
      exact hK280 _ _ _ _ _
    · refine mr_iload d_m_share_367 rfl ?_
      refine mr_goto (tgt := 374) d_m_share_369 (by decide) ?_
      refine mr_istore (lv' := [(11, .int x12), (14, .int s0), (0, .ref 54), (2, .int x2), (3, .int x3), (5, .long x5), (12, .int x12)]) d_m_share_374 (by decide) rfl ?_
      refine mr_iinc (v := (x12 + 1)) (lv' := [(12, .int (x12 + 1)), (11, .int x12), (14, .int s0), (0, .ref 54), (2, .int x2), (3, .int x3), (5, .long x5)]) d_m_share_376 rfl rfl (by decide) rfl ?_
      refine mr_goto (tgt := 280) d_m_share_379 (by decide) ?_
      refine mr_sub (lv' := [(0, .ref 54), (2, .int x2), (3, .int x3), (5, .long x5), (11, .int x12), (12, .int (x12 + 1))]) [3, 4, 5, 6, 1, 0] rfl ?_
      exact hK280 _ _ _ _ _
  have w_b355 : ∀ (K267 : (Nat → Int32) → (Nat → Int64) → Int64 → Option ((Nat → Int32) × (Nat → Int64))), (∀ (m_filled : Nat → Int32) (m_rest : Nat → Int64) (x5 : Int64), mz_A g M_m_share (mz_rm 2) (fun r => (0, none, ex, (hT, HM m_thrown m_n m_collateral m_many m_need m_isBlock m_hours m_side m_quantity m_limit m_sent m_sealed m_rounds m_liar m_told m_passed m_vectors m_meters m_cleared m_prices m_trades m_fills m_welfares m_orderEntry m_orderFill m_orders m_blockEntry m_blockFill m_blocks m_price m_trade r.1 r.2 m_out), 0, 0)) 267 [(0, .ref 54), (2, .int x2), (3, .int x3), (5, .long x5)] [] ex (hT, HM m_thrown m_n m_collateral m_many m_need m_isBlock m_hours m_side m_quantity m_limit m_sent m_sealed m_rounds m_liar m_told m_passed m_vectors m_meters m_cleared m_prices m_trades m_fills m_welfares m_orderEntry m_orderFill m_orders m_blockEntry m_blockFill m_blocks m_price m_trade m_filled m_rest m_out) 0 0 (K267 m_filled m_rest x5)) → ∀ (K280 : (Nat → Int32) → (Nat → Int64) → Int64 → Int32 → Int32 → Option ((Nat → Int32) × (Nat → Int64))), (∀ (m_filled : Nat → Int32) (m_rest : Nat → Int64) (x5 : Int64) (x11 : Int32) (x12 : Int32), mz_A g M_m_share (mz_rm 2) (fun r => (0, none, ex, (hT, HM m_thrown m_n m_collateral m_many m_need m_isBlock m_hours m_side m_quantity m_limit m_sent m_sealed m_rounds m_liar m_told m_passed m_vectors m_meters m_cleared m_prices m_trades m_fills m_welfares m_orderEntry m_orderFill m_orders m_blockEntry m_blockFill m_blocks m_price m_trade r.1 r.2 m_out), 0, 0)) 280 [(0, .ref 54), (2, .int x2), (3, .int x3), (5, .long x5), (11, .int x11), (12, .int x12)] [] ex (hT, HM m_thrown m_n m_collateral m_many m_need m_isBlock m_hours m_side m_quantity m_limit m_sent m_sealed m_rounds m_liar m_told m_passed m_vectors m_meters m_cleared m_prices m_trades m_fills m_welfares m_orderEntry m_orderFill m_orders m_blockEntry m_blockFill m_blocks m_price m_trade m_filled m_rest m_out) 0 0 (K280 m_filled m_rest x5 x11 x12)) → ∀ (m_filled : Nat → Int32) (m_rest : Nat → Int64) (x5 : Int64) (x11 : Int32) (x12 : Int32), mz_A g M_m_share (mz_rm 2) (fun r => (0, none, ex, (hT, HM m_thrown m_n m_collateral m_many m_need m_isBlock m_hours m_side m_quantity m_limit m_sent m_sealed m_rounds m_liar m_told m_passed m_vectors m_meters m_cleared m_prices m_trades m_fills m_welfares m_orderEntry m_orderFill m_orders m_blockEntry m_blockFill m_blocks m_price m_trade r.1 r.2 m_out), 0, 0)) 355 [(0, .ref 54), (2, .int x2), (3, .int x3), (5, .long x5), (11, .int x11), (12, .int x12)] [] ex (hT, HM m_thrown m_n m_collateral m_many m_need m_isBlock m_hours m_side m_quantity m_limit m_sent m_sealed m_rounds m_liar m_told m_passed m_vectors m_meters m_cleared m_prices m_trades m_fills m_welfares m_orderEntry m_orderFill m_orders m_blockEntry m_blockFill m_blocks m_price m_trade m_filled m_rest m_out) 0 0 (f_m_share_b355 m_hours m_side m_quantity m_limit m_orderEntry m_orders m_blockEntry m_blocks m_price m_trade x2 x3 K267 K280 m_filled m_rest x5 x11 x12) := by
    intro K267 hK267 K280 hK280 m_filled m_rest x5 x11 x12
    rw [f_m_share_b355]
    refine mr_iconst (v := 1) d_m_share_355 mc_iconst_1 ?_
    refine mr_goto (tgt := 360) d_m_share_356 (by decide) ?_
    exact w_b360 _ hK267 _ hK280 _ _ _ _ _ _
  have w_b359 : ∀ (K267 : (Nat → Int32) → (Nat → Int64) → Int64 → Option ((Nat → Int32) × (Nat → Int64))), (∀ (m_filled : Nat → Int32) (m_rest : Nat → Int64) (x5 : Int64), mz_A g M_m_share (mz_rm 2) (fun r => (0, none, ex, (hT, HM m_thrown m_n m_collateral m_many m_need m_isBlock m_hours m_side m_quantity m_limit m_sent m_sealed m_rounds m_liar m_told m_passed m_vectors m_meters m_cleared m_prices m_trades m_fills m_welfares m_orderEntry m_orderFill m_orders m_blockEntry m_blockFill m_blocks m_price m_trade r.1 r.2 m_out), 0, 0)) 267 [(0, .ref 54), (2, .int x2), (3, .int x3), (5, .long x5)] [] ex (hT, HM m_thrown m_n m_collateral m_many m_need m_isBlock m_hours m_side m_quantity m_limit m_sent m_sealed m_rounds m_liar m_told m_passed m_vectors m_meters m_cleared m_prices m_trades m_fills m_welfares m_orderEntry m_orderFill m_orders m_blockEntry m_blockFill m_blocks m_price m_trade m_filled m_rest m_out) 0 0 (K267 m_filled m_rest x5)) → ∀ (K280 : (Nat → Int32) → (Nat → Int64) → Int64 → Int32 → Int32 → Option ((Nat → Int32) × (Nat → Int64))), (∀ (m_filled : Nat → Int32) (m_rest : Nat → Int64) (x5 : Int64) (x11 : Int32) (x12 : Int32), mz_A g M_m_share (mz_rm 2) (fun r => (0, none, ex, (hT, HM m_thrown m_n m_collateral m_many m_need m_isBlock m_hours m_side m_quantity m_limit m_sent m_sealed m_rounds m_liar m_told m_passed m_vectors m_meters m_cleared m_prices m_trades m_fills m_welfares m_orderEntry m_orderFill m_orders m_blockEntry m_blockFill m_blocks m_price m_trade r.1 r.2 m_out), 0, 0)) 280 [(0, .ref 54), (2, .int x2), (3, .int x3), (5, .long x5), (11, .int x11), (12, .int x12)] [] ex (hT, HM m_thrown m_n m_collateral m_many m_need m_isBlock m_hours m_side m_quantity m_limit m_sent m_sealed m_rounds m_liar m_told m_passed m_vectors m_meters m_cleared m_prices m_trades m_fills m_welfares m_orderEntry m_orderFill m_orders m_blockEntry m_blockFill m_blocks m_price m_trade m_filled m_rest m_out) 0 0 (K280 m_filled m_rest x5 x11 x12)) → ∀ (m_filled : Nat → Int32) (m_rest : Nat → Int64) (x5 : Int64) (x11 : Int32) (x12 : Int32), mz_A g M_m_share (mz_rm 2) (fun r => (0, none, ex, (hT, HM m_thrown m_n m_collateral m_many m_need m_isBlock m_hours m_side m_quantity m_limit m_sent m_sealed m_rounds m_liar m_told m_passed m_vectors m_meters m_cleared m_prices m_trades m_fills m_welfares m_orderEntry m_orderFill m_orders m_blockEntry m_blockFill m_blocks m_price m_trade r.1 r.2 m_out), 0, 0)) 359 [(0, .ref 54), (2, .int x2), (3, .int x3), (5, .long x5), (11, .int x11), (12, .int x12)] [] ex (hT, HM m_thrown m_n m_collateral m_many m_need m_isBlock m_hours m_side m_quantity m_limit m_sent m_sealed m_rounds m_liar m_told m_passed m_vectors m_meters m_cleared m_prices m_trades m_fills m_welfares m_orderEntry m_orderFill m_orders m_blockEntry m_blockFill m_blocks m_price m_trade m_filled m_rest m_out) 0 0 (f_m_share_b359 m_hours m_side m_quantity m_limit m_orderEntry m_orders m_blockEntry m_blocks m_price m_trade x2 x3 K267 K280 m_filled m_rest x5 x11 x12) := by
    intro K267 hK267 K280 hK280 m_filled m_rest x5 x11 x12
    rw [f_m_share_b359]
    refine mr_iconst (v := 0) d_m_share_359 mc_iconst_0 ?_
    exact w_b360 _ hK267 _ hK280 _ _ _ _ _ _
  have w_L280 : ∀ (K267 : (Nat → Int32) → (Nat → Int64) → Int64 → Option ((Nat → Int32) × (Nat → Int64))), (∀ (m_filled : Nat → Int32) (m_rest : Nat → Int64) (x5 : Int64), mz_A g M_m_share (mz_rm 2) (fun r => (0, none, ex, (hT, HM m_thrown m_n m_collateral m_many m_need m_isBlock m_hours m_side m_quantity m_limit m_sent m_sealed m_rounds m_liar m_told m_passed m_vectors m_meters m_cleared m_prices m_trades m_fills m_welfares m_orderEntry m_orderFill m_orders m_blockEntry m_blockFill m_blocks m_price m_trade r.1 r.2 m_out), 0, 0)) 267 [(0, .ref 54), (2, .int x2), (3, .int x3), (5, .long x5)] [] ex (hT, HM m_thrown m_n m_collateral m_many m_need m_isBlock m_hours m_side m_quantity m_limit m_sent m_sealed m_rounds m_liar m_told m_passed m_vectors m_meters m_cleared m_prices m_trades m_fills m_welfares m_orderEntry m_orderFill m_orders m_blockEntry m_blockFill m_blocks m_price m_trade m_filled m_rest m_out) 0 0 (K267 m_filled m_rest x5)) → ∀ (n : Nat) (m_filled : Nat → Int32) (m_rest : Nat → Int64) (x5 : Int64) (x11 : Int32) (x12 : Int32), mz_A g M_m_share (mz_rm 2) (fun r => (0, none, ex, (hT, HM m_thrown m_n m_collateral m_many m_need m_isBlock m_hours m_side m_quantity m_limit m_sent m_sealed m_rounds m_liar m_told m_passed m_vectors m_meters m_cleared m_prices m_trades m_fills m_welfares m_orderEntry m_orderFill m_orders m_blockEntry m_blockFill m_blocks m_price m_trade r.1 r.2 m_out), 0, 0)) 280 [(0, .ref 54), (2, .int x2), (3, .int x3), (5, .long x5), (11, .int x11), (12, .int x12)] [] ex (hT, HM m_thrown m_n m_collateral m_many m_need m_isBlock m_hours m_side m_quantity m_limit m_sent m_sealed m_rounds m_liar m_told m_passed m_vectors m_meters m_cleared m_prices m_trades m_fills m_welfares m_orderEntry m_orderFill m_orders m_blockEntry m_blockFill m_blocks m_price m_trade m_filled m_rest m_out) 0 0 (f_m_share_L280 m_hours m_side m_quantity m_limit m_orderEntry m_orders m_blockEntry m_blocks m_price m_trade x2 x3 K267 n m_filled m_rest x5 x11 x12) := by
    intro K267 hK267
    intro n
    induction n with
    | zero => intro m_filled m_rest x5 x11 x12; exact mr_none
    | succ n ih =>
      intro m_filled m_rest x5 x11 x12
      rw [f_m_share_L280]
      refine mr_iload d_m_share_280 rfl ?_
      refine mr_aload_n d_m_share_282 rfl rfl ?_
      refine mr_get K_m 25 d_m_share_283 lk_f_m_172 (by decide) rfl rfl ?_
      refine mr_icmp_ge (tgt := 382) d_m_share_286 (by decide) ?_ ?_
      · refine mr_aload_n d_m_share_382 rfl rfl ?_
        refine mr_get K_m 31 d_m_share_383 lk_f_m_91 (by decide) rfl rfl ?_
        refine mr_iload d_m_share_386 rfl ?_
        refine mr_dup2_11 d_m_share_388 rfl rfl ?_
        refine mr_iald d_m_share_389 rfl (fun hc17 => ?_)
        refine mr_iconst (v := 1) d_m_share_390 mc_iconst_1 ?_
        refine mr_iadd d_m_share_391 ?_
        refine mr_iastK (h2 := (hT, HM m_thrown m_n m_collateral m_many m_need m_isBlock m_hours m_side m_quantity m_limit m_sent m_sealed m_rounds m_liar m_told m_passed m_vectors m_meters m_cleared m_prices m_trades m_fills m_welfares m_orderEntry m_orderFill m_orders m_blockEntry m_blockFill m_blocks m_price m_trade (upd m_filled x11.toNatClampNeg ((m_filled x11.toNatClampNeg) + 1)) m_rest m_out)) d_m_share_392 rfl rfl hc17 ?_
        refine mr_aload_n d_m_share_393 rfl rfl ?_
        refine mr_get K_m 32 d_m_share_394 lk_f_m_94 (by decide) rfl rfl ?_
        refine mr_iload d_m_share_397 rfl ?_
        refine mr_ldc2 (v := (-1)) d_m_share_399 lk_k_m_123 ?_
        refine mr_lastK (h2 := (hT, HM m_thrown m_n m_collateral m_many m_need m_isBlock m_hours m_side m_quantity m_limit m_sent m_sealed m_rounds m_liar m_told m_passed m_vectors m_meters m_cleared m_prices m_trades m_fills m_welfares m_orderEntry m_orderFill m_orders m_blockEntry m_blockFill m_blocks m_price m_trade (upd m_filled x11.toNatClampNeg ((m_filled x11.toNatClampNeg) + 1)) (vp_updL m_rest x11.toNatClampNeg (-1)) m_out)) d_m_share_402 rfl rfl hc17 ?_
        refine mr_lload d_m_share_403 rfl ?_
        refine mr_lconst (v := 1) d_m_share_405 mc_lconst_1 ?_
        refine mr_lsub d_m_share_406 ?_
        refine mr_lstore (lv' := [(5, .long (x5 - 1)), (0, .ref 54), (2, .int x2), (3, .int x3), (11, .int x11), (12, .int x12)]) d_m_share_407 (by decide) rfl ?_
        refine mr_goto (tgt := 267) d_m_share_409 (by decide) ?_
        refine mr_sub (lv' := [(0, .ref 54), (2, .int x2), (3, .int x3), (5, .long (x5 - 1))]) [1, 2, 3, 0] rfl ?_
        exact hK267 _ _ _
      · refine mr_aload_n d_m_share_289 rfl rfl ?_
        refine mr_get K_m 23 d_m_share_290 lk_f_m_73 (by decide) rfl rfl ?_
        refine mr_iload d_m_share_293 rfl ?_
        refine mr_iald d_m_share_295 rfl (fun hc18 => ?_)
        refine mr_istore (lv' := [(13, .int (m_orderEntry x12.toNatClampNeg)), (0, .ref 54), (2, .int x2), (3, .int x3), (5, .long x5), (11, .int x11), (12, .int x12)]) d_m_share_296 (by decide) rfl ?_
        refine mr_aload_n d_m_share_298 rfl rfl ?_
        refine mr_get K_m 7 d_m_share_299 lk_f_m_27 (by decide) rfl rfl ?_
        refine mr_iload d_m_share_302 rfl ?_
        refine mr_iald d_m_share_304 rfl (fun hc19 => ?_)
        refine mr_iload_n d_m_share_305 rfl rfl ?_
        refine mr_icmp_ne (tgt := 359) d_m_share_306 (by decide) ?_ ?_
        · refine mr_sub (lv' := [(0, .ref 54), (2, .int x2), (3, .int x3), (5, .long x5), (11, .int x11), (12, .int x12)]) [1, 2, 3, 4, 5, 6] rfl ?_
          exact w_b359 _ hK267 _ ih _ _ _ _ _
        · refine mr_aload_n d_m_share_309 rfl rfl ?_
          refine mr_get K_m 6 d_m_share_310 lk_f_m_24 (by decide) rfl rfl ?_
          refine mr_iload d_m_share_313 rfl ?_
          refine mr_ialdK d_m_share_315 rfl hc19 ?_
          refine mr_iload_n d_m_share_316 rfl rfl ?_
          refine mr_icmp_ne (tgt := 359) d_m_share_317 (by decide) ?_ ?_
          · refine mr_sub (lv' := [(0, .ref 54), (2, .int x2), (3, .int x3), (5, .long x5), (11, .int x11), (12, .int x12)]) [1, 2, 3, 4, 5, 6] rfl ?_
            exact w_b359 _ hK267 _ ih _ _ _ _ _
          · refine mr_aload_n d_m_share_320 rfl rfl ?_
            refine mr_get K_m 32 d_m_share_321 lk_f_m_94 (by decide) rfl rfl ?_
            refine mr_iload d_m_share_324 rfl ?_
            refine mr_laldK d_m_share_326 rfl hc18 ?_
            refine mr_lconst (v := 0) d_m_share_327 mc_lconst_0 ?_
            refine mr_lcmp d_m_share_328 ?_
            refine mr_if_lt (tgt := 359) d_m_share_329 (by decide) ?_ ?_
            · refine mr_sub (lv' := [(0, .ref 54), (2, .int x2), (3, .int x3), (5, .long x5), (11, .int x11), (12, .int x12)]) [1, 2, 3, 4, 5, 6] rfl ?_
              exact w_b359 _ hK267 _ ih _ _ _ _ _
            · refine mr_iload d_m_share_332 rfl ?_
              refine mr_if_lt (tgt := 355) d_m_share_334 (by decide) ?_ ?_
              · refine mr_sub (lv' := [(0, .ref 54), (2, .int x2), (3, .int x3), (5, .long x5), (11, .int x11), (12, .int x12)]) [1, 2, 3, 4, 5, 6] rfl ?_
                exact w_b355 _ hK267 _ ih _ _ _ _ _
              · refine mr_aload_n d_m_share_337 rfl rfl ?_
                refine mr_get K_m 32 d_m_share_338 lk_f_m_94 (by decide) rfl rfl ?_
                refine mr_iload d_m_share_341 rfl ?_
                refine mr_laldK d_m_share_343 rfl hc18 ?_
                refine mr_aload_n d_m_share_344 rfl rfl ?_
                refine mr_get K_m 32 d_m_share_345 lk_f_m_94 (by decide) rfl rfl ?_
                refine mr_iload d_m_share_348 rfl ?_
                refine mr_lald d_m_share_350 rfl (fun hc20 => ?_)
                refine mr_lcmp d_m_share_351 ?_
                refine mr_if_le (tgt := 359) d_m_share_352 (by decide) ?_ ?_
                · refine mr_sub (lv' := [(0, .ref 54), (2, .int x2), (3, .int x3), (5, .long x5), (11, .int x11), (12, .int x12)]) [1, 2, 3, 4, 5, 6] rfl ?_
                  exact w_b359 _ hK267 _ ih _ _ _ _ _
                · refine mr_sub (lv' := [(0, .ref 54), (2, .int x2), (3, .int x3), (5, .long x5), (11, .int x11), (12, .int x12)]) [1, 2, 3, 4, 5, 6] rfl ?_
                  exact w_b355 _ hK267 _ ih _ _ _ _ _
  have w_L267 : ∀ (n : Nat) (m_filled : Nat → Int32) (m_rest : Nat → Int64) (x5 : Int64), mz_A g M_m_share (mz_rm 2) (fun r => (0, none, ex, (hT, HM m_thrown m_n m_collateral m_many m_need m_isBlock m_hours m_side m_quantity m_limit m_sent m_sealed m_rounds m_liar m_told m_passed m_vectors m_meters m_cleared m_prices m_trades m_fills m_welfares m_orderEntry m_orderFill m_orders m_blockEntry m_blockFill m_blocks m_price m_trade r.1 r.2 m_out), 0, 0)) 267 [(0, .ref 54), (2, .int x2), (3, .int x3), (5, .long x5)] [] ex (hT, HM m_thrown m_n m_collateral m_many m_need m_isBlock m_hours m_side m_quantity m_limit m_sent m_sealed m_rounds m_liar m_told m_passed m_vectors m_meters m_cleared m_prices m_trades m_fills m_welfares m_orderEntry m_orderFill m_orders m_blockEntry m_blockFill m_blocks m_price m_trade m_filled m_rest m_out) 0 0 (f_m_share_L267 m_hours m_side m_quantity m_limit m_orderEntry m_orders m_blockEntry m_blocks m_price m_trade x2 x3 n m_filled m_rest x5) := by
    intro n
    induction n with
    | zero => intro m_filled m_rest x5; exact mr_none
    | succ n ih =>
      intro m_filled m_rest x5
      rw [f_m_share_L267]
      refine mr_lload d_m_share_267 rfl ?_
      refine mr_lconst (v := 0) d_m_share_269 mc_lconst_0 ?_
      refine mr_lcmp d_m_share_270 ?_
      refine mr_if_le (tgt := 412) d_m_share_271 (by decide) ?_ ?_
      · exact mr_vret d_m_share_412 rfl rfl
      · refine mr_iconst (v := (-1)) d_m_share_274 mc_iconst_m1 ?_
        refine mr_istore (lv' := [(11, .int (-1)), (0, .ref 54), (2, .int x2), (3, .int x3), (5, .long x5)]) d_m_share_275 (by decide) rfl ?_
        refine mr_iconst (v := 0) d_m_share_277 mc_iconst_0 ?_
        refine mr_istore (lv' := [(12, .int 0), (11, .int (-1)), (0, .ref 54), (2, .int x2), (3, .int x3), (5, .long x5)]) d_m_share_278 (by decide) rfl ?_
        refine mr_sub (lv' := [(0, .ref 54), (2, .int x2), (3, .int x3), (5, .long x5), (11, .int (-1)), (12, .int 0)]) [2, 3, 4, 5, 1, 0] rfl ?_
        exact w_L280 _ ih 1000 _ _ _ _ _
  have w_L59 : ∀ (n : Nat) (m_filled : Nat → Int32) (m_rest : Nat → Int64) (x4 : Int32) (x5 : Int64) (x7 : Int64) (x9 : Int64) (x11 : Int32), mz_A g M_m_share (mz_rm 2) (fun r => (0, none, ex, (hT, HM m_thrown m_n m_collateral m_many m_need m_isBlock m_hours m_side m_quantity m_limit m_sent m_sealed m_rounds m_liar m_told m_passed m_vectors m_meters m_cleared m_prices m_trades m_fills m_welfares m_orderEntry m_orderFill m_orders m_blockEntry m_blockFill m_blocks m_price m_trade r.1 r.2 m_out), 0, 0)) 59 [(0, .ref 54), (2, .int x2), (3, .int x3), (4, .int x4), (5, .long x5), (7, .long x7), (9, .long x9), (11, .int x11)] [] ex (hT, HM m_thrown m_n m_collateral m_many m_need m_isBlock m_hours m_side m_quantity m_limit m_sent m_sealed m_rounds m_liar m_told m_passed m_vectors m_meters m_cleared m_prices m_trades m_fills m_welfares m_orderEntry m_orderFill m_orders m_blockEntry m_blockFill m_blocks m_price m_trade m_filled m_rest m_out) 0 0 (f_m_share_L59 m_hours m_side m_quantity m_limit m_orderEntry m_orders m_blockEntry m_blocks m_price m_trade x2 x3 n m_filled m_rest x4 x5 x7 x9 x11) := by
    intro n
    induction n with
    | zero => intro m_filled m_rest x4 x5 x7 x9 x11; exact mr_none
    | succ n ih =>
      intro m_filled m_rest x4 x5 x7 x9 x11
      rw [f_m_share_L59]
      refine mr_iload d_m_share_59 rfl ?_
      refine mr_aload_n d_m_share_61 rfl rfl ?_
      refine mr_get K_m 25 d_m_share_62 lk_f_m_172 (by decide) rfl rfl ?_
      refine mr_icmp_ge (tgt := 267) d_m_share_65 (by decide) ?_ ?_
      · refine mr_sub (lv' := [(0, .ref 54), (2, .int x2), (3, .int x3), (5, .long x5)]) [0, 1, 2, 4] rfl ?_
        exact w_L267 1000 _ _ _
      · refine mr_aload_n d_m_share_68 rfl rfl ?_
        refine mr_get K_m 23 d_m_share_69 lk_f_m_73 (by decide) rfl rfl ?_
        refine mr_iload d_m_share_72 rfl ?_
        refine mr_iald d_m_share_74 rfl (fun hc5 => ?_)
        refine mr_istore (lv' := [(12, .int (m_orderEntry x11.toNatClampNeg)), (0, .ref 54), (2, .int x2), (3, .int x3), (4, .int x4), (5, .long x5), (7, .long x7), (9, .long x9), (11, .int x11)]) d_m_share_75 (by decide) rfl ?_
        refine mr_aload_n d_m_share_77 rfl rfl ?_
        refine mr_get K_m 7 d_m_share_78 lk_f_m_27 (by decide) rfl rfl ?_
        refine mr_iload d_m_share_81 rfl ?_
        refine mr_iald d_m_share_83 rfl (fun hc6 => ?_)
        refine mr_iload_n d_m_share_84 rfl rfl ?_
        refine mr_icmp_ne (tgt := 261) d_m_share_85 (by decide) ?_ ?_
        · refine mr_iinc (v := (x11 + 1)) (lv' := [(11, .int (x11 + 1)), (12, .int (m_orderEntry x11.toNatClampNeg)), (0, .ref 54), (2, .int x2), (3, .int x3), (4, .int x4), (5, .long x5), (7, .long x7), (9, .long x9)]) d_m_share_261 rfl rfl (by decide) rfl ?_
          refine mr_goto (tgt := 59) d_m_share_264 (by decide) ?_
          refine mr_sub (lv' := [(0, .ref 54), (2, .int x2), (3, .int x3), (4, .int x4), (5, .long x5), (7, .long x7), (9, .long x9), (11, .int (x11 + 1))]) [2, 3, 4, 5, 6, 7, 8, 0] rfl ?_
          exact ih _ _ _ _ _ _ _
        · refine mr_aload_n d_m_share_88 rfl rfl ?_
          refine mr_get K_m 6 d_m_share_89 lk_f_m_24 (by decide) rfl rfl ?_
          refine mr_iload d_m_share_92 rfl ?_
          refine mr_ialdK d_m_share_94 rfl hc6 ?_
          refine mr_iload_n d_m_share_95 rfl rfl ?_
          refine mr_icmp_ne (tgt := 261) d_m_share_96 (by decide) ?_ ?_
          · refine mr_iinc (v := (x11 + 1)) (lv' := [(11, .int (x11 + 1)), (12, .int (m_orderEntry x11.toNatClampNeg)), (0, .ref 54), (2, .int x2), (3, .int x3), (4, .int x4), (5, .long x5), (7, .long x7), (9, .long x9)]) d_m_share_261 rfl rfl (by decide) rfl ?_
            refine mr_goto (tgt := 59) d_m_share_264 (by decide) ?_
            refine mr_sub (lv' := [(0, .ref 54), (2, .int x2), (3, .int x3), (4, .int x4), (5, .long x5), (7, .long x7), (9, .long x9), (11, .int (x11 + 1))]) [2, 3, 4, 5, 6, 7, 8, 0] rfl ?_
            exact ih _ _ _ _ _ _ _
          · refine mr_aload_n d_m_share_99 rfl rfl ?_
            refine mr_get K_m 9 d_m_share_100 lk_f_m_33 (by decide) rfl rfl ?_
            refine mr_iload d_m_share_103 rfl ?_
            refine mr_ialdK d_m_share_105 rfl hc6 ?_
            refine mr_iload d_m_share_106 rfl ?_
            refine mr_icmp_ne (tgt := 115) d_m_share_108 (by decide) ?_ ?_
            · refine mr_iconst (v := 0) d_m_share_115 mc_iconst_0 ?_
              refine mr_sub (lv' := [(0, .ref 54), (2, .int x2), (3, .int x3), (4, .int x4), (5, .long x5), (7, .long x7), (9, .long x9), (11, .int x11), (12, .int (m_orderEntry x11.toNatClampNeg))]) [1, 2, 3, 4, 5, 6, 7, 8, 0] rfl ?_
              exact w_b116 _ ih _ _ _ _ _ _ _ _ _
            · refine mr_iconst (v := 1) d_m_share_111 mc_iconst_1 ?_
              refine mr_goto (tgt := 116) d_m_share_112 (by decide) ?_
              refine mr_sub (lv' := [(0, .ref 54), (2, .int x2), (3, .int x3), (4, .int x4), (5, .long x5), (7, .long x7), (9, .long x9), (11, .int x11), (12, .int (m_orderEntry x11.toNatClampNeg))]) [1, 2, 3, 4, 5, 6, 7, 8, 0] rfl ?_
              exact w_b116 _ ih _ _ _ _ _ _ _ _ _
  refine mz_of (by decide) (Nat.le_of_ble_eq_true rfl) ?_
  rw [f_m_share]
  show mz_A g M_m_share (mz_rm 2) _ 0 [(0, .ref 54), (1, .int x1), (2, .int x2), (3, .int x3)] [] ex (hT, HM m_thrown m_n m_collateral m_many m_need m_isBlock m_hours m_side m_quantity m_limit m_sent m_sealed m_rounds m_liar m_told m_passed m_vectors m_meters m_cleared m_prices m_trades m_fills m_welfares m_orderEntry m_orderFill m_orders m_blockEntry m_blockFill m_blocks m_price m_trade m_filled m_rest m_out) 0 0 _
  refine mr_aload_n d_m_share_0 rfl rfl ?_
  refine mr_get K_m 29 d_m_share_1 lk_f_m_85 (by decide) rfl rfl ?_
  refine mr_iload_n d_m_share_4 rfl rfl ?_
  refine mr_iald d_m_share_5 rfl (fun hc1 => ?_)
  refine mr_istore (lv' := [(4, .int (m_price x2.toNatClampNeg)), (0, .ref 54), (1, .int x1), (2, .int x2), (3, .int x3)]) d_m_share_6 (by decide) rfl ?_
  refine mr_aload_n d_m_share_8 rfl rfl ?_
  refine mr_get K_m 30 d_m_share_9 lk_f_m_88 (by decide) rfl rfl ?_
  refine mr_iload_n d_m_share_12 rfl rfl ?_
  refine mr_ialdK d_m_share_13 rfl hc1 ?_
  refine mr_aload_n d_m_share_14 rfl rfl ?_
  refine mr_iload_n d_m_share_15 rfl rfl ?_
  refine mr_iload_n d_m_share_16 rfl rfl ?_
  refine mr_iload d_m_share_17 rfl ?_
  refine mr_iload_n d_m_share_19 rfl rfl ?_
  refine mr_iconst (v := 0) d_m_share_20 mc_iconst_0 ?_
  refine mz_go (st := [.int (m_trade x2.toNatClampNeg)]) e_m_volume (fun _ => rfl) U_m_volume (mz_vV d_m_share_21 U_m_volume rfl lk_m_m_182 I_m_volume s_m_volume np_m_volume rfl rfl) (Nat.le_of_ble_eq_true rfl) (by decide) (fun r2 => ?_)
  refine mr_eq (st' := [.int r2, .int (m_trade x2.toNatClampNeg)]) (ex' := ex) (h2 := (hT, HM m_thrown m_n m_collateral m_many m_need m_isBlock m_hours m_side m_quantity m_limit m_sent m_sealed m_rounds m_liar m_told m_passed m_vectors m_meters m_cleared m_prices m_trades m_fills m_welfares m_orderEntry m_orderFill m_orders m_blockEntry m_blockFill m_blocks m_price m_trade m_filled m_rest m_out)) (k' := 0) (n' := 0) rfl rfl rfl rfl rfl ?_
  refine mr_isub d_m_share_24 ?_
  refine mr_i2l d_m_share_25 ?_
  refine mr_lstore (lv' := [(5, .long (Int32.toInt64 ((m_trade x2.toNatClampNeg) - r2))), (4, .int (m_price x2.toNatClampNeg)), (0, .ref 54), (1, .int x1), (2, .int x2), (3, .int x3)]) d_m_share_26 (by decide) rfl ?_
  refine mr_lload d_m_share_28 rfl ?_
  refine mr_lstore (lv' := [(7, .long (Int32.toInt64 ((m_trade x2.toNatClampNeg) - r2))), (5, .long (Int32.toInt64 ((m_trade x2.toNatClampNeg) - r2))), (4, .int (m_price x2.toNatClampNeg)), (0, .ref 54), (1, .int x1), (2, .int x2), (3, .int x3)]) d_m_share_30 (by decide) rfl ?_
  refine mr_aload_n d_m_share_32 rfl rfl ?_
  refine mr_iload_n d_m_share_33 rfl rfl ?_
  refine mr_iload_n d_m_share_34 rfl rfl ?_
  refine mr_iload d_m_share_35 rfl ?_
  refine mr_iload_n d_m_share_37 rfl rfl ?_
  refine mr_iconst (v := 1) d_m_share_38 mc_iconst_1 ?_
  refine mz_go (st := []) e_m_volume (fun _ => rfl) U_m_volume (mz_vV d_m_share_39 U_m_volume rfl lk_m_m_182 I_m_volume s_m_volume np_m_volume rfl rfl) (Nat.le_of_ble_eq_true rfl) (by decide) (fun r3 => ?_)
  refine mr_eq (st' := [.int r3]) (ex' := ex) (h2 := (hT, HM m_thrown m_n m_collateral m_many m_need m_isBlock m_hours m_side m_quantity m_limit m_sent m_sealed m_rounds m_liar m_told m_passed m_vectors m_meters m_cleared m_prices m_trades m_fills m_welfares m_orderEntry m_orderFill m_orders m_blockEntry m_blockFill m_blocks m_price m_trade m_filled m_rest m_out)) (k' := 0) (n' := 0) rfl rfl rfl rfl rfl ?_
  refine mr_aload_n d_m_share_42 rfl rfl ?_
  refine mr_iload_n d_m_share_43 rfl rfl ?_
  refine mr_iload_n d_m_share_44 rfl rfl ?_
  refine mr_iload d_m_share_45 rfl ?_
  refine mr_iload_n d_m_share_47 rfl rfl ?_
  refine mr_iconst (v := 0) d_m_share_48 mc_iconst_0 ?_
  refine mz_go (st := [.int r3]) e_m_volume (fun _ => rfl) U_m_volume (mz_vV d_m_share_49 U_m_volume rfl lk_m_m_182 I_m_volume s_m_volume np_m_volume rfl rfl) (Nat.le_of_ble_eq_true rfl) (by decide) (fun r4 => ?_)
  refine mr_eq (st' := [.int r4, .int r3]) (ex' := ex) (h2 := (hT, HM m_thrown m_n m_collateral m_many m_need m_isBlock m_hours m_side m_quantity m_limit m_sent m_sealed m_rounds m_liar m_told m_passed m_vectors m_meters m_cleared m_prices m_trades m_fills m_welfares m_orderEntry m_orderFill m_orders m_blockEntry m_blockFill m_blocks m_price m_trade m_filled m_rest m_out)) (k' := 0) (n' := 0) rfl rfl rfl rfl rfl ?_
  refine mr_isub d_m_share_52 ?_
  refine mr_i2l d_m_share_53 ?_
  refine mr_lstore (lv' := [(9, .long (Int32.toInt64 (r3 - r4))), (7, .long (Int32.toInt64 ((m_trade x2.toNatClampNeg) - r2))), (5, .long (Int32.toInt64 ((m_trade x2.toNatClampNeg) - r2))), (4, .int (m_price x2.toNatClampNeg)), (0, .ref 54), (1, .int x1), (2, .int x2), (3, .int x3)]) d_m_share_54 (by decide) rfl ?_
  refine mr_iconst (v := 0) d_m_share_56 mc_iconst_0 ?_
  refine mr_istore (lv' := [(11, .int 0), (9, .long (Int32.toInt64 (r3 - r4))), (7, .long (Int32.toInt64 ((m_trade x2.toNatClampNeg) - r2))), (5, .long (Int32.toInt64 ((m_trade x2.toNatClampNeg) - r2))), (4, .int (m_price x2.toNatClampNeg)), (0, .ref 54), (1, .int x1), (2, .int x2), (3, .int x3)]) d_m_share_57 (by decide) rfl ?_
  refine mr_sub (lv' := [(0, .ref 54), (2, .int x2), (3, .int x3), (4, .int (m_price x2.toNatClampNeg)), (5, .long (Int32.toInt64 ((m_trade x2.toNatClampNeg) - r2))), (7, .long (Int32.toInt64 ((m_trade x2.toNatClampNeg) - r2))), (9, .long (Int32.toInt64 (r3 - r4))), (11, .int 0)]) [5, 7, 8, 4, 3, 2, 1, 0] rfl ?_
  exact w_L59 1000 _ _ _ _ _ _ _
set_option maxRecDepth 100000 in
set_option maxHeartbeats 4000000 in
theorem e_m_fits {g : mz_G} {ex : Bool} {hT : List mz_E} {m_thrown : Int32} {m_n : Int32} {m_collateral : Nat → Int32} {m_many : Nat → Int32} {m_need : Nat → Int64} {m_isBlock : Nat → Int32} {m_hours : Nat → Int32} {m_side : Nat → Int32} {m_quantity : Nat → Int32} {m_limit : Nat → Int32} {m_sent : Nat → Int32} {m_sealed : Nat → Int32} {m_rounds : Int32} {m_liar : Int32} {m_told : Nat → Int32} {m_passed : Nat → Int32} {m_vectors : Nat → Int32} {m_meters : Nat → Int32} {m_cleared : Nat → Int32} {m_prices : Nat → Int32} {m_trades : Nat → Int32} {m_fills : Nat → Int32} {m_welfares : Nat → Int64} {m_orderEntry : Nat → Int32} {m_orderFill : Nat → Int32} {m_orders : Int32} {m_blockEntry : Nat → Int32} {m_blockFill : Nat → Int32} {m_blocks : Int32} {m_price : Nat → Int32} {m_trade : Nat → Int32} {m_filled : Nat → Int32} {m_rest : Nat → Int64} {m_out : Nat → Int64} {x1 : Int32} : mz_M g M_m_fits 3 [.ref 54, .int x1] ex (hT, HM m_thrown m_n m_collateral m_many m_need m_isBlock m_hours m_side m_quantity m_limit m_sent m_sealed m_rounds m_liar m_told m_passed m_vectors m_meters m_cleared m_prices m_trades m_fills m_welfares m_orderEntry m_orderFill m_orders m_blockEntry m_blockFill m_blocks m_price m_trade m_filled m_rest m_out) (f_m_fits m_hours m_side m_quantity m_limit m_orderEntry m_orders m_blockEntry m_blocks m_price m_trade m_filled m_rest x1) (fun r => (0, some (.int r.1), ex, (hT, HM m_thrown m_n m_collateral m_many m_need m_isBlock m_hours m_side m_quantity m_limit m_sent m_sealed m_rounds m_liar m_told m_passed m_vectors m_meters m_cleared m_prices m_trades m_fills m_welfares m_orderEntry m_orderFill m_orders m_blockEntry m_blockFill m_blocks r.2.1 r.2.2.1 r.2.2.2.1 r.2.2.2.2 m_out), 0, 0)) := by
  have w_b206 : ∀ (K103 : (Nat → Int32) → (Nat → Int32) → (Nat → Int32) → (Nat → Int64) → Int32 → Option (Int32 × (Nat → Int32) × (Nat → Int32) × (Nat → Int32) × (Nat → Int64))), (∀ (m_price : Nat → Int32) (m_trade : Nat → Int32) (m_filled : Nat → Int32) (m_rest : Nat → Int64) (x2 : Int32), mz_A g M_m_fits (mz_rm 3) (fun r => (0, some (.int r.1), ex, (hT, HM m_thrown m_n m_collateral m_many m_need m_isBlock m_hours m_side m_quantity m_limit m_sent m_sealed m_rounds m_liar m_told m_passed m_vectors m_meters m_cleared m_prices m_trades m_fills m_welfares m_orderEntry m_orderFill m_orders m_blockEntry m_blockFill m_blocks r.2.1 r.2.2.1 r.2.2.2.1 r.2.2.2.2 m_out), 0, 0)) 103 [(0, .ref 54), (1, .int x1), (2, .int x2)] [] ex (hT, HM m_thrown m_n m_collateral m_many m_need m_isBlock m_hours m_side m_quantity m_limit m_sent m_sealed m_rounds m_liar m_told m_passed m_vectors m_meters m_cleared m_prices m_trades m_fills m_welfares m_orderEntry m_orderFill m_orders m_blockEntry m_blockFill m_blocks m_price m_trade m_filled m_rest m_out) 0 0 (K103 m_price m_trade m_filled m_rest x2)) → ∀ (m_price : Nat → Int32) (m_trade : Nat → Int32) (m_filled : Nat → Int32) (m_rest : Nat → Int64) (x2 : Int32) (s0 : Int32), mz_A g M_m_fits (mz_rm 3) (fun r => (0, some (.int r.1), ex, (hT, HM m_thrown m_n m_collateral m_many m_need m_isBlock m_hours m_side m_quantity m_limit m_sent m_sealed m_rounds m_liar m_told m_passed m_vectors m_meters m_cleared m_prices m_trades m_fills m_welfares m_orderEntry m_orderFill m_orders m_blockEntry m_blockFill m_blocks r.2.1 r.2.2.1 r.2.2.2.1 r.2.2.2.2 m_out), 0, 0)) 206 [(0, .ref 54), (1, .int x1), (2, .int x2)] [.int s0] ex (hT, HM m_thrown m_n m_collateral m_many m_need m_isBlock m_hours m_side m_quantity m_limit m_sent m_sealed m_rounds m_liar m_told m_passed m_vectors m_meters m_cleared m_prices m_trades m_fills m_welfares m_orderEntry m_orderFill m_orders m_blockEntry m_blockFill m_blocks m_price m_trade m_filled m_rest m_out) 0 0 (f_m_fits_b206 m_hours m_side m_quantity m_limit m_orderEntry m_orders m_blockEntry m_blocks x1 K103 m_price m_trade m_filled m_rest x2 s0) := by
    intro K103 hK103 m_price m_trade m_filled m_rest x2 s0
    rw [f_m_fits_b206]
    refine mr_istore (lv' := [(5, .int s0), (0, .ref 54), (1, .int x1), (2, .int x2)]) d_m_fits_206 (by decide) rfl ?_
    refine mr_iload_n d_m_fits_208 rfl rfl ?_
    refine mr_iload_n d_m_fits_209 rfl rfl ?_
    refine mr_ishr d_m_fits_210 ?_
    refine mr_iconst (v := 1) d_m_fits_211 mc_iconst_1 ?_
    refine mr_iand d_m_fits_212 ?_
    refine mr_iconst (v := 1) d_m_fits_213 mc_iconst_1 ?_
    refine mr_icmp_ne (tgt := 224) d_m_fits_214 (by decide) ?_ ?_
    · refine mr_iinc (v := (x2 + 1)) (lv' := [(2, .int (x2 + 1)), (5, .int s0), (0, .ref 54), (1, .int x1)]) d_m_fits_224 rfl rfl (by decide) rfl ?_
      refine mr_goto (tgt := 103) d_m_fits_227 (by decide) ?_
      refine mr_sub (lv' := [(0, .ref 54), (1, .int x1), (2, .int (x2 + 1))]) [2, 3, 0] rfl ?_
      exact hK103 _ _ _ _ _
    · refine mr_iload d_m_fits_217 rfl ?_
      refine mr_if_eq (tgt := 224) d_m_fits_219 (by decide) ?_ ?_
      · refine mr_iinc (v := (x2 + 1)) (lv' := [(2, .int (x2 + 1)), (5, .int s0), (0, .ref 54), (1, .int x1)]) d_m_fits_224 rfl rfl (by decide) rfl ?_
        refine mr_goto (tgt := 103) d_m_fits_227 (by decide) ?_
        refine mr_sub (lv' := [(0, .ref 54), (1, .int x1), (2, .int (x2 + 1))]) [2, 3, 0] rfl ?_
        exact hK103 _ _ _ _ _
      · refine mr_iconst (v := 0) d_m_fits_222 mc_iconst_0 ?_
        exact mr_zret d_m_fits_223 rfl rfl
  have w_L124 : ∀ (K103 : (Nat → Int32) → (Nat → Int32) → (Nat → Int32) → (Nat → Int64) → Int32 → Option (Int32 × (Nat → Int32) × (Nat → Int32) × (Nat → Int32) × (Nat → Int64))), (∀ (m_price : Nat → Int32) (m_trade : Nat → Int32) (m_filled : Nat → Int32) (m_rest : Nat → Int64) (x2 : Int32), mz_A g M_m_fits (mz_rm 3) (fun r => (0, some (.int r.1), ex, (hT, HM m_thrown m_n m_collateral m_many m_need m_isBlock m_hours m_side m_quantity m_limit m_sent m_sealed m_rounds m_liar m_told m_passed m_vectors m_meters m_cleared m_prices m_trades m_fills m_welfares m_orderEntry m_orderFill m_orders m_blockEntry m_blockFill m_blocks r.2.1 r.2.2.1 r.2.2.2.1 r.2.2.2.2 m_out), 0, 0)) 103 [(0, .ref 54), (1, .int x1), (2, .int x2)] [] ex (hT, HM m_thrown m_n m_collateral m_many m_need m_isBlock m_hours m_side m_quantity m_limit m_sent m_sealed m_rounds m_liar m_told m_passed m_vectors m_meters m_cleared m_prices m_trades m_fills m_welfares m_orderEntry m_orderFill m_orders m_blockEntry m_blockFill m_blocks m_price m_trade m_filled m_rest m_out) 0 0 (K103 m_price m_trade m_filled m_rest x2)) → ∀ (n : Nat) (m_price : Nat → Int32) (m_trade : Nat → Int32) (m_filled : Nat → Int32) (m_rest : Nat → Int64) (x2 : Int32) (x3 : Int32) (x4 : Int32) (x5 : Int32), mz_A g M_m_fits (mz_rm 3) (fun r => (0, some (.int r.1), ex, (hT, HM m_thrown m_n m_collateral m_many m_need m_isBlock m_hours m_side m_quantity m_limit m_sent m_sealed m_rounds m_liar m_told m_passed m_vectors m_meters m_cleared m_prices m_trades m_fills m_welfares m_orderEntry m_orderFill m_orders m_blockEntry m_blockFill m_blocks r.2.1 r.2.2.1 r.2.2.2.1 r.2.2.2.2 m_out), 0, 0)) 124 [(0, .ref 54), (1, .int x1), (2, .int x2), (3, .int x3), (4, .int x4), (5, .int x5)] [] ex (hT, HM m_thrown m_n m_collateral m_many m_need m_isBlock m_hours m_side m_quantity m_limit m_sent m_sealed m_rounds m_liar m_told m_passed m_vectors m_meters m_cleared m_prices m_trades m_fills m_welfares m_orderEntry m_orderFill m_orders m_blockEntry m_blockFill m_blocks m_price m_trade m_filled m_rest m_out) 0 0 (f_m_fits_L124 m_hours m_side m_quantity m_limit m_orderEntry m_orders m_blockEntry m_blocks x1 K103 n m_price m_trade m_filled m_rest x2 x3 x4 x5) := by
    intro K103 hK103
    intro n
    induction n with
    | zero => intro m_price m_trade m_filled m_rest x2 x3 x4 x5; exact mr_none
    | succ n ih =>
      intro m_price m_trade m_filled m_rest x2 x3 x4 x5
      rw [f_m_fits_L124]
      refine mr_iload d_m_fits_124 rfl ?_
      refine mr_iconst (v := 3) d_m_fits_126 mc_iconst_3 ?_
      refine mr_icmp_ge (tgt := 173) d_m_fits_127 (by decide) ?_ ?_
      · refine mr_aload_n d_m_fits_173 rfl rfl ?_
        refine mr_get K_m 7 d_m_fits_174 lk_f_m_27 (by decide) rfl rfl ?_
        refine mr_iload_n d_m_fits_177 rfl rfl ?_
        refine mr_iald d_m_fits_178 rfl (fun hc8 => ?_)
        refine mr_iconst (v := 1) d_m_fits_179 mc_iconst_1 ?_
        refine mr_icmp_ne (tgt := 196) d_m_fits_180 (by decide) ?_ ?_
        · refine mr_iload d_m_fits_196 rfl ?_
          refine mr_if_le (tgt := 205) d_m_fits_198 (by decide) ?_ ?_
          · refine mr_iconst (v := 0) d_m_fits_205 mc_iconst_0 ?_
            refine mr_sub (lv' := [(0, .ref 54), (1, .int x1), (2, .int x2)]) [0, 1, 2] rfl ?_
            exact w_b206 _ hK103 _ _ _ _ _ _
          · refine mr_iconst (v := 1) d_m_fits_201 mc_iconst_1 ?_
            refine mr_goto (tgt := 206) d_m_fits_202 (by decide) ?_
            refine mr_sub (lv' := [(0, .ref 54), (1, .int x1), (2, .int x2)]) [0, 1, 2] rfl ?_
            exact w_b206 _ hK103 _ _ _ _ _ _
        · refine mr_iload d_m_fits_183 rfl ?_
          refine mr_if_ge (tgt := 192) d_m_fits_185 (by decide) ?_ ?_
          · refine mr_iconst (v := 0) d_m_fits_192 mc_iconst_0 ?_
            refine mr_goto (tgt := 206) d_m_fits_193 (by decide) ?_
            refine mr_sub (lv' := [(0, .ref 54), (1, .int x1), (2, .int x2)]) [0, 1, 2] rfl ?_
            exact w_b206 _ hK103 _ _ _ _ _ _
          · refine mr_iconst (v := 1) d_m_fits_188 mc_iconst_1 ?_
            refine mr_goto (tgt := 206) d_m_fits_189 (by decide) ?_
            refine mr_sub (lv' := [(0, .ref 54), (1, .int x1), (2, .int x2)]) [0, 1, 2] rfl ?_
            exact w_b206 _ hK103 _ _ _ _ _ _
      · refine mr_iload d_m_fits_130 rfl ?_
        refine mr_aload_n d_m_fits_132 rfl rfl ?_
        refine mr_get K_m 6 d_m_fits_133 lk_f_m_24 (by decide) rfl rfl ?_
        refine mr_iload_n d_m_fits_136 rfl rfl ?_
        refine mr_iald d_m_fits_137 rfl (fun hc9 => ?_)
        refine mr_iload d_m_fits_138 rfl ?_
        refine mz_go (st := [.int x4]) e_m_covers (fun _ => rfl) U_m_covers (mz_vS d_m_fits_140 U_m_covers lk_m_m_178 S_m_covers np_m_covers) (Nat.le_of_ble_eq_true rfl) (by decide) (fun r10 => ?_)
        refine mr_eq (st' := [.int r10, .int x4]) (ex' := ex) (h2 := (hT, HM m_thrown m_n m_collateral m_many m_need m_isBlock m_hours m_side m_quantity m_limit m_sent m_sealed m_rounds m_liar m_told m_passed m_vectors m_meters m_cleared m_prices m_trades m_fills m_welfares m_orderEntry m_orderFill m_orders m_blockEntry m_blockFill m_blocks m_price m_trade m_filled m_rest m_out)) (k' := 0) (n' := 0) rfl rfl rfl rfl rfl ?_
        refine mr_if_eq (tgt := 163) d_m_fits_143 (by decide) ?_ ?_
        · refine mr_iconst (v := 0) d_m_fits_163 mc_iconst_0 ?_
          refine mr_iadd d_m_fits_164 ?_
          refine mr_istore (lv' := [(4, .int (x4 + 0)), (0, .ref 54), (1, .int x1), (2, .int x2), (3, .int x3), (5, .int x5)]) d_m_fits_165 (by decide) rfl ?_
          refine mr_iinc (v := (x5 + 1)) (lv' := [(5, .int (x5 + 1)), (4, .int (x4 + 0)), (0, .ref 54), (1, .int x1), (2, .int x2), (3, .int x3)]) d_m_fits_167 rfl rfl (by decide) rfl ?_
          refine mr_goto (tgt := 124) d_m_fits_170 (by decide) ?_
          refine mr_sub (lv' := [(0, .ref 54), (1, .int x1), (2, .int x2), (3, .int x3), (4, .int (x4 + 0)), (5, .int (x5 + 1))]) [2, 3, 4, 5, 1, 0] rfl ?_
          exact ih _ _ _ _ _ _ _ _
        · refine mr_aload_n d_m_fits_146 rfl rfl ?_
          refine mr_get K_m 29 d_m_fits_147 lk_f_m_85 (by decide) rfl rfl ?_
          refine mr_iload d_m_fits_150 rfl ?_
          refine mr_iald d_m_fits_152 rfl (fun hc11 => ?_)
          refine mr_aload_n d_m_fits_153 rfl rfl ?_
          refine mr_get K_m 9 d_m_fits_154 lk_f_m_33 (by decide) rfl rfl ?_
          refine mr_iload_n d_m_fits_157 rfl rfl ?_
          refine mr_ialdK d_m_fits_158 rfl hc9 ?_
          refine mr_isub d_m_fits_159 ?_
          refine mr_goto (tgt := 164) d_m_fits_160 (by decide) ?_
          refine mr_iadd d_m_fits_164 ?_
          refine mr_istore (lv' := [(4, .int (x4 + ((m_price x5.toNatClampNeg) - (m_limit x3.toNatClampNeg)))), (0, .ref 54), (1, .int x1), (2, .int x2), (3, .int x3), (5, .int x5)]) d_m_fits_165 (by decide) rfl ?_
          refine mr_iinc (v := (x5 + 1)) (lv' := [(5, .int (x5 + 1)), (4, .int (x4 + ((m_price x5.toNatClampNeg) - (m_limit x3.toNatClampNeg)))), (0, .ref 54), (1, .int x1), (2, .int x2), (3, .int x3)]) d_m_fits_167 rfl rfl (by decide) rfl ?_
          refine mr_goto (tgt := 124) d_m_fits_170 (by decide) ?_
          refine mr_sub (lv' := [(0, .ref 54), (1, .int x1), (2, .int x2), (3, .int x3), (4, .int (x4 + ((m_price x5.toNatClampNeg) - (m_limit x3.toNatClampNeg)))), (5, .int (x5 + 1))]) [2, 3, 4, 5, 1, 0] rfl ?_
          exact ih _ _ _ _ _ _ _ _
  have w_L232 : ∀ (n : Nat) (m_price : Nat → Int32) (m_trade : Nat → Int32) (m_filled : Nat → Int32) (m_rest : Nat → Int64) (x2 : Int32), mz_A g M_m_fits (mz_rm 3) (fun r => (0, some (.int r.1), ex, (hT, HM m_thrown m_n m_collateral m_many m_need m_isBlock m_hours m_side m_quantity m_limit m_sent m_sealed m_rounds m_liar m_told m_passed m_vectors m_meters m_cleared m_prices m_trades m_fills m_welfares m_orderEntry m_orderFill m_orders m_blockEntry m_blockFill m_blocks r.2.1 r.2.2.1 r.2.2.2.1 r.2.2.2.2 m_out), 0, 0)) 232 [(0, .ref 54), (1, .int x1), (2, .int x2)] [] ex (hT, HM m_thrown m_n m_collateral m_many m_need m_isBlock m_hours m_side m_quantity m_limit m_sent m_sealed m_rounds m_liar m_told m_passed m_vectors m_meters m_cleared m_prices m_trades m_fills m_welfares m_orderEntry m_orderFill m_orders m_blockEntry m_blockFill m_blocks m_price m_trade m_filled m_rest m_out) 0 0 (f_m_fits_L232 m_hours m_side m_quantity m_limit m_orderEntry m_orders m_blockEntry m_blocks x1 n m_price m_trade m_filled m_rest x2) := by
    intro n
    induction n with
    | zero => intro m_price m_trade m_filled m_rest x2; exact mr_none
    | succ n ih =>
      intro m_price m_trade m_filled m_rest x2
      rw [f_m_fits_L232]
      refine mr_iload_n d_m_fits_232 rfl rfl ?_
      refine mr_iconst (v := 3) d_m_fits_233 mc_iconst_3 ?_
      refine mr_icmp_ge (tgt := 257) d_m_fits_234 (by decide) ?_ ?_
      · refine mr_iconst (v := 1) d_m_fits_257 mc_iconst_1 ?_
        exact mr_zret d_m_fits_258 rfl rfl
      · refine mr_aload_n d_m_fits_237 rfl rfl ?_
        refine mr_iload_n d_m_fits_238 rfl rfl ?_
        refine mr_iload_n d_m_fits_239 rfl rfl ?_
        refine mr_iconst (v := 0) d_m_fits_240 mc_iconst_0 ?_
        refine mz_go (st := []) e_m_share (fun _ => rfl) U_m_share (mz_vV d_m_fits_241 U_m_share rfl lk_m_m_196 I_m_share s_m_share np_m_share rfl rfl) (Nat.le_of_ble_eq_true rfl) (by decide) (fun r12 => ?_)
        refine mr_eq (st' := []) (ex' := ex) (h2 := (hT, HM m_thrown m_n m_collateral m_many m_need m_isBlock m_hours m_side m_quantity m_limit m_sent m_sealed m_rounds m_liar m_told m_passed m_vectors m_meters m_cleared m_prices m_trades m_fills m_welfares m_orderEntry m_orderFill m_orders m_blockEntry m_blockFill m_blocks m_price m_trade r12.1 r12.2 m_out)) (k' := 0) (n' := 0) rfl rfl rfl rfl rfl ?_
        refine mr_aload_n d_m_fits_244 rfl rfl ?_
        refine mr_iload_n d_m_fits_245 rfl rfl ?_
        refine mr_iload_n d_m_fits_246 rfl rfl ?_
        refine mr_iconst (v := 1) d_m_fits_247 mc_iconst_1 ?_
        refine mz_go (st := []) e_m_share (fun _ => rfl) U_m_share (mz_vV d_m_fits_248 U_m_share rfl lk_m_m_196 I_m_share s_m_share np_m_share rfl rfl) (Nat.le_of_ble_eq_true rfl) (by decide) (fun r13 => ?_)
        refine mr_eq (st' := []) (ex' := ex) (h2 := (hT, HM m_thrown m_n m_collateral m_many m_need m_isBlock m_hours m_side m_quantity m_limit m_sent m_sealed m_rounds m_liar m_told m_passed m_vectors m_meters m_cleared m_prices m_trades m_fills m_welfares m_orderEntry m_orderFill m_orders m_blockEntry m_blockFill m_blocks m_price m_trade r13.1 r13.2 m_out)) (k' := 0) (n' := 0) rfl rfl rfl rfl rfl ?_
        refine mr_iinc (v := (x2 + 1)) (lv' := [(2, .int (x2 + 1)), (0, .ref 54), (1, .int x1)]) d_m_fits_251 rfl rfl (by decide) rfl ?_
        refine mr_goto (tgt := 232) d_m_fits_254 (by decide) ?_
        refine mr_sub (lv' := [(0, .ref 54), (1, .int x1), (2, .int (x2 + 1))]) [1, 2, 0] rfl ?_
        exact ih _ _ _ _ _
  have w_L103 : ∀ (n : Nat) (m_price : Nat → Int32) (m_trade : Nat → Int32) (m_filled : Nat → Int32) (m_rest : Nat → Int64) (x2 : Int32), mz_A g M_m_fits (mz_rm 3) (fun r => (0, some (.int r.1), ex, (hT, HM m_thrown m_n m_collateral m_many m_need m_isBlock m_hours m_side m_quantity m_limit m_sent m_sealed m_rounds m_liar m_told m_passed m_vectors m_meters m_cleared m_prices m_trades m_fills m_welfares m_orderEntry m_orderFill m_orders m_blockEntry m_blockFill m_blocks r.2.1 r.2.2.1 r.2.2.2.1 r.2.2.2.2 m_out), 0, 0)) 103 [(0, .ref 54), (1, .int x1), (2, .int x2)] [] ex (hT, HM m_thrown m_n m_collateral m_many m_need m_isBlock m_hours m_side m_quantity m_limit m_sent m_sealed m_rounds m_liar m_told m_passed m_vectors m_meters m_cleared m_prices m_trades m_fills m_welfares m_orderEntry m_orderFill m_orders m_blockEntry m_blockFill m_blocks m_price m_trade m_filled m_rest m_out) 0 0 (f_m_fits_L103 m_hours m_side m_quantity m_limit m_orderEntry m_orders m_blockEntry m_blocks x1 n m_price m_trade m_filled m_rest x2) := by
    intro n
    induction n with
    | zero => intro m_price m_trade m_filled m_rest x2; exact mr_none
    | succ n ih =>
      intro m_price m_trade m_filled m_rest x2
      rw [f_m_fits_L103]
      refine mr_iload_n d_m_fits_103 rfl rfl ?_
      refine mr_aload_n d_m_fits_104 rfl rfl ?_
      refine mr_get K_m 28 d_m_fits_105 lk_f_m_175 (by decide) rfl rfl ?_
      refine mr_icmp_ge (tgt := 230) d_m_fits_108 (by decide) ?_ ?_
      · refine mr_iconst (v := 0) d_m_fits_230 mc_iconst_0 ?_
        refine mr_istore_n (lv' := [(2, .int 0), (0, .ref 54), (1, .int x1)]) d_m_fits_231 rfl (by decide) rfl ?_
        refine mr_sub (lv' := [(0, .ref 54), (1, .int x1), (2, .int 0)]) [1, 2, 0] rfl ?_
        exact w_L232 1000 _ _ _ _ _
      · refine mr_aload_n d_m_fits_111 rfl rfl ?_
        refine mr_get K_m 26 d_m_fits_112 lk_f_m_79 (by decide) rfl rfl ?_
        refine mr_iload_n d_m_fits_115 rfl rfl ?_
        refine mr_iald d_m_fits_116 rfl (fun hc7 => ?_)
        refine mr_istore_n (lv' := [(3, .int (m_blockEntry x2.toNatClampNeg)), (0, .ref 54), (1, .int x1), (2, .int x2)]) d_m_fits_117 rfl (by decide) rfl ?_
        refine mr_iconst (v := 0) d_m_fits_118 mc_iconst_0 ?_
        refine mr_istore (lv' := [(4, .int 0), (3, .int (m_blockEntry x2.toNatClampNeg)), (0, .ref 54), (1, .int x1), (2, .int x2)]) d_m_fits_119 (by decide) rfl ?_
        refine mr_iconst (v := 0) d_m_fits_121 mc_iconst_0 ?_
        refine mr_istore (lv' := [(5, .int 0), (4, .int 0), (3, .int (m_blockEntry x2.toNatClampNeg)), (0, .ref 54), (1, .int x1), (2, .int x2)]) d_m_fits_122 (by decide) rfl ?_
        refine mr_sub (lv' := [(0, .ref 54), (1, .int x1), (2, .int x2), (3, .int (m_blockEntry x2.toNatClampNeg)), (4, .int 0), (5, .int 0)]) [3, 4, 5, 2, 1, 0] rfl ?_
        exact w_L124 _ ih 1000 _ _ _ _ _ _ _ _
  have w_L2 : ∀ (n : Nat) (m_price : Nat → Int32) (m_trade : Nat → Int32) (m_filled : Nat → Int32) (m_rest : Nat → Int64) (x2 : Int32), mz_A g M_m_fits (mz_rm 3) (fun r => (0, some (.int r.1), ex, (hT, HM m_thrown m_n m_collateral m_many m_need m_isBlock m_hours m_side m_quantity m_limit m_sent m_sealed m_rounds m_liar m_told m_passed m_vectors m_meters m_cleared m_prices m_trades m_fills m_welfares m_orderEntry m_orderFill m_orders m_blockEntry m_blockFill m_blocks r.2.1 r.2.2.1 r.2.2.2.1 r.2.2.2.2 m_out), 0, 0)) 2 [(0, .ref 54), (1, .int x1), (2, .int x2)] [] ex (hT, HM m_thrown m_n m_collateral m_many m_need m_isBlock m_hours m_side m_quantity m_limit m_sent m_sealed m_rounds m_liar m_told m_passed m_vectors m_meters m_cleared m_prices m_trades m_fills m_welfares m_orderEntry m_orderFill m_orders m_blockEntry m_blockFill m_blocks m_price m_trade m_filled m_rest m_out) 0 0 (f_m_fits_L2 m_hours m_side m_quantity m_limit m_orderEntry m_orders m_blockEntry m_blocks x1 n m_price m_trade m_filled m_rest x2) := by
    intro n
    induction n with
    | zero => intro m_price m_trade m_filled m_rest x2; exact mr_none
    | succ n ih =>
      intro m_price m_trade m_filled m_rest x2
      rw [f_m_fits_L2]
      refine mr_iload_n d_m_fits_2 rfl rfl ?_
      refine mr_iconst (v := 3) d_m_fits_3 mc_iconst_3 ?_
      refine mr_icmp_ge (tgt := 101) d_m_fits_4 (by decide) ?_ ?_
      · refine mr_iconst (v := 0) d_m_fits_101 mc_iconst_0 ?_
        refine mr_istore_n (lv' := [(2, .int 0), (0, .ref 54), (1, .int x1)]) d_m_fits_102 rfl (by decide) rfl ?_
        refine mr_sub (lv' := [(0, .ref 54), (1, .int x1), (2, .int 0)]) [1, 2, 0] rfl ?_
        exact w_L103 1000 _ _ _ _ _
      · refine mr_aload_n d_m_fits_7 rfl rfl ?_
        refine mr_iload_n d_m_fits_8 rfl rfl ?_
        refine mr_iload_n d_m_fits_9 rfl rfl ?_
        refine mz_go (st := []) e_m_least (fun _ => rfl) U_m_least (mz_vV d_m_fits_10 U_m_least rfl lk_m_m_187 I_m_least s_m_least np_m_least rfl rfl) (Nat.le_of_ble_eq_true rfl) (by decide) (fun r1 => ?_)
        refine mr_eq (st' := [.int r1]) (ex' := ex) (h2 := (hT, HM m_thrown m_n m_collateral m_many m_need m_isBlock m_hours m_side m_quantity m_limit m_sent m_sealed m_rounds m_liar m_told m_passed m_vectors m_meters m_cleared m_prices m_trades m_fills m_welfares m_orderEntry m_orderFill m_orders m_blockEntry m_blockFill m_blocks m_price m_trade m_filled m_rest m_out)) (k' := 0) (n' := 0) rfl rfl rfl rfl rfl ?_
        refine mr_istore_n (lv' := [(3, .int r1), (0, .ref 54), (1, .int x1), (2, .int x2)]) d_m_fits_13 rfl (by decide) rfl ?_
        refine mr_aload_n d_m_fits_14 rfl rfl ?_
        refine mr_iload_n d_m_fits_15 rfl rfl ?_
        refine mr_iload_n d_m_fits_16 rfl rfl ?_
        refine mz_go (st := []) e_m_greatest (fun _ => rfl) U_m_greatest (mz_vV d_m_fits_17 U_m_greatest rfl lk_m_m_190 I_m_greatest s_m_greatest np_m_greatest rfl rfl) (Nat.le_of_ble_eq_true rfl) (by decide) (fun r2 => ?_)
        refine mr_eq (st' := [.int r2]) (ex' := ex) (h2 := (hT, HM m_thrown m_n m_collateral m_many m_need m_isBlock m_hours m_side m_quantity m_limit m_sent m_sealed m_rounds m_liar m_told m_passed m_vectors m_meters m_cleared m_prices m_trades m_fills m_welfares m_orderEntry m_orderFill m_orders m_blockEntry m_blockFill m_blocks m_price m_trade m_filled m_rest m_out)) (k' := 0) (n' := 0) rfl rfl rfl rfl rfl ?_
        refine mr_istore (lv' := [(4, .int r2), (3, .int r1), (0, .ref 54), (1, .int x1), (2, .int x2)]) d_m_fits_20 (by decide) rfl ?_
        refine mr_iload_n d_m_fits_22 rfl rfl ?_
        refine mr_iload d_m_fits_23 rfl ?_
        refine mr_icmp_le (tgt := 30) d_m_fits_25 (by decide) ?_ ?_
        · refine mr_aload_n d_m_fits_30 rfl rfl ?_
          refine mr_get K_m 29 d_m_fits_31 lk_f_m_85 (by decide) rfl rfl ?_
          refine mr_iload_n d_m_fits_34 rfl rfl ?_
          refine mr_iload_n d_m_fits_35 rfl rfl ?_
          refine mr_iload d_m_fits_36 rfl ?_
          refine mr_iadd d_m_fits_38 ?_
          refine mz_go (st := [.int x2, .ref 78]) e_m_floorHalf (fun _ => rfl) U_m_floorHalf (mz_vS d_m_fits_39 U_m_floorHalf lk_m_m_193 S_m_floorHalf np_m_floorHalf) (Nat.le_of_ble_eq_true rfl) (by decide) (fun r3 => ?_)
          refine mr_eq (st' := [.int r3, .int x2, .ref 78]) (ex' := ex) (h2 := (hT, HM m_thrown m_n m_collateral m_many m_need m_isBlock m_hours m_side m_quantity m_limit m_sent m_sealed m_rounds m_liar m_told m_passed m_vectors m_meters m_cleared m_prices m_trades m_fills m_welfares m_orderEntry m_orderFill m_orders m_blockEntry m_blockFill m_blocks m_price m_trade m_filled m_rest m_out)) (k' := 0) (n' := 0) rfl rfl rfl rfl rfl ?_
          refine mr_iast (h2 := (hT, HM m_thrown m_n m_collateral m_many m_need m_isBlock m_hours m_side m_quantity m_limit m_sent m_sealed m_rounds m_liar m_told m_passed m_vectors m_meters m_cleared m_prices m_trades m_fills m_welfares m_orderEntry m_orderFill m_orders m_blockEntry m_blockFill m_blocks (upd m_price x2.toNatClampNeg r3) m_trade m_filled m_rest m_out)) d_m_fits_42 rfl rfl (fun hc4 => ?_)
          refine mr_aload_n d_m_fits_43 rfl rfl ?_
          refine mr_iload_n d_m_fits_44 rfl rfl ?_
          refine mr_iload_n d_m_fits_45 rfl rfl ?_
          refine mr_aload_n d_m_fits_46 rfl rfl ?_
          refine mr_get K_m 29 d_m_fits_47 lk_f_m_85 (by decide) rfl rfl ?_
          refine mr_iload_n d_m_fits_50 rfl rfl ?_
          refine mr_ialdK d_m_fits_51 rfl hc4 ?_
          refine mr_iconst (v := 0) d_m_fits_52 mc_iconst_0 ?_
          refine mr_iconst (v := 1) d_m_fits_53 mc_iconst_1 ?_
          refine mz_go (st := []) e_m_volume (fun _ => rfl) U_m_volume (mz_vV d_m_fits_54 U_m_volume rfl lk_m_m_182 I_m_volume s_m_volume np_m_volume rfl rfl) (Nat.le_of_ble_eq_true rfl) (by decide) (fun r5 => ?_)
          refine mr_eq (st' := [.int r5]) (ex' := ex) (h2 := (hT, HM m_thrown m_n m_collateral m_many m_need m_isBlock m_hours m_side m_quantity m_limit m_sent m_sealed m_rounds m_liar m_told m_passed m_vectors m_meters m_cleared m_prices m_trades m_fills m_welfares m_orderEntry m_orderFill m_orders m_blockEntry m_blockFill m_blocks (upd m_price x2.toNatClampNeg r3) m_trade m_filled m_rest m_out)) (k' := 0) (n' := 0) rfl rfl rfl rfl rfl ?_
          refine mr_istore (lv' := [(5, .int r5), (4, .int r2), (3, .int r1), (0, .ref 54), (1, .int x1), (2, .int x2)]) d_m_fits_57 (by decide) rfl ?_
          refine mr_aload_n d_m_fits_59 rfl rfl ?_
          refine mr_iload_n d_m_fits_60 rfl rfl ?_
          refine mr_iload_n d_m_fits_61 rfl rfl ?_
          refine mr_aload_n d_m_fits_62 rfl rfl ?_
          refine mr_get K_m 29 d_m_fits_63 lk_f_m_85 (by decide) rfl rfl ?_
          refine mr_iload_n d_m_fits_66 rfl rfl ?_
          refine mr_ialdK d_m_fits_67 rfl hc4 ?_
          refine mr_iconst (v := 1) d_m_fits_68 mc_iconst_1 ?_
          refine mr_iconst (v := 1) d_m_fits_69 mc_iconst_1 ?_
          refine mz_go (st := []) e_m_volume (fun _ => rfl) U_m_volume (mz_vV d_m_fits_70 U_m_volume rfl lk_m_m_182 I_m_volume s_m_volume np_m_volume rfl rfl) (Nat.le_of_ble_eq_true rfl) (by decide) (fun r6 => ?_)
          refine mr_eq (st' := [.int r6]) (ex' := ex) (h2 := (hT, HM m_thrown m_n m_collateral m_many m_need m_isBlock m_hours m_side m_quantity m_limit m_sent m_sealed m_rounds m_liar m_told m_passed m_vectors m_meters m_cleared m_prices m_trades m_fills m_welfares m_orderEntry m_orderFill m_orders m_blockEntry m_blockFill m_blocks (upd m_price x2.toNatClampNeg r3) m_trade m_filled m_rest m_out)) (k' := 0) (n' := 0) rfl rfl rfl rfl rfl ?_
          refine mr_istore (lv' := [(6, .int r6), (5, .int r5), (4, .int r2), (3, .int r1), (0, .ref 54), (1, .int x1), (2, .int x2)]) d_m_fits_73 (by decide) rfl ?_
          refine mr_aload_n d_m_fits_75 rfl rfl ?_
          refine mr_get K_m 30 d_m_fits_76 lk_f_m_88 (by decide) rfl rfl ?_
          refine mr_iload_n d_m_fits_79 rfl rfl ?_
          refine mr_iload d_m_fits_80 rfl ?_
          refine mr_iload d_m_fits_82 rfl ?_
          refine mr_icmp_ge (tgt := 92) d_m_fits_84 (by decide) ?_ ?_
          · refine mr_iload d_m_fits_92 rfl ?_
            refine mr_iastK (h2 := (hT, HM m_thrown m_n m_collateral m_many m_need m_isBlock m_hours m_side m_quantity m_limit m_sent m_sealed m_rounds m_liar m_told m_passed m_vectors m_meters m_cleared m_prices m_trades m_fills m_welfares m_orderEntry m_orderFill m_orders m_blockEntry m_blockFill m_blocks (upd m_price x2.toNatClampNeg r3) (upd m_trade x2.toNatClampNeg r6) m_filled m_rest m_out)) d_m_fits_94 rfl rfl hc4 ?_
            refine mr_iinc (v := (x2 + 1)) (lv' := [(2, .int (x2 + 1)), (6, .int r6), (5, .int r5), (4, .int r2), (3, .int r1), (0, .ref 54), (1, .int x1)]) d_m_fits_95 rfl rfl (by decide) rfl ?_
            refine mr_goto (tgt := 2) d_m_fits_98 (by decide) ?_
            refine mr_sub (lv' := [(0, .ref 54), (1, .int x1), (2, .int (x2 + 1))]) [5, 6, 0] rfl ?_
            exact ih _ _ _ _ _
          · refine mr_iload d_m_fits_87 rfl ?_
            refine mr_goto (tgt := 94) d_m_fits_89 (by decide) ?_
            refine mr_iastK (h2 := (hT, HM m_thrown m_n m_collateral m_many m_need m_isBlock m_hours m_side m_quantity m_limit m_sent m_sealed m_rounds m_liar m_told m_passed m_vectors m_meters m_cleared m_prices m_trades m_fills m_welfares m_orderEntry m_orderFill m_orders m_blockEntry m_blockFill m_blocks (upd m_price x2.toNatClampNeg r3) (upd m_trade x2.toNatClampNeg r5) m_filled m_rest m_out)) d_m_fits_94 rfl rfl hc4 ?_
            refine mr_iinc (v := (x2 + 1)) (lv' := [(2, .int (x2 + 1)), (6, .int r6), (5, .int r5), (4, .int r2), (3, .int r1), (0, .ref 54), (1, .int x1)]) d_m_fits_95 rfl rfl (by decide) rfl ?_
            refine mr_goto (tgt := 2) d_m_fits_98 (by decide) ?_
            refine mr_sub (lv' := [(0, .ref 54), (1, .int x1), (2, .int (x2 + 1))]) [5, 6, 0] rfl ?_
            exact ih _ _ _ _ _
        · refine mr_iconst (v := 0) d_m_fits_28 mc_iconst_0 ?_
          exact mr_zret d_m_fits_29 rfl rfl
  refine mz_of (by decide) (Nat.le_of_ble_eq_true rfl) ?_
  rw [f_m_fits]
  show mz_A g M_m_fits (mz_rm 3) _ 0 [(0, .ref 54), (1, .int x1)] [] ex (hT, HM m_thrown m_n m_collateral m_many m_need m_isBlock m_hours m_side m_quantity m_limit m_sent m_sealed m_rounds m_liar m_told m_passed m_vectors m_meters m_cleared m_prices m_trades m_fills m_welfares m_orderEntry m_orderFill m_orders m_blockEntry m_blockFill m_blocks m_price m_trade m_filled m_rest m_out) 0 0 _
  refine mr_iconst (v := 0) d_m_fits_0 mc_iconst_0 ?_
  refine mr_istore_n (lv' := [(2, .int 0), (0, .ref 54), (1, .int x1)]) d_m_fits_1 rfl (by decide) rfl ?_
  refine mr_sub (lv' := [(0, .ref 54), (1, .int x1), (2, .int 0)]) [1, 2, 0] rfl ?_
  exact w_L2 1000 _ _ _ _ _
set_option maxRecDepth 100000 in
set_option maxHeartbeats 4000000 in
theorem e_m_welfareOf {g : mz_G} {ex : Bool} {hT : List mz_E} {m_thrown : Int32} {m_n : Int32} {m_collateral : Nat → Int32} {m_many : Nat → Int32} {m_need : Nat → Int64} {m_isBlock : Nat → Int32} {m_hours : Nat → Int32} {m_side : Nat → Int32} {m_quantity : Nat → Int32} {m_limit : Nat → Int32} {m_sent : Nat → Int32} {m_sealed : Nat → Int32} {m_rounds : Int32} {m_liar : Int32} {m_told : Nat → Int32} {m_passed : Nat → Int32} {m_vectors : Nat → Int32} {m_meters : Nat → Int32} {m_cleared : Nat → Int32} {m_prices : Nat → Int32} {m_trades : Nat → Int32} {m_fills : Nat → Int32} {m_welfares : Nat → Int64} {m_orderEntry : Nat → Int32} {m_orderFill : Nat → Int32} {m_orders : Int32} {m_blockEntry : Nat → Int32} {m_blockFill : Nat → Int32} {m_blocks : Int32} {m_price : Nat → Int32} {m_trade : Nat → Int32} {m_filled : Nat → Int32} {m_rest : Nat → Int64} {m_out : Nat → Int64} {x1 : Int32} : mz_M g M_m_welfareOf 0 [.ref 54, .int x1] ex (hT, HM m_thrown m_n m_collateral m_many m_need m_isBlock m_hours m_side m_quantity m_limit m_sent m_sealed m_rounds m_liar m_told m_passed m_vectors m_meters m_cleared m_prices m_trades m_fills m_welfares m_orderEntry m_orderFill m_orders m_blockEntry m_blockFill m_blocks m_price m_trade m_filled m_rest m_out) (f_m_welfareOf m_hours m_side m_quantity m_limit m_orderEntry m_orders m_blockEntry m_blocks m_filled x1) (fun r => (0, some (.long r), ex, (hT, HM m_thrown m_n m_collateral m_many m_need m_isBlock m_hours m_side m_quantity m_limit m_sent m_sealed m_rounds m_liar m_told m_passed m_vectors m_meters m_cleared m_prices m_trades m_fills m_welfares m_orderEntry m_orderFill m_orders m_blockEntry m_blockFill m_blocks m_price m_trade m_filled m_rest m_out), 0, 0)) := by
  have w_L72 : ∀ (n : Nat) (x2 : Int64) (x4 : Int32), mz_A g M_m_welfareOf (mz_rm 0) (fun r => (0, some (.long r), ex, (hT, HM m_thrown m_n m_collateral m_many m_need m_isBlock m_hours m_side m_quantity m_limit m_sent m_sealed m_rounds m_liar m_told m_passed m_vectors m_meters m_cleared m_prices m_trades m_fills m_welfares m_orderEntry m_orderFill m_orders m_blockEntry m_blockFill m_blocks m_price m_trade m_filled m_rest m_out), 0, 0)) 72 [(0, .ref 54), (1, .int x1), (2, .long x2), (4, .int x4)] [] ex (hT, HM m_thrown m_n m_collateral m_many m_need m_isBlock m_hours m_side m_quantity m_limit m_sent m_sealed m_rounds m_liar m_told m_passed m_vectors m_meters m_cleared m_prices m_trades m_fills m_welfares m_orderEntry m_orderFill m_orders m_blockEntry m_blockFill m_blocks m_price m_trade m_filled m_rest m_out) 0 0 (f_m_welfareOf_L72 m_hours m_side m_quantity m_limit m_orderEntry m_orders m_blockEntry m_blocks m_filled x1 n x2 x4) := by
    intro n
    induction n with
    | zero => intro x2 x4; exact mr_none
    | succ n ih =>
      intro x2 x4
      rw [f_m_welfareOf_L72]
      refine mr_iload d_m_welfareOf_72 rfl ?_
      refine mr_aload_n d_m_welfareOf_74 rfl rfl ?_
      refine mr_get K_m 28 d_m_welfareOf_75 lk_f_m_175 (by decide) rfl rfl ?_
      refine mr_icmp_ge (tgt := 172) d_m_welfareOf_78 (by decide) ?_ ?_
      · refine mr_lload_n d_m_welfareOf_172 rfl rfl ?_
        exact mr_lret d_m_welfareOf_173 rfl rfl
      · refine mr_aload_n d_m_welfareOf_81 rfl rfl ?_
        refine mr_get K_m 26 d_m_welfareOf_82 lk_f_m_79 (by decide) rfl rfl ?_
        refine mr_iload d_m_welfareOf_85 rfl ?_
        refine mr_iald d_m_welfareOf_87 rfl (fun hc3 => ?_)
        refine mr_istore (lv' := [(5, .int (m_blockEntry x4.toNatClampNeg)), (0, .ref 54), (1, .int x1), (2, .long x2), (4, .int x4)]) d_m_welfareOf_88 (by decide) rfl ?_
        refine mr_aload_n d_m_welfareOf_90 rfl rfl ?_
        refine mr_get K_m 8 d_m_welfareOf_91 lk_f_m_30 (by decide) rfl rfl ?_
        refine mr_iload d_m_welfareOf_94 rfl ?_
        refine mr_iald d_m_welfareOf_96 rfl (fun hc4 => ?_)
        refine mr_i2l d_m_welfareOf_97 ?_
        refine mr_aload_n d_m_welfareOf_98 rfl rfl ?_
        refine mr_get K_m 9 d_m_welfareOf_99 lk_f_m_33 (by decide) rfl rfl ?_
        refine mr_iload d_m_welfareOf_102 rfl ?_
        refine mr_ialdK d_m_welfareOf_104 rfl hc4 ?_
        refine mr_i2l d_m_welfareOf_105 ?_
        refine mr_lmul d_m_welfareOf_106 ?_
        refine mr_aload_n d_m_welfareOf_107 rfl rfl ?_
        refine mr_get K_m 6 d_m_welfareOf_108 lk_f_m_24 (by decide) rfl rfl ?_
        refine mr_iload d_m_welfareOf_111 rfl ?_
        refine mr_ialdK d_m_welfareOf_113 rfl hc4 ?_
        refine mr_iconst (v := 4) d_m_welfareOf_114 mc_iconst_4 ?_
        refine mr_iremK d_m_welfareOf_115 (by decide) ?_
        refine mr_aload_n d_m_welfareOf_116 rfl rfl ?_
        refine mr_get K_m 6 d_m_welfareOf_117 lk_f_m_24 (by decide) rfl rfl ?_
        refine mr_iload d_m_welfareOf_120 rfl ?_
        refine mr_ialdK d_m_welfareOf_122 rfl hc4 ?_
        refine mr_iconst (v := 4) d_m_welfareOf_123 mc_iconst_4 ?_
        refine mr_idivK d_m_welfareOf_124 (by decide) ?_
        refine mr_isub d_m_welfareOf_125 ?_
        refine mr_iconst (v := 1) d_m_welfareOf_126 mc_iconst_1 ?_
        refine mr_iadd d_m_welfareOf_127 ?_
        refine mr_i2l d_m_welfareOf_128 ?_
        refine mr_lmul d_m_welfareOf_129 ?_
        refine mr_lstore (lv' := [(6, .long (((Int32.toInt64 (m_quantity (m_blockEntry x4.toNatClampNeg).toNatClampNeg)) * (Int32.toInt64 (m_limit (m_blockEntry x4.toNatClampNeg).toNatClampNeg))) * (Int32.toInt64 ((((m_hours (m_blockEntry x4.toNatClampNeg).toNatClampNeg) - (m_hours (m_blockEntry x4.toNatClampNeg).toNatClampNeg) / 4 * 4) - ((m_hours (m_blockEntry x4.toNatClampNeg).toNatClampNeg) / 4)) + 1)))), (5, .int (m_blockEntry x4.toNatClampNeg)), (0, .ref 54), (1, .int x1), (2, .long x2), (4, .int x4)]) d_m_welfareOf_130 (by decide) rfl ?_
        refine mr_lload_n d_m_welfareOf_132 rfl rfl ?_
        refine mr_iload_n d_m_welfareOf_133 rfl rfl ?_
        refine mr_iload d_m_welfareOf_134 rfl ?_
        refine mr_ishr d_m_welfareOf_136 ?_
        refine mr_iconst (v := 1) d_m_welfareOf_137 mc_iconst_1 ?_
        refine mr_iand d_m_welfareOf_138 ?_
        refine mr_if_ne (tgt := 146) d_m_welfareOf_139 (by decide) ?_ ?_
        · refine mr_aload_n d_m_welfareOf_146 rfl rfl ?_
          refine mr_get K_m 7 d_m_welfareOf_147 lk_f_m_27 (by decide) rfl rfl ?_
          refine mr_iload d_m_welfareOf_150 rfl ?_
          refine mr_ialdK d_m_welfareOf_152 rfl hc4 ?_
          refine mr_if_ne (tgt := 161) d_m_welfareOf_153 (by decide) ?_ ?_
          · refine mr_lload d_m_welfareOf_161 rfl ?_
            refine mr_lneg d_m_welfareOf_163 ?_
            refine mr_ladd d_m_welfareOf_164 ?_
            refine mr_lstore_n (lv' := [(2, .long (x2 + (-(((Int32.toInt64 (m_quantity (m_blockEntry x4.toNatClampNeg).toNatClampNeg)) * (Int32.toInt64 (m_limit (m_blockEntry x4.toNatClampNeg).toNatClampNeg))) * (Int32.toInt64 ((((m_hours (m_blockEntry x4.toNatClampNeg).toNatClampNeg) - (m_hours (m_blockEntry x4.toNatClampNeg).toNatClampNeg) / 4 * 4) - ((m_hours (m_blockEntry x4.toNatClampNeg).toNatClampNeg) / 4)) + 1)))))), (6, .long (((Int32.toInt64 (m_quantity (m_blockEntry x4.toNatClampNeg).toNatClampNeg)) * (Int32.toInt64 (m_limit (m_blockEntry x4.toNatClampNeg).toNatClampNeg))) * (Int32.toInt64 ((((m_hours (m_blockEntry x4.toNatClampNeg).toNatClampNeg) - (m_hours (m_blockEntry x4.toNatClampNeg).toNatClampNeg) / 4 * 4) - ((m_hours (m_blockEntry x4.toNatClampNeg).toNatClampNeg) / 4)) + 1)))), (5, .int (m_blockEntry x4.toNatClampNeg)), (0, .ref 54), (1, .int x1), (4, .int x4)]) d_m_welfareOf_165 rfl (by decide) rfl ?_
            refine mr_iinc (v := (x4 + 1)) (lv' := [(4, .int (x4 + 1)), (2, .long (x2 + (-(((Int32.toInt64 (m_quantity (m_blockEntry x4.toNatClampNeg).toNatClampNeg)) * (Int32.toInt64 (m_limit (m_blockEntry x4.toNatClampNeg).toNatClampNeg))) * (Int32.toInt64 ((((m_hours (m_blockEntry x4.toNatClampNeg).toNatClampNeg) - (m_hours (m_blockEntry x4.toNatClampNeg).toNatClampNeg) / 4 * 4) - ((m_hours (m_blockEntry x4.toNatClampNeg).toNatClampNeg) / 4)) + 1)))))), (6, .long (((Int32.toInt64 (m_quantity (m_blockEntry x4.toNatClampNeg).toNatClampNeg)) * (Int32.toInt64 (m_limit (m_blockEntry x4.toNatClampNeg).toNatClampNeg))) * (Int32.toInt64 ((((m_hours (m_blockEntry x4.toNatClampNeg).toNatClampNeg) - (m_hours (m_blockEntry x4.toNatClampNeg).toNatClampNeg) / 4 * 4) - ((m_hours (m_blockEntry x4.toNatClampNeg).toNatClampNeg) / 4)) + 1)))), (5, .int (m_blockEntry x4.toNatClampNeg)), (0, .ref 54), (1, .int x1)]) d_m_welfareOf_166 rfl rfl (by decide) rfl ?_
            refine mr_goto (tgt := 72) d_m_welfareOf_169 (by decide) ?_
            refine mr_sub (lv' := [(0, .ref 54), (1, .int x1), (2, .long (x2 + (-(((Int32.toInt64 (m_quantity (m_blockEntry x4.toNatClampNeg).toNatClampNeg)) * (Int32.toInt64 (m_limit (m_blockEntry x4.toNatClampNeg).toNatClampNeg))) * (Int32.toInt64 ((((m_hours (m_blockEntry x4.toNatClampNeg).toNatClampNeg) - (m_hours (m_blockEntry x4.toNatClampNeg).toNatClampNeg) / 4 * 4) - ((m_hours (m_blockEntry x4.toNatClampNeg).toNatClampNeg) / 4)) + 1)))))), (4, .int (x4 + 1))]) [4, 5, 1, 0] rfl ?_
            exact ih _ _
          · refine mr_lload d_m_welfareOf_156 rfl ?_
            refine mr_goto (tgt := 164) d_m_welfareOf_158 (by decide) ?_
            refine mr_ladd d_m_welfareOf_164 ?_
            refine mr_lstore_n (lv' := [(2, .long (x2 + (((Int32.toInt64 (m_quantity (m_blockEntry x4.toNatClampNeg).toNatClampNeg)) * (Int32.toInt64 (m_limit (m_blockEntry x4.toNatClampNeg).toNatClampNeg))) * (Int32.toInt64 ((((m_hours (m_blockEntry x4.toNatClampNeg).toNatClampNeg) - (m_hours (m_blockEntry x4.toNatClampNeg).toNatClampNeg) / 4 * 4) - ((m_hours (m_blockEntry x4.toNatClampNeg).toNatClampNeg) / 4)) + 1))))), (6, .long (((Int32.toInt64 (m_quantity (m_blockEntry x4.toNatClampNeg).toNatClampNeg)) * (Int32.toInt64 (m_limit (m_blockEntry x4.toNatClampNeg).toNatClampNeg))) * (Int32.toInt64 ((((m_hours (m_blockEntry x4.toNatClampNeg).toNatClampNeg) - (m_hours (m_blockEntry x4.toNatClampNeg).toNatClampNeg) / 4 * 4) - ((m_hours (m_blockEntry x4.toNatClampNeg).toNatClampNeg) / 4)) + 1)))), (5, .int (m_blockEntry x4.toNatClampNeg)), (0, .ref 54), (1, .int x1), (4, .int x4)]) d_m_welfareOf_165 rfl (by decide) rfl ?_
            refine mr_iinc (v := (x4 + 1)) (lv' := [(4, .int (x4 + 1)), (2, .long (x2 + (((Int32.toInt64 (m_quantity (m_blockEntry x4.toNatClampNeg).toNatClampNeg)) * (Int32.toInt64 (m_limit (m_blockEntry x4.toNatClampNeg).toNatClampNeg))) * (Int32.toInt64 ((((m_hours (m_blockEntry x4.toNatClampNeg).toNatClampNeg) - (m_hours (m_blockEntry x4.toNatClampNeg).toNatClampNeg) / 4 * 4) - ((m_hours (m_blockEntry x4.toNatClampNeg).toNatClampNeg) / 4)) + 1))))), (6, .long (((Int32.toInt64 (m_quantity (m_blockEntry x4.toNatClampNeg).toNatClampNeg)) * (Int32.toInt64 (m_limit (m_blockEntry x4.toNatClampNeg).toNatClampNeg))) * (Int32.toInt64 ((((m_hours (m_blockEntry x4.toNatClampNeg).toNatClampNeg) - (m_hours (m_blockEntry x4.toNatClampNeg).toNatClampNeg) / 4 * 4) - ((m_hours (m_blockEntry x4.toNatClampNeg).toNatClampNeg) / 4)) + 1)))), (5, .int (m_blockEntry x4.toNatClampNeg)), (0, .ref 54), (1, .int x1)]) d_m_welfareOf_166 rfl rfl (by decide) rfl ?_
            refine mr_goto (tgt := 72) d_m_welfareOf_169 (by decide) ?_
            refine mr_sub (lv' := [(0, .ref 54), (1, .int x1), (2, .long (x2 + (((Int32.toInt64 (m_quantity (m_blockEntry x4.toNatClampNeg).toNatClampNeg)) * (Int32.toInt64 (m_limit (m_blockEntry x4.toNatClampNeg).toNatClampNeg))) * (Int32.toInt64 ((((m_hours (m_blockEntry x4.toNatClampNeg).toNatClampNeg) - (m_hours (m_blockEntry x4.toNatClampNeg).toNatClampNeg) / 4 * 4) - ((m_hours (m_blockEntry x4.toNatClampNeg).toNatClampNeg) / 4)) + 1))))), (4, .int (x4 + 1))]) [4, 5, 1, 0] rfl ?_
            exact ih _ _
        · refine mr_lconst (v := 0) d_m_welfareOf_142 mc_lconst_0 ?_
          refine mr_goto (tgt := 164) d_m_welfareOf_143 (by decide) ?_
          refine mr_ladd d_m_welfareOf_164 ?_
          refine mr_lstore_n (lv' := [(2, .long (x2 + 0)), (6, .long (((Int32.toInt64 (m_quantity (m_blockEntry x4.toNatClampNeg).toNatClampNeg)) * (Int32.toInt64 (m_limit (m_blockEntry x4.toNatClampNeg).toNatClampNeg))) * (Int32.toInt64 ((((m_hours (m_blockEntry x4.toNatClampNeg).toNatClampNeg) - (m_hours (m_blockEntry x4.toNatClampNeg).toNatClampNeg) / 4 * 4) - ((m_hours (m_blockEntry x4.toNatClampNeg).toNatClampNeg) / 4)) + 1)))), (5, .int (m_blockEntry x4.toNatClampNeg)), (0, .ref 54), (1, .int x1), (4, .int x4)]) d_m_welfareOf_165 rfl (by decide) rfl ?_
          refine mr_iinc (v := (x4 + 1)) (lv' := [(4, .int (x4 + 1)), (2, .long (x2 + 0)), (6, .long (((Int32.toInt64 (m_quantity (m_blockEntry x4.toNatClampNeg).toNatClampNeg)) * (Int32.toInt64 (m_limit (m_blockEntry x4.toNatClampNeg).toNatClampNeg))) * (Int32.toInt64 ((((m_hours (m_blockEntry x4.toNatClampNeg).toNatClampNeg) - (m_hours (m_blockEntry x4.toNatClampNeg).toNatClampNeg) / 4 * 4) - ((m_hours (m_blockEntry x4.toNatClampNeg).toNatClampNeg) / 4)) + 1)))), (5, .int (m_blockEntry x4.toNatClampNeg)), (0, .ref 54), (1, .int x1)]) d_m_welfareOf_166 rfl rfl (by decide) rfl ?_
          refine mr_goto (tgt := 72) d_m_welfareOf_169 (by decide) ?_
          refine mr_sub (lv' := [(0, .ref 54), (1, .int x1), (2, .long (x2 + 0)), (4, .int (x4 + 1))]) [4, 5, 1, 0] rfl ?_
          exact ih _ _
  have w_L5 : ∀ (n : Nat) (x2 : Int64) (x4 : Int32), mz_A g M_m_welfareOf (mz_rm 0) (fun r => (0, some (.long r), ex, (hT, HM m_thrown m_n m_collateral m_many m_need m_isBlock m_hours m_side m_quantity m_limit m_sent m_sealed m_rounds m_liar m_told m_passed m_vectors m_meters m_cleared m_prices m_trades m_fills m_welfares m_orderEntry m_orderFill m_orders m_blockEntry m_blockFill m_blocks m_price m_trade m_filled m_rest m_out), 0, 0)) 5 [(0, .ref 54), (1, .int x1), (2, .long x2), (4, .int x4)] [] ex (hT, HM m_thrown m_n m_collateral m_many m_need m_isBlock m_hours m_side m_quantity m_limit m_sent m_sealed m_rounds m_liar m_told m_passed m_vectors m_meters m_cleared m_prices m_trades m_fills m_welfares m_orderEntry m_orderFill m_orders m_blockEntry m_blockFill m_blocks m_price m_trade m_filled m_rest m_out) 0 0 (f_m_welfareOf_L5 m_hours m_side m_quantity m_limit m_orderEntry m_orders m_blockEntry m_blocks m_filled x1 n x2 x4) := by
    intro n
    induction n with
    | zero => intro x2 x4; exact mr_none
    | succ n ih =>
      intro x2 x4
      rw [f_m_welfareOf_L5]
      refine mr_iload d_m_welfareOf_5 rfl ?_
      refine mr_aload_n d_m_welfareOf_7 rfl rfl ?_
      refine mr_get K_m 25 d_m_welfareOf_8 lk_f_m_172 (by decide) rfl rfl ?_
      refine mr_icmp_ge (tgt := 69) d_m_welfareOf_11 (by decide) ?_ ?_
      · refine mr_iconst (v := 0) d_m_welfareOf_69 mc_iconst_0 ?_
        refine mr_istore (lv' := [(4, .int 0), (0, .ref 54), (1, .int x1), (2, .long x2)]) d_m_welfareOf_70 (by decide) rfl ?_
        refine mr_sub (lv' := [(0, .ref 54), (1, .int x1), (2, .long x2), (4, .int 0)]) [1, 2, 3, 0] rfl ?_
        exact w_L72 1000 _ _
      · refine mr_aload_n d_m_welfareOf_14 rfl rfl ?_
        refine mr_get K_m 23 d_m_welfareOf_15 lk_f_m_73 (by decide) rfl rfl ?_
        refine mr_iload d_m_welfareOf_18 rfl ?_
        refine mr_iald d_m_welfareOf_20 rfl (fun hc1 => ?_)
        refine mr_istore (lv' := [(5, .int (m_orderEntry x4.toNatClampNeg)), (0, .ref 54), (1, .int x1), (2, .long x2), (4, .int x4)]) d_m_welfareOf_21 (by decide) rfl ?_
        refine mr_aload_n d_m_welfareOf_23 rfl rfl ?_
        refine mr_get K_m 31 d_m_welfareOf_24 lk_f_m_91 (by decide) rfl rfl ?_
        refine mr_iload d_m_welfareOf_27 rfl ?_
        refine mr_ialdK d_m_welfareOf_29 rfl hc1 ?_
        refine mr_i2l d_m_welfareOf_30 ?_
        refine mr_aload_n d_m_welfareOf_31 rfl rfl ?_
        refine mr_get K_m 9 d_m_welfareOf_32 lk_f_m_33 (by decide) rfl rfl ?_
        refine mr_iload d_m_welfareOf_35 rfl ?_
        refine mr_iald d_m_welfareOf_37 rfl (fun hc2 => ?_)
        refine mr_i2l d_m_welfareOf_38 ?_
        refine mr_lmul d_m_welfareOf_39 ?_
        refine mr_lstore (lv' := [(6, .long ((Int32.toInt64 (m_filled x4.toNatClampNeg)) * (Int32.toInt64 (m_limit (m_orderEntry x4.toNatClampNeg).toNatClampNeg)))), (5, .int (m_orderEntry x4.toNatClampNeg)), (0, .ref 54), (1, .int x1), (2, .long x2), (4, .int x4)]) d_m_welfareOf_40 (by decide) rfl ?_
        refine mr_lload_n d_m_welfareOf_42 rfl rfl ?_
        refine mr_aload_n d_m_welfareOf_43 rfl rfl ?_
        refine mr_get K_m 7 d_m_welfareOf_44 lk_f_m_27 (by decide) rfl rfl ?_
        refine mr_iload d_m_welfareOf_47 rfl ?_
        refine mr_ialdK d_m_welfareOf_49 rfl hc2 ?_
        refine mr_if_ne (tgt := 58) d_m_welfareOf_50 (by decide) ?_ ?_
        · refine mr_lload d_m_welfareOf_58 rfl ?_
          refine mr_lneg d_m_welfareOf_60 ?_
          refine mr_ladd d_m_welfareOf_61 ?_
          refine mr_lstore_n (lv' := [(2, .long (x2 + (-((Int32.toInt64 (m_filled x4.toNatClampNeg)) * (Int32.toInt64 (m_limit (m_orderEntry x4.toNatClampNeg).toNatClampNeg)))))), (6, .long ((Int32.toInt64 (m_filled x4.toNatClampNeg)) * (Int32.toInt64 (m_limit (m_orderEntry x4.toNatClampNeg).toNatClampNeg)))), (5, .int (m_orderEntry x4.toNatClampNeg)), (0, .ref 54), (1, .int x1), (4, .int x4)]) d_m_welfareOf_62 rfl (by decide) rfl ?_
          refine mr_iinc (v := (x4 + 1)) (lv' := [(4, .int (x4 + 1)), (2, .long (x2 + (-((Int32.toInt64 (m_filled x4.toNatClampNeg)) * (Int32.toInt64 (m_limit (m_orderEntry x4.toNatClampNeg).toNatClampNeg)))))), (6, .long ((Int32.toInt64 (m_filled x4.toNatClampNeg)) * (Int32.toInt64 (m_limit (m_orderEntry x4.toNatClampNeg).toNatClampNeg)))), (5, .int (m_orderEntry x4.toNatClampNeg)), (0, .ref 54), (1, .int x1)]) d_m_welfareOf_63 rfl rfl (by decide) rfl ?_
          refine mr_goto (tgt := 5) d_m_welfareOf_66 (by decide) ?_
          refine mr_sub (lv' := [(0, .ref 54), (1, .int x1), (2, .long (x2 + (-((Int32.toInt64 (m_filled x4.toNatClampNeg)) * (Int32.toInt64 (m_limit (m_orderEntry x4.toNatClampNeg).toNatClampNeg)))))), (4, .int (x4 + 1))]) [4, 5, 1, 0] rfl ?_
          exact ih _ _
        · refine mr_lload d_m_welfareOf_53 rfl ?_
          refine mr_goto (tgt := 61) d_m_welfareOf_55 (by decide) ?_
          refine mr_ladd d_m_welfareOf_61 ?_
          refine mr_lstore_n (lv' := [(2, .long (x2 + ((Int32.toInt64 (m_filled x4.toNatClampNeg)) * (Int32.toInt64 (m_limit (m_orderEntry x4.toNatClampNeg).toNatClampNeg))))), (6, .long ((Int32.toInt64 (m_filled x4.toNatClampNeg)) * (Int32.toInt64 (m_limit (m_orderEntry x4.toNatClampNeg).toNatClampNeg)))), (5, .int (m_orderEntry x4.toNatClampNeg)), (0, .ref 54), (1, .int x1), (4, .int x4)]) d_m_welfareOf_62 rfl (by decide) rfl ?_
          refine mr_iinc (v := (x4 + 1)) (lv' := [(4, .int (x4 + 1)), (2, .long (x2 + ((Int32.toInt64 (m_filled x4.toNatClampNeg)) * (Int32.toInt64 (m_limit (m_orderEntry x4.toNatClampNeg).toNatClampNeg))))), (6, .long ((Int32.toInt64 (m_filled x4.toNatClampNeg)) * (Int32.toInt64 (m_limit (m_orderEntry x4.toNatClampNeg).toNatClampNeg)))), (5, .int (m_orderEntry x4.toNatClampNeg)), (0, .ref 54), (1, .int x1)]) d_m_welfareOf_63 rfl rfl (by decide) rfl ?_
          refine mr_goto (tgt := 5) d_m_welfareOf_66 (by decide) ?_
          refine mr_sub (lv' := [(0, .ref 54), (1, .int x1), (2, .long (x2 + ((Int32.toInt64 (m_filled x4.toNatClampNeg)) * (Int32.toInt64 (m_limit (m_orderEntry x4.toNatClampNeg).toNatClampNeg))))), (4, .int (x4 + 1))]) [4, 5, 1, 0] rfl ?_
          exact ih _ _
  refine mz_of (by decide) (Nat.le_of_ble_eq_true rfl) ?_
  rw [f_m_welfareOf]
  show mz_A g M_m_welfareOf (mz_rm 0) _ 0 [(0, .ref 54), (1, .int x1)] [] ex (hT, HM m_thrown m_n m_collateral m_many m_need m_isBlock m_hours m_side m_quantity m_limit m_sent m_sealed m_rounds m_liar m_told m_passed m_vectors m_meters m_cleared m_prices m_trades m_fills m_welfares m_orderEntry m_orderFill m_orders m_blockEntry m_blockFill m_blocks m_price m_trade m_filled m_rest m_out) 0 0 _
  refine mr_lconst (v := 0) d_m_welfareOf_0 mc_lconst_0 ?_
  refine mr_lstore_n (lv' := [(2, .long 0), (0, .ref 54), (1, .int x1)]) d_m_welfareOf_1 rfl (by decide) rfl ?_
  refine mr_iconst (v := 0) d_m_welfareOf_2 mc_iconst_0 ?_
  refine mr_istore (lv' := [(4, .int 0), (2, .long 0), (0, .ref 54), (1, .int x1)]) d_m_welfareOf_3 (by decide) rfl ?_
  refine mr_sub (lv' := [(0, .ref 54), (1, .int x1), (2, .long 0), (4, .int 0)]) [2, 3, 1, 0] rfl ?_
  exact w_L5 1000 _ _
set_option maxRecDepth 100000 in
set_option maxHeartbeats 4000000 in
theorem e_m_clear {g : mz_G} {ex : Bool} {hT : List mz_E} {m_thrown : Int32} {m_n : Int32} {m_collateral : Nat → Int32} {m_many : Nat → Int32} {m_need : Nat → Int64} {m_isBlock : Nat → Int32} {m_hours : Nat → Int32} {m_side : Nat → Int32} {m_quantity : Nat → Int32} {m_limit : Nat → Int32} {m_sent : Nat → Int32} {m_sealed : Nat → Int32} {m_rounds : Int32} {m_liar : Int32} {m_told : Nat → Int32} {m_passed : Nat → Int32} {m_vectors : Nat → Int32} {m_meters : Nat → Int32} {m_cleared : Nat → Int32} {m_prices : Nat → Int32} {m_trades : Nat → Int32} {m_fills : Nat → Int32} {m_welfares : Nat → Int64} {m_orderEntry : Nat → Int32} {m_orderFill : Nat → Int32} {m_orders : Int32} {m_blockEntry : Nat → Int32} {m_blockFill : Nat → Int32} {m_blocks : Int32} {m_price : Nat → Int32} {m_trade : Nat → Int32} {m_filled : Nat → Int32} {m_rest : Nat → Int64} {m_out : Nat → Int64} {x1 : Int32} : mz_M g M_m_clear 4 [.ref 54, .int x1] ex (hT, HM m_thrown m_n m_collateral m_many m_need m_isBlock m_hours m_side m_quantity m_limit m_sent m_sealed m_rounds m_liar m_told m_passed m_vectors m_meters m_cleared m_prices m_trades m_fills m_welfares m_orderEntry m_orderFill m_orders m_blockEntry m_blockFill m_blocks m_price m_trade m_filled m_rest m_out) (f_m_clear m_thrown m_n m_many m_isBlock m_hours m_side m_quantity m_limit m_rounds m_vectors m_cleared m_prices m_trades m_fills m_welfares m_orderEntry m_orderFill m_orders m_blockEntry m_blockFill m_blocks m_price m_trade m_filled m_rest x1) (fun r => (0, some (.int r.1), ex, (hT, HM r.2.1 m_n m_collateral m_many m_need m_isBlock m_hours m_side m_quantity m_limit m_sent m_sealed m_rounds m_liar m_told m_passed m_vectors m_meters r.2.2.1 r.2.2.2.1 r.2.2.2.2.1 r.2.2.2.2.2.1 r.2.2.2.2.2.2.1 r.2.2.2.2.2.2.2.1 r.2.2.2.2.2.2.2.2.1 r.2.2.2.2.2.2.2.2.2.1 r.2.2.2.2.2.2.2.2.2.2.1 r.2.2.2.2.2.2.2.2.2.2.2.1 r.2.2.2.2.2.2.2.2.2.2.2.2.1 r.2.2.2.2.2.2.2.2.2.2.2.2.2.1 r.2.2.2.2.2.2.2.2.2.2.2.2.2.2.1 r.2.2.2.2.2.2.2.2.2.2.2.2.2.2.2.1 r.2.2.2.2.2.2.2.2.2.2.2.2.2.2.2.2 m_out), 0, 0)) := by
  have w_L252 : ∀ (n : Nat) (m_thrown : Int32) (m_cleared : Nat → Int32) (m_prices : Nat → Int32) (m_trades : Nat → Int32) (m_fills : Nat → Int32) (m_welfares : Nat → Int64) (m_orderEntry : Nat → Int32) (m_orderFill : Nat → Int32) (m_orders : Int32) (m_blockEntry : Nat → Int32) (m_blockFill : Nat → Int32) (m_blocks : Int32) (m_price : Nat → Int32) (m_trade : Nat → Int32) (m_filled : Nat → Int32) (m_rest : Nat → Int64) (x3 : Int32) (x6 : Int32), mz_A g M_m_clear (mz_rm 4) (fun r => (0, some (.int r.1), ex, (hT, HM r.2.1 m_n m_collateral m_many m_need m_isBlock m_hours m_side m_quantity m_limit m_sent m_sealed m_rounds m_liar m_told m_passed m_vectors m_meters r.2.2.1 r.2.2.2.1 r.2.2.2.2.1 r.2.2.2.2.2.1 r.2.2.2.2.2.2.1 r.2.2.2.2.2.2.2.1 r.2.2.2.2.2.2.2.2.1 r.2.2.2.2.2.2.2.2.2.1 r.2.2.2.2.2.2.2.2.2.2.1 r.2.2.2.2.2.2.2.2.2.2.2.1 r.2.2.2.2.2.2.2.2.2.2.2.2.1 r.2.2.2.2.2.2.2.2.2.2.2.2.2.1 r.2.2.2.2.2.2.2.2.2.2.2.2.2.2.1 r.2.2.2.2.2.2.2.2.2.2.2.2.2.2.2.1 r.2.2.2.2.2.2.2.2.2.2.2.2.2.2.2.2 m_out), 0, 0)) 252 [(0, .ref 54), (3, .int x3), (6, .int x6)] [] ex (hT, HM m_thrown m_n m_collateral m_many m_need m_isBlock m_hours m_side m_quantity m_limit m_sent m_sealed m_rounds m_liar m_told m_passed m_vectors m_meters m_cleared m_prices m_trades m_fills m_welfares m_orderEntry m_orderFill m_orders m_blockEntry m_blockFill m_blocks m_price m_trade m_filled m_rest m_out) 0 0 (f_m_clear_L252 m_n m_many m_isBlock m_hours m_side m_quantity m_limit m_rounds m_vectors n m_thrown m_cleared m_prices m_trades m_fills m_welfares m_orderEntry m_orderFill m_orders m_blockEntry m_blockFill m_blocks m_price m_trade m_filled m_rest x3 x6) := by
    intro n
    induction n with
    | zero => intro m_thrown m_cleared m_prices m_trades m_fills m_welfares m_orderEntry m_orderFill m_orders m_blockEntry m_blockFill m_blocks m_price m_trade m_filled m_rest x3 x6; exact mr_none
    | succ n ih =>
      intro m_thrown m_cleared m_prices m_trades m_fills m_welfares m_orderEntry m_orderFill m_orders m_blockEntry m_blockFill m_blocks m_price m_trade m_filled m_rest x3 x6
      rw [f_m_clear_L252]
      refine mr_iload d_m_clear_252 rfl ?_
      refine mr_aload_n d_m_clear_254 rfl rfl ?_
      refine mr_get K_m 28 d_m_clear_255 lk_f_m_175 (by decide) rfl rfl ?_
      refine mr_icmp_ge (tgt := 305) d_m_clear_258 (by decide) ?_ ?_
      · refine mr_iload_n d_m_clear_305 rfl rfl ?_
        exact mr_iret d_m_clear_306 rfl rfl
      · refine mr_aload_n d_m_clear_261 rfl rfl ?_
        refine mr_get K_m 21 d_m_clear_262 lk_f_m_67 (by decide) rfl rfl ?_
        refine mr_aload_n d_m_clear_265 rfl rfl ?_
        refine mr_get K_m 27 d_m_clear_266 lk_f_m_82 (by decide) rfl rfl ?_
        refine mr_iload d_m_clear_269 rfl ?_
        refine mr_iald d_m_clear_271 rfl (fun hc13 => ?_)
        refine mr_iload_n d_m_clear_272 rfl rfl ?_
        refine mr_iload d_m_clear_273 rfl ?_
        refine mr_ishr d_m_clear_275 ?_
        refine mr_iconst (v := 1) d_m_clear_276 mc_iconst_1 ?_
        refine mr_iand d_m_clear_277 ?_
        refine mr_iconst (v := 1) d_m_clear_278 mc_iconst_1 ?_
        refine mr_icmp_ne (tgt := 297) d_m_clear_279 (by decide) ?_ ?_
        · refine mr_iconst (v := 0) d_m_clear_297 mc_iconst_0 ?_
          refine mr_iast (h2 := (hT, HM m_thrown m_n m_collateral m_many m_need m_isBlock m_hours m_side m_quantity m_limit m_sent m_sealed m_rounds m_liar m_told m_passed m_vectors m_meters m_cleared m_prices m_trades (upd m_fills (m_blockFill x6.toNatClampNeg).toNatClampNeg 0) m_welfares m_orderEntry m_orderFill m_orders m_blockEntry m_blockFill m_blocks m_price m_trade m_filled m_rest m_out)) d_m_clear_298 rfl rfl (fun hc14 => ?_)
          refine mr_iinc (v := (x6 + 1)) (lv' := [(6, .int (x6 + 1)), (0, .ref 54), (3, .int x3)]) d_m_clear_299 rfl rfl (by decide) rfl ?_
          refine mr_goto (tgt := 252) d_m_clear_302 (by decide) ?_
          refine mr_sub (lv' := [(0, .ref 54), (3, .int x3), (6, .int (x6 + 1))]) [1, 2, 0] rfl ?_
          exact ih _ _ _ _ _ _ _ _ _ _ _ _ _ _ _ _ _ _
        · refine mr_aload_n d_m_clear_282 rfl rfl ?_
          refine mr_get K_m 8 d_m_clear_283 lk_f_m_30 (by decide) rfl rfl ?_
          refine mr_aload_n d_m_clear_286 rfl rfl ?_
          refine mr_get K_m 26 d_m_clear_287 lk_f_m_79 (by decide) rfl rfl ?_
          refine mr_iload d_m_clear_290 rfl ?_
          refine mr_ialdK d_m_clear_292 rfl hc13 ?_
          refine mr_iald d_m_clear_293 rfl (fun hc15 => ?_)
          refine mr_goto (tgt := 298) d_m_clear_294 (by decide) ?_
          refine mr_iast (h2 := (hT, HM m_thrown m_n m_collateral m_many m_need m_isBlock m_hours m_side m_quantity m_limit m_sent m_sealed m_rounds m_liar m_told m_passed m_vectors m_meters m_cleared m_prices m_trades (upd m_fills (m_blockFill x6.toNatClampNeg).toNatClampNeg (m_quantity (m_blockEntry x6.toNatClampNeg).toNatClampNeg)) m_welfares m_orderEntry m_orderFill m_orders m_blockEntry m_blockFill m_blocks m_price m_trade m_filled m_rest m_out)) d_m_clear_298 rfl rfl (fun hc16 => ?_)
          refine mr_iinc (v := (x6 + 1)) (lv' := [(6, .int (x6 + 1)), (0, .ref 54), (3, .int x3)]) d_m_clear_299 rfl rfl (by decide) rfl ?_
          refine mr_goto (tgt := 252) d_m_clear_302 (by decide) ?_
          refine mr_sub (lv' := [(0, .ref 54), (3, .int x3), (6, .int (x6 + 1))]) [1, 2, 0] rfl ?_
          exact ih _ _ _ _ _ _ _ _ _ _ _ _ _ _ _ _ _ _
  have w_L215 : ∀ (n : Nat) (m_thrown : Int32) (m_cleared : Nat → Int32) (m_prices : Nat → Int32) (m_trades : Nat → Int32) (m_fills : Nat → Int32) (m_welfares : Nat → Int64) (m_orderEntry : Nat → Int32) (m_orderFill : Nat → Int32) (m_orders : Int32) (m_blockEntry : Nat → Int32) (m_blockFill : Nat → Int32) (m_blocks : Int32) (m_price : Nat → Int32) (m_trade : Nat → Int32) (m_filled : Nat → Int32) (m_rest : Nat → Int64) (x3 : Int32) (x6 : Int32), mz_A g M_m_clear (mz_rm 4) (fun r => (0, some (.int r.1), ex, (hT, HM r.2.1 m_n m_collateral m_many m_need m_isBlock m_hours m_side m_quantity m_limit m_sent m_sealed m_rounds m_liar m_told m_passed m_vectors m_meters r.2.2.1 r.2.2.2.1 r.2.2.2.2.1 r.2.2.2.2.2.1 r.2.2.2.2.2.2.1 r.2.2.2.2.2.2.2.1 r.2.2.2.2.2.2.2.2.1 r.2.2.2.2.2.2.2.2.2.1 r.2.2.2.2.2.2.2.2.2.2.1 r.2.2.2.2.2.2.2.2.2.2.2.1 r.2.2.2.2.2.2.2.2.2.2.2.2.1 r.2.2.2.2.2.2.2.2.2.2.2.2.2.1 r.2.2.2.2.2.2.2.2.2.2.2.2.2.2.1 r.2.2.2.2.2.2.2.2.2.2.2.2.2.2.2.1 r.2.2.2.2.2.2.2.2.2.2.2.2.2.2.2.2 m_out), 0, 0)) 215 [(0, .ref 54), (3, .int x3), (6, .int x6)] [] ex (hT, HM m_thrown m_n m_collateral m_many m_need m_isBlock m_hours m_side m_quantity m_limit m_sent m_sealed m_rounds m_liar m_told m_passed m_vectors m_meters m_cleared m_prices m_trades m_fills m_welfares m_orderEntry m_orderFill m_orders m_blockEntry m_blockFill m_blocks m_price m_trade m_filled m_rest m_out) 0 0 (f_m_clear_L215 m_n m_many m_isBlock m_hours m_side m_quantity m_limit m_rounds m_vectors n m_thrown m_cleared m_prices m_trades m_fills m_welfares m_orderEntry m_orderFill m_orders m_blockEntry m_blockFill m_blocks m_price m_trade m_filled m_rest x3 x6) := by
    intro n
    induction n with
    | zero => intro m_thrown m_cleared m_prices m_trades m_fills m_welfares m_orderEntry m_orderFill m_orders m_blockEntry m_blockFill m_blocks m_price m_trade m_filled m_rest x3 x6; exact mr_none
    | succ n ih =>
      intro m_thrown m_cleared m_prices m_trades m_fills m_welfares m_orderEntry m_orderFill m_orders m_blockEntry m_blockFill m_blocks m_price m_trade m_filled m_rest x3 x6
      rw [f_m_clear_L215]
      refine mr_iload d_m_clear_215 rfl ?_
      refine mr_aload_n d_m_clear_217 rfl rfl ?_
      refine mr_get K_m 25 d_m_clear_218 lk_f_m_172 (by decide) rfl rfl ?_
      refine mr_icmp_ge (tgt := 249) d_m_clear_221 (by decide) ?_ ?_
      · refine mr_iconst (v := 0) d_m_clear_249 mc_iconst_0 ?_
        refine mr_istore (lv' := [(6, .int 0), (0, .ref 54), (3, .int x3)]) d_m_clear_250 (by decide) rfl ?_
        refine mr_sub (lv' := [(0, .ref 54), (3, .int x3), (6, .int 0)]) [1, 2, 0] rfl ?_
        exact w_L252 1000 _ _ _ _ _ _ _ _ _ _ _ _ _ _ _ _ _ _
      · refine mr_aload_n d_m_clear_224 rfl rfl ?_
        refine mr_get K_m 21 d_m_clear_225 lk_f_m_67 (by decide) rfl rfl ?_
        refine mr_aload_n d_m_clear_228 rfl rfl ?_
        refine mr_get K_m 24 d_m_clear_229 lk_f_m_76 (by decide) rfl rfl ?_
        refine mr_iload d_m_clear_232 rfl ?_
        refine mr_iald d_m_clear_234 rfl (fun hc11 => ?_)
        refine mr_aload_n d_m_clear_235 rfl rfl ?_
        refine mr_get K_m 31 d_m_clear_236 lk_f_m_91 (by decide) rfl rfl ?_
        refine mr_iload d_m_clear_239 rfl ?_
        refine mr_ialdK d_m_clear_241 rfl hc11 ?_
        refine mr_iast (h2 := (hT, HM m_thrown m_n m_collateral m_many m_need m_isBlock m_hours m_side m_quantity m_limit m_sent m_sealed m_rounds m_liar m_told m_passed m_vectors m_meters m_cleared m_prices m_trades (upd m_fills (m_orderFill x6.toNatClampNeg).toNatClampNeg (m_filled x6.toNatClampNeg)) m_welfares m_orderEntry m_orderFill m_orders m_blockEntry m_blockFill m_blocks m_price m_trade m_filled m_rest m_out)) d_m_clear_242 rfl rfl (fun hc12 => ?_)
        refine mr_iinc (v := (x6 + 1)) (lv' := [(6, .int (x6 + 1)), (0, .ref 54), (3, .int x3)]) d_m_clear_243 rfl rfl (by decide) rfl ?_
        refine mr_goto (tgt := 215) d_m_clear_246 (by decide) ?_
        refine mr_sub (lv' := [(0, .ref 54), (3, .int x3), (6, .int (x6 + 1))]) [1, 2, 0] rfl ?_
        exact ih _ _ _ _ _ _ _ _ _ _ _ _ _ _ _ _ _ _
  have w_L186 : ∀ (n : Nat) (m_thrown : Int32) (m_cleared : Nat → Int32) (m_prices : Nat → Int32) (m_trades : Nat → Int32) (m_fills : Nat → Int32) (m_welfares : Nat → Int64) (m_orderEntry : Nat → Int32) (m_orderFill : Nat → Int32) (m_orders : Int32) (m_blockEntry : Nat → Int32) (m_blockFill : Nat → Int32) (m_blocks : Int32) (m_price : Nat → Int32) (m_trade : Nat → Int32) (m_filled : Nat → Int32) (m_rest : Nat → Int64) (x3 : Int32) (x6 : Int32), mz_A g M_m_clear (mz_rm 4) (fun r => (0, some (.int r.1), ex, (hT, HM r.2.1 m_n m_collateral m_many m_need m_isBlock m_hours m_side m_quantity m_limit m_sent m_sealed m_rounds m_liar m_told m_passed m_vectors m_meters r.2.2.1 r.2.2.2.1 r.2.2.2.2.1 r.2.2.2.2.2.1 r.2.2.2.2.2.2.1 r.2.2.2.2.2.2.2.1 r.2.2.2.2.2.2.2.2.1 r.2.2.2.2.2.2.2.2.2.1 r.2.2.2.2.2.2.2.2.2.2.1 r.2.2.2.2.2.2.2.2.2.2.2.1 r.2.2.2.2.2.2.2.2.2.2.2.2.1 r.2.2.2.2.2.2.2.2.2.2.2.2.2.1 r.2.2.2.2.2.2.2.2.2.2.2.2.2.2.1 r.2.2.2.2.2.2.2.2.2.2.2.2.2.2.2.1 r.2.2.2.2.2.2.2.2.2.2.2.2.2.2.2.2 m_out), 0, 0)) 186 [(0, .ref 54), (1, .int x1), (3, .int x3), (6, .int x6)] [] ex (hT, HM m_thrown m_n m_collateral m_many m_need m_isBlock m_hours m_side m_quantity m_limit m_sent m_sealed m_rounds m_liar m_told m_passed m_vectors m_meters m_cleared m_prices m_trades m_fills m_welfares m_orderEntry m_orderFill m_orders m_blockEntry m_blockFill m_blocks m_price m_trade m_filled m_rest m_out) 0 0 (f_m_clear_L186 m_n m_many m_isBlock m_hours m_side m_quantity m_limit m_rounds m_vectors x1 n m_thrown m_cleared m_prices m_trades m_fills m_welfares m_orderEntry m_orderFill m_orders m_blockEntry m_blockFill m_blocks m_price m_trade m_filled m_rest x3 x6) := by
    intro n
    induction n with
    | zero => intro m_thrown m_cleared m_prices m_trades m_fills m_welfares m_orderEntry m_orderFill m_orders m_blockEntry m_blockFill m_blocks m_price m_trade m_filled m_rest x3 x6; exact mr_none
    | succ n ih =>
      intro m_thrown m_cleared m_prices m_trades m_fills m_welfares m_orderEntry m_orderFill m_orders m_blockEntry m_blockFill m_blocks m_price m_trade m_filled m_rest x3 x6
      rw [f_m_clear_L186]
      refine mr_iload d_m_clear_186 rfl ?_
      refine mr_bipush (v := 60) d_m_clear_188 mc_bipush_60 ?_
      refine mr_icmp_ge (tgt := 212) d_m_clear_190 (by decide) ?_ ?_
      · refine mr_iconst (v := 0) d_m_clear_212 mc_iconst_0 ?_
        refine mr_istore (lv' := [(6, .int 0), (0, .ref 54), (1, .int x1), (3, .int x3)]) d_m_clear_213 (by decide) rfl ?_
        refine mr_sub (lv' := [(0, .ref 54), (3, .int x3), (6, .int 0)]) [1, 3, 0] rfl ?_
        exact w_L215 1000 _ _ _ _ _ _ _ _ _ _ _ _ _ _ _ _ _ _
      · refine mr_aload_n d_m_clear_193 rfl rfl ?_
        refine mr_get K_m 21 d_m_clear_194 lk_f_m_67 (by decide) rfl rfl ?_
        refine mr_bipush (v := 60) d_m_clear_197 mc_bipush_60 ?_
        refine mr_iload_n d_m_clear_199 rfl rfl ?_
        refine mr_imul d_m_clear_200 ?_
        refine mr_iload d_m_clear_201 rfl ?_
        refine mr_iadd d_m_clear_203 ?_
        refine mr_iconst (v := 0) d_m_clear_204 mc_iconst_0 ?_
        refine mr_iast (h2 := (hT, HM m_thrown m_n m_collateral m_many m_need m_isBlock m_hours m_side m_quantity m_limit m_sent m_sealed m_rounds m_liar m_told m_passed m_vectors m_meters m_cleared m_prices m_trades (upd m_fills ((60 * x1) + x6).toNatClampNeg 0) m_welfares m_orderEntry m_orderFill m_orders m_blockEntry m_blockFill m_blocks m_price m_trade m_filled m_rest m_out)) d_m_clear_205 rfl rfl (fun hc10 => ?_)
        refine mr_iinc (v := (x6 + 1)) (lv' := [(6, .int (x6 + 1)), (0, .ref 54), (1, .int x1), (3, .int x3)]) d_m_clear_206 rfl rfl (by decide) rfl ?_
        refine mr_goto (tgt := 186) d_m_clear_209 (by decide) ?_
        refine mr_sub (lv' := [(0, .ref 54), (1, .int x1), (3, .int x3), (6, .int (x6 + 1))]) [1, 2, 3, 0] rfl ?_
        exact ih _ _ _ _ _ _ _ _ _ _ _ _ _ _ _ _ _ _
  have w_L135 : ∀ (n : Nat) (m_thrown : Int32) (m_cleared : Nat → Int32) (m_prices : Nat → Int32) (m_trades : Nat → Int32) (m_fills : Nat → Int32) (m_welfares : Nat → Int64) (m_orderEntry : Nat → Int32) (m_orderFill : Nat → Int32) (m_orders : Int32) (m_blockEntry : Nat → Int32) (m_blockFill : Nat → Int32) (m_blocks : Int32) (m_price : Nat → Int32) (m_trade : Nat → Int32) (m_filled : Nat → Int32) (m_rest : Nat → Int64) (x3 : Int32) (x6 : Int32), mz_A g M_m_clear (mz_rm 4) (fun r => (0, some (.int r.1), ex, (hT, HM r.2.1 m_n m_collateral m_many m_need m_isBlock m_hours m_side m_quantity m_limit m_sent m_sealed m_rounds m_liar m_told m_passed m_vectors m_meters r.2.2.1 r.2.2.2.1 r.2.2.2.2.1 r.2.2.2.2.2.1 r.2.2.2.2.2.2.1 r.2.2.2.2.2.2.2.1 r.2.2.2.2.2.2.2.2.1 r.2.2.2.2.2.2.2.2.2.1 r.2.2.2.2.2.2.2.2.2.2.1 r.2.2.2.2.2.2.2.2.2.2.2.1 r.2.2.2.2.2.2.2.2.2.2.2.2.1 r.2.2.2.2.2.2.2.2.2.2.2.2.2.1 r.2.2.2.2.2.2.2.2.2.2.2.2.2.2.1 r.2.2.2.2.2.2.2.2.2.2.2.2.2.2.2.1 r.2.2.2.2.2.2.2.2.2.2.2.2.2.2.2.2 m_out), 0, 0)) 135 [(0, .ref 54), (1, .int x1), (3, .int x3), (6, .int x6)] [] ex (hT, HM m_thrown m_n m_collateral m_many m_need m_isBlock m_hours m_side m_quantity m_limit m_sent m_sealed m_rounds m_liar m_told m_passed m_vectors m_meters m_cleared m_prices m_trades m_fills m_welfares m_orderEntry m_orderFill m_orders m_blockEntry m_blockFill m_blocks m_price m_trade m_filled m_rest m_out) 0 0 (f_m_clear_L135 m_n m_many m_isBlock m_hours m_side m_quantity m_limit m_rounds m_vectors x1 n m_thrown m_cleared m_prices m_trades m_fills m_welfares m_orderEntry m_orderFill m_orders m_blockEntry m_blockFill m_blocks m_price m_trade m_filled m_rest x3 x6) := by
    intro n
    induction n with
    | zero => intro m_thrown m_cleared m_prices m_trades m_fills m_welfares m_orderEntry m_orderFill m_orders m_blockEntry m_blockFill m_blocks m_price m_trade m_filled m_rest x3 x6; exact mr_none
    | succ n ih =>
      intro m_thrown m_cleared m_prices m_trades m_fills m_welfares m_orderEntry m_orderFill m_orders m_blockEntry m_blockFill m_blocks m_price m_trade m_filled m_rest x3 x6
      rw [f_m_clear_L135]
      refine mr_iload d_m_clear_135 rfl ?_
      refine mr_iconst (v := 3) d_m_clear_137 mc_iconst_3 ?_
      refine mr_icmp_ge (tgt := 183) d_m_clear_138 (by decide) ?_ ?_
      · refine mr_iconst (v := 0) d_m_clear_183 mc_iconst_0 ?_
        refine mr_istore (lv' := [(6, .int 0), (0, .ref 54), (1, .int x1), (3, .int x3)]) d_m_clear_184 (by decide) rfl ?_
        refine mr_sub (lv' := [(0, .ref 54), (1, .int x1), (3, .int x3), (6, .int 0)]) [1, 2, 3, 0] rfl ?_
        exact w_L186 1000 _ _ _ _ _ _ _ _ _ _ _ _ _ _ _ _ _ _
      · refine mr_aload_n d_m_clear_141 rfl rfl ?_
        refine mr_get K_m 19 d_m_clear_142 lk_f_m_61 (by decide) rfl rfl ?_
        refine mr_iconst (v := 3) d_m_clear_145 mc_iconst_3 ?_
        refine mr_iload_n d_m_clear_146 rfl rfl ?_
        refine mr_imul d_m_clear_147 ?_
        refine mr_iload d_m_clear_148 rfl ?_
        refine mr_iadd d_m_clear_150 ?_
        refine mr_aload_n d_m_clear_151 rfl rfl ?_
        refine mr_get K_m 29 d_m_clear_152 lk_f_m_85 (by decide) rfl rfl ?_
        refine mr_iload d_m_clear_155 rfl ?_
        refine mr_iald d_m_clear_157 rfl (fun hc8 => ?_)
        refine mr_iast (h2 := (hT, HM m_thrown m_n m_collateral m_many m_need m_isBlock m_hours m_side m_quantity m_limit m_sent m_sealed m_rounds m_liar m_told m_passed m_vectors m_meters m_cleared (upd m_prices ((3 * x1) + x6).toNatClampNeg (m_price x6.toNatClampNeg)) m_trades m_fills m_welfares m_orderEntry m_orderFill m_orders m_blockEntry m_blockFill m_blocks m_price m_trade m_filled m_rest m_out)) d_m_clear_158 rfl rfl (fun hc9 => ?_)
        refine mr_aload_n d_m_clear_159 rfl rfl ?_
        refine mr_get K_m 20 d_m_clear_160 lk_f_m_64 (by decide) rfl rfl ?_
        refine mr_iconst (v := 3) d_m_clear_163 mc_iconst_3 ?_
        refine mr_iload_n d_m_clear_164 rfl rfl ?_
        refine mr_imul d_m_clear_165 ?_
        refine mr_iload d_m_clear_166 rfl ?_
        refine mr_iadd d_m_clear_168 ?_
        refine mr_aload_n d_m_clear_169 rfl rfl ?_
        refine mr_get K_m 30 d_m_clear_170 lk_f_m_88 (by decide) rfl rfl ?_
        refine mr_iload d_m_clear_173 rfl ?_
        refine mr_ialdK d_m_clear_175 rfl hc8 ?_
        refine mr_iastK (h2 := (hT, HM m_thrown m_n m_collateral m_many m_need m_isBlock m_hours m_side m_quantity m_limit m_sent m_sealed m_rounds m_liar m_told m_passed m_vectors m_meters m_cleared (upd m_prices ((3 * x1) + x6).toNatClampNeg (m_price x6.toNatClampNeg)) (upd m_trades ((3 * x1) + x6).toNatClampNeg (m_trade x6.toNatClampNeg)) m_fills m_welfares m_orderEntry m_orderFill m_orders m_blockEntry m_blockFill m_blocks m_price m_trade m_filled m_rest m_out)) d_m_clear_176 rfl rfl hc9 ?_
        refine mr_iinc (v := (x6 + 1)) (lv' := [(6, .int (x6 + 1)), (0, .ref 54), (1, .int x1), (3, .int x3)]) d_m_clear_177 rfl rfl (by decide) rfl ?_
        refine mr_goto (tgt := 135) d_m_clear_180 (by decide) ?_
        refine mr_sub (lv' := [(0, .ref 54), (1, .int x1), (3, .int x3), (6, .int (x6 + 1))]) [1, 2, 3, 0] rfl ?_
        exact ih _ _ _ _ _ _ _ _ _ _ _ _ _ _ _ _ _ _
  have w_L58 : ∀ (n : Nat) (m_thrown : Int32) (m_cleared : Nat → Int32) (m_prices : Nat → Int32) (m_trades : Nat → Int32) (m_fills : Nat → Int32) (m_welfares : Nat → Int64) (m_orderEntry : Nat → Int32) (m_orderFill : Nat → Int32) (m_orders : Int32) (m_blockEntry : Nat → Int32) (m_blockFill : Nat → Int32) (m_blocks : Int32) (m_price : Nat → Int32) (m_trade : Nat → Int32) (m_filled : Nat → Int32) (m_rest : Nat → Int64) (x3 : Int32) (x4 : Int64) (x6 : Int32), mz_A g M_m_clear (mz_rm 4) (fun r => (0, some (.int r.1), ex, (hT, HM r.2.1 m_n m_collateral m_many m_need m_isBlock m_hours m_side m_quantity m_limit m_sent m_sealed m_rounds m_liar m_told m_passed m_vectors m_meters r.2.2.1 r.2.2.2.1 r.2.2.2.2.1 r.2.2.2.2.2.1 r.2.2.2.2.2.2.1 r.2.2.2.2.2.2.2.1 r.2.2.2.2.2.2.2.2.1 r.2.2.2.2.2.2.2.2.2.1 r.2.2.2.2.2.2.2.2.2.2.1 r.2.2.2.2.2.2.2.2.2.2.2.1 r.2.2.2.2.2.2.2.2.2.2.2.2.1 r.2.2.2.2.2.2.2.2.2.2.2.2.2.1 r.2.2.2.2.2.2.2.2.2.2.2.2.2.2.1 r.2.2.2.2.2.2.2.2.2.2.2.2.2.2.2.1 r.2.2.2.2.2.2.2.2.2.2.2.2.2.2.2.2 m_out), 0, 0)) 58 [(0, .ref 54), (1, .int x1), (3, .int x3), (4, .long x4), (6, .int x6)] [] ex (hT, HM m_thrown m_n m_collateral m_many m_need m_isBlock m_hours m_side m_quantity m_limit m_sent m_sealed m_rounds m_liar m_told m_passed m_vectors m_meters m_cleared m_prices m_trades m_fills m_welfares m_orderEntry m_orderFill m_orders m_blockEntry m_blockFill m_blocks m_price m_trade m_filled m_rest m_out) 0 0 (f_m_clear_L58 m_n m_many m_isBlock m_hours m_side m_quantity m_limit m_rounds m_vectors x1 n m_thrown m_cleared m_prices m_trades m_fills m_welfares m_orderEntry m_orderFill m_orders m_blockEntry m_blockFill m_blocks m_price m_trade m_filled m_rest x3 x4 x6) := by
    intro n
    induction n with
    | zero => intro m_thrown m_cleared m_prices m_trades m_fills m_welfares m_orderEntry m_orderFill m_orders m_blockEntry m_blockFill m_blocks m_price m_trade m_filled m_rest x3 x4 x6; exact mr_none
    | succ n ih =>
      intro m_thrown m_cleared m_prices m_trades m_fills m_welfares m_orderEntry m_orderFill m_orders m_blockEntry m_blockFill m_blocks m_price m_trade m_filled m_rest x3 x4 x6
      rw [f_m_clear_L58]
      refine mr_iload d_m_clear_58 rfl ?_
      refine mr_iconst (v := 1) d_m_clear_60 mc_iconst_1 ?_
      refine mr_aload_n d_m_clear_61 rfl rfl ?_
      refine mr_get K_m 28 d_m_clear_62 lk_f_m_175 (by decide) rfl rfl ?_
      refine mr_ishl d_m_clear_65 ?_
      refine mr_icmp_ge (tgt := 111) d_m_clear_66 (by decide) ?_ ?_
      · refine mr_aload_n d_m_clear_111 rfl rfl ?_
        refine mr_iload_n d_m_clear_112 rfl rfl ?_
        refine mz_go (st := []) e_m_fits (fun _ => rfl) U_m_fits (mz_vV d_m_clear_113 U_m_fits rfl lk_m_m_204 I_m_fits s_m_fits np_m_fits rfl rfl) (Nat.le_of_ble_eq_true rfl) (by decide) (fun r4 => ?_)
        refine mr_eq (st' := [.int r4.1]) (ex' := ex) (h2 := (hT, HM m_thrown m_n m_collateral m_many m_need m_isBlock m_hours m_side m_quantity m_limit m_sent m_sealed m_rounds m_liar m_told m_passed m_vectors m_meters m_cleared m_prices m_trades m_fills m_welfares m_orderEntry m_orderFill m_orders m_blockEntry m_blockFill m_blocks r4.2.1 r4.2.2.1 r4.2.2.2.1 r4.2.2.2.2 m_out)) (k' := 0) (n' := 0) rfl rfl rfl rfl rfl ?_
        refine mr_pop d_m_clear_116 rfl ?_
        refine mr_aload_n d_m_clear_117 rfl rfl ?_
        refine mr_get K_m 18 d_m_clear_118 lk_f_m_58 (by decide) rfl rfl ?_
        refine mr_iload_n d_m_clear_121 rfl rfl ?_
        refine mr_iconst (v := 1) d_m_clear_122 mc_iconst_1 ?_
        refine mr_zast (h2 := (hT, HM m_thrown m_n m_collateral m_many m_need m_isBlock m_hours m_side m_quantity m_limit m_sent m_sealed m_rounds m_liar m_told m_passed m_vectors m_meters (upd m_cleared x1.toNatClampNeg (vp_nar .boolean 1)) m_prices m_trades m_fills m_welfares m_orderEntry m_orderFill m_orders m_blockEntry m_blockFill m_blocks r4.2.1 r4.2.2.1 r4.2.2.2.1 r4.2.2.2.2 m_out)) d_m_clear_123 rfl rfl (fun hc5 => ?_)
        refine mr_aload_n d_m_clear_124 rfl rfl ?_
        refine mr_get K_m 22 d_m_clear_125 lk_f_m_70 (by decide) rfl rfl ?_
        refine mr_iload_n d_m_clear_128 rfl rfl ?_
        refine mr_lload d_m_clear_129 rfl ?_
        refine mr_lastK (h2 := (hT, HM m_thrown m_n m_collateral m_many m_need m_isBlock m_hours m_side m_quantity m_limit m_sent m_sealed m_rounds m_liar m_told m_passed m_vectors m_meters (upd m_cleared x1.toNatClampNeg (vp_nar .boolean 1)) m_prices m_trades m_fills (vp_updL m_welfares x1.toNatClampNeg x4) m_orderEntry m_orderFill m_orders m_blockEntry m_blockFill m_blocks r4.2.1 r4.2.2.1 r4.2.2.2.1 r4.2.2.2.2 m_out)) d_m_clear_131 rfl rfl hc5 ?_
        refine mr_iconst (v := 0) d_m_clear_132 mc_iconst_0 ?_
        refine mr_istore (lv' := [(6, .int 0), (0, .ref 54), (1, .int x1), (3, .int x3), (4, .long x4)]) d_m_clear_133 (by decide) rfl ?_
        refine mr_sub (lv' := [(0, .ref 54), (1, .int x1), (3, .int x3), (6, .int 0)]) [1, 2, 3, 0] rfl ?_
        exact w_L135 1000 _ _ _ _ _ _ _ _ _ _ _ _ _ _ _ _ _ _
      · refine mr_aload_n d_m_clear_69 rfl rfl ?_
        refine mr_iload d_m_clear_70 rfl ?_
        refine mz_go (st := []) e_m_fits (fun _ => rfl) U_m_fits (mz_vV d_m_clear_72 U_m_fits rfl lk_m_m_204 I_m_fits s_m_fits np_m_fits rfl rfl) (Nat.le_of_ble_eq_true rfl) (by decide) (fun r6 => ?_)
        refine mr_eq (st' := [.int r6.1]) (ex' := ex) (h2 := (hT, HM m_thrown m_n m_collateral m_many m_need m_isBlock m_hours m_side m_quantity m_limit m_sent m_sealed m_rounds m_liar m_told m_passed m_vectors m_meters m_cleared m_prices m_trades m_fills m_welfares m_orderEntry m_orderFill m_orders m_blockEntry m_blockFill m_blocks r6.2.1 r6.2.2.1 r6.2.2.2.1 r6.2.2.2.2 m_out)) (k' := 0) (n' := 0) rfl rfl rfl rfl rfl ?_
        refine mr_if_eq (tgt := 105) d_m_clear_75 (by decide) ?_ ?_
        · refine mr_iinc (v := (x6 + 1)) (lv' := [(6, .int (x6 + 1)), (0, .ref 54), (1, .int x1), (3, .int x3), (4, .long x4)]) d_m_clear_105 rfl rfl (by decide) rfl ?_
          refine mr_goto (tgt := 58) d_m_clear_108 (by decide) ?_
          refine mr_sub (lv' := [(0, .ref 54), (1, .int x1), (3, .int x3), (4, .long x4), (6, .int (x6 + 1))]) [1, 2, 3, 4, 0] rfl ?_
          exact ih _ _ _ _ _ _ _ _ _ _ _ _ _ _ _ _ _ _ _
        · refine mr_aload_n d_m_clear_78 rfl rfl ?_
          refine mr_iload d_m_clear_79 rfl ?_
          refine mz_go (st := []) e_m_welfareOf (fun _ => rfl) U_m_welfareOf (mz_vV d_m_clear_81 U_m_welfareOf rfl lk_m_m_207 I_m_welfareOf s_m_welfareOf np_m_welfareOf rfl rfl) (Nat.le_of_ble_eq_true rfl) (by decide) (fun r7 => ?_)
          refine mr_eq (st' := [.long r7]) (ex' := ex) (h2 := (hT, HM m_thrown m_n m_collateral m_many m_need m_isBlock m_hours m_side m_quantity m_limit m_sent m_sealed m_rounds m_liar m_told m_passed m_vectors m_meters m_cleared m_prices m_trades m_fills m_welfares m_orderEntry m_orderFill m_orders m_blockEntry m_blockFill m_blocks r6.2.1 r6.2.2.1 r6.2.2.2.1 r6.2.2.2.2 m_out)) (k' := 0) (n' := 0) rfl rfl rfl rfl rfl ?_
          refine mr_lstore (lv' := [(7, .long r7), (0, .ref 54), (1, .int x1), (3, .int x3), (4, .long x4), (6, .int x6)]) d_m_clear_84 (by decide) rfl ?_
          refine mr_iload_n d_m_clear_86 rfl rfl ?_
          refine mr_if_lt (tgt := 98) d_m_clear_87 (by decide) ?_ ?_
          · refine mr_iload d_m_clear_98 rfl ?_
            refine mr_istore_n (lv' := [(3, .int x6), (7, .long r7), (0, .ref 54), (1, .int x1), (4, .long x4), (6, .int x6)]) d_m_clear_100 rfl (by decide) rfl ?_
            refine mr_lload d_m_clear_101 rfl ?_
            refine mr_lstore (lv' := [(4, .long r7), (3, .int x6), (7, .long r7), (0, .ref 54), (1, .int x1), (6, .int x6)]) d_m_clear_103 (by decide) rfl ?_
            refine mr_iinc (v := (x6 + 1)) (lv' := [(6, .int (x6 + 1)), (4, .long r7), (3, .int x6), (7, .long r7), (0, .ref 54), (1, .int x1)]) d_m_clear_105 rfl rfl (by decide) rfl ?_
            refine mr_goto (tgt := 58) d_m_clear_108 (by decide) ?_
            refine mr_sub (lv' := [(0, .ref 54), (1, .int x1), (3, .int x6), (4, .long r7), (6, .int (x6 + 1))]) [4, 5, 2, 1, 0] rfl ?_
            exact ih _ _ _ _ _ _ _ _ _ _ _ _ _ _ _ _ _ _ _
          · refine mr_lload d_m_clear_90 rfl ?_
            refine mr_lload d_m_clear_92 rfl ?_
            refine mr_lcmp d_m_clear_94 ?_
            refine mr_if_le (tgt := 105) d_m_clear_95 (by decide) ?_ ?_
            · refine mr_iinc (v := (x6 + 1)) (lv' := [(6, .int (x6 + 1)), (7, .long r7), (0, .ref 54), (1, .int x1), (3, .int x3), (4, .long x4)]) d_m_clear_105 rfl rfl (by decide) rfl ?_
              refine mr_goto (tgt := 58) d_m_clear_108 (by decide) ?_
              refine mr_sub (lv' := [(0, .ref 54), (1, .int x1), (3, .int x3), (4, .long x4), (6, .int (x6 + 1))]) [2, 3, 4, 5, 0] rfl ?_
              exact ih _ _ _ _ _ _ _ _ _ _ _ _ _ _ _ _ _ _ _
            · refine mr_iload d_m_clear_98 rfl ?_
              refine mr_istore_n (lv' := [(3, .int x6), (7, .long r7), (0, .ref 54), (1, .int x1), (4, .long x4), (6, .int x6)]) d_m_clear_100 rfl (by decide) rfl ?_
              refine mr_lload d_m_clear_101 rfl ?_
              refine mr_lstore (lv' := [(4, .long r7), (3, .int x6), (7, .long r7), (0, .ref 54), (1, .int x1), (6, .int x6)]) d_m_clear_103 (by decide) rfl ?_
              refine mr_iinc (v := (x6 + 1)) (lv' := [(6, .int (x6 + 1)), (4, .long r7), (3, .int x6), (7, .long r7), (0, .ref 54), (1, .int x1)]) d_m_clear_105 rfl rfl (by decide) rfl ?_
              refine mr_goto (tgt := 58) d_m_clear_108 (by decide) ?_
              refine mr_sub (lv' := [(0, .ref 54), (1, .int x1), (3, .int x6), (4, .long r7), (6, .int (x6 + 1))]) [4, 5, 2, 1, 0] rfl ?_
              exact ih _ _ _ _ _ _ _ _ _ _ _ _ _ _ _ _ _ _ _
  have w_b37 : ∀ (m_thrown : Int32) (m_cleared : Nat → Int32) (m_prices : Nat → Int32) (m_trades : Nat → Int32) (m_fills : Nat → Int32) (m_welfares : Nat → Int64) (m_orderEntry : Nat → Int32) (m_orderFill : Nat → Int32) (m_orders : Int32) (m_blockEntry : Nat → Int32) (m_blockFill : Nat → Int32) (m_blocks : Int32) (m_price : Nat → Int32) (m_trade : Nat → Int32) (m_filled : Nat → Int32) (m_rest : Nat → Int64) (s1 : Int32) (s2 : Int32), mz_A g M_m_clear (mz_rm 4) (fun r => (0, some (.int r.1), ex, (hT, HM r.2.1 m_n m_collateral m_many m_need m_isBlock m_hours m_side m_quantity m_limit m_sent m_sealed m_rounds m_liar m_told m_passed m_vectors m_meters r.2.2.1 r.2.2.2.1 r.2.2.2.2.1 r.2.2.2.2.2.1 r.2.2.2.2.2.2.1 r.2.2.2.2.2.2.2.1 r.2.2.2.2.2.2.2.2.1 r.2.2.2.2.2.2.2.2.2.1 r.2.2.2.2.2.2.2.2.2.2.1 r.2.2.2.2.2.2.2.2.2.2.2.1 r.2.2.2.2.2.2.2.2.2.2.2.2.1 r.2.2.2.2.2.2.2.2.2.2.2.2.2.1 r.2.2.2.2.2.2.2.2.2.2.2.2.2.2.1 r.2.2.2.2.2.2.2.2.2.2.2.2.2.2.2.1 r.2.2.2.2.2.2.2.2.2.2.2.2.2.2.2.2 m_out), 0, 0)) 37 [(0, .ref 54), (1, .int x1)] [.int s2, .int s1, .ref 54] ex (hT, HM m_thrown m_n m_collateral m_many m_need m_isBlock m_hours m_side m_quantity m_limit m_sent m_sealed m_rounds m_liar m_told m_passed m_vectors m_meters m_cleared m_prices m_trades m_fills m_welfares m_orderEntry m_orderFill m_orders m_blockEntry m_blockFill m_blocks m_price m_trade m_filled m_rest m_out) 0 0 (f_m_clear_b37 m_n m_many m_isBlock m_hours m_side m_quantity m_limit m_rounds m_vectors x1 m_thrown m_cleared m_prices m_trades m_fills m_welfares m_orderEntry m_orderFill m_orders m_blockEntry m_blockFill m_blocks m_price m_trade m_filled m_rest s1 s2) := by
    intro  m_thrown m_cleared m_prices m_trades m_fills m_welfares m_orderEntry m_orderFill m_orders m_blockEntry m_blockFill m_blocks m_price m_trade m_filled m_rest s1 s2
    rw [f_m_clear_b37]
    refine mz_go (st := []) e_m_throwing (fun _ => rfl) U_m_throwing (mz_vV d_m_clear_37 U_m_throwing rfl lk_m_m_119 I_m_throwing s_m_throwing np_m_throwing rfl rfl) (Nat.le_of_ble_eq_true rfl) (by decide) (fun r2 => ?_)
    refine mr_eq (st' := [.int r2.1]) (ex' := ex) (h2 := (hT, HM r2.2 m_n m_collateral m_many m_need m_isBlock m_hours m_side m_quantity m_limit m_sent m_sealed m_rounds m_liar m_told m_passed m_vectors m_meters m_cleared m_prices m_trades m_fills m_welfares m_orderEntry m_orderFill m_orders m_blockEntry m_blockFill m_blocks m_price m_trade m_filled m_rest m_out)) (k' := 0) (n' := 0) rfl rfl rfl rfl rfl ?_
    refine mr_if_eq (tgt := 45) d_m_clear_40 (by decide) ?_ ?_
    · refine mr_aload_n d_m_clear_45 rfl rfl ?_
      refine mr_iload_n d_m_clear_46 rfl rfl ?_
      refine mz_go (st := []) e_m_gather (fun _ => rfl) U_m_gather (mz_vV d_m_clear_47 U_m_gather rfl lk_m_m_200 I_m_gather s_m_gather np_m_gather rfl rfl) (Nat.le_of_ble_eq_true rfl) (by decide) (fun r3 => ?_)
      refine mr_eq (st' := []) (ex' := ex) (h2 := (hT, HM r2.2 m_n m_collateral m_many m_need m_isBlock m_hours m_side m_quantity m_limit m_sent m_sealed m_rounds m_liar m_told m_passed m_vectors m_meters m_cleared m_prices m_trades m_fills m_welfares r3.1 r3.2.1 r3.2.2.1 r3.2.2.2.1 r3.2.2.2.2.1 r3.2.2.2.2.2 m_price m_trade m_filled m_rest m_out)) (k' := 0) (n' := 0) rfl rfl rfl rfl rfl ?_
      refine mr_iconst (v := (-1)) d_m_clear_50 mc_iconst_m1 ?_
      refine mr_istore_n (lv' := [(3, .int (-1)), (0, .ref 54), (1, .int x1)]) d_m_clear_51 rfl (by decide) rfl ?_
      refine mr_lconst (v := 0) d_m_clear_52 mc_lconst_0 ?_
      refine mr_lstore (lv' := [(4, .long 0), (3, .int (-1)), (0, .ref 54), (1, .int x1)]) d_m_clear_53 (by decide) rfl ?_
      refine mr_iconst (v := 0) d_m_clear_55 mc_iconst_0 ?_
      refine mr_istore (lv' := [(6, .int 0), (4, .long 0), (3, .int (-1)), (0, .ref 54), (1, .int x1)]) d_m_clear_56 (by decide) rfl ?_
      refine mr_sub (lv' := [(0, .ref 54), (1, .int x1), (3, .int (-1)), (4, .long 0), (6, .int 0)]) [3, 4, 2, 1, 0] rfl ?_
      exact w_L58 1000 _ _ _ _ _ _ _ _ _ _ _ _ _ _ _ _ _ _ _
    · refine mr_iconst (v := 0) d_m_clear_43 mc_iconst_0 ?_
      exact mr_iret d_m_clear_44 rfl rfl
  have w_b36 : ∀ (m_thrown : Int32) (m_cleared : Nat → Int32) (m_prices : Nat → Int32) (m_trades : Nat → Int32) (m_fills : Nat → Int32) (m_welfares : Nat → Int64) (m_orderEntry : Nat → Int32) (m_orderFill : Nat → Int32) (m_orders : Int32) (m_blockEntry : Nat → Int32) (m_blockFill : Nat → Int32) (m_blocks : Int32) (m_price : Nat → Int32) (m_trade : Nat → Int32) (m_filled : Nat → Int32) (m_rest : Nat → Int64) (s1 : Int32), mz_A g M_m_clear (mz_rm 4) (fun r => (0, some (.int r.1), ex, (hT, HM r.2.1 m_n m_collateral m_many m_need m_isBlock m_hours m_side m_quantity m_limit m_sent m_sealed m_rounds m_liar m_told m_passed m_vectors m_meters r.2.2.1 r.2.2.2.1 r.2.2.2.2.1 r.2.2.2.2.2.1 r.2.2.2.2.2.2.1 r.2.2.2.2.2.2.2.1 r.2.2.2.2.2.2.2.2.1 r.2.2.2.2.2.2.2.2.2.1 r.2.2.2.2.2.2.2.2.2.2.1 r.2.2.2.2.2.2.2.2.2.2.2.1 r.2.2.2.2.2.2.2.2.2.2.2.2.1 r.2.2.2.2.2.2.2.2.2.2.2.2.2.1 r.2.2.2.2.2.2.2.2.2.2.2.2.2.2.1 r.2.2.2.2.2.2.2.2.2.2.2.2.2.2.2.1 r.2.2.2.2.2.2.2.2.2.2.2.2.2.2.2.2 m_out), 0, 0)) 36 [(0, .ref 54), (1, .int x1)] [.int s1, .ref 54] ex (hT, HM m_thrown m_n m_collateral m_many m_need m_isBlock m_hours m_side m_quantity m_limit m_sent m_sealed m_rounds m_liar m_told m_passed m_vectors m_meters m_cleared m_prices m_trades m_fills m_welfares m_orderEntry m_orderFill m_orders m_blockEntry m_blockFill m_blocks m_price m_trade m_filled m_rest m_out) 0 0 (f_m_clear_b36 m_n m_many m_isBlock m_hours m_side m_quantity m_limit m_rounds m_vectors x1 m_thrown m_cleared m_prices m_trades m_fills m_welfares m_orderEntry m_orderFill m_orders m_blockEntry m_blockFill m_blocks m_price m_trade m_filled m_rest s1) := by
    intro  m_thrown m_cleared m_prices m_trades m_fills m_welfares m_orderEntry m_orderFill m_orders m_blockEntry m_blockFill m_blocks m_price m_trade m_filled m_rest s1
    rw [f_m_clear_b36]
    refine mr_iconst (v := 0) d_m_clear_36 mc_iconst_0 ?_
    exact w_b37 _ _ _ _ _ _ _ _ _ _ _ _ _ _ _ _ _ _
  have w_b17 : ∀ (m_thrown : Int32) (m_cleared : Nat → Int32) (m_prices : Nat → Int32) (m_trades : Nat → Int32) (m_fills : Nat → Int32) (m_welfares : Nat → Int64) (m_orderEntry : Nat → Int32) (m_orderFill : Nat → Int32) (m_orders : Int32) (m_blockEntry : Nat → Int32) (m_blockFill : Nat → Int32) (m_blocks : Int32) (m_price : Nat → Int32) (m_trade : Nat → Int32) (m_filled : Nat → Int32) (m_rest : Nat → Int64) (s0 : Int32), mz_A g M_m_clear (mz_rm 4) (fun r => (0, some (.int r.1), ex, (hT, HM r.2.1 m_n m_collateral m_many m_need m_isBlock m_hours m_side m_quantity m_limit m_sent m_sealed m_rounds m_liar m_told m_passed m_vectors m_meters r.2.2.1 r.2.2.2.1 r.2.2.2.2.1 r.2.2.2.2.2.1 r.2.2.2.2.2.2.1 r.2.2.2.2.2.2.2.1 r.2.2.2.2.2.2.2.2.1 r.2.2.2.2.2.2.2.2.2.1 r.2.2.2.2.2.2.2.2.2.2.1 r.2.2.2.2.2.2.2.2.2.2.2.1 r.2.2.2.2.2.2.2.2.2.2.2.2.1 r.2.2.2.2.2.2.2.2.2.2.2.2.2.1 r.2.2.2.2.2.2.2.2.2.2.2.2.2.2.1 r.2.2.2.2.2.2.2.2.2.2.2.2.2.2.2.1 r.2.2.2.2.2.2.2.2.2.2.2.2.2.2.2.2 m_out), 0, 0)) 17 [(0, .ref 54), (1, .int x1)] [.int s0] ex (hT, HM m_thrown m_n m_collateral m_many m_need m_isBlock m_hours m_side m_quantity m_limit m_sent m_sealed m_rounds m_liar m_told m_passed m_vectors m_meters m_cleared m_prices m_trades m_fills m_welfares m_orderEntry m_orderFill m_orders m_blockEntry m_blockFill m_blocks m_price m_trade m_filled m_rest m_out) 0 0 (f_m_clear_b17 m_n m_many m_isBlock m_hours m_side m_quantity m_limit m_rounds m_vectors x1 m_thrown m_cleared m_prices m_trades m_fills m_welfares m_orderEntry m_orderFill m_orders m_blockEntry m_blockFill m_blocks m_price m_trade m_filled m_rest s0) := by
    intro  m_thrown m_cleared m_prices m_trades m_fills m_welfares m_orderEntry m_orderFill m_orders m_blockEntry m_blockFill m_blocks m_price m_trade m_filled m_rest s0
    rw [f_m_clear_b17]
    refine mr_istore_n (lv' := [(2, .int s0), (0, .ref 54), (1, .int x1)]) d_m_clear_17 rfl (by decide) rfl ?_
    refine mr_aload_n d_m_clear_18 rfl rfl ?_
    refine mr_iload_n d_m_clear_19 rfl rfl ?_
    refine mr_iload_n d_m_clear_20 rfl rfl ?_
    refine mr_if_ne (tgt := 36) d_m_clear_21 (by decide) ?_ ?_
    · refine mr_sub (lv' := [(0, .ref 54), (1, .int x1)]) [1, 2] rfl ?_
      exact w_b36 _ _ _ _ _ _ _ _ _ _ _ _ _ _ _ _ _
    · refine mr_aload_n d_m_clear_24 rfl rfl ?_
      refine mr_get K_m 12 d_m_clear_25 lk_f_m_110 (by decide) rfl rfl ?_
      refine mr_iconst (v := 3) d_m_clear_28 mc_iconst_3 ?_
      refine mr_icmp_ge (tgt := 36) d_m_clear_29 (by decide) ?_ ?_
      · refine mr_sub (lv' := [(0, .ref 54), (1, .int x1)]) [1, 2] rfl ?_
        exact w_b36 _ _ _ _ _ _ _ _ _ _ _ _ _ _ _ _ _
      · refine mr_iconst (v := 1) d_m_clear_32 mc_iconst_1 ?_
        refine mr_goto (tgt := 37) d_m_clear_33 (by decide) ?_
        refine mr_sub (lv' := [(0, .ref 54), (1, .int x1)]) [1, 2] rfl ?_
        exact w_b37 _ _ _ _ _ _ _ _ _ _ _ _ _ _ _ _ _ _
  refine mz_of (by decide) (Nat.le_of_ble_eq_true rfl) ?_
  rw [f_m_clear]
  show mz_A g M_m_clear (mz_rm 4) _ 0 [(0, .ref 54), (1, .int x1)] [] ex (hT, HM m_thrown m_n m_collateral m_many m_need m_isBlock m_hours m_side m_quantity m_limit m_sent m_sealed m_rounds m_liar m_told m_passed m_vectors m_meters m_cleared m_prices m_trades m_fills m_welfares m_orderEntry m_orderFill m_orders m_blockEntry m_blockFill m_blocks m_price m_trade m_filled m_rest m_out) 0 0 _
  refine mr_iload_n d_m_clear_0 rfl rfl ?_
  refine mr_i2l d_m_clear_1 ?_
  refine mr_lconst (v := 0) d_m_clear_2 mc_lconst_0 ?_
  refine mr_ldc2 (v := 3) d_m_clear_3 lk_k_m_125 ?_
  refine mz_go (st := []) e_m_in (fun _ => rfl) U_m_in (mz_vS d_m_clear_6 U_m_in lk_m_m_106 S_m_in np_m_in) (Nat.le_of_ble_eq_true rfl) (by decide) (fun r1 => ?_)
  refine mr_eq (st' := [.int r1]) (ex' := ex) (h2 := (hT, HM m_thrown m_n m_collateral m_many m_need m_isBlock m_hours m_side m_quantity m_limit m_sent m_sealed m_rounds m_liar m_told m_passed m_vectors m_meters m_cleared m_prices m_trades m_fills m_welfares m_orderEntry m_orderFill m_orders m_blockEntry m_blockFill m_blocks m_price m_trade m_filled m_rest m_out)) (k' := 0) (n' := 0) rfl rfl rfl rfl rfl ?_
  refine mr_if_ne (tgt := 16) d_m_clear_9 (by decide) ?_ ?_
  · refine mr_iconst (v := 0) d_m_clear_16 mc_iconst_0 ?_
    exact w_b17 _ _ _ _ _ _ _ _ _ _ _ _ _ _ _ _ _
  · refine mr_iconst (v := 1) d_m_clear_12 mc_iconst_1 ?_
    refine mr_goto (tgt := 17) d_m_clear_13 (by decide) ?_
    exact w_b17 _ _ _ _ _ _ _ _ _ _ _ _ _ _ _ _ _
set_option maxRecDepth 100000 in
set_option maxHeartbeats 4000000 in
theorem e_m_isUncleared {g : mz_G} {ex : Bool} {hT : List mz_E} {m_thrown : Int32} {m_n : Int32} {m_collateral : Nat → Int32} {m_many : Nat → Int32} {m_need : Nat → Int64} {m_isBlock : Nat → Int32} {m_hours : Nat → Int32} {m_side : Nat → Int32} {m_quantity : Nat → Int32} {m_limit : Nat → Int32} {m_sent : Nat → Int32} {m_sealed : Nat → Int32} {m_rounds : Int32} {m_liar : Int32} {m_told : Nat → Int32} {m_passed : Nat → Int32} {m_vectors : Nat → Int32} {m_meters : Nat → Int32} {m_cleared : Nat → Int32} {m_prices : Nat → Int32} {m_trades : Nat → Int32} {m_fills : Nat → Int32} {m_welfares : Nat → Int64} {m_orderEntry : Nat → Int32} {m_orderFill : Nat → Int32} {m_orders : Int32} {m_blockEntry : Nat → Int32} {m_blockFill : Nat → Int32} {m_blocks : Int32} {m_price : Nat → Int32} {m_trade : Nat → Int32} {m_filled : Nat → Int32} {m_rest : Nat → Int64} {m_out : Nat → Int64} {x1 : Int32} {x2 : Int32} : mz_M g M_m_isUncleared 1 [.ref 54, .int x1, .int x2] ex (hT, HM m_thrown m_n m_collateral m_many m_need m_isBlock m_hours m_side m_quantity m_limit m_sent m_sealed m_rounds m_liar m_told m_passed m_vectors m_meters m_cleared m_prices m_trades m_fills m_welfares m_orderEntry m_orderFill m_orders m_blockEntry m_blockFill m_blocks m_price m_trade m_filled m_rest m_out) (f_m_isUncleared m_thrown m_cleared x1 x2) (fun r => (0, some (.int r.1), ex, (hT, HM r.2 m_n m_collateral m_many m_need m_isBlock m_hours m_side m_quantity m_limit m_sent m_sealed m_rounds m_liar m_told m_passed m_vectors m_meters m_cleared m_prices m_trades m_fills m_welfares m_orderEntry m_orderFill m_orders m_blockEntry m_blockFill m_blocks m_price m_trade m_filled m_rest m_out), 0, 0)) := by
  have w_b20 : ∀ (m_thrown : Int32) (s1 : Int32) (s2 : Int32), mz_A g M_m_isUncleared (mz_rm 1) (fun r => (0, some (.int r.1), ex, (hT, HM r.2 m_n m_collateral m_many m_need m_isBlock m_hours m_side m_quantity m_limit m_sent m_sealed m_rounds m_liar m_told m_passed m_vectors m_meters m_cleared m_prices m_trades m_fills m_welfares m_orderEntry m_orderFill m_orders m_blockEntry m_blockFill m_blocks m_price m_trade m_filled m_rest m_out), 0, 0)) 20 [] [.int s2, .int s1, .ref 54] ex (hT, HM m_thrown m_n m_collateral m_many m_need m_isBlock m_hours m_side m_quantity m_limit m_sent m_sealed m_rounds m_liar m_told m_passed m_vectors m_meters m_cleared m_prices m_trades m_fills m_welfares m_orderEntry m_orderFill m_orders m_blockEntry m_blockFill m_blocks m_price m_trade m_filled m_rest m_out) 0 0 (f_m_isUncleared_b20 m_cleared m_thrown s1 s2) := by
    intro  m_thrown s1 s2
    rw [f_m_isUncleared_b20]
    refine mz_go (st := []) e_m_throwing (fun _ => rfl) U_m_throwing (mz_vV d_m_isUncleared_20 U_m_throwing rfl lk_m_m_119 I_m_throwing s_m_throwing np_m_throwing rfl rfl) (Nat.le_of_ble_eq_true rfl) (by decide) (fun r2 => ?_)
    refine mr_eq (st' := [.int r2.1]) (ex' := ex) (h2 := (hT, HM r2.2 m_n m_collateral m_many m_need m_isBlock m_hours m_side m_quantity m_limit m_sent m_sealed m_rounds m_liar m_told m_passed m_vectors m_meters m_cleared m_prices m_trades m_fills m_welfares m_orderEntry m_orderFill m_orders m_blockEntry m_blockFill m_blocks m_price m_trade m_filled m_rest m_out)) (k' := 0) (n' := 0) rfl rfl rfl rfl rfl ?_
    exact mr_zret d_m_isUncleared_23 rfl rfl
  have w_b19 : ∀ (m_thrown : Int32) (s1 : Int32), mz_A g M_m_isUncleared (mz_rm 1) (fun r => (0, some (.int r.1), ex, (hT, HM r.2 m_n m_collateral m_many m_need m_isBlock m_hours m_side m_quantity m_limit m_sent m_sealed m_rounds m_liar m_told m_passed m_vectors m_meters m_cleared m_prices m_trades m_fills m_welfares m_orderEntry m_orderFill m_orders m_blockEntry m_blockFill m_blocks m_price m_trade m_filled m_rest m_out), 0, 0)) 19 [] [.int s1, .ref 54] ex (hT, HM m_thrown m_n m_collateral m_many m_need m_isBlock m_hours m_side m_quantity m_limit m_sent m_sealed m_rounds m_liar m_told m_passed m_vectors m_meters m_cleared m_prices m_trades m_fills m_welfares m_orderEntry m_orderFill m_orders m_blockEntry m_blockFill m_blocks m_price m_trade m_filled m_rest m_out) 0 0 (f_m_isUncleared_b19 m_cleared m_thrown s1) := by
    intro  m_thrown s1
    rw [f_m_isUncleared_b19]
    refine mr_iconst (v := 0) d_m_isUncleared_19 mc_iconst_0 ?_
    exact w_b20 _ _ _
  refine mz_of (by decide) (Nat.le_of_ble_eq_true rfl) ?_
  rw [f_m_isUncleared]
  show mz_A g M_m_isUncleared (mz_rm 1) _ 0 [(0, .ref 54), (1, .int x1), (2, .int x2)] [] ex (hT, HM m_thrown m_n m_collateral m_many m_need m_isBlock m_hours m_side m_quantity m_limit m_sent m_sealed m_rounds m_liar m_told m_passed m_vectors m_meters m_cleared m_prices m_trades m_fills m_welfares m_orderEntry m_orderFill m_orders m_blockEntry m_blockFill m_blocks m_price m_trade m_filled m_rest m_out) 0 0 _
  refine mr_aload_n d_m_isUncleared_0 rfl rfl ?_
  refine mr_iload_n d_m_isUncleared_1 rfl rfl ?_
  refine mr_iload_n d_m_isUncleared_2 rfl rfl ?_
  refine mr_if_ne (tgt := 19) d_m_isUncleared_3 (by decide) ?_ ?_
  · refine mr_sub (lv' := []) [] rfl ?_
    exact w_b19 _ _
  · refine mr_aload_n d_m_isUncleared_6 rfl rfl ?_
    refine mr_get K_m 18 d_m_isUncleared_7 lk_f_m_58 (by decide) rfl rfl ?_
    refine mr_iload_n d_m_isUncleared_10 rfl rfl ?_
    refine mr_zald d_m_isUncleared_11 rfl (fun hc1 => ?_)
    refine mr_if_ne (tgt := 19) d_m_isUncleared_12 (by decide) ?_ ?_
    · refine mr_sub (lv' := []) [] rfl ?_
      exact w_b19 _ _
    · refine mr_iconst (v := 1) d_m_isUncleared_15 mc_iconst_1 ?_
      refine mr_goto (tgt := 20) d_m_isUncleared_16 (by decide) ?_
      refine mr_sub (lv' := []) [] rfl ?_
      exact w_b20 _ _ _
set_option maxRecDepth 100000 in
set_option maxHeartbeats 4000000 in
theorem e_m_price {g : mz_G} {ex : Bool} {hT : List mz_E} {m_thrown : Int32} {m_n : Int32} {m_collateral : Nat → Int32} {m_many : Nat → Int32} {m_need : Nat → Int64} {m_isBlock : Nat → Int32} {m_hours : Nat → Int32} {m_side : Nat → Int32} {m_quantity : Nat → Int32} {m_limit : Nat → Int32} {m_sent : Nat → Int32} {m_sealed : Nat → Int32} {m_rounds : Int32} {m_liar : Int32} {m_told : Nat → Int32} {m_passed : Nat → Int32} {m_vectors : Nat → Int32} {m_meters : Nat → Int32} {m_cleared : Nat → Int32} {m_prices : Nat → Int32} {m_trades : Nat → Int32} {m_fills : Nat → Int32} {m_welfares : Nat → Int64} {m_orderEntry : Nat → Int32} {m_orderFill : Nat → Int32} {m_orders : Int32} {m_blockEntry : Nat → Int32} {m_blockFill : Nat → Int32} {m_blocks : Int32} {m_price : Nat → Int32} {m_trade : Nat → Int32} {m_filled : Nat → Int32} {m_rest : Nat → Int64} {m_out : Nat → Int64} {x1 : Int32} {x2 : Int32} : mz_M g M_m_price 2 [.ref 54, .int x1, .int x2] ex (hT, HM m_thrown m_n m_collateral m_many m_need m_isBlock m_hours m_side m_quantity m_limit m_sent m_sealed m_rounds m_liar m_told m_passed m_vectors m_meters m_cleared m_prices m_trades m_fills m_welfares m_orderEntry m_orderFill m_orders m_blockEntry m_blockFill m_blocks m_price m_trade m_filled m_rest m_out) (f_m_price m_thrown m_cleared m_prices x1 x2) (fun r => (0, some (.int r.1), ex, (hT, HM r.2 m_n m_collateral m_many m_need m_isBlock m_hours m_side m_quantity m_limit m_sent m_sealed m_rounds m_liar m_told m_passed m_vectors m_meters m_cleared m_prices m_trades m_fills m_welfares m_orderEntry m_orderFill m_orders m_blockEntry m_blockFill m_blocks m_price m_trade m_filled m_rest m_out), 0, 0)) := by
  have w_b30 : ∀ (m_thrown : Int32) (s1 : Int32), mz_A g M_m_price (mz_rm 2) (fun r => (0, some (.int r.1), ex, (hT, HM r.2 m_n m_collateral m_many m_need m_isBlock m_hours m_side m_quantity m_limit m_sent m_sealed m_rounds m_liar m_told m_passed m_vectors m_meters m_cleared m_prices m_trades m_fills m_welfares m_orderEntry m_orderFill m_orders m_blockEntry m_blockFill m_blocks m_price m_trade m_filled m_rest m_out), 0, 0)) 30 [(0, .ref 54), (1, .int x1), (2, .int x2)] [.int s1, .ref 54] ex (hT, HM m_thrown m_n m_collateral m_many m_need m_isBlock m_hours m_side m_quantity m_limit m_sent m_sealed m_rounds m_liar m_told m_passed m_vectors m_meters m_cleared m_prices m_trades m_fills m_welfares m_orderEntry m_orderFill m_orders m_blockEntry m_blockFill m_blocks m_price m_trade m_filled m_rest m_out) 0 0 (f_m_price_b30 m_cleared m_prices x1 x2 m_thrown s1) := by
    intro  m_thrown s1
    rw [f_m_price_b30]
    refine mr_iload_n d_m_price_30 rfl rfl ?_
    refine mz_go (st := []) e_m_isUncleared (fun _ => rfl) U_m_isUncleared (mz_vV d_m_price_31 U_m_isUncleared rfl lk_m_m_211 I_m_isUncleared s_m_isUncleared np_m_isUncleared rfl rfl) (Nat.le_of_ble_eq_true rfl) (by decide) (fun r3 => ?_)
    refine mr_eq (st' := [.int r3.1]) (ex' := ex) (h2 := (hT, HM r3.2 m_n m_collateral m_many m_need m_isBlock m_hours m_side m_quantity m_limit m_sent m_sealed m_rounds m_liar m_told m_passed m_vectors m_meters m_cleared m_prices m_trades m_fills m_welfares m_orderEntry m_orderFill m_orders m_blockEntry m_blockFill m_blocks m_price m_trade m_filled m_rest m_out)) (k' := 0) (n' := 0) rfl rfl rfl rfl rfl ?_
    refine mr_if_eq (tgt := 39) d_m_price_34 (by decide) ?_ ?_
    · refine mr_aload_n d_m_price_39 rfl rfl ?_
      refine mr_get K_m 19 d_m_price_40 lk_f_m_61 (by decide) rfl rfl ?_
      refine mr_iconst (v := 3) d_m_price_43 mc_iconst_3 ?_
      refine mr_iload_n d_m_price_44 rfl rfl ?_
      refine mr_imul d_m_price_45 ?_
      refine mr_iload_n d_m_price_46 rfl rfl ?_
      refine mr_iadd d_m_price_47 ?_
      refine mr_iald d_m_price_48 rfl (fun hc4 => ?_)
      exact mr_iret d_m_price_49 rfl rfl
    · refine mr_iconst (v := 0) d_m_price_37 mc_iconst_0 ?_
      exact mr_iret d_m_price_38 rfl rfl
  have w_b25 : ∀ (m_thrown : Int32), mz_A g M_m_price (mz_rm 2) (fun r => (0, some (.int r.1), ex, (hT, HM r.2 m_n m_collateral m_many m_need m_isBlock m_hours m_side m_quantity m_limit m_sent m_sealed m_rounds m_liar m_told m_passed m_vectors m_meters m_cleared m_prices m_trades m_fills m_welfares m_orderEntry m_orderFill m_orders m_blockEntry m_blockFill m_blocks m_price m_trade m_filled m_rest m_out), 0, 0)) 25 [(0, .ref 54), (1, .int x1), (2, .int x2)] [.ref 54] ex (hT, HM m_thrown m_n m_collateral m_many m_need m_isBlock m_hours m_side m_quantity m_limit m_sent m_sealed m_rounds m_liar m_told m_passed m_vectors m_meters m_cleared m_prices m_trades m_fills m_welfares m_orderEntry m_orderFill m_orders m_blockEntry m_blockFill m_blocks m_price m_trade m_filled m_rest m_out) 0 0 (f_m_price_b25 m_cleared m_prices x1 x2 m_thrown) := by
    intro  m_thrown
    rw [f_m_price_b25]
    refine mr_iconst (v := 1) d_m_price_25 mc_iconst_1 ?_
    refine mr_goto (tgt := 30) d_m_price_26 (by decide) ?_
    exact w_b30 _ _
  refine mz_of (by decide) (Nat.le_of_ble_eq_true rfl) ?_
  rw [f_m_price]
  show mz_A g M_m_price (mz_rm 2) _ 0 [(0, .ref 54), (1, .int x1), (2, .int x2)] [] ex (hT, HM m_thrown m_n m_collateral m_many m_need m_isBlock m_hours m_side m_quantity m_limit m_sent m_sealed m_rounds m_liar m_told m_passed m_vectors m_meters m_cleared m_prices m_trades m_fills m_welfares m_orderEntry m_orderFill m_orders m_blockEntry m_blockFill m_blocks m_price m_trade m_filled m_rest m_out) 0 0 _
  refine mr_aload_n d_m_price_0 rfl rfl ?_
  refine mr_iload_n d_m_price_1 rfl rfl ?_
  refine mr_i2l d_m_price_2 ?_
  refine mr_lconst (v := 0) d_m_price_3 mc_lconst_0 ?_
  refine mr_ldc2 (v := 3) d_m_price_4 lk_k_m_125 ?_
  refine mz_go (st := [.ref 54]) e_m_in (fun _ => rfl) U_m_in (mz_vS d_m_price_7 U_m_in lk_m_m_106 S_m_in np_m_in) (Nat.le_of_ble_eq_true rfl) (by decide) (fun r1 => ?_)
  refine mr_eq (st' := [.int r1, .ref 54]) (ex' := ex) (h2 := (hT, HM m_thrown m_n m_collateral m_many m_need m_isBlock m_hours m_side m_quantity m_limit m_sent m_sealed m_rounds m_liar m_told m_passed m_vectors m_meters m_cleared m_prices m_trades m_fills m_welfares m_orderEntry m_orderFill m_orders m_blockEntry m_blockFill m_blocks m_price m_trade m_filled m_rest m_out)) (k' := 0) (n' := 0) rfl rfl rfl rfl rfl ?_
  refine mr_if_eq (tgt := 25) d_m_price_10 (by decide) ?_ ?_
  · exact w_b25 _
  · refine mr_iload_n d_m_price_13 rfl rfl ?_
    refine mr_i2l d_m_price_14 ?_
    refine mr_lconst (v := 0) d_m_price_15 mc_lconst_0 ?_
    refine mr_ldc2 (v := 2) d_m_price_16 lk_k_m_137 ?_
    refine mz_go (st := [.ref 54]) e_m_in (fun _ => rfl) U_m_in (mz_vS d_m_price_19 U_m_in lk_m_m_106 S_m_in np_m_in) (Nat.le_of_ble_eq_true rfl) (by decide) (fun r2 => ?_)
    refine mr_eq (st' := [.int r2, .ref 54]) (ex' := ex) (h2 := (hT, HM m_thrown m_n m_collateral m_many m_need m_isBlock m_hours m_side m_quantity m_limit m_sent m_sealed m_rounds m_liar m_told m_passed m_vectors m_meters m_cleared m_prices m_trades m_fills m_welfares m_orderEntry m_orderFill m_orders m_blockEntry m_blockFill m_blocks m_price m_trade m_filled m_rest m_out)) (k' := 0) (n' := 0) rfl rfl rfl rfl rfl ?_
    refine mr_if_ne (tgt := 29) d_m_price_22 (by decide) ?_ ?_
    · refine mr_iconst (v := 0) d_m_price_29 mc_iconst_0 ?_
      exact w_b30 _ _
    · exact w_b25 _
set_option maxRecDepth 100000 in
set_option maxHeartbeats 4000000 in
theorem e_m_traded {g : mz_G} {ex : Bool} {hT : List mz_E} {m_thrown : Int32} {m_n : Int32} {m_collateral : Nat → Int32} {m_many : Nat → Int32} {m_need : Nat → Int64} {m_isBlock : Nat → Int32} {m_hours : Nat → Int32} {m_side : Nat → Int32} {m_quantity : Nat → Int32} {m_limit : Nat → Int32} {m_sent : Nat → Int32} {m_sealed : Nat → Int32} {m_rounds : Int32} {m_liar : Int32} {m_told : Nat → Int32} {m_passed : Nat → Int32} {m_vectors : Nat → Int32} {m_meters : Nat → Int32} {m_cleared : Nat → Int32} {m_prices : Nat → Int32} {m_trades : Nat → Int32} {m_fills : Nat → Int32} {m_welfares : Nat → Int64} {m_orderEntry : Nat → Int32} {m_orderFill : Nat → Int32} {m_orders : Int32} {m_blockEntry : Nat → Int32} {m_blockFill : Nat → Int32} {m_blocks : Int32} {m_price : Nat → Int32} {m_trade : Nat → Int32} {m_filled : Nat → Int32} {m_rest : Nat → Int64} {m_out : Nat → Int64} {x1 : Int32} {x2 : Int32} : mz_M g M_m_traded 2 [.ref 54, .int x1, .int x2] ex (hT, HM m_thrown m_n m_collateral m_many m_need m_isBlock m_hours m_side m_quantity m_limit m_sent m_sealed m_rounds m_liar m_told m_passed m_vectors m_meters m_cleared m_prices m_trades m_fills m_welfares m_orderEntry m_orderFill m_orders m_blockEntry m_blockFill m_blocks m_price m_trade m_filled m_rest m_out) (f_m_traded m_thrown m_cleared m_trades x1 x2) (fun r => (0, some (.int r.1), ex, (hT, HM r.2 m_n m_collateral m_many m_need m_isBlock m_hours m_side m_quantity m_limit m_sent m_sealed m_rounds m_liar m_told m_passed m_vectors m_meters m_cleared m_prices m_trades m_fills m_welfares m_orderEntry m_orderFill m_orders m_blockEntry m_blockFill m_blocks m_price m_trade m_filled m_rest m_out), 0, 0)) := by
  have w_b30 : ∀ (m_thrown : Int32) (s1 : Int32), mz_A g M_m_traded (mz_rm 2) (fun r => (0, some (.int r.1), ex, (hT, HM r.2 m_n m_collateral m_many m_need m_isBlock m_hours m_side m_quantity m_limit m_sent m_sealed m_rounds m_liar m_told m_passed m_vectors m_meters m_cleared m_prices m_trades m_fills m_welfares m_orderEntry m_orderFill m_orders m_blockEntry m_blockFill m_blocks m_price m_trade m_filled m_rest m_out), 0, 0)) 30 [(0, .ref 54), (1, .int x1), (2, .int x2)] [.int s1, .ref 54] ex (hT, HM m_thrown m_n m_collateral m_many m_need m_isBlock m_hours m_side m_quantity m_limit m_sent m_sealed m_rounds m_liar m_told m_passed m_vectors m_meters m_cleared m_prices m_trades m_fills m_welfares m_orderEntry m_orderFill m_orders m_blockEntry m_blockFill m_blocks m_price m_trade m_filled m_rest m_out) 0 0 (f_m_traded_b30 m_cleared m_trades x1 x2 m_thrown s1) := by
    intro  m_thrown s1
    rw [f_m_traded_b30]
    refine mr_iload_n d_m_traded_30 rfl rfl ?_
    refine mz_go (st := []) e_m_isUncleared (fun _ => rfl) U_m_isUncleared (mz_vV d_m_traded_31 U_m_isUncleared rfl lk_m_m_211 I_m_isUncleared s_m_isUncleared np_m_isUncleared rfl rfl) (Nat.le_of_ble_eq_true rfl) (by decide) (fun r3 => ?_)
    refine mr_eq (st' := [.int r3.1]) (ex' := ex) (h2 := (hT, HM r3.2 m_n m_collateral m_many m_need m_isBlock m_hours m_side m_quantity m_limit m_sent m_sealed m_rounds m_liar m_told m_passed m_vectors m_meters m_cleared m_prices m_trades m_fills m_welfares m_orderEntry m_orderFill m_orders m_blockEntry m_blockFill m_blocks m_price m_trade m_filled m_rest m_out)) (k' := 0) (n' := 0) rfl rfl rfl rfl rfl ?_
    refine mr_if_eq (tgt := 39) d_m_traded_34 (by decide) ?_ ?_
    · refine mr_aload_n d_m_traded_39 rfl rfl ?_
      refine mr_get K_m 20 d_m_traded_40 lk_f_m_64 (by decide) rfl rfl ?_
      refine mr_iconst (v := 3) d_m_traded_43 mc_iconst_3 ?_
      refine mr_iload_n d_m_traded_44 rfl rfl ?_
      refine mr_imul d_m_traded_45 ?_
      refine mr_iload_n d_m_traded_46 rfl rfl ?_
      refine mr_iadd d_m_traded_47 ?_
      refine mr_iald d_m_traded_48 rfl (fun hc4 => ?_)
      exact mr_iret d_m_traded_49 rfl rfl
    · refine mr_iconst (v := 0) d_m_traded_37 mc_iconst_0 ?_
      exact mr_iret d_m_traded_38 rfl rfl
  have w_b25 : ∀ (m_thrown : Int32), mz_A g M_m_traded (mz_rm 2) (fun r => (0, some (.int r.1), ex, (hT, HM r.2 m_n m_collateral m_many m_need m_isBlock m_hours m_side m_quantity m_limit m_sent m_sealed m_rounds m_liar m_told m_passed m_vectors m_meters m_cleared m_prices m_trades m_fills m_welfares m_orderEntry m_orderFill m_orders m_blockEntry m_blockFill m_blocks m_price m_trade m_filled m_rest m_out), 0, 0)) 25 [(0, .ref 54), (1, .int x1), (2, .int x2)] [.ref 54] ex (hT, HM m_thrown m_n m_collateral m_many m_need m_isBlock m_hours m_side m_quantity m_limit m_sent m_sealed m_rounds m_liar m_told m_passed m_vectors m_meters m_cleared m_prices m_trades m_fills m_welfares m_orderEntry m_orderFill m_orders m_blockEntry m_blockFill m_blocks m_price m_trade m_filled m_rest m_out) 0 0 (f_m_traded_b25 m_cleared m_trades x1 x2 m_thrown) := by
    intro  m_thrown
    rw [f_m_traded_b25]
    refine mr_iconst (v := 1) d_m_traded_25 mc_iconst_1 ?_
    refine mr_goto (tgt := 30) d_m_traded_26 (by decide) ?_
    exact w_b30 _ _
  refine mz_of (by decide) (Nat.le_of_ble_eq_true rfl) ?_
  rw [f_m_traded]
  show mz_A g M_m_traded (mz_rm 2) _ 0 [(0, .ref 54), (1, .int x1), (2, .int x2)] [] ex (hT, HM m_thrown m_n m_collateral m_many m_need m_isBlock m_hours m_side m_quantity m_limit m_sent m_sealed m_rounds m_liar m_told m_passed m_vectors m_meters m_cleared m_prices m_trades m_fills m_welfares m_orderEntry m_orderFill m_orders m_blockEntry m_blockFill m_blocks m_price m_trade m_filled m_rest m_out) 0 0 _
  refine mr_aload_n d_m_traded_0 rfl rfl ?_
  refine mr_iload_n d_m_traded_1 rfl rfl ?_
  refine mr_i2l d_m_traded_2 ?_
  refine mr_lconst (v := 0) d_m_traded_3 mc_lconst_0 ?_
  refine mr_ldc2 (v := 3) d_m_traded_4 lk_k_m_125 ?_
  refine mz_go (st := [.ref 54]) e_m_in (fun _ => rfl) U_m_in (mz_vS d_m_traded_7 U_m_in lk_m_m_106 S_m_in np_m_in) (Nat.le_of_ble_eq_true rfl) (by decide) (fun r1 => ?_)
  refine mr_eq (st' := [.int r1, .ref 54]) (ex' := ex) (h2 := (hT, HM m_thrown m_n m_collateral m_many m_need m_isBlock m_hours m_side m_quantity m_limit m_sent m_sealed m_rounds m_liar m_told m_passed m_vectors m_meters m_cleared m_prices m_trades m_fills m_welfares m_orderEntry m_orderFill m_orders m_blockEntry m_blockFill m_blocks m_price m_trade m_filled m_rest m_out)) (k' := 0) (n' := 0) rfl rfl rfl rfl rfl ?_
  refine mr_if_eq (tgt := 25) d_m_traded_10 (by decide) ?_ ?_
  · exact w_b25 _
  · refine mr_iload_n d_m_traded_13 rfl rfl ?_
    refine mr_i2l d_m_traded_14 ?_
    refine mr_lconst (v := 0) d_m_traded_15 mc_lconst_0 ?_
    refine mr_ldc2 (v := 2) d_m_traded_16 lk_k_m_137 ?_
    refine mz_go (st := [.ref 54]) e_m_in (fun _ => rfl) U_m_in (mz_vS d_m_traded_19 U_m_in lk_m_m_106 S_m_in np_m_in) (Nat.le_of_ble_eq_true rfl) (by decide) (fun r2 => ?_)
    refine mr_eq (st' := [.int r2, .ref 54]) (ex' := ex) (h2 := (hT, HM m_thrown m_n m_collateral m_many m_need m_isBlock m_hours m_side m_quantity m_limit m_sent m_sealed m_rounds m_liar m_told m_passed m_vectors m_meters m_cleared m_prices m_trades m_fills m_welfares m_orderEntry m_orderFill m_orders m_blockEntry m_blockFill m_blocks m_price m_trade m_filled m_rest m_out)) (k' := 0) (n' := 0) rfl rfl rfl rfl rfl ?_
    refine mr_if_ne (tgt := 29) d_m_traded_22 (by decide) ?_ ?_
    · refine mr_iconst (v := 0) d_m_traded_29 mc_iconst_0 ?_
      exact w_b30 _ _
    · exact w_b25 _
set_option maxRecDepth 100000 in
set_option maxHeartbeats 4000000 in
theorem e_m_fill {g : mz_G} {ex : Bool} {hT : List mz_E} {m_thrown : Int32} {m_n : Int32} {m_collateral : Nat → Int32} {m_many : Nat → Int32} {m_need : Nat → Int64} {m_isBlock : Nat → Int32} {m_hours : Nat → Int32} {m_side : Nat → Int32} {m_quantity : Nat → Int32} {m_limit : Nat → Int32} {m_sent : Nat → Int32} {m_sealed : Nat → Int32} {m_rounds : Int32} {m_liar : Int32} {m_told : Nat → Int32} {m_passed : Nat → Int32} {m_vectors : Nat → Int32} {m_meters : Nat → Int32} {m_cleared : Nat → Int32} {m_prices : Nat → Int32} {m_trades : Nat → Int32} {m_fills : Nat → Int32} {m_welfares : Nat → Int64} {m_orderEntry : Nat → Int32} {m_orderFill : Nat → Int32} {m_orders : Int32} {m_blockEntry : Nat → Int32} {m_blockFill : Nat → Int32} {m_blocks : Int32} {m_price : Nat → Int32} {m_trade : Nat → Int32} {m_filled : Nat → Int32} {m_rest : Nat → Int64} {m_out : Nat → Int64} {x1 : Int32} {x2 : Int32} {x3 : Int32} : mz_M g M_m_fill 2 [.ref 54, .int x1, .int x2, .int x3] ex (hT, HM m_thrown m_n m_collateral m_many m_need m_isBlock m_hours m_side m_quantity m_limit m_sent m_sealed m_rounds m_liar m_told m_passed m_vectors m_meters m_cleared m_prices m_trades m_fills m_welfares m_orderEntry m_orderFill m_orders m_blockEntry m_blockFill m_blocks m_price m_trade m_filled m_rest m_out) (f_m_fill m_thrown m_n m_many m_vectors m_cleared m_fills x1 x2 x3) (fun r => (0, some (.int r.1), ex, (hT, HM r.2 m_n m_collateral m_many m_need m_isBlock m_hours m_side m_quantity m_limit m_sent m_sealed m_rounds m_liar m_told m_passed m_vectors m_meters m_cleared m_prices m_trades m_fills m_welfares m_orderEntry m_orderFill m_orders m_blockEntry m_blockFill m_blocks m_price m_trade m_filled m_rest m_out), 0, 0)) := by
  have w_b72 : ∀ (m_thrown : Int32) (s1 : Int32), mz_A g M_m_fill (mz_rm 2) (fun r => (0, some (.int r.1), ex, (hT, HM r.2 m_n m_collateral m_many m_need m_isBlock m_hours m_side m_quantity m_limit m_sent m_sealed m_rounds m_liar m_told m_passed m_vectors m_meters m_cleared m_prices m_trades m_fills m_welfares m_orderEntry m_orderFill m_orders m_blockEntry m_blockFill m_blocks m_price m_trade m_filled m_rest m_out), 0, 0)) 72 [(0, .ref 54), (1, .int x1), (2, .int x2), (3, .int x3)] [.int s1, .ref 54] ex (hT, HM m_thrown m_n m_collateral m_many m_need m_isBlock m_hours m_side m_quantity m_limit m_sent m_sealed m_rounds m_liar m_told m_passed m_vectors m_meters m_cleared m_prices m_trades m_fills m_welfares m_orderEntry m_orderFill m_orders m_blockEntry m_blockFill m_blocks m_price m_trade m_filled m_rest m_out) 0 0 (f_m_fill_b72 m_n m_many m_vectors m_cleared m_fills x1 x2 x3 m_thrown s1) := by
    intro  m_thrown s1
    rw [f_m_fill_b72]
    refine mr_iconst (v := 0) d_m_fill_72 mc_iconst_0 ?_
    refine mz_go (st := []) e_m_throwing (fun _ => rfl) U_m_throwing (mz_vV d_m_fill_73 U_m_throwing rfl lk_m_m_119 I_m_throwing s_m_throwing np_m_throwing rfl rfl) (Nat.le_of_ble_eq_true rfl) (by decide) (fun r7 => ?_)
    refine mr_eq (st' := [.int r7.1]) (ex' := ex) (h2 := (hT, HM r7.2 m_n m_collateral m_many m_need m_isBlock m_hours m_side m_quantity m_limit m_sent m_sealed m_rounds m_liar m_told m_passed m_vectors m_meters m_cleared m_prices m_trades m_fills m_welfares m_orderEntry m_orderFill m_orders m_blockEntry m_blockFill m_blocks m_price m_trade m_filled m_rest m_out)) (k' := 0) (n' := 0) rfl rfl rfl rfl rfl ?_
    refine mr_if_eq (tgt := 81) d_m_fill_76 (by decide) ?_ ?_
    · refine mr_aload_n d_m_fill_81 rfl rfl ?_
      refine mr_get K_m 21 d_m_fill_82 lk_f_m_67 (by decide) rfl rfl ?_
      refine mr_bipush (v := 60) d_m_fill_85 mc_bipush_60 ?_
      refine mr_iload_n d_m_fill_87 rfl rfl ?_
      refine mr_imul d_m_fill_88 ?_
      refine mr_bipush (v := 10) d_m_fill_89 mc_bipush_10 ?_
      refine mr_iload_n d_m_fill_91 rfl rfl ?_
      refine mr_imul d_m_fill_92 ?_
      refine mr_iadd d_m_fill_93 ?_
      refine mr_iload_n d_m_fill_94 rfl rfl ?_
      refine mr_iadd d_m_fill_95 ?_
      refine mr_iald d_m_fill_96 rfl (fun hc8 => ?_)
      exact mr_iret d_m_fill_97 rfl rfl
    · refine mr_iconst (v := 0) d_m_fill_79 mc_iconst_0 ?_
      exact mr_iret d_m_fill_80 rfl rfl
  have w_b38 : ∀ (m_thrown : Int32) (s1 : Int32), mz_A g M_m_fill (mz_rm 2) (fun r => (0, some (.int r.1), ex, (hT, HM r.2 m_n m_collateral m_many m_need m_isBlock m_hours m_side m_quantity m_limit m_sent m_sealed m_rounds m_liar m_told m_passed m_vectors m_meters m_cleared m_prices m_trades m_fills m_welfares m_orderEntry m_orderFill m_orders m_blockEntry m_blockFill m_blocks m_price m_trade m_filled m_rest m_out), 0, 0)) 38 [(0, .ref 54), (1, .int x1), (2, .int x2), (3, .int x3)] [.int s1, .ref 54] ex (hT, HM m_thrown m_n m_collateral m_many m_need m_isBlock m_hours m_side m_quantity m_limit m_sent m_sealed m_rounds m_liar m_told m_passed m_vectors m_meters m_cleared m_prices m_trades m_fills m_welfares m_orderEntry m_orderFill m_orders m_blockEntry m_blockFill m_blocks m_price m_trade m_filled m_rest m_out) 0 0 (f_m_fill_b38 m_n m_many m_vectors m_cleared m_fills x1 x2 x3 m_thrown s1) := by
    intro  m_thrown s1
    rw [f_m_fill_b38]
    refine mr_iload_n d_m_fill_38 rfl rfl ?_
    refine mz_go (st := []) e_m_isUncleared (fun _ => rfl) U_m_isUncleared (mz_vV d_m_fill_39 U_m_isUncleared rfl lk_m_m_211 I_m_isUncleared s_m_isUncleared np_m_isUncleared rfl rfl) (Nat.le_of_ble_eq_true rfl) (by decide) (fun r4 => ?_)
    refine mr_eq (st' := [.int r4.1]) (ex' := ex) (h2 := (hT, HM r4.2 m_n m_collateral m_many m_need m_isBlock m_hours m_side m_quantity m_limit m_sent m_sealed m_rounds m_liar m_told m_passed m_vectors m_meters m_cleared m_prices m_trades m_fills m_welfares m_orderEntry m_orderFill m_orders m_blockEntry m_blockFill m_blocks m_price m_trade m_filled m_rest m_out)) (k' := 0) (n' := 0) rfl rfl rfl rfl rfl ?_
    refine mr_if_eq (tgt := 47) d_m_fill_42 (by decide) ?_ ?_
    · refine mr_aload_n d_m_fill_47 rfl rfl ?_
      refine mr_iload_n d_m_fill_48 rfl rfl ?_
      refine mr_aload_n d_m_fill_49 rfl rfl ?_
      refine mr_aload_n d_m_fill_50 rfl rfl ?_
      refine mr_get K_m 16 d_m_fill_51 lk_f_m_52 (by decide) rfl rfl ?_
      refine mr_bipush (v := 6) d_m_fill_54 mc_bipush_6 ?_
      refine mr_iload_n d_m_fill_56 rfl rfl ?_
      refine mr_imul d_m_fill_57 ?_
      refine mr_iload_n d_m_fill_58 rfl rfl ?_
      refine mr_iadd d_m_fill_59 ?_
      refine mr_iald d_m_fill_60 rfl (fun hc5 => ?_)
      refine mz_go (st := [.int x3, .ref 54]) e_m_size (fun _ => rfl) U_m_size (mz_vV d_m_fill_61 U_m_size rfl lk_m_m_151 I_m_size s_m_size np_m_size rfl rfl) (Nat.le_of_ble_eq_true rfl) (by decide) (fun r6 => ?_)
      refine mr_eq (st' := [.int r6, .int x3, .ref 54]) (ex' := ex) (h2 := (hT, HM r4.2 m_n m_collateral m_many m_need m_isBlock m_hours m_side m_quantity m_limit m_sent m_sealed m_rounds m_liar m_told m_passed m_vectors m_meters m_cleared m_prices m_trades m_fills m_welfares m_orderEntry m_orderFill m_orders m_blockEntry m_blockFill m_blocks m_price m_trade m_filled m_rest m_out)) (k' := 0) (n' := 0) rfl rfl rfl rfl rfl ?_
      refine mr_icmp_lt (tgt := 71) d_m_fill_64 (by decide) ?_ ?_
      · refine mr_iconst (v := 0) d_m_fill_71 mc_iconst_0 ?_
        exact w_b72 _ _
      · refine mr_iconst (v := 1) d_m_fill_67 mc_iconst_1 ?_
        refine mr_goto (tgt := 72) d_m_fill_68 (by decide) ?_
        exact w_b72 _ _
    · refine mr_iconst (v := 0) d_m_fill_45 mc_iconst_0 ?_
      exact mr_iret d_m_fill_46 rfl rfl
  have w_b33 : ∀ (m_thrown : Int32), mz_A g M_m_fill (mz_rm 2) (fun r => (0, some (.int r.1), ex, (hT, HM r.2 m_n m_collateral m_many m_need m_isBlock m_hours m_side m_quantity m_limit m_sent m_sealed m_rounds m_liar m_told m_passed m_vectors m_meters m_cleared m_prices m_trades m_fills m_welfares m_orderEntry m_orderFill m_orders m_blockEntry m_blockFill m_blocks m_price m_trade m_filled m_rest m_out), 0, 0)) 33 [(0, .ref 54), (1, .int x1), (2, .int x2), (3, .int x3)] [.ref 54] ex (hT, HM m_thrown m_n m_collateral m_many m_need m_isBlock m_hours m_side m_quantity m_limit m_sent m_sealed m_rounds m_liar m_told m_passed m_vectors m_meters m_cleared m_prices m_trades m_fills m_welfares m_orderEntry m_orderFill m_orders m_blockEntry m_blockFill m_blocks m_price m_trade m_filled m_rest m_out) 0 0 (f_m_fill_b33 m_n m_many m_vectors m_cleared m_fills x1 x2 x3 m_thrown) := by
    intro  m_thrown
    rw [f_m_fill_b33]
    refine mr_iconst (v := 1) d_m_fill_33 mc_iconst_1 ?_
    refine mr_goto (tgt := 38) d_m_fill_34 (by decide) ?_
    exact w_b38 _ _
  refine mz_of (by decide) (Nat.le_of_ble_eq_true rfl) ?_
  rw [f_m_fill]
  show mz_A g M_m_fill (mz_rm 2) _ 0 [(0, .ref 54), (1, .int x1), (2, .int x2), (3, .int x3)] [] ex (hT, HM m_thrown m_n m_collateral m_many m_need m_isBlock m_hours m_side m_quantity m_limit m_sent m_sealed m_rounds m_liar m_told m_passed m_vectors m_meters m_cleared m_prices m_trades m_fills m_welfares m_orderEntry m_orderFill m_orders m_blockEntry m_blockFill m_blocks m_price m_trade m_filled m_rest m_out) 0 0 _
  refine mr_aload_n d_m_fill_0 rfl rfl ?_
  refine mr_iload_n d_m_fill_1 rfl rfl ?_
  refine mr_i2l d_m_fill_2 ?_
  refine mr_lconst (v := 0) d_m_fill_3 mc_lconst_0 ?_
  refine mr_ldc2 (v := 3) d_m_fill_4 lk_k_m_125 ?_
  refine mz_go (st := [.ref 54]) e_m_in (fun _ => rfl) U_m_in (mz_vS d_m_fill_7 U_m_in lk_m_m_106 S_m_in np_m_in) (Nat.le_of_ble_eq_true rfl) (by decide) (fun r1 => ?_)
  refine mr_eq (st' := [.int r1, .ref 54]) (ex' := ex) (h2 := (hT, HM m_thrown m_n m_collateral m_many m_need m_isBlock m_hours m_side m_quantity m_limit m_sent m_sealed m_rounds m_liar m_told m_passed m_vectors m_meters m_cleared m_prices m_trades m_fills m_welfares m_orderEntry m_orderFill m_orders m_blockEntry m_blockFill m_blocks m_price m_trade m_filled m_rest m_out)) (k' := 0) (n' := 0) rfl rfl rfl rfl rfl ?_
  refine mr_if_eq (tgt := 33) d_m_fill_10 (by decide) ?_ ?_
  · exact w_b33 _
  · refine mr_aload_n d_m_fill_13 rfl rfl ?_
    refine mr_iload_n d_m_fill_14 rfl rfl ?_
    refine mz_go (st := [.ref 54]) e_m_isMember (fun _ => rfl) U_m_isMember (mz_vV d_m_fill_15 U_m_isMember rfl lk_m_m_113 I_m_isMember s_m_isMember np_m_isMember rfl rfl) (Nat.le_of_ble_eq_true rfl) (by decide) (fun r2 => ?_)
    refine mr_eq (st' := [.int r2, .ref 54]) (ex' := ex) (h2 := (hT, HM m_thrown m_n m_collateral m_many m_need m_isBlock m_hours m_side m_quantity m_limit m_sent m_sealed m_rounds m_liar m_told m_passed m_vectors m_meters m_cleared m_prices m_trades m_fills m_welfares m_orderEntry m_orderFill m_orders m_blockEntry m_blockFill m_blocks m_price m_trade m_filled m_rest m_out)) (k' := 0) (n' := 0) rfl rfl rfl rfl rfl ?_
    refine mr_if_eq (tgt := 33) d_m_fill_18 (by decide) ?_ ?_
    · exact w_b33 _
    · refine mr_iload_n d_m_fill_21 rfl rfl ?_
      refine mr_i2l d_m_fill_22 ?_
      refine mr_lconst (v := 0) d_m_fill_23 mc_lconst_0 ?_
      refine mr_ldc2 (v := 9) d_m_fill_24 lk_k_m_215 ?_
      refine mz_go (st := [.ref 54]) e_m_in (fun _ => rfl) U_m_in (mz_vS d_m_fill_27 U_m_in lk_m_m_106 S_m_in np_m_in) (Nat.le_of_ble_eq_true rfl) (by decide) (fun r3 => ?_)
      refine mr_eq (st' := [.int r3, .ref 54]) (ex' := ex) (h2 := (hT, HM m_thrown m_n m_collateral m_many m_need m_isBlock m_hours m_side m_quantity m_limit m_sent m_sealed m_rounds m_liar m_told m_passed m_vectors m_meters m_cleared m_prices m_trades m_fills m_welfares m_orderEntry m_orderFill m_orders m_blockEntry m_blockFill m_blocks m_price m_trade m_filled m_rest m_out)) (k' := 0) (n' := 0) rfl rfl rfl rfl rfl ?_
      refine mr_if_ne (tgt := 37) d_m_fill_30 (by decide) ?_ ?_
      · refine mr_iconst (v := 0) d_m_fill_37 mc_iconst_0 ?_
        exact w_b38 _ _
      · exact w_b33 _
set_option maxRecDepth 100000 in
set_option maxHeartbeats 4000000 in
theorem e_m_welfare {g : mz_G} {ex : Bool} {hT : List mz_E} {m_thrown : Int32} {m_n : Int32} {m_collateral : Nat → Int32} {m_many : Nat → Int32} {m_need : Nat → Int64} {m_isBlock : Nat → Int32} {m_hours : Nat → Int32} {m_side : Nat → Int32} {m_quantity : Nat → Int32} {m_limit : Nat → Int32} {m_sent : Nat → Int32} {m_sealed : Nat → Int32} {m_rounds : Int32} {m_liar : Int32} {m_told : Nat → Int32} {m_passed : Nat → Int32} {m_vectors : Nat → Int32} {m_meters : Nat → Int32} {m_cleared : Nat → Int32} {m_prices : Nat → Int32} {m_trades : Nat → Int32} {m_fills : Nat → Int32} {m_welfares : Nat → Int64} {m_orderEntry : Nat → Int32} {m_orderFill : Nat → Int32} {m_orders : Int32} {m_blockEntry : Nat → Int32} {m_blockFill : Nat → Int32} {m_blocks : Int32} {m_price : Nat → Int32} {m_trade : Nat → Int32} {m_filled : Nat → Int32} {m_rest : Nat → Int64} {m_out : Nat → Int64} {x1 : Int32} : mz_M g M_m_welfare 2 [.ref 54, .int x1] ex (hT, HM m_thrown m_n m_collateral m_many m_need m_isBlock m_hours m_side m_quantity m_limit m_sent m_sealed m_rounds m_liar m_told m_passed m_vectors m_meters m_cleared m_prices m_trades m_fills m_welfares m_orderEntry m_orderFill m_orders m_blockEntry m_blockFill m_blocks m_price m_trade m_filled m_rest m_out) (f_m_welfare m_thrown m_cleared m_welfares x1) (fun r => (0, some (.long r.1), ex, (hT, HM r.2 m_n m_collateral m_many m_need m_isBlock m_hours m_side m_quantity m_limit m_sent m_sealed m_rounds m_liar m_told m_passed m_vectors m_meters m_cleared m_prices m_trades m_fills m_welfares m_orderEntry m_orderFill m_orders m_blockEntry m_blockFill m_blocks m_price m_trade m_filled m_rest m_out), 0, 0)) := by
  have w_b18 : ∀ (m_thrown : Int32) (s1 : Int32), mz_A g M_m_welfare (mz_rm 2) (fun r => (0, some (.long r.1), ex, (hT, HM r.2 m_n m_collateral m_many m_need m_isBlock m_hours m_side m_quantity m_limit m_sent m_sealed m_rounds m_liar m_told m_passed m_vectors m_meters m_cleared m_prices m_trades m_fills m_welfares m_orderEntry m_orderFill m_orders m_blockEntry m_blockFill m_blocks m_price m_trade m_filled m_rest m_out), 0, 0)) 18 [(0, .ref 54), (1, .int x1)] [.int s1, .ref 54] ex (hT, HM m_thrown m_n m_collateral m_many m_need m_isBlock m_hours m_side m_quantity m_limit m_sent m_sealed m_rounds m_liar m_told m_passed m_vectors m_meters m_cleared m_prices m_trades m_fills m_welfares m_orderEntry m_orderFill m_orders m_blockEntry m_blockFill m_blocks m_price m_trade m_filled m_rest m_out) 0 0 (f_m_welfare_b18 m_cleared m_welfares x1 m_thrown s1) := by
    intro  m_thrown s1
    rw [f_m_welfare_b18]
    refine mr_iload_n d_m_welfare_18 rfl rfl ?_
    refine mz_go (st := []) e_m_isUncleared (fun _ => rfl) U_m_isUncleared (mz_vV d_m_welfare_19 U_m_isUncleared rfl lk_m_m_211 I_m_isUncleared s_m_isUncleared np_m_isUncleared rfl rfl) (Nat.le_of_ble_eq_true rfl) (by decide) (fun r2 => ?_)
    refine mr_eq (st' := [.int r2.1]) (ex' := ex) (h2 := (hT, HM r2.2 m_n m_collateral m_many m_need m_isBlock m_hours m_side m_quantity m_limit m_sent m_sealed m_rounds m_liar m_told m_passed m_vectors m_meters m_cleared m_prices m_trades m_fills m_welfares m_orderEntry m_orderFill m_orders m_blockEntry m_blockFill m_blocks m_price m_trade m_filled m_rest m_out)) (k' := 0) (n' := 0) rfl rfl rfl rfl rfl ?_
    refine mr_if_eq (tgt := 27) d_m_welfare_22 (by decide) ?_ ?_
    · refine mr_aload_n d_m_welfare_27 rfl rfl ?_
      refine mr_get K_m 22 d_m_welfare_28 lk_f_m_70 (by decide) rfl rfl ?_
      refine mr_iload_n d_m_welfare_31 rfl rfl ?_
      refine mr_lald d_m_welfare_32 rfl (fun hc3 => ?_)
      exact mr_lret d_m_welfare_33 rfl rfl
    · refine mr_lconst (v := 0) d_m_welfare_25 mc_lconst_0 ?_
      exact mr_lret d_m_welfare_26 rfl rfl
  refine mz_of (by decide) (Nat.le_of_ble_eq_true rfl) ?_
  rw [f_m_welfare]
  show mz_A g M_m_welfare (mz_rm 2) _ 0 [(0, .ref 54), (1, .int x1)] [] ex (hT, HM m_thrown m_n m_collateral m_many m_need m_isBlock m_hours m_side m_quantity m_limit m_sent m_sealed m_rounds m_liar m_told m_passed m_vectors m_meters m_cleared m_prices m_trades m_fills m_welfares m_orderEntry m_orderFill m_orders m_blockEntry m_blockFill m_blocks m_price m_trade m_filled m_rest m_out) 0 0 _
  refine mr_aload_n d_m_welfare_0 rfl rfl ?_
  refine mr_iload_n d_m_welfare_1 rfl rfl ?_
  refine mr_i2l d_m_welfare_2 ?_
  refine mr_lconst (v := 0) d_m_welfare_3 mc_lconst_0 ?_
  refine mr_ldc2 (v := 3) d_m_welfare_4 lk_k_m_125 ?_
  refine mz_go (st := [.ref 54]) e_m_in (fun _ => rfl) U_m_in (mz_vS d_m_welfare_7 U_m_in lk_m_m_106 S_m_in np_m_in) (Nat.le_of_ble_eq_true rfl) (by decide) (fun r1 => ?_)
  refine mr_eq (st' := [.int r1, .ref 54]) (ex' := ex) (h2 := (hT, HM m_thrown m_n m_collateral m_many m_need m_isBlock m_hours m_side m_quantity m_limit m_sent m_sealed m_rounds m_liar m_told m_passed m_vectors m_meters m_cleared m_prices m_trades m_fills m_welfares m_orderEntry m_orderFill m_orders m_blockEntry m_blockFill m_blocks m_price m_trade m_filled m_rest m_out)) (k' := 0) (n' := 0) rfl rfl rfl rfl rfl ?_
  refine mr_if_ne (tgt := 17) d_m_welfare_10 (by decide) ?_ ?_
  · refine mr_iconst (v := 0) d_m_welfare_17 mc_iconst_0 ?_
    exact w_b18 _ _
  · refine mr_iconst (v := 1) d_m_welfare_13 mc_iconst_1 ?_
    refine mr_goto (tgt := 18) d_m_welfare_14 (by decide) ?_
    exact w_b18 _ _
set_option maxRecDepth 100000 in
set_option maxHeartbeats 4000000 in
theorem e_m_meter {g : mz_G} {ex : Bool} {hT : List mz_E} {m_thrown : Int32} {m_n : Int32} {m_collateral : Nat → Int32} {m_many : Nat → Int32} {m_need : Nat → Int64} {m_isBlock : Nat → Int32} {m_hours : Nat → Int32} {m_side : Nat → Int32} {m_quantity : Nat → Int32} {m_limit : Nat → Int32} {m_sent : Nat → Int32} {m_sealed : Nat → Int32} {m_rounds : Int32} {m_liar : Int32} {m_told : Nat → Int32} {m_passed : Nat → Int32} {m_vectors : Nat → Int32} {m_meters : Nat → Int32} {m_cleared : Nat → Int32} {m_prices : Nat → Int32} {m_trades : Nat → Int32} {m_fills : Nat → Int32} {m_welfares : Nat → Int64} {m_orderEntry : Nat → Int32} {m_orderFill : Nat → Int32} {m_orders : Int32} {m_blockEntry : Nat → Int32} {m_blockFill : Nat → Int32} {m_blocks : Int32} {m_price : Nat → Int32} {m_trade : Nat → Int32} {m_filled : Nat → Int32} {m_rest : Nat → Int64} {m_out : Nat → Int64} {x1 : Int32} {x2 : Int32} {x3 : Int32} : mz_M g M_m_meter 2 [.ref 54, .int x1, .int x2, .int x3] ex (hT, HM m_thrown m_n m_collateral m_many m_need m_isBlock m_hours m_side m_quantity m_limit m_sent m_sealed m_rounds m_liar m_told m_passed m_vectors m_meters m_cleared m_prices m_trades m_fills m_welfares m_orderEntry m_orderFill m_orders m_blockEntry m_blockFill m_blocks m_price m_trade m_filled m_rest m_out) (f_m_meter m_thrown m_n m_meters x1 x2 x3) (fun r => (0, none, ex, (hT, HM r.1 m_n m_collateral m_many m_need m_isBlock m_hours m_side m_quantity m_limit m_sent m_sealed m_rounds m_liar m_told m_passed m_vectors r.2 m_cleared m_prices m_trades m_fills m_welfares m_orderEntry m_orderFill m_orders m_blockEntry m_blockFill m_blocks m_price m_trade m_filled m_rest m_out), 0, 0)) := by
  have w_b40 : ∀ (m_thrown : Int32) (m_meters : Nat → Int32) (s1 : Int32), mz_A g M_m_meter (mz_rm 2) (fun r => (0, none, ex, (hT, HM r.1 m_n m_collateral m_many m_need m_isBlock m_hours m_side m_quantity m_limit m_sent m_sealed m_rounds m_liar m_told m_passed m_vectors r.2 m_cleared m_prices m_trades m_fills m_welfares m_orderEntry m_orderFill m_orders m_blockEntry m_blockFill m_blocks m_price m_trade m_filled m_rest m_out), 0, 0)) 40 [(0, .ref 54), (1, .int x1), (2, .int x2), (3, .int x3)] [.int s1, .ref 54] ex (hT, HM m_thrown m_n m_collateral m_many m_need m_isBlock m_hours m_side m_quantity m_limit m_sent m_sealed m_rounds m_liar m_told m_passed m_vectors m_meters m_cleared m_prices m_trades m_fills m_welfares m_orderEntry m_orderFill m_orders m_blockEntry m_blockFill m_blocks m_price m_trade m_filled m_rest m_out) 0 0 (f_m_meter_b40 m_n x1 x2 x3 m_thrown m_meters s1) := by
    intro  m_thrown m_meters s1
    rw [f_m_meter_b40]
    refine mr_iconst (v := 0) d_m_meter_40 mc_iconst_0 ?_
    refine mz_go (st := []) e_m_throwing (fun _ => rfl) U_m_throwing (mz_vV d_m_meter_41 U_m_throwing rfl lk_m_m_119 I_m_throwing s_m_throwing np_m_throwing rfl rfl) (Nat.le_of_ble_eq_true rfl) (by decide) (fun r4 => ?_)
    refine mr_eq (st' := [.int r4.1]) (ex' := ex) (h2 := (hT, HM r4.2 m_n m_collateral m_many m_need m_isBlock m_hours m_side m_quantity m_limit m_sent m_sealed m_rounds m_liar m_told m_passed m_vectors m_meters m_cleared m_prices m_trades m_fills m_welfares m_orderEntry m_orderFill m_orders m_blockEntry m_blockFill m_blocks m_price m_trade m_filled m_rest m_out)) (k' := 0) (n' := 0) rfl rfl rfl rfl rfl ?_
    refine mr_if_eq (tgt := 48) d_m_meter_44 (by decide) ?_ ?_
    · refine mr_aload_n d_m_meter_48 rfl rfl ?_
      refine mr_get K_m 17 d_m_meter_49 lk_f_m_55 (by decide) rfl rfl ?_
      refine mr_iconst (v := 3) d_m_meter_52 mc_iconst_3 ?_
      refine mr_iload_n d_m_meter_53 rfl rfl ?_
      refine mr_imul d_m_meter_54 ?_
      refine mr_iload_n d_m_meter_55 rfl rfl ?_
      refine mr_iadd d_m_meter_56 ?_
      refine mr_iload_n d_m_meter_57 rfl rfl ?_
      refine mr_iast (h2 := (hT, HM r4.2 m_n m_collateral m_many m_need m_isBlock m_hours m_side m_quantity m_limit m_sent m_sealed m_rounds m_liar m_told m_passed m_vectors (upd m_meters ((3 * x1) + x2).toNatClampNeg x3) m_cleared m_prices m_trades m_fills m_welfares m_orderEntry m_orderFill m_orders m_blockEntry m_blockFill m_blocks m_price m_trade m_filled m_rest m_out)) d_m_meter_58 rfl rfl (fun hc5 => ?_)
      exact mr_vret d_m_meter_59 rfl rfl
    · exact mr_vret d_m_meter_47 rfl rfl
  have w_b35 : ∀ (m_thrown : Int32) (m_meters : Nat → Int32), mz_A g M_m_meter (mz_rm 2) (fun r => (0, none, ex, (hT, HM r.1 m_n m_collateral m_many m_need m_isBlock m_hours m_side m_quantity m_limit m_sent m_sealed m_rounds m_liar m_told m_passed m_vectors r.2 m_cleared m_prices m_trades m_fills m_welfares m_orderEntry m_orderFill m_orders m_blockEntry m_blockFill m_blocks m_price m_trade m_filled m_rest m_out), 0, 0)) 35 [(0, .ref 54), (1, .int x1), (2, .int x2), (3, .int x3)] [.ref 54] ex (hT, HM m_thrown m_n m_collateral m_many m_need m_isBlock m_hours m_side m_quantity m_limit m_sent m_sealed m_rounds m_liar m_told m_passed m_vectors m_meters m_cleared m_prices m_trades m_fills m_welfares m_orderEntry m_orderFill m_orders m_blockEntry m_blockFill m_blocks m_price m_trade m_filled m_rest m_out) 0 0 (f_m_meter_b35 m_n x1 x2 x3 m_thrown m_meters) := by
    intro  m_thrown m_meters
    rw [f_m_meter_b35]
    refine mr_iconst (v := 1) d_m_meter_35 mc_iconst_1 ?_
    refine mr_goto (tgt := 40) d_m_meter_36 (by decide) ?_
    exact w_b40 _ _ _
  refine mz_of (by decide) (Nat.le_of_ble_eq_true rfl) ?_
  rw [f_m_meter]
  show mz_A g M_m_meter (mz_rm 2) _ 0 [(0, .ref 54), (1, .int x1), (2, .int x2), (3, .int x3)] [] ex (hT, HM m_thrown m_n m_collateral m_many m_need m_isBlock m_hours m_side m_quantity m_limit m_sent m_sealed m_rounds m_liar m_told m_passed m_vectors m_meters m_cleared m_prices m_trades m_fills m_welfares m_orderEntry m_orderFill m_orders m_blockEntry m_blockFill m_blocks m_price m_trade m_filled m_rest m_out) 0 0 _
  refine mr_aload_n d_m_meter_0 rfl rfl ?_
  refine mr_aload_n d_m_meter_1 rfl rfl ?_
  refine mr_iload_n d_m_meter_2 rfl rfl ?_
  refine mz_go (st := [.ref 54]) e_m_isMember (fun _ => rfl) U_m_isMember (mz_vV d_m_meter_3 U_m_isMember rfl lk_m_m_113 I_m_isMember s_m_isMember np_m_isMember rfl rfl) (Nat.le_of_ble_eq_true rfl) (by decide) (fun r1 => ?_)
  refine mr_eq (st' := [.int r1, .ref 54]) (ex' := ex) (h2 := (hT, HM m_thrown m_n m_collateral m_many m_need m_isBlock m_hours m_side m_quantity m_limit m_sent m_sealed m_rounds m_liar m_told m_passed m_vectors m_meters m_cleared m_prices m_trades m_fills m_welfares m_orderEntry m_orderFill m_orders m_blockEntry m_blockFill m_blocks m_price m_trade m_filled m_rest m_out)) (k' := 0) (n' := 0) rfl rfl rfl rfl rfl ?_
  refine mr_if_eq (tgt := 35) d_m_meter_6 (by decide) ?_ ?_
  · exact w_b35 _ _
  · refine mr_iload_n d_m_meter_9 rfl rfl ?_
    refine mr_i2l d_m_meter_10 ?_
    refine mr_lconst (v := 0) d_m_meter_11 mc_lconst_0 ?_
    refine mr_ldc2 (v := 2) d_m_meter_12 lk_k_m_137 ?_
    refine mz_go (st := [.ref 54]) e_m_in (fun _ => rfl) U_m_in (mz_vS d_m_meter_15 U_m_in lk_m_m_106 S_m_in np_m_in) (Nat.le_of_ble_eq_true rfl) (by decide) (fun r2 => ?_)
    refine mr_eq (st' := [.int r2, .ref 54]) (ex' := ex) (h2 := (hT, HM m_thrown m_n m_collateral m_many m_need m_isBlock m_hours m_side m_quantity m_limit m_sent m_sealed m_rounds m_liar m_told m_passed m_vectors m_meters m_cleared m_prices m_trades m_fills m_welfares m_orderEntry m_orderFill m_orders m_blockEntry m_blockFill m_blocks m_price m_trade m_filled m_rest m_out)) (k' := 0) (n' := 0) rfl rfl rfl rfl rfl ?_
    refine mr_if_eq (tgt := 35) d_m_meter_18 (by decide) ?_ ?_
    · exact w_b35 _ _
    · refine mr_iload_n d_m_meter_21 rfl rfl ?_
      refine mr_i2l d_m_meter_22 ?_
      refine mr_ldc2 (v := (-1000000)) d_m_meter_23 lk_k_m_217 ?_
      refine mr_ldc2 (v := 1000000) d_m_meter_26 lk_k_m_219 ?_
      refine mz_go (st := [.ref 54]) e_m_in (fun _ => rfl) U_m_in (mz_vS d_m_meter_29 U_m_in lk_m_m_106 S_m_in np_m_in) (Nat.le_of_ble_eq_true rfl) (by decide) (fun r3 => ?_)
      refine mr_eq (st' := [.int r3, .ref 54]) (ex' := ex) (h2 := (hT, HM m_thrown m_n m_collateral m_many m_need m_isBlock m_hours m_side m_quantity m_limit m_sent m_sealed m_rounds m_liar m_told m_passed m_vectors m_meters m_cleared m_prices m_trades m_fills m_welfares m_orderEntry m_orderFill m_orders m_blockEntry m_blockFill m_blocks m_price m_trade m_filled m_rest m_out)) (k' := 0) (n' := 0) rfl rfl rfl rfl rfl ?_
      refine mr_if_ne (tgt := 39) d_m_meter_32 (by decide) ?_ ?_
      · refine mr_iconst (v := 0) d_m_meter_39 mc_iconst_0 ?_
        exact w_b40 _ _ _
      · exact w_b35 _ _
set_option maxRecDepth 100000 in
set_option maxHeartbeats 4000000 in
theorem e_m_net {g : mz_G} {ex : Bool} {hT : List mz_E} {m_thrown : Int32} {m_n : Int32} {m_collateral : Nat → Int32} {m_many : Nat → Int32} {m_need : Nat → Int64} {m_isBlock : Nat → Int32} {m_hours : Nat → Int32} {m_side : Nat → Int32} {m_quantity : Nat → Int32} {m_limit : Nat → Int32} {m_sent : Nat → Int32} {m_sealed : Nat → Int32} {m_rounds : Int32} {m_liar : Int32} {m_told : Nat → Int32} {m_passed : Nat → Int32} {m_vectors : Nat → Int32} {m_meters : Nat → Int32} {m_cleared : Nat → Int32} {m_prices : Nat → Int32} {m_trades : Nat → Int32} {m_fills : Nat → Int32} {m_welfares : Nat → Int64} {m_orderEntry : Nat → Int32} {m_orderFill : Nat → Int32} {m_orders : Int32} {m_blockEntry : Nat → Int32} {m_blockFill : Nat → Int32} {m_blocks : Int32} {m_price : Nat → Int32} {m_trade : Nat → Int32} {m_filled : Nat → Int32} {m_rest : Nat → Int64} {m_out : Nat → Int64} {x1 : Int32} {x2 : Int32} {x3 : Int32} : mz_M g M_m_net 1 [.ref 54, .int x1, .int x2, .int x3] ex (hT, HM m_thrown m_n m_collateral m_many m_need m_isBlock m_hours m_side m_quantity m_limit m_sent m_sealed m_rounds m_liar m_told m_passed m_vectors m_meters m_cleared m_prices m_trades m_fills m_welfares m_orderEntry m_orderFill m_orders m_blockEntry m_blockFill m_blocks m_price m_trade m_filled m_rest m_out) (f_m_net m_many m_isBlock m_hours m_side m_vectors m_fills x1 x2 x3) (fun r => (0, some (.long r), ex, (hT, HM m_thrown m_n m_collateral m_many m_need m_isBlock m_hours m_side m_quantity m_limit m_sent m_sealed m_rounds m_liar m_told m_passed m_vectors m_meters m_cleared m_prices m_trades m_fills m_welfares m_orderEntry m_orderFill m_orders m_blockEntry m_blockFill m_blocks m_price m_trade m_filled m_rest m_out), 0, 0)) := by
  have w_b80 : ∀ (K19 : Int32 → Int64 → Int32 → Option (Int64)), (∀ (x4 : Int32) (x5 : Int64) (x7 : Int32), mz_A g M_m_net (mz_rm 1) (fun r => (0, some (.long r), ex, (hT, HM m_thrown m_n m_collateral m_many m_need m_isBlock m_hours m_side m_quantity m_limit m_sent m_sealed m_rounds m_liar m_told m_passed m_vectors m_meters m_cleared m_prices m_trades m_fills m_welfares m_orderEntry m_orderFill m_orders m_blockEntry m_blockFill m_blocks m_price m_trade m_filled m_rest m_out), 0, 0)) 19 [(0, .ref 54), (1, .int x1), (2, .int x2), (3, .int x3), (4, .int x4), (5, .long x5), (7, .int x7)] [] ex (hT, HM m_thrown m_n m_collateral m_many m_need m_isBlock m_hours m_side m_quantity m_limit m_sent m_sealed m_rounds m_liar m_told m_passed m_vectors m_meters m_cleared m_prices m_trades m_fills m_welfares m_orderEntry m_orderFill m_orders m_blockEntry m_blockFill m_blocks m_price m_trade m_filled m_rest m_out) 0 0 (K19 x4 x5 x7)) → ∀ (x4 : Int32) (x5 : Int64) (x7 : Int32) (x8 : Int32) (s0 : Int32), mz_A g M_m_net (mz_rm 1) (fun r => (0, some (.long r), ex, (hT, HM m_thrown m_n m_collateral m_many m_need m_isBlock m_hours m_side m_quantity m_limit m_sent m_sealed m_rounds m_liar m_told m_passed m_vectors m_meters m_cleared m_prices m_trades m_fills m_welfares m_orderEntry m_orderFill m_orders m_blockEntry m_blockFill m_blocks m_price m_trade m_filled m_rest m_out), 0, 0)) 80 [(0, .ref 54), (1, .int x1), (2, .int x2), (3, .int x3), (4, .int x4), (5, .long x5), (7, .int x7), (8, .int x8)] [.int s0] ex (hT, HM m_thrown m_n m_collateral m_many m_need m_isBlock m_hours m_side m_quantity m_limit m_sent m_sealed m_rounds m_liar m_told m_passed m_vectors m_meters m_cleared m_prices m_trades m_fills m_welfares m_orderEntry m_orderFill m_orders m_blockEntry m_blockFill m_blocks m_price m_trade m_filled m_rest m_out) 0 0 (f_m_net_b80 m_many m_isBlock m_hours m_side m_vectors m_fills x1 x2 x3 K19 x4 x5 x7 x8 s0) := by
    intro K19 hK19 x4 x5 x7 x8 s0
    rw [f_m_net_b80]
    refine mr_istore (lv' := [(9, .int s0), (0, .ref 54), (1, .int x1), (2, .int x2), (3, .int x3), (4, .int x4), (5, .long x5), (7, .int x7), (8, .int x8)]) d_m_net_80 (by decide) rfl ?_
    refine mr_aload_n d_m_net_82 rfl rfl ?_
    refine mr_get K_m 21 d_m_net_83 lk_f_m_67 (by decide) rfl rfl ?_
    refine mr_bipush (v := 60) d_m_net_86 mc_bipush_60 ?_
    refine mr_iload_n d_m_net_88 rfl rfl ?_
    refine mr_imul d_m_net_89 ?_
    refine mr_bipush (v := 10) d_m_net_90 mc_bipush_10 ?_
    refine mr_iload_n d_m_net_92 rfl rfl ?_
    refine mr_imul d_m_net_93 ?_
    refine mr_iadd d_m_net_94 ?_
    refine mr_iload d_m_net_95 rfl ?_
    refine mr_iadd d_m_net_97 ?_
    refine mr_iald d_m_net_98 rfl (fun hc5 => ?_)
    refine mr_istore (lv' := [(10, .int (m_fills (((60 * x1) + (10 * x2)) + x7).toNatClampNeg)), (9, .int s0), (0, .ref 54), (1, .int x1), (2, .int x2), (3, .int x3), (4, .int x4), (5, .long x5), (7, .int x7), (8, .int x8)]) d_m_net_99 (by decide) rfl ?_
    refine mr_lload d_m_net_101 rfl ?_
    refine mr_iload d_m_net_103 rfl ?_
    refine mr_if_ne (tgt := 112) d_m_net_105 (by decide) ?_ ?_
    · refine mr_aload_n d_m_net_112 rfl rfl ?_
      refine mr_get K_m 7 d_m_net_113 lk_f_m_27 (by decide) rfl rfl ?_
      refine mr_iload d_m_net_116 rfl ?_
      refine mr_iald d_m_net_118 rfl (fun hc6 => ?_)
      refine mr_iconst (v := 1) d_m_net_119 mc_iconst_1 ?_
      refine mr_icmp_ne (tgt := 129) d_m_net_120 (by decide) ?_ ?_
      · refine mr_iload d_m_net_129 rfl ?_
        refine mr_ineg d_m_net_131 ?_
        refine mr_i2l d_m_net_132 ?_
        refine mr_ladd d_m_net_133 ?_
        refine mr_lstore (lv' := [(5, .long (x5 + (Int32.toInt64 (-(m_fills (((60 * x1) + (10 * x2)) + x7).toNatClampNeg))))), (10, .int (m_fills (((60 * x1) + (10 * x2)) + x7).toNatClampNeg)), (9, .int s0), (0, .ref 54), (1, .int x1), (2, .int x2), (3, .int x3), (4, .int x4), (7, .int x7), (8, .int x8)]) d_m_net_134 (by decide) rfl ?_
        refine mr_iinc (v := (x7 + 1)) (lv' := [(7, .int (x7 + 1)), (5, .long (x5 + (Int32.toInt64 (-(m_fills (((60 * x1) + (10 * x2)) + x7).toNatClampNeg))))), (10, .int (m_fills (((60 * x1) + (10 * x2)) + x7).toNatClampNeg)), (9, .int s0), (0, .ref 54), (1, .int x1), (2, .int x2), (3, .int x3), (4, .int x4), (8, .int x8)]) d_m_net_136 rfl rfl (by decide) rfl ?_
        refine mr_goto (tgt := 19) d_m_net_139 (by decide) ?_
        refine mr_sub (lv' := [(0, .ref 54), (1, .int x1), (2, .int x2), (3, .int x3), (4, .int x4), (5, .long (x5 + (Int32.toInt64 (-(m_fills (((60 * x1) + (10 * x2)) + x7).toNatClampNeg))))), (7, .int (x7 + 1))]) [4, 5, 6, 7, 8, 1, 0] rfl ?_
        exact hK19 _ _ _
      · refine mr_iload d_m_net_123 rfl ?_
        refine mr_i2l d_m_net_125 ?_
        refine mr_goto (tgt := 133) d_m_net_126 (by decide) ?_
        refine mr_ladd d_m_net_133 ?_
        refine mr_lstore (lv' := [(5, .long (x5 + (Int32.toInt64 (m_fills (((60 * x1) + (10 * x2)) + x7).toNatClampNeg)))), (10, .int (m_fills (((60 * x1) + (10 * x2)) + x7).toNatClampNeg)), (9, .int s0), (0, .ref 54), (1, .int x1), (2, .int x2), (3, .int x3), (4, .int x4), (7, .int x7), (8, .int x8)]) d_m_net_134 (by decide) rfl ?_
        refine mr_iinc (v := (x7 + 1)) (lv' := [(7, .int (x7 + 1)), (5, .long (x5 + (Int32.toInt64 (m_fills (((60 * x1) + (10 * x2)) + x7).toNatClampNeg)))), (10, .int (m_fills (((60 * x1) + (10 * x2)) + x7).toNatClampNeg)), (9, .int s0), (0, .ref 54), (1, .int x1), (2, .int x2), (3, .int x3), (4, .int x4), (8, .int x8)]) d_m_net_136 rfl rfl (by decide) rfl ?_
        refine mr_goto (tgt := 19) d_m_net_139 (by decide) ?_
        refine mr_sub (lv' := [(0, .ref 54), (1, .int x1), (2, .int x2), (3, .int x3), (4, .int x4), (5, .long (x5 + (Int32.toInt64 (m_fills (((60 * x1) + (10 * x2)) + x7).toNatClampNeg)))), (7, .int (x7 + 1))]) [4, 5, 6, 7, 8, 1, 0] rfl ?_
        exact hK19 _ _ _
    · refine mr_lconst (v := 0) d_m_net_108 mc_lconst_0 ?_
      refine mr_goto (tgt := 133) d_m_net_109 (by decide) ?_
      refine mr_ladd d_m_net_133 ?_
      refine mr_lstore (lv' := [(5, .long (x5 + 0)), (10, .int (m_fills (((60 * x1) + (10 * x2)) + x7).toNatClampNeg)), (9, .int s0), (0, .ref 54), (1, .int x1), (2, .int x2), (3, .int x3), (4, .int x4), (7, .int x7), (8, .int x8)]) d_m_net_134 (by decide) rfl ?_
      refine mr_iinc (v := (x7 + 1)) (lv' := [(7, .int (x7 + 1)), (5, .long (x5 + 0)), (10, .int (m_fills (((60 * x1) + (10 * x2)) + x7).toNatClampNeg)), (9, .int s0), (0, .ref 54), (1, .int x1), (2, .int x2), (3, .int x3), (4, .int x4), (8, .int x8)]) d_m_net_136 rfl rfl (by decide) rfl ?_
      refine mr_goto (tgt := 19) d_m_net_139 (by decide) ?_
      refine mr_sub (lv' := [(0, .ref 54), (1, .int x1), (2, .int x2), (3, .int x3), (4, .int x4), (5, .long (x5 + 0)), (7, .int (x7 + 1))]) [4, 5, 6, 7, 8, 1, 0] rfl ?_
      exact hK19 _ _ _
  have w_L19 : ∀ (n : Nat) (x4 : Int32) (x5 : Int64) (x7 : Int32), mz_A g M_m_net (mz_rm 1) (fun r => (0, some (.long r), ex, (hT, HM m_thrown m_n m_collateral m_many m_need m_isBlock m_hours m_side m_quantity m_limit m_sent m_sealed m_rounds m_liar m_told m_passed m_vectors m_meters m_cleared m_prices m_trades m_fills m_welfares m_orderEntry m_orderFill m_orders m_blockEntry m_blockFill m_blocks m_price m_trade m_filled m_rest m_out), 0, 0)) 19 [(0, .ref 54), (1, .int x1), (2, .int x2), (3, .int x3), (4, .int x4), (5, .long x5), (7, .int x7)] [] ex (hT, HM m_thrown m_n m_collateral m_many m_need m_isBlock m_hours m_side m_quantity m_limit m_sent m_sealed m_rounds m_liar m_told m_passed m_vectors m_meters m_cleared m_prices m_trades m_fills m_welfares m_orderEntry m_orderFill m_orders m_blockEntry m_blockFill m_blocks m_price m_trade m_filled m_rest m_out) 0 0 (f_m_net_L19 m_many m_isBlock m_hours m_side m_vectors m_fills x1 x2 x3 n x4 x5 x7) := by
    intro n
    induction n with
    | zero => intro x4 x5 x7; exact mr_none
    | succ n ih =>
      intro x4 x5 x7
      rw [f_m_net_L19]
      refine mr_iload d_m_net_19 rfl ?_
      refine mr_aload_n d_m_net_21 rfl rfl ?_
      refine mr_iload d_m_net_22 rfl ?_
      refine mz_go (st := [.int x7]) e_m_size (fun _ => rfl) U_m_size (mz_vV d_m_net_24 U_m_size rfl lk_m_m_151 I_m_size s_m_size np_m_size rfl rfl) (Nat.le_of_ble_eq_true rfl) (by decide) (fun r2 => ?_)
      refine mr_eq (st' := [.int r2, .int x7]) (ex' := ex) (h2 := (hT, HM m_thrown m_n m_collateral m_many m_need m_isBlock m_hours m_side m_quantity m_limit m_sent m_sealed m_rounds m_liar m_told m_passed m_vectors m_meters m_cleared m_prices m_trades m_fills m_welfares m_orderEntry m_orderFill m_orders m_blockEntry m_blockFill m_blocks m_price m_trade m_filled m_rest m_out)) (k' := 0) (n' := 0) rfl rfl rfl rfl rfl ?_
      refine mr_icmp_ge (tgt := 142) d_m_net_27 (by decide) ?_ ?_
      · refine mr_lload d_m_net_142 rfl ?_
        exact mr_lret d_m_net_144 rfl rfl
      · refine mr_bipush (v := 10) d_m_net_30 mc_bipush_10 ?_
        refine mr_iload d_m_net_32 rfl ?_
        refine mr_imul d_m_net_34 ?_
        refine mr_iload d_m_net_35 rfl ?_
        refine mr_iadd d_m_net_37 ?_
        refine mr_istore (lv' := [(8, .int ((10 * x4) + x7)), (0, .ref 54), (1, .int x1), (2, .int x2), (3, .int x3), (4, .int x4), (5, .long x5), (7, .int x7)]) d_m_net_38 (by decide) rfl ?_
        refine mr_aload_n d_m_net_40 rfl rfl ?_
        refine mr_get K_m 5 d_m_net_41 lk_f_m_20 (by decide) rfl rfl ?_
        refine mr_iload d_m_net_44 rfl ?_
        refine mr_zald d_m_net_46 rfl (fun hc3 => ?_)
        refine mr_if_eq (tgt := 64) d_m_net_47 (by decide) ?_ ?_
        · refine mr_aload_n d_m_net_64 rfl rfl ?_
          refine mr_get K_m 6 d_m_net_65 lk_f_m_24 (by decide) rfl rfl ?_
          refine mr_iload d_m_net_68 rfl ?_
          refine mr_ialdK d_m_net_70 rfl hc3 ?_
          refine mr_iload_n d_m_net_71 rfl rfl ?_
          refine mr_icmp_ne (tgt := 79) d_m_net_72 (by decide) ?_ ?_
          · refine mr_iconst (v := 0) d_m_net_79 mc_iconst_0 ?_
            refine mr_sub (lv' := [(0, .ref 54), (1, .int x1), (2, .int x2), (3, .int x3), (4, .int x4), (5, .long x5), (7, .int x7), (8, .int ((10 * x4) + x7))]) [1, 2, 3, 4, 5, 6, 7, 0] rfl ?_
            exact w_b80 _ ih _ _ _ _ _
          · refine mr_iconst (v := 1) d_m_net_75 mc_iconst_1 ?_
            refine mr_goto (tgt := 80) d_m_net_76 (by decide) ?_
            refine mr_sub (lv' := [(0, .ref 54), (1, .int x1), (2, .int x2), (3, .int x3), (4, .int x4), (5, .long x5), (7, .int x7), (8, .int ((10 * x4) + x7))]) [1, 2, 3, 4, 5, 6, 7, 0] rfl ?_
            exact w_b80 _ ih _ _ _ _ _
        · refine mr_aload_n d_m_net_50 rfl rfl ?_
          refine mr_get K_m 6 d_m_net_51 lk_f_m_24 (by decide) rfl rfl ?_
          refine mr_iload d_m_net_54 rfl ?_
          refine mr_ialdK d_m_net_56 rfl hc3 ?_
          refine mr_iload_n d_m_net_57 rfl rfl ?_
          refine mz_go (st := []) e_m_covers (fun _ => rfl) U_m_covers (mz_vS d_m_net_58 U_m_covers lk_m_m_178 S_m_covers np_m_covers) (Nat.le_of_ble_eq_true rfl) (by decide) (fun r4 => ?_)
          refine mr_eq (st' := [.int r4]) (ex' := ex) (h2 := (hT, HM m_thrown m_n m_collateral m_many m_need m_isBlock m_hours m_side m_quantity m_limit m_sent m_sealed m_rounds m_liar m_told m_passed m_vectors m_meters m_cleared m_prices m_trades m_fills m_welfares m_orderEntry m_orderFill m_orders m_blockEntry m_blockFill m_blocks m_price m_trade m_filled m_rest m_out)) (k' := 0) (n' := 0) rfl rfl rfl rfl rfl ?_
          refine mr_goto (tgt := 80) d_m_net_61 (by decide) ?_
          refine mr_sub (lv' := [(0, .ref 54), (1, .int x1), (2, .int x2), (3, .int x3), (4, .int x4), (5, .long x5), (7, .int x7), (8, .int ((10 * x4) + x7))]) [1, 2, 3, 4, 5, 6, 7, 0] rfl ?_
          exact w_b80 _ ih _ _ _ _ _
  refine mz_of (by decide) (Nat.le_of_ble_eq_true rfl) ?_
  rw [f_m_net]
  show mz_A g M_m_net (mz_rm 1) _ 0 [(0, .ref 54), (1, .int x1), (2, .int x2), (3, .int x3)] [] ex (hT, HM m_thrown m_n m_collateral m_many m_need m_isBlock m_hours m_side m_quantity m_limit m_sent m_sealed m_rounds m_liar m_told m_passed m_vectors m_meters m_cleared m_prices m_trades m_fills m_welfares m_orderEntry m_orderFill m_orders m_blockEntry m_blockFill m_blocks m_price m_trade m_filled m_rest m_out) 0 0 _
  refine mr_aload_n d_m_net_0 rfl rfl ?_
  refine mr_get K_m 16 d_m_net_1 lk_f_m_52 (by decide) rfl rfl ?_
  refine mr_bipush (v := 6) d_m_net_4 mc_bipush_6 ?_
  refine mr_iload_n d_m_net_6 rfl rfl ?_
  refine mr_imul d_m_net_7 ?_
  refine mr_iload_n d_m_net_8 rfl rfl ?_
  refine mr_iadd d_m_net_9 ?_
  refine mr_iald d_m_net_10 rfl (fun hc1 => ?_)
  refine mr_istore (lv' := [(4, .int (m_vectors ((6 * x1) + x2).toNatClampNeg)), (0, .ref 54), (1, .int x1), (2, .int x2), (3, .int x3)]) d_m_net_11 (by decide) rfl ?_
  refine mr_lconst (v := 0) d_m_net_13 mc_lconst_0 ?_
  refine mr_lstore (lv' := [(5, .long 0), (4, .int (m_vectors ((6 * x1) + x2).toNatClampNeg)), (0, .ref 54), (1, .int x1), (2, .int x2), (3, .int x3)]) d_m_net_14 (by decide) rfl ?_
  refine mr_iconst (v := 0) d_m_net_16 mc_iconst_0 ?_
  refine mr_istore (lv' := [(7, .int 0), (5, .long 0), (4, .int (m_vectors ((6 * x1) + x2).toNatClampNeg)), (0, .ref 54), (1, .int x1), (2, .int x2), (3, .int x3)]) d_m_net_17 (by decide) rfl ?_
  refine mr_sub (lv' := [(0, .ref 54), (1, .int x1), (2, .int x2), (3, .int x3), (4, .int (m_vectors ((6 * x1) + x2).toNatClampNeg)), (5, .long 0), (7, .int 0)]) [3, 4, 5, 6, 2, 1, 0] rfl ?_
  exact w_L19 1000 _ _ _
set_option maxRecDepth 100000 in
set_option maxHeartbeats 4000000 in
theorem e_m_balanceOf {g : mz_G} {ex : Bool} {hT : List mz_E} {m_thrown : Int32} {m_n : Int32} {m_collateral : Nat → Int32} {m_many : Nat → Int32} {m_need : Nat → Int64} {m_isBlock : Nat → Int32} {m_hours : Nat → Int32} {m_side : Nat → Int32} {m_quantity : Nat → Int32} {m_limit : Nat → Int32} {m_sent : Nat → Int32} {m_sealed : Nat → Int32} {m_rounds : Int32} {m_liar : Int32} {m_told : Nat → Int32} {m_passed : Nat → Int32} {m_vectors : Nat → Int32} {m_meters : Nat → Int32} {m_cleared : Nat → Int32} {m_prices : Nat → Int32} {m_trades : Nat → Int32} {m_fills : Nat → Int32} {m_welfares : Nat → Int64} {m_orderEntry : Nat → Int32} {m_orderFill : Nat → Int32} {m_orders : Int32} {m_blockEntry : Nat → Int32} {m_blockFill : Nat → Int32} {m_blocks : Int32} {m_price : Nat → Int32} {m_trade : Nat → Int32} {m_filled : Nat → Int32} {m_rest : Nat → Int64} {m_out : Nat → Int64} {x1 : Int32} {x2 : Int32} : mz_M g M_m_balanceOf 2 [.ref 54, .int x1, .int x2] ex (hT, HM m_thrown m_n m_collateral m_many m_need m_isBlock m_hours m_side m_quantity m_limit m_sent m_sealed m_rounds m_liar m_told m_passed m_vectors m_meters m_cleared m_prices m_trades m_fills m_welfares m_orderEntry m_orderFill m_orders m_blockEntry m_blockFill m_blocks m_price m_trade m_filled m_rest m_out) (f_m_balanceOf m_many m_isBlock m_hours m_side m_vectors m_meters m_prices m_fills x1 x2) (fun r => (0, some (.long r), ex, (hT, HM m_thrown m_n m_collateral m_many m_need m_isBlock m_hours m_side m_quantity m_limit m_sent m_sealed m_rounds m_liar m_told m_passed m_vectors m_meters m_cleared m_prices m_trades m_fills m_welfares m_orderEntry m_orderFill m_orders m_blockEntry m_blockFill m_blocks m_price m_trade m_filled m_rest m_out), 0, 0)) := by
  have w_L5 : ∀ (n : Nat) (x3 : Int64) (x5 : Int32), mz_A g M_m_balanceOf (mz_rm 2) (fun r => (0, some (.long r), ex, (hT, HM m_thrown m_n m_collateral m_many m_need m_isBlock m_hours m_side m_quantity m_limit m_sent m_sealed m_rounds m_liar m_told m_passed m_vectors m_meters m_cleared m_prices m_trades m_fills m_welfares m_orderEntry m_orderFill m_orders m_blockEntry m_blockFill m_blocks m_price m_trade m_filled m_rest m_out), 0, 0)) 5 [(0, .ref 54), (1, .int x1), (2, .int x2), (3, .long x3), (5, .int x5)] [] ex (hT, HM m_thrown m_n m_collateral m_many m_need m_isBlock m_hours m_side m_quantity m_limit m_sent m_sealed m_rounds m_liar m_told m_passed m_vectors m_meters m_cleared m_prices m_trades m_fills m_welfares m_orderEntry m_orderFill m_orders m_blockEntry m_blockFill m_blocks m_price m_trade m_filled m_rest m_out) 0 0 (f_m_balanceOf_L5 m_many m_isBlock m_hours m_side m_vectors m_meters m_prices m_fills x1 x2 n x3 x5) := by
    intro n
    induction n with
    | zero => intro x3 x5; exact mr_none
    | succ n ih =>
      intro x3 x5
      rw [f_m_balanceOf_L5]
      refine mr_iload d_m_balanceOf_5 rfl ?_
      refine mr_iconst (v := 3) d_m_balanceOf_7 mc_iconst_3 ?_
      refine mr_icmp_ge (tgt := 95) d_m_balanceOf_8 (by decide) ?_ ?_
      · refine mr_lload_n d_m_balanceOf_95 rfl rfl ?_
        exact mr_lret d_m_balanceOf_96 rfl rfl
      · refine mr_aload_n d_m_balanceOf_11 rfl rfl ?_
        refine mr_get K_m 19 d_m_balanceOf_12 lk_f_m_61 (by decide) rfl rfl ?_
        refine mr_iconst (v := 3) d_m_balanceOf_15 mc_iconst_3 ?_
        refine mr_iload_n d_m_balanceOf_16 rfl rfl ?_
        refine mr_imul d_m_balanceOf_17 ?_
        refine mr_iload d_m_balanceOf_18 rfl ?_
        refine mr_iadd d_m_balanceOf_20 ?_
        refine mr_iald d_m_balanceOf_21 rfl (fun hc1 => ?_)
        refine mr_i2l d_m_balanceOf_22 ?_
        refine mr_lstore (lv' := [(6, .long (Int32.toInt64 (m_prices ((3 * x1) + x5).toNatClampNeg))), (0, .ref 54), (1, .int x1), (2, .int x2), (3, .long x3), (5, .int x5)]) d_m_balanceOf_23 (by decide) rfl ?_
        refine mr_aload_n d_m_balanceOf_25 rfl rfl ?_
        refine mr_iload_n d_m_balanceOf_26 rfl rfl ?_
        refine mr_iload_n d_m_balanceOf_27 rfl rfl ?_
        refine mr_iload d_m_balanceOf_28 rfl ?_
        refine mz_go (st := []) e_m_net (fun _ => rfl) U_m_net (mz_vV d_m_balanceOf_30 U_m_net rfl lk_m_m_221 I_m_net s_m_net np_m_net rfl rfl) (Nat.le_of_ble_eq_true rfl) (by decide) (fun r2 => ?_)
        refine mr_eq (st' := [.long r2]) (ex' := ex) (h2 := (hT, HM m_thrown m_n m_collateral m_many m_need m_isBlock m_hours m_side m_quantity m_limit m_sent m_sealed m_rounds m_liar m_told m_passed m_vectors m_meters m_cleared m_prices m_trades m_fills m_welfares m_orderEntry m_orderFill m_orders m_blockEntry m_blockFill m_blocks m_price m_trade m_filled m_rest m_out)) (k' := 0) (n' := 0) rfl rfl rfl rfl rfl ?_
        refine mr_lstore (lv' := [(8, .long r2), (6, .long (Int32.toInt64 (m_prices ((3 * x1) + x5).toNatClampNeg))), (0, .ref 54), (1, .int x1), (2, .int x2), (3, .long x3), (5, .int x5)]) d_m_balanceOf_33 (by decide) rfl ?_
        refine mr_aload_n d_m_balanceOf_35 rfl rfl ?_
        refine mr_get K_m 17 d_m_balanceOf_36 lk_f_m_55 (by decide) rfl rfl ?_
        refine mr_iconst (v := 3) d_m_balanceOf_39 mc_iconst_3 ?_
        refine mr_iload_n d_m_balanceOf_40 rfl rfl ?_
        refine mr_imul d_m_balanceOf_41 ?_
        refine mr_iload d_m_balanceOf_42 rfl ?_
        refine mr_iadd d_m_balanceOf_44 ?_
        refine mr_iald d_m_balanceOf_45 rfl (fun hc3 => ?_)
        refine mr_i2l d_m_balanceOf_46 ?_
        refine mr_lload d_m_balanceOf_47 rfl ?_
        refine mr_lsub d_m_balanceOf_49 ?_
        refine mr_lstore (lv' := [(10, .long ((Int32.toInt64 (m_meters ((3 * x2) + x5).toNatClampNeg)) - r2)), (8, .long r2), (6, .long (Int32.toInt64 (m_prices ((3 * x1) + x5).toNatClampNeg))), (0, .ref 54), (1, .int x1), (2, .int x2), (3, .long x3), (5, .int x5)]) d_m_balanceOf_50 (by decide) rfl ?_
        refine mr_lload_n d_m_balanceOf_52 rfl rfl ?_
        refine mr_lload d_m_balanceOf_53 rfl ?_
        refine mr_lload d_m_balanceOf_55 rfl ?_
        refine mr_lmul d_m_balanceOf_57 ?_
        refine mr_lload d_m_balanceOf_58 rfl ?_
        refine mr_lconst (v := 0) d_m_balanceOf_60 mc_lconst_0 ?_
        refine mr_lcmp d_m_balanceOf_61 ?_
        refine mr_if_le (tgt := 77) d_m_balanceOf_62 (by decide) ?_ ?_
        · refine mr_lload d_m_balanceOf_77 rfl ?_
          refine mr_lload d_m_balanceOf_79 rfl ?_
          refine mr_ldc2 (v := 50) d_m_balanceOf_81 lk_k_m_225 ?_
          refine mr_ladd d_m_balanceOf_84 ?_
          refine mr_lmul d_m_balanceOf_85 ?_
          refine mr_ladd d_m_balanceOf_86 ?_
          refine mr_ladd d_m_balanceOf_87 ?_
          refine mr_lstore_n (lv' := [(3, .long (x3 + (((Int32.toInt64 (m_prices ((3 * x1) + x5).toNatClampNeg)) * r2) + (((Int32.toInt64 (m_meters ((3 * x2) + x5).toNatClampNeg)) - r2) * ((Int32.toInt64 (m_prices ((3 * x1) + x5).toNatClampNeg)) + 50))))), (10, .long ((Int32.toInt64 (m_meters ((3 * x2) + x5).toNatClampNeg)) - r2)), (8, .long r2), (6, .long (Int32.toInt64 (m_prices ((3 * x1) + x5).toNatClampNeg))), (0, .ref 54), (1, .int x1), (2, .int x2), (5, .int x5)]) d_m_balanceOf_88 rfl (by decide) rfl ?_
          refine mr_iinc (v := (x5 + 1)) (lv' := [(5, .int (x5 + 1)), (3, .long (x3 + (((Int32.toInt64 (m_prices ((3 * x1) + x5).toNatClampNeg)) * r2) + (((Int32.toInt64 (m_meters ((3 * x2) + x5).toNatClampNeg)) - r2) * ((Int32.toInt64 (m_prices ((3 * x1) + x5).toNatClampNeg)) + 50))))), (10, .long ((Int32.toInt64 (m_meters ((3 * x2) + x5).toNatClampNeg)) - r2)), (8, .long r2), (6, .long (Int32.toInt64 (m_prices ((3 * x1) + x5).toNatClampNeg))), (0, .ref 54), (1, .int x1), (2, .int x2)]) d_m_balanceOf_89 rfl rfl (by decide) rfl ?_
          refine mr_goto (tgt := 5) d_m_balanceOf_92 (by decide) ?_
          refine mr_sub (lv' := [(0, .ref 54), (1, .int x1), (2, .int x2), (3, .long (x3 + (((Int32.toInt64 (m_prices ((3 * x1) + x5).toNatClampNeg)) * r2) + (((Int32.toInt64 (m_meters ((3 * x2) + x5).toNatClampNeg)) - r2) * ((Int32.toInt64 (m_prices ((3 * x1) + x5).toNatClampNeg)) + 50))))), (5, .int (x5 + 1))]) [5, 6, 7, 1, 0] rfl ?_
          exact ih _ _
        · refine mr_lload d_m_balanceOf_65 rfl ?_
          refine mr_lload d_m_balanceOf_67 rfl ?_
          refine mr_ldc2 (v := 50) d_m_balanceOf_69 lk_k_m_225 ?_
          refine mr_lsub d_m_balanceOf_72 ?_
          refine mr_lmul d_m_balanceOf_73 ?_
          refine mr_goto (tgt := 86) d_m_balanceOf_74 (by decide) ?_
          refine mr_ladd d_m_balanceOf_86 ?_
          refine mr_ladd d_m_balanceOf_87 ?_
          refine mr_lstore_n (lv' := [(3, .long (x3 + (((Int32.toInt64 (m_prices ((3 * x1) + x5).toNatClampNeg)) * r2) + (((Int32.toInt64 (m_meters ((3 * x2) + x5).toNatClampNeg)) - r2) * ((Int32.toInt64 (m_prices ((3 * x1) + x5).toNatClampNeg)) - 50))))), (10, .long ((Int32.toInt64 (m_meters ((3 * x2) + x5).toNatClampNeg)) - r2)), (8, .long r2), (6, .long (Int32.toInt64 (m_prices ((3 * x1) + x5).toNatClampNeg))), (0, .ref 54), (1, .int x1), (2, .int x2), (5, .int x5)]) d_m_balanceOf_88 rfl (by decide) rfl ?_
          refine mr_iinc (v := (x5 + 1)) (lv' := [(5, .int (x5 + 1)), (3, .long (x3 + (((Int32.toInt64 (m_prices ((3 * x1) + x5).toNatClampNeg)) * r2) + (((Int32.toInt64 (m_meters ((3 * x2) + x5).toNatClampNeg)) - r2) * ((Int32.toInt64 (m_prices ((3 * x1) + x5).toNatClampNeg)) - 50))))), (10, .long ((Int32.toInt64 (m_meters ((3 * x2) + x5).toNatClampNeg)) - r2)), (8, .long r2), (6, .long (Int32.toInt64 (m_prices ((3 * x1) + x5).toNatClampNeg))), (0, .ref 54), (1, .int x1), (2, .int x2)]) d_m_balanceOf_89 rfl rfl (by decide) rfl ?_
          refine mr_goto (tgt := 5) d_m_balanceOf_92 (by decide) ?_
          refine mr_sub (lv' := [(0, .ref 54), (1, .int x1), (2, .int x2), (3, .long (x3 + (((Int32.toInt64 (m_prices ((3 * x1) + x5).toNatClampNeg)) * r2) + (((Int32.toInt64 (m_meters ((3 * x2) + x5).toNatClampNeg)) - r2) * ((Int32.toInt64 (m_prices ((3 * x1) + x5).toNatClampNeg)) - 50))))), (5, .int (x5 + 1))]) [5, 6, 7, 1, 0] rfl ?_
          exact ih _ _
  refine mz_of (by decide) (Nat.le_of_ble_eq_true rfl) ?_
  rw [f_m_balanceOf]
  show mz_A g M_m_balanceOf (mz_rm 2) _ 0 [(0, .ref 54), (1, .int x1), (2, .int x2)] [] ex (hT, HM m_thrown m_n m_collateral m_many m_need m_isBlock m_hours m_side m_quantity m_limit m_sent m_sealed m_rounds m_liar m_told m_passed m_vectors m_meters m_cleared m_prices m_trades m_fills m_welfares m_orderEntry m_orderFill m_orders m_blockEntry m_blockFill m_blocks m_price m_trade m_filled m_rest m_out) 0 0 _
  refine mr_lconst (v := 0) d_m_balanceOf_0 mc_lconst_0 ?_
  refine mr_lstore_n (lv' := [(3, .long 0), (0, .ref 54), (1, .int x1), (2, .int x2)]) d_m_balanceOf_1 rfl (by decide) rfl ?_
  refine mr_iconst (v := 0) d_m_balanceOf_2 mc_iconst_0 ?_
  refine mr_istore (lv' := [(5, .int 0), (3, .long 0), (0, .ref 54), (1, .int x1), (2, .int x2)]) d_m_balanceOf_3 (by decide) rfl ?_
  refine mr_sub (lv' := [(0, .ref 54), (1, .int x1), (2, .int x2), (3, .long 0), (5, .int 0)]) [2, 3, 4, 1, 0] rfl ?_
  exact w_L5 1000 _ _
set_option maxRecDepth 100000 in
set_option maxHeartbeats 4000000 in
theorem e_m_balance {g : mz_G} {ex : Bool} {hT : List mz_E} {m_thrown : Int32} {m_n : Int32} {m_collateral : Nat → Int32} {m_many : Nat → Int32} {m_need : Nat → Int64} {m_isBlock : Nat → Int32} {m_hours : Nat → Int32} {m_side : Nat → Int32} {m_quantity : Nat → Int32} {m_limit : Nat → Int32} {m_sent : Nat → Int32} {m_sealed : Nat → Int32} {m_rounds : Int32} {m_liar : Int32} {m_told : Nat → Int32} {m_passed : Nat → Int32} {m_vectors : Nat → Int32} {m_meters : Nat → Int32} {m_cleared : Nat → Int32} {m_prices : Nat → Int32} {m_trades : Nat → Int32} {m_fills : Nat → Int32} {m_welfares : Nat → Int64} {m_orderEntry : Nat → Int32} {m_orderFill : Nat → Int32} {m_orders : Int32} {m_blockEntry : Nat → Int32} {m_blockFill : Nat → Int32} {m_blocks : Int32} {m_price : Nat → Int32} {m_trade : Nat → Int32} {m_filled : Nat → Int32} {m_rest : Nat → Int64} {m_out : Nat → Int64} {x1 : Int32} {x2 : Int32} : mz_M g M_m_balance 3 [.ref 54, .int x1, .int x2] ex (hT, HM m_thrown m_n m_collateral m_many m_need m_isBlock m_hours m_side m_quantity m_limit m_sent m_sealed m_rounds m_liar m_told m_passed m_vectors m_meters m_cleared m_prices m_trades m_fills m_welfares m_orderEntry m_orderFill m_orders m_blockEntry m_blockFill m_blocks m_price m_trade m_filled m_rest m_out) (f_m_balance m_thrown m_n m_many m_isBlock m_hours m_side m_vectors m_meters m_cleared m_prices m_fills x1 x2) (fun r => (0, some (.long r.1), ex, (hT, HM r.2 m_n m_collateral m_many m_need m_isBlock m_hours m_side m_quantity m_limit m_sent m_sealed m_rounds m_liar m_told m_passed m_vectors m_meters m_cleared m_prices m_trades m_fills m_welfares m_orderEntry m_orderFill m_orders m_blockEntry m_blockFill m_blocks m_price m_trade m_filled m_rest m_out), 0, 0)) := by
  have w_L61 : ∀ (n : Nat) (m_thrown : Int32) (x3 : Int64) (x5 : Int32), mz_A g M_m_balance (mz_rm 3) (fun r => (0, some (.long r.1), ex, (hT, HM r.2 m_n m_collateral m_many m_need m_isBlock m_hours m_side m_quantity m_limit m_sent m_sealed m_rounds m_liar m_told m_passed m_vectors m_meters m_cleared m_prices m_trades m_fills m_welfares m_orderEntry m_orderFill m_orders m_blockEntry m_blockFill m_blocks m_price m_trade m_filled m_rest m_out), 0, 0)) 61 [(0, .ref 54), (1, .int x1), (3, .long x3), (5, .int x5)] [] ex (hT, HM m_thrown m_n m_collateral m_many m_need m_isBlock m_hours m_side m_quantity m_limit m_sent m_sealed m_rounds m_liar m_told m_passed m_vectors m_meters m_cleared m_prices m_trades m_fills m_welfares m_orderEntry m_orderFill m_orders m_blockEntry m_blockFill m_blocks m_price m_trade m_filled m_rest m_out) 0 0 (f_m_balance_L61 m_n m_many m_isBlock m_hours m_side m_vectors m_meters m_cleared m_prices m_fills x1 n m_thrown x3 x5) := by
    intro n
    induction n with
    | zero => intro m_thrown x3 x5; exact mr_none
    | succ n ih =>
      intro m_thrown x3 x5
      rw [f_m_balance_L61]
      refine mr_iload d_m_balance_61 rfl ?_
      refine mr_aload_n d_m_balance_63 rfl rfl ?_
      refine mr_get K_m 1 d_m_balance_64 lk_f_m_97 (by decide) rfl rfl ?_
      refine mr_icmp_ge (tgt := 86) d_m_balance_67 (by decide) ?_ ?_
      · refine mr_lload_n d_m_balance_86 rfl rfl ?_
        refine mr_lneg d_m_balance_87 ?_
        exact mr_lret d_m_balance_88 rfl rfl
      · refine mr_lload_n d_m_balance_70 rfl rfl ?_
        refine mr_aload_n d_m_balance_71 rfl rfl ?_
        refine mr_iload_n d_m_balance_72 rfl rfl ?_
        refine mr_iload d_m_balance_73 rfl ?_
        refine mz_go (st := [.long x3]) e_m_balanceOf (fun _ => rfl) U_m_balanceOf (mz_vV d_m_balance_75 U_m_balanceOf rfl lk_m_m_227 I_m_balanceOf s_m_balanceOf np_m_balanceOf rfl rfl) (Nat.le_of_ble_eq_true rfl) (by decide) (fun r5 => ?_)
        refine mr_eq (st' := [.long r5, .long x3]) (ex' := ex) (h2 := (hT, HM m_thrown m_n m_collateral m_many m_need m_isBlock m_hours m_side m_quantity m_limit m_sent m_sealed m_rounds m_liar m_told m_passed m_vectors m_meters m_cleared m_prices m_trades m_fills m_welfares m_orderEntry m_orderFill m_orders m_blockEntry m_blockFill m_blocks m_price m_trade m_filled m_rest m_out)) (k' := 0) (n' := 0) rfl rfl rfl rfl rfl ?_
        refine mr_ladd d_m_balance_78 ?_
        refine mr_lstore_n (lv' := [(3, .long (x3 + r5)), (0, .ref 54), (1, .int x1), (5, .int x5)]) d_m_balance_79 rfl (by decide) rfl ?_
        refine mr_iinc (v := (x5 + 1)) (lv' := [(5, .int (x5 + 1)), (3, .long (x3 + r5)), (0, .ref 54), (1, .int x1)]) d_m_balance_80 rfl rfl (by decide) rfl ?_
        refine mr_goto (tgt := 61) d_m_balance_83 (by decide) ?_
        refine mr_sub (lv' := [(0, .ref 54), (1, .int x1), (3, .long (x3 + r5)), (5, .int (x5 + 1))]) [2, 3, 1, 0] rfl ?_
        exact ih _ _ _
  have w_b36 : ∀ (m_thrown : Int32) (s1 : Int32), mz_A g M_m_balance (mz_rm 3) (fun r => (0, some (.long r.1), ex, (hT, HM r.2 m_n m_collateral m_many m_need m_isBlock m_hours m_side m_quantity m_limit m_sent m_sealed m_rounds m_liar m_told m_passed m_vectors m_meters m_cleared m_prices m_trades m_fills m_welfares m_orderEntry m_orderFill m_orders m_blockEntry m_blockFill m_blocks m_price m_trade m_filled m_rest m_out), 0, 0)) 36 [(0, .ref 54), (1, .int x1), (2, .int x2)] [.int s1, .ref 54] ex (hT, HM m_thrown m_n m_collateral m_many m_need m_isBlock m_hours m_side m_quantity m_limit m_sent m_sealed m_rounds m_liar m_told m_passed m_vectors m_meters m_cleared m_prices m_trades m_fills m_welfares m_orderEntry m_orderFill m_orders m_blockEntry m_blockFill m_blocks m_price m_trade m_filled m_rest m_out) 0 0 (f_m_balance_b36 m_n m_many m_isBlock m_hours m_side m_vectors m_meters m_cleared m_prices m_fills x1 x2 m_thrown s1) := by
    intro  m_thrown s1
    rw [f_m_balance_b36]
    refine mr_iload_n d_m_balance_36 rfl rfl ?_
    refine mz_go (st := []) e_m_isUncleared (fun _ => rfl) U_m_isUncleared (mz_vV d_m_balance_37 U_m_isUncleared rfl lk_m_m_211 I_m_isUncleared s_m_isUncleared np_m_isUncleared rfl rfl) (Nat.le_of_ble_eq_true rfl) (by decide) (fun r3 => ?_)
    refine mr_eq (st' := [.int r3.1]) (ex' := ex) (h2 := (hT, HM r3.2 m_n m_collateral m_many m_need m_isBlock m_hours m_side m_quantity m_limit m_sent m_sealed m_rounds m_liar m_told m_passed m_vectors m_meters m_cleared m_prices m_trades m_fills m_welfares m_orderEntry m_orderFill m_orders m_blockEntry m_blockFill m_blocks m_price m_trade m_filled m_rest m_out)) (k' := 0) (n' := 0) rfl rfl rfl rfl rfl ?_
    refine mr_if_eq (tgt := 45) d_m_balance_40 (by decide) ?_ ?_
    · refine mr_iload_n d_m_balance_45 rfl rfl ?_
      refine mr_if_lt (tgt := 56) d_m_balance_46 (by decide) ?_ ?_
      · refine mr_lconst (v := 0) d_m_balance_56 mc_lconst_0 ?_
        refine mr_lstore_n (lv' := [(3, .long 0), (0, .ref 54), (1, .int x1), (2, .int x2)]) d_m_balance_57 rfl (by decide) rfl ?_
        refine mr_iconst (v := 0) d_m_balance_58 mc_iconst_0 ?_
        refine mr_istore (lv' := [(5, .int 0), (3, .long 0), (0, .ref 54), (1, .int x1), (2, .int x2)]) d_m_balance_59 (by decide) rfl ?_
        refine mr_sub (lv' := [(0, .ref 54), (1, .int x1), (3, .long 0), (5, .int 0)]) [2, 3, 1, 0] rfl ?_
        exact w_L61 1000 _ _ _
      · refine mr_aload_n d_m_balance_49 rfl rfl ?_
        refine mr_iload_n d_m_balance_50 rfl rfl ?_
        refine mr_iload_n d_m_balance_51 rfl rfl ?_
        refine mz_go (st := []) e_m_balanceOf (fun _ => rfl) U_m_balanceOf (mz_vV d_m_balance_52 U_m_balanceOf rfl lk_m_m_227 I_m_balanceOf s_m_balanceOf np_m_balanceOf rfl rfl) (Nat.le_of_ble_eq_true rfl) (by decide) (fun r4 => ?_)
        refine mr_eq (st' := [.long r4]) (ex' := ex) (h2 := (hT, HM r3.2 m_n m_collateral m_many m_need m_isBlock m_hours m_side m_quantity m_limit m_sent m_sealed m_rounds m_liar m_told m_passed m_vectors m_meters m_cleared m_prices m_trades m_fills m_welfares m_orderEntry m_orderFill m_orders m_blockEntry m_blockFill m_blocks m_price m_trade m_filled m_rest m_out)) (k' := 0) (n' := 0) rfl rfl rfl rfl rfl ?_
        exact mr_lret d_m_balance_55 rfl rfl
    · refine mr_lconst (v := 0) d_m_balance_43 mc_lconst_0 ?_
      exact mr_lret d_m_balance_44 rfl rfl
  have w_b31 : ∀ (m_thrown : Int32), mz_A g M_m_balance (mz_rm 3) (fun r => (0, some (.long r.1), ex, (hT, HM r.2 m_n m_collateral m_many m_need m_isBlock m_hours m_side m_quantity m_limit m_sent m_sealed m_rounds m_liar m_told m_passed m_vectors m_meters m_cleared m_prices m_trades m_fills m_welfares m_orderEntry m_orderFill m_orders m_blockEntry m_blockFill m_blocks m_price m_trade m_filled m_rest m_out), 0, 0)) 31 [(0, .ref 54), (1, .int x1), (2, .int x2)] [.ref 54] ex (hT, HM m_thrown m_n m_collateral m_many m_need m_isBlock m_hours m_side m_quantity m_limit m_sent m_sealed m_rounds m_liar m_told m_passed m_vectors m_meters m_cleared m_prices m_trades m_fills m_welfares m_orderEntry m_orderFill m_orders m_blockEntry m_blockFill m_blocks m_price m_trade m_filled m_rest m_out) 0 0 (f_m_balance_b31 m_n m_many m_isBlock m_hours m_side m_vectors m_meters m_cleared m_prices m_fills x1 x2 m_thrown) := by
    intro  m_thrown
    rw [f_m_balance_b31]
    refine mr_iconst (v := 1) d_m_balance_31 mc_iconst_1 ?_
    refine mr_goto (tgt := 36) d_m_balance_32 (by decide) ?_
    exact w_b36 _ _
  refine mz_of (by decide) (Nat.le_of_ble_eq_true rfl) ?_
  rw [f_m_balance]
  show mz_A g M_m_balance (mz_rm 3) _ 0 [(0, .ref 54), (1, .int x1), (2, .int x2)] [] ex (hT, HM m_thrown m_n m_collateral m_many m_need m_isBlock m_hours m_side m_quantity m_limit m_sent m_sealed m_rounds m_liar m_told m_passed m_vectors m_meters m_cleared m_prices m_trades m_fills m_welfares m_orderEntry m_orderFill m_orders m_blockEntry m_blockFill m_blocks m_price m_trade m_filled m_rest m_out) 0 0 _
  refine mr_aload_n d_m_balance_0 rfl rfl ?_
  refine mr_iload_n d_m_balance_1 rfl rfl ?_
  refine mr_i2l d_m_balance_2 ?_
  refine mr_lconst (v := 0) d_m_balance_3 mc_lconst_0 ?_
  refine mr_ldc2 (v := 3) d_m_balance_4 lk_k_m_125 ?_
  refine mz_go (st := [.ref 54]) e_m_in (fun _ => rfl) U_m_in (mz_vS d_m_balance_7 U_m_in lk_m_m_106 S_m_in np_m_in) (Nat.le_of_ble_eq_true rfl) (by decide) (fun r1 => ?_)
  refine mr_eq (st' := [.int r1, .ref 54]) (ex' := ex) (h2 := (hT, HM m_thrown m_n m_collateral m_many m_need m_isBlock m_hours m_side m_quantity m_limit m_sent m_sealed m_rounds m_liar m_told m_passed m_vectors m_meters m_cleared m_prices m_trades m_fills m_welfares m_orderEntry m_orderFill m_orders m_blockEntry m_blockFill m_blocks m_price m_trade m_filled m_rest m_out)) (k' := 0) (n' := 0) rfl rfl rfl rfl rfl ?_
  refine mr_if_eq (tgt := 31) d_m_balance_10 (by decide) ?_ ?_
  · exact w_b31 _
  · refine mr_iload_n d_m_balance_13 rfl rfl ?_
    refine mr_i2l d_m_balance_14 ?_
    refine mr_ldc2 (v := (-1)) d_m_balance_15 lk_k_m_123 ?_
    refine mr_aload_n d_m_balance_18 rfl rfl ?_
    refine mr_get K_m 1 d_m_balance_19 lk_f_m_97 (by decide) rfl rfl ?_
    refine mr_iconst (v := 1) d_m_balance_22 mc_iconst_1 ?_
    refine mr_isub d_m_balance_23 ?_
    refine mr_i2l d_m_balance_24 ?_
    refine mz_go (st := [.ref 54]) e_m_in (fun _ => rfl) U_m_in (mz_vS d_m_balance_25 U_m_in lk_m_m_106 S_m_in np_m_in) (Nat.le_of_ble_eq_true rfl) (by decide) (fun r2 => ?_)
    refine mr_eq (st' := [.int r2, .ref 54]) (ex' := ex) (h2 := (hT, HM m_thrown m_n m_collateral m_many m_need m_isBlock m_hours m_side m_quantity m_limit m_sent m_sealed m_rounds m_liar m_told m_passed m_vectors m_meters m_cleared m_prices m_trades m_fills m_welfares m_orderEntry m_orderFill m_orders m_blockEntry m_blockFill m_blocks m_price m_trade m_filled m_rest m_out)) (k' := 0) (n' := 0) rfl rfl rfl rfl rfl ?_
    refine mr_if_ne (tgt := 35) d_m_balance_28 (by decide) ?_ ?_
    · refine mr_iconst (v := 0) d_m_balance_35 mc_iconst_0 ?_
      exact w_b36 _ _
    · exact w_b31 _
