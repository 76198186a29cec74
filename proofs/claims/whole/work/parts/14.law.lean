def SX : Type := Int32 × (Nat → Int32) × (Nat → Int32) × (Nat → Int32) × (Nat → Int32) × Int32 × (Nat → Int32) × (Nat → Int64) × (Nat → Int32) × (Nat → Int32) × (Nat → Int32) × (Nat → Int32) × (Nat → Int32) × (Nat → Int32) × (Nat → Int32) × (Nat → Int32) × Int32 × Int32 × (Nat → Int32) × (Nat → Int32) × (Nat → Int32) × (Nat → Int32) × (Nat → Int32) × (Nat → Int32) × Int32 × Int32 × (Nat → Nat → Int32) × (Nat → Nat → Int32) × (Nat → Nat → Int32) × (Nat → Int32) × (Nat → Int32) × (Nat → Int32) × (Nat → Int32) × (Nat → Int32) × (Nat → Int32) × (Nat → Int32) × (Nat → Int32) × (Nat → Int32) × (Nat → Int64) × (Nat → Nat → Int32) × (Nat → Nat → Int32) × (Nat → Nat → Int32) × (Nat → Int64) × (Nat → Int32) × (Nat → Int32)
def SX.of (x_members : Int32) (x_collaterals : Nat → Int32) (x_hasSent : Nat → Int32) (x_isSealed : Nat → Int32) (x_metered : Nat → Int32) (x_sealedCount : Int32) (bk_counts : Nat → Int32) (bk_needs : Nat → Int64) (bk_whens : Nat → Int32) (bk_sides : Nat → Int32) (bk_quantities : Nat → Int32) (bk_limits : Nat → Int32) (ag_toldLies : Nat → Int32) (ag_passedLies : Nat → Int32) (ag_words : Nat → Int32) (ag_vectors : Nat → Int32) (ag_liarOperator : Int32) (ag_rounds : Int32) (mk_entries : Nat → Int32) (mk_slots : Nat → Int32) (mk_remainders : Nat → Int32) (mk_blocks : Nat → Int32) (mk_blockBids : Nat → Int32) (mk_blockOffers : Nat → Int32) (mk_entryCount : Int32) (mk_blockCount : Int32) (cv_limits : Nat → Nat → Int32) (cv_bids : Nat → Nat → Int32) (cv_offers : Nat → Nat → Int32) (cv_count : Nat → Int32) (cv_allBids : Nat → Int32) (cv_allOffers : Nat → Int32) (cv_meetingPrice : Nat → Int32) (cv_sureBids : Nat → Int32) (cv_sureOffers : Nat → Int32) (cv_priceBids : Nat → Int32) (cv_priceOffers : Nat → Int32) (cv_volume : Nat → Int32) (cv_worth : Nat → Int64) (oc_prices : Nat → Nat → Int32) (oc_volumes : Nat → Nat → Int32) (oc_filled : Nat → Nat → Int32) (oc_worth : Nat → Int64) (oc_takenSet : Nat → Int32) (oc_isDone : Nat → Int32) : SX := (x_members, x_collaterals, x_hasSent, x_isSealed, x_metered, x_sealedCount, bk_counts, bk_needs, bk_whens, bk_sides, bk_quantities, bk_limits, ag_toldLies, ag_passedLies, ag_words, ag_vectors, ag_liarOperator, ag_rounds, mk_entries, mk_slots, mk_remainders, mk_blocks, mk_blockBids, mk_blockOffers, mk_entryCount, mk_blockCount, cv_limits, cv_bids, cv_offers, cv_count, cv_allBids, cv_allOffers, cv_meetingPrice, cv_sureBids, cv_sureOffers, cv_priceBids, cv_priceOffers, cv_volume, cv_worth, oc_prices, oc_volumes, oc_filled, oc_worth, oc_takenSet, oc_isDone)
def SX.x_members (s : SX) : Int32 := s.1
def SX.x_collaterals (s : SX) : Nat → Int32 := s.2.1
def SX.x_hasSent (s : SX) : Nat → Int32 := s.2.2.1
def SX.x_isSealed (s : SX) : Nat → Int32 := s.2.2.2.1
def SX.x_metered (s : SX) : Nat → Int32 := s.2.2.2.2.1
def SX.x_sealedCount (s : SX) : Int32 := s.2.2.2.2.2.1
def SX.bk_counts (s : SX) : Nat → Int32 := s.2.2.2.2.2.2.1
def SX.bk_needs (s : SX) : Nat → Int64 := s.2.2.2.2.2.2.2.1
def SX.bk_whens (s : SX) : Nat → Int32 := s.2.2.2.2.2.2.2.2.1
def SX.bk_sides (s : SX) : Nat → Int32 := s.2.2.2.2.2.2.2.2.2.1
def SX.bk_quantities (s : SX) : Nat → Int32 := s.2.2.2.2.2.2.2.2.2.2.1
def SX.bk_limits (s : SX) : Nat → Int32 := s.2.2.2.2.2.2.2.2.2.2.2.1
def SX.ag_toldLies (s : SX) : Nat → Int32 := s.2.2.2.2.2.2.2.2.2.2.2.2.1
def SX.ag_passedLies (s : SX) : Nat → Int32 := s.2.2.2.2.2.2.2.2.2.2.2.2.2.1
def SX.ag_words (s : SX) : Nat → Int32 := s.2.2.2.2.2.2.2.2.2.2.2.2.2.2.1
def SX.ag_vectors (s : SX) : Nat → Int32 := s.2.2.2.2.2.2.2.2.2.2.2.2.2.2.2.1
def SX.ag_liarOperator (s : SX) : Int32 := s.2.2.2.2.2.2.2.2.2.2.2.2.2.2.2.2.1
def SX.ag_rounds (s : SX) : Int32 := s.2.2.2.2.2.2.2.2.2.2.2.2.2.2.2.2.2.1
def SX.mk_entries (s : SX) : Nat → Int32 := s.2.2.2.2.2.2.2.2.2.2.2.2.2.2.2.2.2.2.1
def SX.mk_slots (s : SX) : Nat → Int32 := s.2.2.2.2.2.2.2.2.2.2.2.2.2.2.2.2.2.2.2.1
def SX.mk_remainders (s : SX) : Nat → Int32 := s.2.2.2.2.2.2.2.2.2.2.2.2.2.2.2.2.2.2.2.2.1
def SX.mk_blocks (s : SX) : Nat → Int32 := s.2.2.2.2.2.2.2.2.2.2.2.2.2.2.2.2.2.2.2.2.2.1
def SX.mk_blockBids (s : SX) : Nat → Int32 := s.2.2.2.2.2.2.2.2.2.2.2.2.2.2.2.2.2.2.2.2.2.2.1
def SX.mk_blockOffers (s : SX) : Nat → Int32 := s.2.2.2.2.2.2.2.2.2.2.2.2.2.2.2.2.2.2.2.2.2.2.2.1
def SX.mk_entryCount (s : SX) : Int32 := s.2.2.2.2.2.2.2.2.2.2.2.2.2.2.2.2.2.2.2.2.2.2.2.2.1
def SX.mk_blockCount (s : SX) : Int32 := s.2.2.2.2.2.2.2.2.2.2.2.2.2.2.2.2.2.2.2.2.2.2.2.2.2.1
def SX.cv_limits (s : SX) : Nat → Nat → Int32 := s.2.2.2.2.2.2.2.2.2.2.2.2.2.2.2.2.2.2.2.2.2.2.2.2.2.2.1
def SX.cv_bids (s : SX) : Nat → Nat → Int32 := s.2.2.2.2.2.2.2.2.2.2.2.2.2.2.2.2.2.2.2.2.2.2.2.2.2.2.2.1
def SX.cv_offers (s : SX) : Nat → Nat → Int32 := s.2.2.2.2.2.2.2.2.2.2.2.2.2.2.2.2.2.2.2.2.2.2.2.2.2.2.2.2.1
def SX.cv_count (s : SX) : Nat → Int32 := s.2.2.2.2.2.2.2.2.2.2.2.2.2.2.2.2.2.2.2.2.2.2.2.2.2.2.2.2.2.1
def SX.cv_allBids (s : SX) : Nat → Int32 := s.2.2.2.2.2.2.2.2.2.2.2.2.2.2.2.2.2.2.2.2.2.2.2.2.2.2.2.2.2.2.1
def SX.cv_allOffers (s : SX) : Nat → Int32 := s.2.2.2.2.2.2.2.2.2.2.2.2.2.2.2.2.2.2.2.2.2.2.2.2.2.2.2.2.2.2.2.1
def SX.cv_meetingPrice (s : SX) : Nat → Int32 := s.2.2.2.2.2.2.2.2.2.2.2.2.2.2.2.2.2.2.2.2.2.2.2.2.2.2.2.2.2.2.2.2.1
def SX.cv_sureBids (s : SX) : Nat → Int32 := s.2.2.2.2.2.2.2.2.2.2.2.2.2.2.2.2.2.2.2.2.2.2.2.2.2.2.2.2.2.2.2.2.2.1
def SX.cv_sureOffers (s : SX) : Nat → Int32 := s.2.2.2.2.2.2.2.2.2.2.2.2.2.2.2.2.2.2.2.2.2.2.2.2.2.2.2.2.2.2.2.2.2.2.1
def SX.cv_priceBids (s : SX) : Nat → Int32 := s.2.2.2.2.2.2.2.2.2.2.2.2.2.2.2.2.2.2.2.2.2.2.2.2.2.2.2.2.2.2.2.2.2.2.2.1
def SX.cv_priceOffers (s : SX) : Nat → Int32 := s.2.2.2.2.2.2.2.2.2.2.2.2.2.2.2.2.2.2.2.2.2.2.2.2.2.2.2.2.2.2.2.2.2.2.2.2.1
def SX.cv_volume (s : SX) : Nat → Int32 := s.2.2.2.2.2.2.2.2.2.2.2.2.2.2.2.2.2.2.2.2.2.2.2.2.2.2.2.2.2.2.2.2.2.2.2.2.2.1
def SX.cv_worth (s : SX) : Nat → Int64 := s.2.2.2.2.2.2.2.2.2.2.2.2.2.2.2.2.2.2.2.2.2.2.2.2.2.2.2.2.2.2.2.2.2.2.2.2.2.2.1
def SX.oc_prices (s : SX) : Nat → Nat → Int32 := s.2.2.2.2.2.2.2.2.2.2.2.2.2.2.2.2.2.2.2.2.2.2.2.2.2.2.2.2.2.2.2.2.2.2.2.2.2.2.2.1
def SX.oc_volumes (s : SX) : Nat → Nat → Int32 := s.2.2.2.2.2.2.2.2.2.2.2.2.2.2.2.2.2.2.2.2.2.2.2.2.2.2.2.2.2.2.2.2.2.2.2.2.2.2.2.2.1
def SX.oc_filled (s : SX) : Nat → Nat → Int32 := s.2.2.2.2.2.2.2.2.2.2.2.2.2.2.2.2.2.2.2.2.2.2.2.2.2.2.2.2.2.2.2.2.2.2.2.2.2.2.2.2.2.1
def SX.oc_worth (s : SX) : Nat → Int64 := s.2.2.2.2.2.2.2.2.2.2.2.2.2.2.2.2.2.2.2.2.2.2.2.2.2.2.2.2.2.2.2.2.2.2.2.2.2.2.2.2.2.2.1
def SX.oc_takenSet (s : SX) : Nat → Int32 := s.2.2.2.2.2.2.2.2.2.2.2.2.2.2.2.2.2.2.2.2.2.2.2.2.2.2.2.2.2.2.2.2.2.2.2.2.2.2.2.2.2.2.2.1
def SX.oc_isDone (s : SX) : Nat → Int32 := s.2.2.2.2.2.2.2.2.2.2.2.2.2.2.2.2.2.2.2.2.2.2.2.2.2.2.2.2.2.2.2.2.2.2.2.2.2.2.2.2.2.2.2.2
def SM : Type := Int32 × Int32 × (Nat → Int32) × (Nat → Int32) × (Nat → Int64) × (Nat → Int32) × (Nat → Int32) × (Nat → Int32) × (Nat → Int32) × (Nat → Int32) × (Nat → Int32) × (Nat → Int32) × Int32 × Int32 × (Nat → Int32) × (Nat → Int32) × (Nat → Int32) × (Nat → Int32) × (Nat → Int32) × (Nat → Int32) × (Nat → Int32) × (Nat → Int32) × (Nat → Int64) × (Nat → Int32) × (Nat → Int32) × Int32 × (Nat → Int32) × (Nat → Int32) × Int32 × (Nat → Int32) × (Nat → Int32) × (Nat → Int32) × (Nat → Int64) × (Nat → Int64)
def SM.of (m_thrown : Int32) (m_n : Int32) (m_collateral : Nat → Int32) (m_many : Nat → Int32) (m_need : Nat → Int64) (m_isBlock : Nat → Int32) (m_hours : Nat → Int32) (m_side : Nat → Int32) (m_quantity : Nat → Int32) (m_limit : Nat → Int32) (m_sent : Nat → Int32) (m_sealed : Nat → Int32) (m_rounds : Int32) (m_liar : Int32) (m_told : Nat → Int32) (m_passed : Nat → Int32) (m_vectors : Nat → Int32) (m_meters : Nat → Int32) (m_cleared : Nat → Int32) (m_prices : Nat → Int32) (m_trades : Nat → Int32) (m_fills : Nat → Int32) (m_welfares : Nat → Int64) (m_orderEntry : Nat → Int32) (m_orderFill : Nat → Int32) (m_orders : Int32) (m_blockEntry : Nat → Int32) (m_blockFill : Nat → Int32) (m_blocks : Int32) (m_price : Nat → Int32) (m_trade : Nat → Int32) (m_filled : Nat → Int32) (m_rest : Nat → Int64) (m_out : Nat → Int64) : SM := (m_thrown, m_n, m_collateral, m_many, m_need, m_isBlock, m_hours, m_side, m_quantity, m_limit, m_sent, m_sealed, m_rounds, m_liar, m_told, m_passed, m_vectors, m_meters, m_cleared, m_prices, m_trades, m_fills, m_welfares, m_orderEntry, m_orderFill, m_orders, m_blockEntry, m_blockFill, m_blocks, m_price, m_trade, m_filled, m_rest, m_out)
def SM.m_thrown (s : SM) : Int32 := s.1
def SM.m_n (s : SM) : Int32 := s.2.1
def SM.m_collateral (s : SM) : Nat → Int32 := s.2.2.1
def SM.m_many (s : SM) : Nat → Int32 := s.2.2.2.1
def SM.m_need (s : SM) : Nat → Int64 := s.2.2.2.2.1
def SM.m_isBlock (s : SM) : Nat → Int32 := s.2.2.2.2.2.1
def SM.m_hours (s : SM) : Nat → Int32 := s.2.2.2.2.2.2.1
def SM.m_side (s : SM) : Nat → Int32 := s.2.2.2.2.2.2.2.1
def SM.m_quantity (s : SM) : Nat → Int32 := s.2.2.2.2.2.2.2.2.1
def SM.m_limit (s : SM) : Nat → Int32 := s.2.2.2.2.2.2.2.2.2.1
def SM.m_sent (s : SM) : Nat → Int32 := s.2.2.2.2.2.2.2.2.2.2.1
def SM.m_sealed (s : SM) : Nat → Int32 := s.2.2.2.2.2.2.2.2.2.2.2.1
def SM.m_rounds (s : SM) : Int32 := s.2.2.2.2.2.2.2.2.2.2.2.2.1
def SM.m_liar (s : SM) : Int32 := s.2.2.2.2.2.2.2.2.2.2.2.2.2.1
def SM.m_told (s : SM) : Nat → Int32 := s.2.2.2.2.2.2.2.2.2.2.2.2.2.2.1
def SM.m_passed (s : SM) : Nat → Int32 := s.2.2.2.2.2.2.2.2.2.2.2.2.2.2.2.1
def SM.m_vectors (s : SM) : Nat → Int32 := s.2.2.2.2.2.2.2.2.2.2.2.2.2.2.2.2.1
def SM.m_meters (s : SM) : Nat → Int32 := s.2.2.2.2.2.2.2.2.2.2.2.2.2.2.2.2.2.1
def SM.m_cleared (s : SM) : Nat → Int32 := s.2.2.2.2.2.2.2.2.2.2.2.2.2.2.2.2.2.2.1
def SM.m_prices (s : SM) : Nat → Int32 := s.2.2.2.2.2.2.2.2.2.2.2.2.2.2.2.2.2.2.2.1
def SM.m_trades (s : SM) : Nat → Int32 := s.2.2.2.2.2.2.2.2.2.2.2.2.2.2.2.2.2.2.2.2.1
def SM.m_fills (s : SM) : Nat → Int32 := s.2.2.2.2.2.2.2.2.2.2.2.2.2.2.2.2.2.2.2.2.2.1
def SM.m_welfares (s : SM) : Nat → Int64 := s.2.2.2.2.2.2.2.2.2.2.2.2.2.2.2.2.2.2.2.2.2.2.1
def SM.m_orderEntry (s : SM) : Nat → Int32 := s.2.2.2.2.2.2.2.2.2.2.2.2.2.2.2.2.2.2.2.2.2.2.2.1
def SM.m_orderFill (s : SM) : Nat → Int32 := s.2.2.2.2.2.2.2.2.2.2.2.2.2.2.2.2.2.2.2.2.2.2.2.2.1
def SM.m_orders (s : SM) : Int32 := s.2.2.2.2.2.2.2.2.2.2.2.2.2.2.2.2.2.2.2.2.2.2.2.2.2.1
def SM.m_blockEntry (s : SM) : Nat → Int32 := s.2.2.2.2.2.2.2.2.2.2.2.2.2.2.2.2.2.2.2.2.2.2.2.2.2.2.1
def SM.m_blockFill (s : SM) : Nat → Int32 := s.2.2.2.2.2.2.2.2.2.2.2.2.2.2.2.2.2.2.2.2.2.2.2.2.2.2.2.1
def SM.m_blocks (s : SM) : Int32 := s.2.2.2.2.2.2.2.2.2.2.2.2.2.2.2.2.2.2.2.2.2.2.2.2.2.2.2.2.1
def SM.m_price (s : SM) : Nat → Int32 := s.2.2.2.2.2.2.2.2.2.2.2.2.2.2.2.2.2.2.2.2.2.2.2.2.2.2.2.2.2.1
def SM.m_trade (s : SM) : Nat → Int32 := s.2.2.2.2.2.2.2.2.2.2.2.2.2.2.2.2.2.2.2.2.2.2.2.2.2.2.2.2.2.2.1
def SM.m_filled (s : SM) : Nat → Int32 := s.2.2.2.2.2.2.2.2.2.2.2.2.2.2.2.2.2.2.2.2.2.2.2.2.2.2.2.2.2.2.2.1
def SM.m_rest (s : SM) : Nat → Int64 := s.2.2.2.2.2.2.2.2.2.2.2.2.2.2.2.2.2.2.2.2.2.2.2.2.2.2.2.2.2.2.2.2.1
def SM.m_out (s : SM) : Nat → Int64 := s.2.2.2.2.2.2.2.2.2.2.2.2.2.2.2.2.2.2.2.2.2.2.2.2.2.2.2.2.2.2.2.2.2
def SX.H (x : SX) : List mz_E := HX x.x_members x.x_collaterals x.x_hasSent x.x_isSealed x.x_metered x.x_sealedCount x.bk_counts x.bk_needs x.bk_whens x.bk_sides x.bk_quantities x.bk_limits x.ag_toldLies x.ag_passedLies x.ag_words x.ag_vectors x.ag_liarOperator x.ag_rounds x.mk_entries x.mk_slots x.mk_remainders x.mk_blocks x.mk_blockBids x.mk_blockOffers x.mk_entryCount x.mk_blockCount x.cv_limits x.cv_bids x.cv_offers x.cv_count x.cv_allBids x.cv_allOffers x.cv_meetingPrice x.cv_sureBids x.cv_sureOffers x.cv_priceBids x.cv_priceOffers x.cv_volume x.cv_worth x.oc_prices x.oc_volumes x.oc_filled x.oc_worth x.oc_takenSet x.oc_isDone
def SM.H (m : SM) : List mz_E := HM m.m_thrown m.m_n m.m_collateral m.m_many m.m_need m.m_isBlock m.m_hours m.m_side m.m_quantity m.m_limit m.m_sent m.m_sealed m.m_rounds m.m_liar m.m_told m.m_passed m.m_vectors m.m_meters m.m_cleared m.m_prices m.m_trades m.m_fills m.m_welfares m.m_orderEntry m.m_orderFill m.m_orders m.m_blockEntry m.m_blockFill m.m_blocks m.m_price m.m_trade m.m_filled m.m_rest m.m_out
def St_collateral (x : SX) (m : SM) (a1 : Int32) (a2 : Int32) (c : Int32) (x' : SX) (m' : SM) : Prop := ∃ rx rm, f_law_collateral x.x_members x.x_collaterals x.x_hasSent x.x_isSealed a1 a2 = some rx ∧ f_m_collateral m.m_thrown m.m_n m.m_collateral m.m_sent m.m_sealed a1 a2 = some rm ∧ rm.1 = rx.1 ∧ rx.1 = c ∧ SX.of x.x_members rx.2 x.x_hasSent x.x_isSealed x.x_metered x.x_sealedCount x.bk_counts x.bk_needs x.bk_whens x.bk_sides x.bk_quantities x.bk_limits x.ag_toldLies x.ag_passedLies x.ag_words x.ag_vectors x.ag_liarOperator x.ag_rounds x.mk_entries x.mk_slots x.mk_remainders x.mk_blocks x.mk_blockBids x.mk_blockOffers x.mk_entryCount x.mk_blockCount x.cv_limits x.cv_bids x.cv_offers x.cv_count x.cv_allBids x.cv_allOffers x.cv_meetingPrice x.cv_sureBids x.cv_sureOffers x.cv_priceBids x.cv_priceOffers x.cv_volume x.cv_worth x.oc_prices x.oc_volumes x.oc_filled x.oc_worth x.oc_takenSet x.oc_isDone = x' ∧ SM.of rm.1 m.m_n rm.2 m.m_many m.m_need m.m_isBlock m.m_hours m.m_side m.m_quantity m.m_limit m.m_sent m.m_sealed m.m_rounds m.m_liar m.m_told m.m_passed m.m_vectors m.m_meters m.m_cleared m.m_prices m.m_trades m.m_fills m.m_welfares m.m_orderEntry m.m_orderFill m.m_orders m.m_blockEntry m.m_blockFill m.m_blocks m.m_price m.m_trade m.m_filled m.m_rest m.m_out = m'
def St_order (x : SX) (m : SM) (a1 : Int32) (a2 : Int32) (a3 : Int32) (a4 : Int32) (a5 : Int32) (a6 : Int32) (c : Int32) (x' : SX) (m' : SM) : Prop := ∃ rx rm, f_law_order x.x_members x.x_collaterals x.x_hasSent x.x_isSealed x.bk_counts x.bk_needs x.bk_whens x.bk_sides x.bk_quantities x.bk_limits m.m_out a1 a2 a3 a4 a5 a6 = some rx ∧ f_m_order m.m_thrown m.m_n m.m_collateral m.m_many m.m_need m.m_isBlock m.m_hours m.m_side m.m_quantity m.m_limit m.m_sent m.m_sealed a1 a2 a3 a4 a5 a6 = some rm ∧ rm.2.1 = rx.1 ∧ (rx.1 = 0 → (rx.2.2.2.2.2.2.2.2) 0 = Int32.toInt64 (rm.1)) ∧ rx.1 = c ∧ SX.of x.x_members x.x_collaterals rx.2.1 x.x_isSealed x.x_metered x.x_sealedCount rx.2.2.1 rx.2.2.2.1 rx.2.2.2.2.1 rx.2.2.2.2.2.1 rx.2.2.2.2.2.2.1 rx.2.2.2.2.2.2.2.1 x.ag_toldLies x.ag_passedLies x.ag_words x.ag_vectors x.ag_liarOperator x.ag_rounds x.mk_entries x.mk_slots x.mk_remainders x.mk_blocks x.mk_blockBids x.mk_blockOffers x.mk_entryCount x.mk_blockCount x.cv_limits x.cv_bids x.cv_offers x.cv_count x.cv_allBids x.cv_allOffers x.cv_meetingPrice x.cv_sureBids x.cv_sureOffers x.cv_priceBids x.cv_priceOffers x.cv_volume x.cv_worth x.oc_prices x.oc_volumes x.oc_filled x.oc_worth x.oc_takenSet x.oc_isDone = x' ∧ SM.of rm.2.1 m.m_n m.m_collateral rm.2.2.1 rm.2.2.2.1 rm.2.2.2.2.1 rm.2.2.2.2.2.1 rm.2.2.2.2.2.2.1 rm.2.2.2.2.2.2.2.1 rm.2.2.2.2.2.2.2.2.1 rm.2.2.2.2.2.2.2.2.2 m.m_sealed m.m_rounds m.m_liar m.m_told m.m_passed m.m_vectors m.m_meters m.m_cleared m.m_prices m.m_trades m.m_fills m.m_welfares m.m_orderEntry m.m_orderFill m.m_orders m.m_blockEntry m.m_blockFill m.m_blocks m.m_price m.m_trade m.m_filled m.m_rest rx.2.2.2.2.2.2.2.2 = m'
def St_block (x : SX) (m : SM) (a1 : Int32) (a2 : Int32) (a3 : Int32) (a4 : Int32) (a5 : Int32) (a6 : Int32) (c : Int32) (x' : SX) (m' : SM) : Prop := ∃ rx rm, f_law_block x.x_members x.x_collaterals x.x_hasSent x.x_isSealed x.bk_counts x.bk_needs x.bk_whens x.bk_sides x.bk_quantities x.bk_limits m.m_out a1 a2 a3 a4 a5 a6 = some rx ∧ f_m_block m.m_thrown m.m_n m.m_collateral m.m_many m.m_need m.m_isBlock m.m_hours m.m_side m.m_quantity m.m_limit m.m_sent m.m_sealed a1 a2 a3 a4 a5 a6 = some rm ∧ rm.2.1 = rx.1 ∧ (rx.1 = 0 → (rx.2.2.2.2.2.2.2.2) 0 = Int32.toInt64 (rm.1)) ∧ rx.1 = c ∧ SX.of x.x_members x.x_collaterals rx.2.1 x.x_isSealed x.x_metered x.x_sealedCount rx.2.2.1 rx.2.2.2.1 rx.2.2.2.2.1 rx.2.2.2.2.2.1 rx.2.2.2.2.2.2.1 rx.2.2.2.2.2.2.2.1 x.ag_toldLies x.ag_passedLies x.ag_words x.ag_vectors x.ag_liarOperator x.ag_rounds x.mk_entries x.mk_slots x.mk_remainders x.mk_blocks x.mk_blockBids x.mk_blockOffers x.mk_entryCount x.mk_blockCount x.cv_limits x.cv_bids x.cv_offers x.cv_count x.cv_allBids x.cv_allOffers x.cv_meetingPrice x.cv_sureBids x.cv_sureOffers x.cv_priceBids x.cv_priceOffers x.cv_volume x.cv_worth x.oc_prices x.oc_volumes x.oc_filled x.oc_worth x.oc_takenSet x.oc_isDone = x' ∧ SM.of rm.2.1 m.m_n m.m_collateral rm.2.2.1 rm.2.2.2.1 rm.2.2.2.2.1 rm.2.2.2.2.2.1 rm.2.2.2.2.2.2.1 rm.2.2.2.2.2.2.2.1 rm.2.2.2.2.2.2.2.2.1 rm.2.2.2.2.2.2.2.2.2 m.m_sealed m.m_rounds m.m_liar m.m_told m.m_passed m.m_vectors m.m_meters m.m_cleared m.m_prices m.m_trades m.m_fills m.m_welfares m.m_orderEntry m.m_orderFill m.m_orders m.m_blockEntry m.m_blockFill m.m_blocks m.m_price m.m_trade m.m_filled m.m_rest rx.2.2.2.2.2.2.2.2 = m'
def St_seal (x : SX) (m : SM) (a1 : Int32) (c : Int32) (x' : SX) (m' : SM) : Prop := ∃ rx rm, f_law_seal x.x_members x.x_isSealed x.x_sealedCount m.m_out a1 = some rx ∧ f_m_seal m.m_thrown m.m_n m.m_sealed a1 = some rm ∧ rm.2.1 = rx.1 ∧ (rx.1 = 0 → (rx.2.2.2) 0 = Int32.toInt64 (rm.1)) ∧ rx.1 = c ∧ SX.of x.x_members x.x_collaterals x.x_hasSent rx.2.1 x.x_metered rx.2.2.1 x.bk_counts x.bk_needs x.bk_whens x.bk_sides x.bk_quantities x.bk_limits x.ag_toldLies x.ag_passedLies x.ag_words x.ag_vectors x.ag_liarOperator x.ag_rounds x.mk_entries x.mk_slots x.mk_remainders x.mk_blocks x.mk_blockBids x.mk_blockOffers x.mk_entryCount x.mk_blockCount x.cv_limits x.cv_bids x.cv_offers x.cv_count x.cv_allBids x.cv_allOffers x.cv_meetingPrice x.cv_sureBids x.cv_sureOffers x.cv_priceBids x.cv_priceOffers x.cv_volume x.cv_worth x.oc_prices x.oc_volumes x.oc_filled x.oc_worth x.oc_takenSet x.oc_isDone = x' ∧ SM.of rm.2.1 m.m_n m.m_collateral m.m_many m.m_need m.m_isBlock m.m_hours m.m_side m.m_quantity m.m_limit m.m_sent rm.2.2 m.m_rounds m.m_liar m.m_told m.m_passed m.m_vectors m.m_meters m.m_cleared m.m_prices m.m_trades m.m_fills m.m_welfares m.m_orderEntry m.m_orderFill m.m_orders m.m_blockEntry m.m_blockFill m.m_blocks m.m_price m.m_trade m.m_filled m.m_rest rx.2.2.2 = m'
def St_liar (x : SX) (m : SM) (a1 : Int32) (c : Int32) (x' : SX) (m' : SM) : Prop := ∃ rx rm, f_law_liar x.ag_liarOperator x.ag_rounds a1 = some rx ∧ f_m_liar m.m_thrown m.m_rounds m.m_liar a1 = some rm ∧ rm.1 = rx.1 ∧ rx.1 = c ∧ SX.of x.x_members x.x_collaterals x.x_hasSent x.x_isSealed x.x_metered x.x_sealedCount x.bk_counts x.bk_needs x.bk_whens x.bk_sides x.bk_quantities x.bk_limits x.ag_toldLies x.ag_passedLies x.ag_words x.ag_vectors rx.2 x.ag_rounds x.mk_entries x.mk_slots x.mk_remainders x.mk_blocks x.mk_blockBids x.mk_blockOffers x.mk_entryCount x.mk_blockCount x.cv_limits x.cv_bids x.cv_offers x.cv_count x.cv_allBids x.cv_allOffers x.cv_meetingPrice x.cv_sureBids x.cv_sureOffers x.cv_priceBids x.cv_priceOffers x.cv_volume x.cv_worth x.oc_prices x.oc_volumes x.oc_filled x.oc_worth x.oc_takenSet x.oc_isDone = x' ∧ SM.of rm.1 m.m_n m.m_collateral m.m_many m.m_need m.m_isBlock m.m_hours m.m_side m.m_quantity m.m_limit m.m_sent m.m_sealed m.m_rounds rm.2 m.m_told m.m_passed m.m_vectors m.m_meters m.m_cleared m.m_prices m.m_trades m.m_fills m.m_welfares m.m_orderEntry m.m_orderFill m.m_orders m.m_blockEntry m.m_blockFill m.m_blocks m.m_price m.m_trade m.m_filled m.m_rest m.m_out = m'
def St_tell (x : SX) (m : SM) (a1 : Int32) (a2 : Int32) (a3 : Int32) (a4 : Int32) (c : Int32) (x' : SX) (m' : SM) : Prop := ∃ rx rm, f_law_tell x.x_members x.ag_toldLies x.ag_passedLies x.ag_liarOperator x.ag_rounds a1 a2 a3 a4 = some rx ∧ f_m_tell m.m_thrown m.m_n m.m_rounds m.m_liar m.m_told m.m_passed a1 a2 a3 a4 = some rm ∧ rm.1 = rx.1 ∧ rx.1 = c ∧ SX.of x.x_members x.x_collaterals x.x_hasSent x.x_isSealed x.x_metered x.x_sealedCount x.bk_counts x.bk_needs x.bk_whens x.bk_sides x.bk_quantities x.bk_limits rx.2.1 rx.2.2 x.ag_words x.ag_vectors x.ag_liarOperator x.ag_rounds x.mk_entries x.mk_slots x.mk_remainders x.mk_blocks x.mk_blockBids x.mk_blockOffers x.mk_entryCount x.mk_blockCount x.cv_limits x.cv_bids x.cv_offers x.cv_count x.cv_allBids x.cv_allOffers x.cv_meetingPrice x.cv_sureBids x.cv_sureOffers x.cv_priceBids x.cv_priceOffers x.cv_volume x.cv_worth x.oc_prices x.oc_volumes x.oc_filled x.oc_worth x.oc_takenSet x.oc_isDone = x' ∧ SM.of rm.1 m.m_n m.m_collateral m.m_many m.m_need m.m_isBlock m.m_hours m.m_side m.m_quantity m.m_limit m.m_sent m.m_sealed m.m_rounds m.m_liar rm.2.1 rm.2.2 m.m_vectors m.m_meters m.m_cleared m.m_prices m.m_trades m.m_fills m.m_welfares m.m_orderEntry m.m_orderFill m.m_orders m.m_blockEntry m.m_blockFill m.m_blocks m.m_price m.m_trade m.m_filled m.m_rest m.m_out = m'
def St_round (x : SX) (m : SM)  (c : Int32) (x' : SX) (m' : SM) : Prop := ∃ rx rm, f_law_round x.x_members x.x_sealedCount x.bk_counts x.bk_whens x.bk_sides x.bk_quantities x.bk_limits x.ag_toldLies x.ag_passedLies x.ag_words x.ag_vectors x.ag_liarOperator x.ag_rounds m.m_out = some rx ∧ f_m_round m.m_thrown m.m_n m.m_many m.m_isBlock m.m_hours m.m_side m.m_quantity m.m_limit m.m_sealed m.m_rounds m.m_liar m.m_told m.m_passed m.m_vectors = some rm ∧ rm.2.1 = rx.1 ∧ (rx.1 = 0 → (rx.2.2.2.2) 0 = Int32.toInt64 (rm.1)) ∧ rx.1 = c ∧ SX.of x.x_members x.x_collaterals x.x_hasSent x.x_isSealed x.x_metered x.x_sealedCount x.bk_counts x.bk_needs x.bk_whens x.bk_sides x.bk_quantities x.bk_limits x.ag_toldLies x.ag_passedLies rx.2.1 rx.2.2.1 x.ag_liarOperator rx.2.2.2.1 x.mk_entries x.mk_slots x.mk_remainders x.mk_blocks x.mk_blockBids x.mk_blockOffers x.mk_entryCount x.mk_blockCount x.cv_limits x.cv_bids x.cv_offers x.cv_count x.cv_allBids x.cv_allOffers x.cv_meetingPrice x.cv_sureBids x.cv_sureOffers x.cv_priceBids x.cv_priceOffers x.cv_volume x.cv_worth x.oc_prices x.oc_volumes x.oc_filled x.oc_worth x.oc_takenSet x.oc_isDone = x' ∧ SM.of rm.2.1 m.m_n m.m_collateral m.m_many m.m_need m.m_isBlock m.m_hours m.m_side m.m_quantity m.m_limit m.m_sent m.m_sealed rm.2.2.1 m.m_liar m.m_told m.m_passed rm.2.2.2 m.m_meters m.m_cleared m.m_prices m.m_trades m.m_fills m.m_welfares m.m_orderEntry m.m_orderFill m.m_orders m.m_blockEntry m.m_blockFill m.m_blocks m.m_price m.m_trade m.m_filled m.m_rest rx.2.2.2.2 = m'
def St_vector (x : SX) (m : SM) (a1 : Int32) (a2 : Int32) (a3 : Int32) (a4 : Int32) (c : Int32) (x' : SX) (m' : SM) : Prop := ∃ rx rm, f_law_vector x.x_members x.bk_counts x.bk_whens x.bk_sides x.bk_quantities x.bk_limits x.ag_vectors x.ag_rounds m.m_out a1 a2 a3 a4 = some rx ∧ f_m_vector m.m_thrown m.m_n m.m_many m.m_isBlock m.m_hours m.m_side m.m_quantity m.m_limit m.m_rounds m.m_vectors a1 a2 a3 a4 = some rm ∧ rm.2 = rx.1 ∧ (rx.1 = 0 → (rx.2) 0 = Int32.toInt64 (rm.1)) ∧ rx.1 = c ∧ x = x' ∧ SM.of rm.2 m.m_n m.m_collateral m.m_many m.m_need m.m_isBlock m.m_hours m.m_side m.m_quantity m.m_limit m.m_sent m.m_sealed m.m_rounds m.m_liar m.m_told m.m_passed m.m_vectors m.m_meters m.m_cleared m.m_prices m.m_trades m.m_fills m.m_welfares m.m_orderEntry m.m_orderFill m.m_orders m.m_blockEntry m.m_blockFill m.m_blocks m.m_price m.m_trade m.m_filled m.m_rest rx.2 = m'
def St_clear (x : SX) (m : SM) (a1 : Int32) (c : Int32) (x' : SX) (m' : SM) : Prop := ∃ rx rm, f_law_clear x.x_members x.bk_counts x.bk_whens x.bk_sides x.bk_quantities x.bk_limits x.ag_vectors x.ag_rounds x.mk_entries x.mk_slots x.mk_remainders x.mk_blocks x.mk_blockBids x.mk_blockOffers x.mk_entryCount x.mk_blockCount x.cv_limits x.cv_bids x.cv_offers x.cv_count x.cv_allBids x.cv_allOffers x.cv_meetingPrice x.cv_sureBids x.cv_sureOffers x.cv_priceBids x.cv_priceOffers x.cv_volume x.cv_worth x.oc_prices x.oc_volumes x.oc_filled x.oc_worth x.oc_takenSet x.oc_isDone m.m_out a1 = some rx ∧ f_m_clear m.m_thrown m.m_n m.m_many m.m_isBlock m.m_hours m.m_side m.m_quantity m.m_limit m.m_rounds m.m_vectors m.m_cleared m.m_prices m.m_trades m.m_fills m.m_welfares m.m_orderEntry m.m_orderFill m.m_orders m.m_blockEntry m.m_blockFill m.m_blocks m.m_price m.m_trade m.m_filled m.m_rest a1 = some rm ∧ rm.2.1 = rx.1 ∧ (rx.1 = 0 → (rx.2.2.2.2.2.2.2.2.2.2.2.2.2.2.2.2.2.2.2.2.2.2.2.2.2.2.2.2) 0 = Int32.toInt64 (rm.1)) ∧ rx.1 = c ∧ SX.of x.x_members x.x_collaterals x.x_hasSent x.x_isSealed x.x_metered x.x_sealedCount x.bk_counts x.bk_needs x.bk_whens x.bk_sides x.bk_quantities x.bk_limits x.ag_toldLies x.ag_passedLies x.ag_words x.ag_vectors x.ag_liarOperator x.ag_rounds rx.2.1 rx.2.2.1 rx.2.2.2.1 rx.2.2.2.2.1 rx.2.2.2.2.2.1 rx.2.2.2.2.2.2.1 rx.2.2.2.2.2.2.2.1 rx.2.2.2.2.2.2.2.2.1 rx.2.2.2.2.2.2.2.2.2.1 rx.2.2.2.2.2.2.2.2.2.2.1 rx.2.2.2.2.2.2.2.2.2.2.2.1 rx.2.2.2.2.2.2.2.2.2.2.2.2.1 rx.2.2.2.2.2.2.2.2.2.2.2.2.2.1 rx.2.2.2.2.2.2.2.2.2.2.2.2.2.2.1 rx.2.2.2.2.2.2.2.2.2.2.2.2.2.2.2.1 rx.2.2.2.2.2.2.2.2.2.2.2.2.2.2.2.2.1 rx.2.2.2.2.2.2.2.2.2.2.2.2.2.2.2.2.2.1 rx.2.2.2.2.2.2.2.2.2.2.2.2.2.2.2.2.2.2.1 rx.2.2.2.2.2.2.2.2.2.2.2.2.2.2.2.2.2.2.2.1 rx.2.2.2.2.2.2.2.2.2.2.2.2.2.2.2.2.2.2.2.2.1 rx.2.2.2.2.2.2.2.2.2.2.2.2.2.2.2.2.2.2.2.2.2.1 rx.2.2.2.2.2.2.2.2.2.2.2.2.2.2.2.2.2.2.2.2.2.2.1 rx.2.2.2.2.2.2.2.2.2.2.2.2.2.2.2.2.2.2.2.2.2.2.2.1 rx.2.2.2.2.2.2.2.2.2.2.2.2.2.2.2.2.2.2.2.2.2.2.2.2.1 rx.2.2.2.2.2.2.2.2.2.2.2.2.2.2.2.2.2.2.2.2.2.2.2.2.2.1 rx.2.2.2.2.2.2.2.2.2.2.2.2.2.2.2.2.2.2.2.2.2.2.2.2.2.2.1 rx.2.2.2.2.2.2.2.2.2.2.2.2.2.2.2.2.2.2.2.2.2.2.2.2.2.2.2.1 = x' ∧ SM.of rm.2.1 m.m_n m.m_collateral m.m_many m.m_need m.m_isBlock m.m_hours m.m_side m.m_quantity m.m_limit m.m_sent m.m_sealed m.m_rounds m.m_liar m.m_told m.m_passed m.m_vectors m.m_meters rm.2.2.1 rm.2.2.2.1 rm.2.2.2.2.1 rm.2.2.2.2.2.1 rm.2.2.2.2.2.2.1 rm.2.2.2.2.2.2.2.1 rm.2.2.2.2.2.2.2.2.1 rm.2.2.2.2.2.2.2.2.2.1 rm.2.2.2.2.2.2.2.2.2.2.1 rm.2.2.2.2.2.2.2.2.2.2.2.1 rm.2.2.2.2.2.2.2.2.2.2.2.2.1 rm.2.2.2.2.2.2.2.2.2.2.2.2.2.1 rm.2.2.2.2.2.2.2.2.2.2.2.2.2.2.1 rm.2.2.2.2.2.2.2.2.2.2.2.2.2.2.2.1 rm.2.2.2.2.2.2.2.2.2.2.2.2.2.2.2.2 rx.2.2.2.2.2.2.2.2.2.2.2.2.2.2.2.2.2.2.2.2.2.2.2.2.2.2.2.2 = m'
def St_price (x : SX) (m : SM) (a1 : Int32) (a2 : Int32) (c : Int32) (x' : SX) (m' : SM) : Prop := ∃ rx rm, f_law_price x.oc_prices x.oc_isDone m.m_out a1 a2 = some rx ∧ f_m_price m.m_thrown m.m_cleared m.m_prices a1 a2 = some rm ∧ rm.2 = rx.1 ∧ (rx.1 = 0 → (rx.2) 0 = Int32.toInt64 (rm.1)) ∧ rx.1 = c ∧ x = x' ∧ SM.of rm.2 m.m_n m.m_collateral m.m_many m.m_need m.m_isBlock m.m_hours m.m_side m.m_quantity m.m_limit m.m_sent m.m_sealed m.m_rounds m.m_liar m.m_told m.m_passed m.m_vectors m.m_meters m.m_cleared m.m_prices m.m_trades m.m_fills m.m_welfares m.m_orderEntry m.m_orderFill m.m_orders m.m_blockEntry m.m_blockFill m.m_blocks m.m_price m.m_trade m.m_filled m.m_rest rx.2 = m'
def St_traded (x : SX) (m : SM) (a1 : Int32) (a2 : Int32) (c : Int32) (x' : SX) (m' : SM) : Prop := ∃ rx rm, f_law_traded x.oc_volumes x.oc_isDone m.m_out a1 a2 = some rx ∧ f_m_traded m.m_thrown m.m_cleared m.m_trades a1 a2 = some rm ∧ rm.2 = rx.1 ∧ (rx.1 = 0 → (rx.2) 0 = Int32.toInt64 (rm.1)) ∧ rx.1 = c ∧ x = x' ∧ SM.of rm.2 m.m_n m.m_collateral m.m_many m.m_need m.m_isBlock m.m_hours m.m_side m.m_quantity m.m_limit m.m_sent m.m_sealed m.m_rounds m.m_liar m.m_told m.m_passed m.m_vectors m.m_meters m.m_cleared m.m_prices m.m_trades m.m_fills m.m_welfares m.m_orderEntry m.m_orderFill m.m_orders m.m_blockEntry m.m_blockFill m.m_blocks m.m_price m.m_trade m.m_filled m.m_rest rx.2 = m'
def St_fill (x : SX) (m : SM) (a1 : Int32) (a2 : Int32) (a3 : Int32) (c : Int32) (x' : SX) (m' : SM) : Prop := ∃ rx rm, f_law_fill x.x_members x.bk_counts x.ag_vectors x.oc_filled x.oc_isDone m.m_out a1 a2 a3 = some rx ∧ f_m_fill m.m_thrown m.m_n m.m_many m.m_vectors m.m_cleared m.m_fills a1 a2 a3 = some rm ∧ rm.2 = rx.1 ∧ (rx.1 = 0 → (rx.2) 0 = Int32.toInt64 (rm.1)) ∧ rx.1 = c ∧ x = x' ∧ SM.of rm.2 m.m_n m.m_collateral m.m_many m.m_need m.m_isBlock m.m_hours m.m_side m.m_quantity m.m_limit m.m_sent m.m_sealed m.m_rounds m.m_liar m.m_told m.m_passed m.m_vectors m.m_meters m.m_cleared m.m_prices m.m_trades m.m_fills m.m_welfares m.m_orderEntry m.m_orderFill m.m_orders m.m_blockEntry m.m_blockFill m.m_blocks m.m_price m.m_trade m.m_filled m.m_rest rx.2 = m'
def St_welfare (x : SX) (m : SM) (a1 : Int32) (c : Int32) (x' : SX) (m' : SM) : Prop := ∃ rx rm, f_law_welfare x.oc_worth x.oc_isDone m.m_out a1 = some rx ∧ f_m_welfare m.m_thrown m.m_cleared m.m_welfares a1 = some rm ∧ rm.2 = rx.1 ∧ (rx.1 = 0 → (rx.2) 0 = rm.1) ∧ rx.1 = c ∧ x = x' ∧ SM.of rm.2 m.m_n m.m_collateral m.m_many m.m_need m.m_isBlock m.m_hours m.m_side m.m_quantity m.m_limit m.m_sent m.m_sealed m.m_rounds m.m_liar m.m_told m.m_passed m.m_vectors m.m_meters m.m_cleared m.m_prices m.m_trades m.m_fills m.m_welfares m.m_orderEntry m.m_orderFill m.m_orders m.m_blockEntry m.m_blockFill m.m_blocks m.m_price m.m_trade m.m_filled m.m_rest rx.2 = m'
def St_meter (x : SX) (m : SM) (a1 : Int32) (a2 : Int32) (a3 : Int32) (c : Int32) (x' : SX) (m' : SM) : Prop := ∃ rx rm, f_law_meter x.x_members x.x_metered a1 a2 a3 = some rx ∧ f_m_meter m.m_thrown m.m_n m.m_meters a1 a2 a3 = some rm ∧ rm.1 = rx.1 ∧ rx.1 = c ∧ SX.of x.x_members x.x_collaterals x.x_hasSent x.x_isSealed rx.2 x.x_sealedCount x.bk_counts x.bk_needs x.bk_whens x.bk_sides x.bk_quantities x.bk_limits x.ag_toldLies x.ag_passedLies x.ag_words x.ag_vectors x.ag_liarOperator x.ag_rounds x.mk_entries x.mk_slots x.mk_remainders x.mk_blocks x.mk_blockBids x.mk_blockOffers x.mk_entryCount x.mk_blockCount x.cv_limits x.cv_bids x.cv_offers x.cv_count x.cv_allBids x.cv_allOffers x.cv_meetingPrice x.cv_sureBids x.cv_sureOffers x.cv_priceBids x.cv_priceOffers x.cv_volume x.cv_worth x.oc_prices x.oc_volumes x.oc_filled x.oc_worth x.oc_takenSet x.oc_isDone = x' ∧ SM.of rm.1 m.m_n m.m_collateral m.m_many m.m_need m.m_isBlock m.m_hours m.m_side m.m_quantity m.m_limit m.m_sent m.m_sealed m.m_rounds m.m_liar m.m_told m.m_passed m.m_vectors rm.2 m.m_cleared m.m_prices m.m_trades m.m_fills m.m_welfares m.m_orderEntry m.m_orderFill m.m_orders m.m_blockEntry m.m_blockFill m.m_blocks m.m_price m.m_trade m.m_filled m.m_rest m.m_out = m'
def St_balance (x : SX) (m : SM) (a1 : Int32) (a2 : Int32) (c : Int32) (x' : SX) (m' : SM) : Prop := ∃ rx rm, f_law_balance x.x_members x.x_metered x.bk_counts x.bk_whens x.bk_sides x.ag_vectors x.oc_prices x.oc_filled x.oc_isDone m.m_out a1 a2 = some rx ∧ f_m_balance m.m_thrown m.m_n m.m_many m.m_isBlock m.m_hours m.m_side m.m_vectors m.m_meters m.m_cleared m.m_prices m.m_fills a1 a2 = some rm ∧ rm.2 = rx.1 ∧ (rx.1 = 0 → (rx.2) 0 = rm.1) ∧ rx.1 = c ∧ x = x' ∧ SM.of rm.2 m.m_n m.m_collateral m.m_many m.m_need m.m_isBlock m.m_hours m.m_side m.m_quantity m.m_limit m.m_sent m.m_sealed m.m_rounds m.m_liar m.m_told m.m_passed m.m_vectors m.m_meters m.m_cleared m.m_prices m.m_trades m.m_fills m.m_welfares m.m_orderEntry m.m_orderFill m.m_orders m.m_blockEntry m.m_blockFill m.m_blocks m.m_price m.m_trade m.m_filled m.m_rest rx.2 = m'
def St_nextDay (x : SX) (m : SM) (c : Int32) (x' : SX) (m' : SM) : Prop := ∃ rx rm, f_x_nextDay x.x_hasSent x.x_isSealed x.x_metered x.x_sealedCount x.bk_counts x.bk_needs x.ag_toldLies x.ag_passedLies x.ag_vectors x.ag_liarOperator x.ag_rounds x.oc_isDone = some rx ∧ f_m_nextDay m.m_thrown m.m_many m.m_need m.m_sent m.m_sealed m.m_rounds m.m_liar m.m_told m.m_passed m.m_meters m.m_cleared = some rm ∧ 0 = c ∧ SX.of x.x_members x.x_collaterals rx.1 rx.2.1 rx.2.2.1 rx.2.2.2.1 rx.2.2.2.2.1 rx.2.2.2.2.2.1 x.bk_whens x.bk_sides x.bk_quantities x.bk_limits rx.2.2.2.2.2.2.1 rx.2.2.2.2.2.2.2.1 x.ag_words rx.2.2.2.2.2.2.2.2.1 rx.2.2.2.2.2.2.2.2.2.1 rx.2.2.2.2.2.2.2.2.2.2.1 x.mk_entries x.mk_slots x.mk_remainders x.mk_blocks x.mk_blockBids x.mk_blockOffers x.mk_entryCount x.mk_blockCount x.cv_limits x.cv_bids x.cv_offers x.cv_count x.cv_allBids x.cv_allOffers x.cv_meetingPrice x.cv_sureBids x.cv_sureOffers x.cv_priceBids x.cv_priceOffers x.cv_volume x.cv_worth x.oc_prices x.oc_volumes x.oc_filled x.oc_worth x.oc_takenSet rx.2.2.2.2.2.2.2.2.2.2.2 = x' ∧ SM.of rm.1 m.m_n m.m_collateral rm.2.1 rm.2.2.1 m.m_isBlock m.m_hours m.m_side m.m_quantity m.m_limit rm.2.2.2.1 rm.2.2.2.2.1 rm.2.2.2.2.2.1 rm.2.2.2.2.2.2.1 rm.2.2.2.2.2.2.2.1 rm.2.2.2.2.2.2.2.2.1 m.m_vectors rm.2.2.2.2.2.2.2.2.2.1 rm.2.2.2.2.2.2.2.2.2.2 m.m_prices m.m_trades m.m_fills m.m_welfares m.m_orderEntry m.m_orderFill m.m_orders m.m_blockEntry m.m_blockFill m.m_blocks m.m_price m.m_trade m.m_filled m.m_rest m.m_out = m'
theorem lg_cmp_same {x y : Int64} (h : x = y) : lg_cmp x y = 0 := by
  subst h
  simp [lg_cmp, Int64.lt_irrefl]
theorem mz_ki_le (c : Int32) : mz_ki c ≤ 1 := by unfold mz_ki; split <;> omega
theorem mz_6i_le (c : Int32) : mz_6i c ≤ 6 := by unfold mz_6i; split <;> omega
set_option maxRecDepth 100000 in
set_option maxHeartbeats 4000000 in
theorem w_collateral {β : Type} {g : mz_G} {res : β → mz_S} {ex : Bool} {k n : Nat} {F : Option β} {x x' : SX} {m m' : SM} {c i : Int32} (hi1 : vp_in (i + 1) (mz_L g)) (hi2 : vp_in (i + 2) (mz_L g)) (hi3 : vp_in (i + 3) (mz_L g)) (hi4 : vp_in (i + 4) (mz_L g)) (hi5 : vp_in (i + 5) (mz_L g)) (hi6 : vp_in (i + 6) (mz_L g)) (hk : k ≤ 4000) (hn : n ≤ 40000) (hS : St_collateral x m (mz_xs g (i + 1).toNatClampNeg) (mz_xs g (i + 2).toNatClampNeg) c x' m') (kk : mz_A g M_law_law room_1 res 1177 [(4, .int i), (3, .ref 82), (2, .ref 54), (1, .ref 0), (0, .float 0)] [] (mz_xi ex c) (x'.H, m'.H) (k + mz_ki c) (n + mz_6i c) F) : mz_A g M_law_law room_1 res 128 [(4, .int i), (3, .ref 82), (2, .ref 54), (1, .ref 0), (0, .float 0)] [] ex (x.H, m.H) k n F := by
  obtain ⟨rx, rm, hx, hm, hth, rfl, rfl, rfl⟩ := hS
  show mz_A g M_law_law room_1 res 128 [(4, .int i), (3, .ref 82), (2, .ref 54), (1, .ref 0), (0, .float 0)] [] ex (HX x.x_members x.x_collaterals x.x_hasSent x.x_isSealed x.x_metered x.x_sealedCount x.bk_counts x.bk_needs x.bk_whens x.bk_sides x.bk_quantities x.bk_limits x.ag_toldLies x.ag_passedLies x.ag_words x.ag_vectors x.ag_liarOperator x.ag_rounds x.mk_entries x.mk_slots x.mk_remainders x.mk_blocks x.mk_blockBids x.mk_blockOffers x.mk_entryCount x.mk_blockCount x.cv_limits x.cv_bids x.cv_offers x.cv_count x.cv_allBids x.cv_allOffers x.cv_meetingPrice x.cv_sureBids x.cv_sureOffers x.cv_priceBids x.cv_priceOffers x.cv_volume x.cv_worth x.oc_prices x.oc_volumes x.oc_filled x.oc_worth x.oc_takenSet x.oc_isDone, HM m.m_thrown m.m_n m.m_collateral m.m_many m.m_need m.m_isBlock m.m_hours m.m_side m.m_quantity m.m_limit m.m_sent m.m_sealed m.m_rounds m.m_liar m.m_told m.m_passed m.m_vectors m.m_meters m.m_cleared m.m_prices m.m_trades m.m_fills m.m_welfares m.m_orderEntry m.m_orderFill m.m_orders m.m_blockEntry m.m_blockFill m.m_blocks m.m_price m.m_trade m.m_filled m.m_rest m.m_out) k n F
  have q1 := mz_ki_le rx.1
  have q2 := mz_6i_le rx.1
  have kk : mz_A g M_law_law room_1 res 1177 [(4, .int i), (3, .ref 82), (2, .ref 54), (1, .ref 0), (0, .float 0)] [] (mz_xi ex rx.1) (HX x.x_members (rx.2) x.x_hasSent x.x_isSealed x.x_metered x.x_sealedCount x.bk_counts x.bk_needs x.bk_whens x.bk_sides x.bk_quantities x.bk_limits x.ag_toldLies x.ag_passedLies x.ag_words x.ag_vectors x.ag_liarOperator x.ag_rounds x.mk_entries x.mk_slots x.mk_remainders x.mk_blocks x.mk_blockBids x.mk_blockOffers x.mk_entryCount x.mk_blockCount x.cv_limits x.cv_bids x.cv_offers x.cv_count x.cv_allBids x.cv_allOffers x.cv_meetingPrice x.cv_sureBids x.cv_sureOffers x.cv_priceBids x.cv_priceOffers x.cv_volume x.cv_worth x.oc_prices x.oc_volumes x.oc_filled x.oc_worth x.oc_takenSet x.oc_isDone, HM (rm.1) m.m_n (rm.2) m.m_many m.m_need m.m_isBlock m.m_hours m.m_side m.m_quantity m.m_limit m.m_sent m.m_sealed m.m_rounds m.m_liar m.m_told m.m_passed m.m_vectors m.m_meters m.m_cleared m.m_prices m.m_trades m.m_fills m.m_welfares m.m_orderEntry m.m_orderFill m.m_orders m.m_blockEntry m.m_blockFill m.m_blocks m.m_price m.m_trade m.m_filled m.m_rest m.m_out) (k + mz_ki rx.1) (n + mz_6i rx.1) F := kk
  refine mr_aload_n d_law_law_128 rfl rfl ?_
  refine mr_aload_nS d_law_law_129 rfl rfl ?_
  refine mr_iload d_law_law_130 rfl ?_
  refine mr_iconst (v := 1) d_law_law_132 (by decide) ?_
  refine mr_iadd d_law_law_133 ?_
  refine mr_sldK d_law_law_134 hi1 ?_
  refine mr_aload_nS d_law_law_135 rfl rfl ?_
  refine mr_iload d_law_law_136 rfl ?_
  refine mr_iconst (v := 2) d_law_law_138 (by decide) ?_
  refine mr_iadd d_law_law_139 ?_
  refine mr_sldK d_law_law_140 hi2 ?_
  refine mz_goK (st := []) (e_law_collateral (hT := [])) hx rfl U_law_collateral (mz_vS d_law_law_141 U_law_collateral lk_m_law_81 S_law_collateral np_law_collateral) (by decide) ⟨by decide, by decide, by show _ + 200 * 7 ≤ 601024; omega, by show _ + 20000 * 7 ≤ 7293000; omega⟩ ?_
  refine mr_eq (st' := [.int rx.1]) (ex' := mz_xi ex rx.1) (h2 := (HX x.x_members (rx.2) x.x_hasSent x.x_isSealed x.x_metered x.x_sealedCount x.bk_counts x.bk_needs x.bk_whens x.bk_sides x.bk_quantities x.bk_limits x.ag_toldLies x.ag_passedLies x.ag_words x.ag_vectors x.ag_liarOperator x.ag_rounds x.mk_entries x.mk_slots x.mk_remainders x.mk_blocks x.mk_blockBids x.mk_blockOffers x.mk_entryCount x.mk_blockCount x.cv_limits x.cv_bids x.cv_offers x.cv_count x.cv_allBids x.cv_allOffers x.cv_meetingPrice x.cv_sureBids x.cv_sureOffers x.cv_priceBids x.cv_priceOffers x.cv_volume x.cv_worth x.oc_prices x.oc_volumes x.oc_filled x.oc_worth x.oc_takenSet x.oc_isDone, HM m.m_thrown m.m_n m.m_collateral m.m_many m.m_need m.m_isBlock m.m_hours m.m_side m.m_quantity m.m_limit m.m_sent m.m_sealed m.m_rounds m.m_liar m.m_told m.m_passed m.m_vectors m.m_meters m.m_cleared m.m_prices m.m_trades m.m_fills m.m_welfares m.m_orderEntry m.m_orderFill m.m_orders m.m_blockEntry m.m_blockFill m.m_blocks m.m_price m.m_trade m.m_filled m.m_rest m.m_out)) (k' := k + mz_ki rx.1) (n' := n + mz_6i rx.1) rfl rfl rfl rfl rfl ?_
  refine mr_istore (lv' := [(5, .int rx.1), (4, .int i), (3, .ref 82), (2, .ref 54), (1, .ref 0), (0, .float 0)]) d_law_law_144 (by decide) rfl ?_
  refine mr_aload_n d_law_law_146 rfl rfl ?_
  refine mr_aload_nS d_law_law_147 rfl rfl ?_
  refine mr_iload d_law_law_148 rfl ?_
  refine mr_iconst (v := 1) d_law_law_150 (by decide) ?_
  refine mr_iadd d_law_law_151 ?_
  refine mr_sldK d_law_law_152 hi1 ?_
  refine mr_aload_nS d_law_law_153 rfl rfl ?_
  refine mr_iload d_law_law_154 rfl ?_
  refine mr_iconst (v := 2) d_law_law_156 (by decide) ?_
  refine mr_iadd d_law_law_157 ?_
  refine mr_sldK d_law_law_158 hi2 ?_
  refine mz_goK (st := []) e_m_collateral hm rfl U_m_collateral (mz_vV d_law_law_159 U_m_collateral rfl lk_m_law_84 I_m_collateral s_m_collateral np_m_collateral rfl rfl) (by decide) ⟨by decide, by decide, by show _ + 200 * 2 ≤ 601024; omega, by show _ + 20000 * 2 ≤ 7293000; omega⟩ ?_
  refine mr_eq (st' := []) (ex' := mz_xi ex rx.1) (h2 := (HX x.x_members (rx.2) x.x_hasSent x.x_isSealed x.x_metered x.x_sealedCount x.bk_counts x.bk_needs x.bk_whens x.bk_sides x.bk_quantities x.bk_limits x.ag_toldLies x.ag_passedLies x.ag_words x.ag_vectors x.ag_liarOperator x.ag_rounds x.mk_entries x.mk_slots x.mk_remainders x.mk_blocks x.mk_blockBids x.mk_blockOffers x.mk_entryCount x.mk_blockCount x.cv_limits x.cv_bids x.cv_offers x.cv_count x.cv_allBids x.cv_allOffers x.cv_meetingPrice x.cv_sureBids x.cv_sureOffers x.cv_priceBids x.cv_priceOffers x.cv_volume x.cv_worth x.oc_prices x.oc_volumes x.oc_filled x.oc_worth x.oc_takenSet x.oc_isDone, HM (rm.1) m.m_n (rm.2) m.m_many m.m_need m.m_isBlock m.m_hours m.m_side m.m_quantity m.m_limit m.m_sent m.m_sealed m.m_rounds m.m_liar m.m_told m.m_passed m.m_vectors m.m_meters m.m_cleared m.m_prices m.m_trades m.m_fills m.m_welfares m.m_orderEntry m.m_orderFill m.m_orders m.m_blockEntry m.m_blockFill m.m_blocks m.m_price m.m_trade m.m_filled m.m_rest m.m_out)) (k' := k + mz_ki rx.1) (n' := n + mz_6i rx.1) rfl rfl rfl rfl rfl ?_
  refine mr_aload_n d_law_law_162 rfl rfl ?_
  refine mz_goK (st := []) (r' := rm.1) e_m_thrown rfl rfl U_m_thrown (mz_vV d_law_law_163 U_m_thrown rfl lk_m_law_85 I_m_thrown s_m_thrown np_m_thrown rfl rfl) (by decide) ⟨by decide, by decide, by show _ + 200 * 0 ≤ 601024; omega, by show _ + 20000 * 0 ≤ 7293000; omega⟩ ?_
  refine mr_eq (st' := [.int rm.1]) (ex' := mz_xi ex rx.1) (h2 := (HX x.x_members (rx.2) x.x_hasSent x.x_isSealed x.x_metered x.x_sealedCount x.bk_counts x.bk_needs x.bk_whens x.bk_sides x.bk_quantities x.bk_limits x.ag_toldLies x.ag_passedLies x.ag_words x.ag_vectors x.ag_liarOperator x.ag_rounds x.mk_entries x.mk_slots x.mk_remainders x.mk_blocks x.mk_blockBids x.mk_blockOffers x.mk_entryCount x.mk_blockCount x.cv_limits x.cv_bids x.cv_offers x.cv_count x.cv_allBids x.cv_allOffers x.cv_meetingPrice x.cv_sureBids x.cv_sureOffers x.cv_priceBids x.cv_priceOffers x.cv_volume x.cv_worth x.oc_prices x.oc_volumes x.oc_filled x.oc_worth x.oc_takenSet x.oc_isDone, HM (rm.1) m.m_n (rm.2) m.m_many m.m_need m.m_isBlock m.m_hours m.m_side m.m_quantity m.m_limit m.m_sent m.m_sealed m.m_rounds m.m_liar m.m_told m.m_passed m.m_vectors m.m_meters m.m_cleared m.m_prices m.m_trades m.m_fills m.m_welfares m.m_orderEntry m.m_orderFill m.m_orders m.m_blockEntry m.m_blockFill m.m_blocks m.m_price m.m_trade m.m_filled m.m_rest m.m_out)) (k' := k + mz_ki rx.1) (n' := n + mz_6i rx.1) rfl rfl rfl rfl rfl ?_
  refine mr_iload d_law_law_166 rfl ?_
  refine mr_icmp_eqT (tgt := 173) d_law_law_168 (by decide) hth ?_
  refine mr_goto (tgt := 1177) d_law_law_173 (by decide) ?_
  refine mr_sub (lv' := [(4, .int i), (3, .ref 82), (2, .ref 54), (1, .ref 0), (0, .float 0)]) [1, 2, 3, 4, 5] rfl ?_
  exact kk
set_option maxRecDepth 100000 in
set_option maxHeartbeats 4000000 in
theorem w_order {β : Type} {g : mz_G} {res : β → mz_S} {ex : Bool} {k n : Nat} {F : Option β} {x x' : SX} {m m' : SM} {c i : Int32} (hi1 : vp_in (i + 1) (mz_L g)) (hi2 : vp_in (i + 2) (mz_L g)) (hi3 : vp_in (i + 3) (mz_L g)) (hi4 : vp_in (i + 4) (mz_L g)) (hi5 : vp_in (i + 5) (mz_L g)) (hi6 : vp_in (i + 6) (mz_L g)) (hk : k ≤ 4000) (hn : n ≤ 40000) (hS : St_order x m (mz_xs g (i + 1).toNatClampNeg) (mz_xs g (i + 2).toNatClampNeg) (mz_xs g (i + 3).toNatClampNeg) (mz_xs g (i + 4).toNatClampNeg) (mz_xs g (i + 5).toNatClampNeg) (mz_xs g (i + 6).toNatClampNeg) c x' m') (kk : mz_A g M_law_law room_1 res 1177 [(4, .int i), (3, .ref 82), (2, .ref 54), (1, .ref 0), (0, .float 0)] [] (mz_xi ex c) (x'.H, m'.H) (k + mz_ki c) (n + mz_6i c) F) : mz_A g M_law_law room_1 res 176 [(4, .int i), (3, .ref 82), (2, .ref 54), (1, .ref 0), (0, .float 0)] [] ex (x.H, m.H) k n F := by
  obtain ⟨rx, rm, hx, hm, hth, hans, rfl, rfl, rfl⟩ := hS
  show mz_A g M_law_law room_1 res 176 [(4, .int i), (3, .ref 82), (2, .ref 54), (1, .ref 0), (0, .float 0)] [] ex (HX x.x_members x.x_collaterals x.x_hasSent x.x_isSealed x.x_metered x.x_sealedCount x.bk_counts x.bk_needs x.bk_whens x.bk_sides x.bk_quantities x.bk_limits x.ag_toldLies x.ag_passedLies x.ag_words x.ag_vectors x.ag_liarOperator x.ag_rounds x.mk_entries x.mk_slots x.mk_remainders x.mk_blocks x.mk_blockBids x.mk_blockOffers x.mk_entryCount x.mk_blockCount x.cv_limits x.cv_bids x.cv_offers x.cv_count x.cv_allBids x.cv_allOffers x.cv_meetingPrice x.cv_sureBids x.cv_sureOffers x.cv_priceBids x.cv_priceOffers x.cv_volume x.cv_worth x.oc_prices x.oc_volumes x.oc_filled x.oc_worth x.oc_takenSet x.oc_isDone, HM m.m_thrown m.m_n m.m_collateral m.m_many m.m_need m.m_isBlock m.m_hours m.m_side m.m_quantity m.m_limit m.m_sent m.m_sealed m.m_rounds m.m_liar m.m_told m.m_passed m.m_vectors m.m_meters m.m_cleared m.m_prices m.m_trades m.m_fills m.m_welfares m.m_orderEntry m.m_orderFill m.m_orders m.m_blockEntry m.m_blockFill m.m_blocks m.m_price m.m_trade m.m_filled m.m_rest m.m_out) k n F
  have q1 := mz_ki_le rx.1
  have q2 := mz_6i_le rx.1
  have kk : mz_A g M_law_law room_1 res 1177 [(4, .int i), (3, .ref 82), (2, .ref 54), (1, .ref 0), (0, .float 0)] [] (mz_xi ex rx.1) (HX x.x_members x.x_collaterals (rx.2.1) x.x_isSealed x.x_metered x.x_sealedCount (rx.2.2.1) (rx.2.2.2.1) (rx.2.2.2.2.1) (rx.2.2.2.2.2.1) (rx.2.2.2.2.2.2.1) (rx.2.2.2.2.2.2.2.1) x.ag_toldLies x.ag_passedLies x.ag_words x.ag_vectors x.ag_liarOperator x.ag_rounds x.mk_entries x.mk_slots x.mk_remainders x.mk_blocks x.mk_blockBids x.mk_blockOffers x.mk_entryCount x.mk_blockCount x.cv_limits x.cv_bids x.cv_offers x.cv_count x.cv_allBids x.cv_allOffers x.cv_meetingPrice x.cv_sureBids x.cv_sureOffers x.cv_priceBids x.cv_priceOffers x.cv_volume x.cv_worth x.oc_prices x.oc_volumes x.oc_filled x.oc_worth x.oc_takenSet x.oc_isDone, HM (rm.2.1) m.m_n m.m_collateral (rm.2.2.1) (rm.2.2.2.1) (rm.2.2.2.2.1) (rm.2.2.2.2.2.1) (rm.2.2.2.2.2.2.1) (rm.2.2.2.2.2.2.2.1) (rm.2.2.2.2.2.2.2.2.1) (rm.2.2.2.2.2.2.2.2.2) m.m_sealed m.m_rounds m.m_liar m.m_told m.m_passed m.m_vectors m.m_meters m.m_cleared m.m_prices m.m_trades m.m_fills m.m_welfares m.m_orderEntry m.m_orderFill m.m_orders m.m_blockEntry m.m_blockFill m.m_blocks m.m_price m.m_trade m.m_filled m.m_rest (rx.2.2.2.2.2.2.2.2)) (k + mz_ki rx.1) (n + mz_6i rx.1) F := kk
  refine mr_aload_n d_law_law_176 rfl rfl ?_
  refine mr_aload_nS d_law_law_177 rfl rfl ?_
  refine mr_iload d_law_law_178 rfl ?_
  refine mr_iconst (v := 1) d_law_law_180 (by decide) ?_
  refine mr_iadd d_law_law_181 ?_
  refine mr_sldK d_law_law_182 hi1 ?_
  refine mr_aload_nS d_law_law_183 rfl rfl ?_
  refine mr_iload d_law_law_184 rfl ?_
  refine mr_iconst (v := 2) d_law_law_186 (by decide) ?_
  refine mr_iadd d_law_law_187 ?_
  refine mr_sldK d_law_law_188 hi2 ?_
  refine mr_aload_nS d_law_law_189 rfl rfl ?_
  refine mr_iload d_law_law_190 rfl ?_
  refine mr_iconst (v := 3) d_law_law_192 (by decide) ?_
  refine mr_iadd d_law_law_193 ?_
  refine mr_sldK d_law_law_194 hi3 ?_
  refine mr_aload_nS d_law_law_195 rfl rfl ?_
  refine mr_iload d_law_law_196 rfl ?_
  refine mr_iconst (v := 4) d_law_law_198 (by decide) ?_
  refine mr_iadd d_law_law_199 ?_
  refine mr_sldK d_law_law_200 hi4 ?_
  refine mr_aload_nS d_law_law_201 rfl rfl ?_
  refine mr_iload d_law_law_202 rfl ?_
  refine mr_iconst (v := 5) d_law_law_204 (by decide) ?_
  refine mr_iadd d_law_law_205 ?_
  refine mr_sldK d_law_law_206 hi5 ?_
  refine mr_aload_nS d_law_law_207 rfl rfl ?_
  refine mr_iload d_law_law_208 rfl ?_
  refine mr_bipush (v := 6) d_law_law_210 (by decide) ?_
  refine mr_iadd d_law_law_212 ?_
  refine mr_sldK d_law_law_213 hi6 ?_
  refine mr_aload_n d_law_law_214 rfl rfl ?_
  refine mz_goK (st := []) (e_law_order (hT := [])) hx rfl U_law_order (mz_vS d_law_law_215 U_law_order lk_m_law_88 S_law_order np_law_order) (by decide) ⟨by decide, by decide, by show _ + 200 * 8 ≤ 601024; omega, by show _ + 20000 * 8 ≤ 7293000; omega⟩ ?_
  refine mr_eq (st' := [.int rx.1]) (ex' := mz_xi ex rx.1) (h2 := (HX x.x_members x.x_collaterals (rx.2.1) x.x_isSealed x.x_metered x.x_sealedCount (rx.2.2.1) (rx.2.2.2.1) (rx.2.2.2.2.1) (rx.2.2.2.2.2.1) (rx.2.2.2.2.2.2.1) (rx.2.2.2.2.2.2.2.1) x.ag_toldLies x.ag_passedLies x.ag_words x.ag_vectors x.ag_liarOperator x.ag_rounds x.mk_entries x.mk_slots x.mk_remainders x.mk_blocks x.mk_blockBids x.mk_blockOffers x.mk_entryCount x.mk_blockCount x.cv_limits x.cv_bids x.cv_offers x.cv_count x.cv_allBids x.cv_allOffers x.cv_meetingPrice x.cv_sureBids x.cv_sureOffers x.cv_priceBids x.cv_priceOffers x.cv_volume x.cv_worth x.oc_prices x.oc_volumes x.oc_filled x.oc_worth x.oc_takenSet x.oc_isDone, HM m.m_thrown m.m_n m.m_collateral m.m_many m.m_need m.m_isBlock m.m_hours m.m_side m.m_quantity m.m_limit m.m_sent m.m_sealed m.m_rounds m.m_liar m.m_told m.m_passed m.m_vectors m.m_meters m.m_cleared m.m_prices m.m_trades m.m_fills m.m_welfares m.m_orderEntry m.m_orderFill m.m_orders m.m_blockEntry m.m_blockFill m.m_blocks m.m_price m.m_trade m.m_filled m.m_rest (rx.2.2.2.2.2.2.2.2))) (k' := k + mz_ki rx.1) (n' := n + mz_6i rx.1) rfl rfl rfl rfl rfl ?_
  refine mr_istore (lv' := [(5, .int rx.1), (4, .int i), (3, .ref 82), (2, .ref 54), (1, .ref 0), (0, .float 0)]) d_law_law_218 (by decide) rfl ?_
  refine mr_aload_n d_law_law_220 rfl rfl ?_
  refine mr_aload_nS d_law_law_221 rfl rfl ?_
  refine mr_iload d_law_law_222 rfl ?_
  refine mr_iconst (v := 1) d_law_law_224 (by decide) ?_
  refine mr_iadd d_law_law_225 ?_
  refine mr_sldK d_law_law_226 hi1 ?_
  refine mr_aload_nS d_law_law_227 rfl rfl ?_
  refine mr_iload d_law_law_228 rfl ?_
  refine mr_iconst (v := 2) d_law_law_230 (by decide) ?_
  refine mr_iadd d_law_law_231 ?_
  refine mr_sldK d_law_law_232 hi2 ?_
  refine mr_aload_nS d_law_law_233 rfl rfl ?_
  refine mr_iload d_law_law_234 rfl ?_
  refine mr_iconst (v := 3) d_law_law_236 (by decide) ?_
  refine mr_iadd d_law_law_237 ?_
  refine mr_sldK d_law_law_238 hi3 ?_
  refine mr_aload_nS d_law_law_239 rfl rfl ?_
  refine mr_iload d_law_law_240 rfl ?_
  refine mr_iconst (v := 4) d_law_law_242 (by decide) ?_
  refine mr_iadd d_law_law_243 ?_
  refine mr_sldK d_law_law_244 hi4 ?_
  refine mr_aload_nS d_law_law_245 rfl rfl ?_
  refine mr_iload d_law_law_246 rfl ?_
  refine mr_iconst (v := 5) d_law_law_248 (by decide) ?_
  refine mr_iadd d_law_law_249 ?_
  refine mr_sldK d_law_law_250 hi5 ?_
  refine mr_aload_nS d_law_law_251 rfl rfl ?_
  refine mr_iload d_law_law_252 rfl ?_
  refine mr_bipush (v := 6) d_law_law_254 (by decide) ?_
  refine mr_iadd d_law_law_256 ?_
  refine mr_sldK d_law_law_257 hi6 ?_
  refine mz_goK (st := []) e_m_order hm rfl U_m_order (mz_vV d_law_law_258 U_m_order rfl lk_m_law_91 I_m_order s_m_order np_m_order rfl rfl) (by decide) ⟨by decide, by decide, by show _ + 200 * 3 ≤ 601024; omega, by show _ + 20000 * 3 ≤ 7293000; omega⟩ ?_
  refine mr_eq (st' := [.int rm.1]) (ex' := mz_xi ex rx.1) (h2 := (HX x.x_members x.x_collaterals (rx.2.1) x.x_isSealed x.x_metered x.x_sealedCount (rx.2.2.1) (rx.2.2.2.1) (rx.2.2.2.2.1) (rx.2.2.2.2.2.1) (rx.2.2.2.2.2.2.1) (rx.2.2.2.2.2.2.2.1) x.ag_toldLies x.ag_passedLies x.ag_words x.ag_vectors x.ag_liarOperator x.ag_rounds x.mk_entries x.mk_slots x.mk_remainders x.mk_blocks x.mk_blockBids x.mk_blockOffers x.mk_entryCount x.mk_blockCount x.cv_limits x.cv_bids x.cv_offers x.cv_count x.cv_allBids x.cv_allOffers x.cv_meetingPrice x.cv_sureBids x.cv_sureOffers x.cv_priceBids x.cv_priceOffers x.cv_volume x.cv_worth x.oc_prices x.oc_volumes x.oc_filled x.oc_worth x.oc_takenSet x.oc_isDone, HM (rm.2.1) m.m_n m.m_collateral (rm.2.2.1) (rm.2.2.2.1) (rm.2.2.2.2.1) (rm.2.2.2.2.2.1) (rm.2.2.2.2.2.2.1) (rm.2.2.2.2.2.2.2.1) (rm.2.2.2.2.2.2.2.2.1) (rm.2.2.2.2.2.2.2.2.2) m.m_sealed m.m_rounds m.m_liar m.m_told m.m_passed m.m_vectors m.m_meters m.m_cleared m.m_prices m.m_trades m.m_fills m.m_welfares m.m_orderEntry m.m_orderFill m.m_orders m.m_blockEntry m.m_blockFill m.m_blocks m.m_price m.m_trade m.m_filled m.m_rest (rx.2.2.2.2.2.2.2.2))) (k' := k + mz_ki rx.1) (n' := n + mz_6i rx.1) rfl rfl rfl rfl rfl ?_
  refine mr_istore (lv' := [(6, .int rm.1), (5, .int rx.1), (4, .int i), (3, .ref 82), (2, .ref 54), (1, .ref 0), (0, .float 0)]) d_law_law_261 (by decide) rfl ?_
  refine mr_aload_n d_law_law_263 rfl rfl ?_
  refine mz_goK (st := []) (r' := rm.2.1) e_m_thrown rfl rfl U_m_thrown (mz_vV d_law_law_264 U_m_thrown rfl lk_m_law_85 I_m_thrown s_m_thrown np_m_thrown rfl rfl) (by decide) ⟨by decide, by decide, by show _ + 200 * 0 ≤ 601024; omega, by show _ + 20000 * 0 ≤ 7293000; omega⟩ ?_
  refine mr_eq (st' := [.int rm.2.1]) (ex' := mz_xi ex rx.1) (h2 := (HX x.x_members x.x_collaterals (rx.2.1) x.x_isSealed x.x_metered x.x_sealedCount (rx.2.2.1) (rx.2.2.2.1) (rx.2.2.2.2.1) (rx.2.2.2.2.2.1) (rx.2.2.2.2.2.2.1) (rx.2.2.2.2.2.2.2.1) x.ag_toldLies x.ag_passedLies x.ag_words x.ag_vectors x.ag_liarOperator x.ag_rounds x.mk_entries x.mk_slots x.mk_remainders x.mk_blocks x.mk_blockBids x.mk_blockOffers x.mk_entryCount x.mk_blockCount x.cv_limits x.cv_bids x.cv_offers x.cv_count x.cv_allBids x.cv_allOffers x.cv_meetingPrice x.cv_sureBids x.cv_sureOffers x.cv_priceBids x.cv_priceOffers x.cv_volume x.cv_worth x.oc_prices x.oc_volumes x.oc_filled x.oc_worth x.oc_takenSet x.oc_isDone, HM (rm.2.1) m.m_n m.m_collateral (rm.2.2.1) (rm.2.2.2.1) (rm.2.2.2.2.1) (rm.2.2.2.2.2.1) (rm.2.2.2.2.2.2.1) (rm.2.2.2.2.2.2.2.1) (rm.2.2.2.2.2.2.2.2.1) (rm.2.2.2.2.2.2.2.2.2) m.m_sealed m.m_rounds m.m_liar m.m_told m.m_passed m.m_vectors m.m_meters m.m_cleared m.m_prices m.m_trades m.m_fills m.m_welfares m.m_orderEntry m.m_orderFill m.m_orders m.m_blockEntry m.m_blockFill m.m_blocks m.m_price m.m_trade m.m_filled m.m_rest (rx.2.2.2.2.2.2.2.2))) (k' := k + mz_ki rx.1) (n' := n + mz_6i rx.1) rfl rfl rfl rfl rfl ?_
  refine mr_iload d_law_law_267 rfl ?_
  refine mr_icmp_eqT (tgt := 274) d_law_law_269 (by decide) hth ?_
  refine mr_iload d_law_law_274 rfl ?_
  by_cases hc : rx.1 = 0
  · refine mr_if_neF (tgt := 291) d_law_law_276 (by decide) hc ?_
    refine mr_aload_n d_law_law_279 rfl rfl ?_
    refine mr_iconst (v := 0) d_law_law_280 (by decide) ?_
    refine mr_laldK d_law_law_281 rfl (show ¬ ((0 : Int32) < 0 ∨ 1 ≤ (0 : Int32).toNatClampNeg) by decide) ?_
    refine mr_iload d_law_law_282 rfl ?_
    refine mr_i2l d_law_law_284 ?_
    refine mr_lcmp d_law_law_285 ?_
    refine mr_if_eqT (tgt := 291) d_law_law_286 (by decide) (lg_cmp_same (hans hc)) ?_
    refine mr_goto (tgt := 1177) d_law_law_291 (by decide) ?_
    refine mr_sub (lv' := [(4, .int i), (3, .ref 82), (2, .ref 54), (1, .ref 0), (0, .float 0)]) [2, 3, 4, 5, 6] rfl ?_
    exact kk
  · refine mr_if_neT (tgt := 291) d_law_law_276 (by decide) hc ?_
    refine mr_goto (tgt := 1177) d_law_law_291 (by decide) ?_
    refine mr_sub (lv' := [(4, .int i), (3, .ref 82), (2, .ref 54), (1, .ref 0), (0, .float 0)]) [2, 3, 4, 5, 6] rfl ?_
    exact kk
set_option maxRecDepth 100000 in
set_option maxHeartbeats 4000000 in
theorem w_block {β : Type} {g : mz_G} {res : β → mz_S} {ex : Bool} {k n : Nat} {F : Option β} {x x' : SX} {m m' : SM} {c i : Int32} (hi1 : vp_in (i + 1) (mz_L g)) (hi2 : vp_in (i + 2) (mz_L g)) (hi3 : vp_in (i + 3) (mz_L g)) (hi4 : vp_in (i + 4) (mz_L g)) (hi5 : vp_in (i + 5) (mz_L g)) (hi6 : vp_in (i + 6) (mz_L g)) (hk : k ≤ 4000) (hn : n ≤ 40000) (hS : St_block x m (mz_xs g (i + 1).toNatClampNeg) (mz_xs g (i + 2).toNatClampNeg) (mz_xs g (i + 3).toNatClampNeg) (mz_xs g (i + 4).toNatClampNeg) (mz_xs g (i + 5).toNatClampNeg) (mz_xs g (i + 6).toNatClampNeg) c x' m') (kk : mz_A g M_law_law room_1 res 1177 [(4, .int i), (3, .ref 82), (2, .ref 54), (1, .ref 0), (0, .float 0)] [] (mz_xi ex c) (x'.H, m'.H) (k + mz_ki c) (n + mz_6i c) F) : mz_A g M_law_law room_1 res 294 [(4, .int i), (3, .ref 82), (2, .ref 54), (1, .ref 0), (0, .float 0)] [] ex (x.H, m.H) k n F := by
  obtain ⟨rx, rm, hx, hm, hth, hans, rfl, rfl, rfl⟩ := hS
  show mz_A g M_law_law room_1 res 294 [(4, .int i), (3, .ref 82), (2, .ref 54), (1, .ref 0), (0, .float 0)] [] ex (HX x.x_members x.x_collaterals x.x_hasSent x.x_isSealed x.x_metered x.x_sealedCount x.bk_counts x.bk_needs x.bk_whens x.bk_sides x.bk_quantities x.bk_limits x.ag_toldLies x.ag_passedLies x.ag_words x.ag_vectors x.ag_liarOperator x.ag_rounds x.mk_entries x.mk_slots x.mk_remainders x.mk_blocks x.mk_blockBids x.mk_blockOffers x.mk_entryCount x.mk_blockCount x.cv_limits x.cv_bids x.cv_offers x.cv_count x.cv_allBids x.cv_allOffers x.cv_meetingPrice x.cv_sureBids x.cv_sureOffers x.cv_priceBids x.cv_priceOffers x.cv_volume x.cv_worth x.oc_prices x.oc_volumes x.oc_filled x.oc_worth x.oc_takenSet x.oc_isDone, HM m.m_thrown m.m_n m.m_collateral m.m_many m.m_need m.m_isBlock m.m_hours m.m_side m.m_quantity m.m_limit m.m_sent m.m_sealed m.m_rounds m.m_liar m.m_told m.m_passed m.m_vectors m.m_meters m.m_cleared m.m_prices m.m_trades m.m_fills m.m_welfares m.m_orderEntry m.m_orderFill m.m_orders m.m_blockEntry m.m_blockFill m.m_blocks m.m_price m.m_trade m.m_filled m.m_rest m.m_out) k n F
  have q1 := mz_ki_le rx.1
  have q2 := mz_6i_le rx.1
  have kk : mz_A g M_law_law room_1 res 1177 [(4, .int i), (3, .ref 82), (2, .ref 54), (1, .ref 0), (0, .float 0)] [] (mz_xi ex rx.1) (HX x.x_members x.x_collaterals (rx.2.1) x.x_isSealed x.x_metered x.x_sealedCount (rx.2.2.1) (rx.2.2.2.1) (rx.2.2.2.2.1) (rx.2.2.2.2.2.1) (rx.2.2.2.2.2.2.1) (rx.2.2.2.2.2.2.2.1) x.ag_toldLies x.ag_passedLies x.ag_words x.ag_vectors x.ag_liarOperator x.ag_rounds x.mk_entries x.mk_slots x.mk_remainders x.mk_blocks x.mk_blockBids x.mk_blockOffers x.mk_entryCount x.mk_blockCount x.cv_limits x.cv_bids x.cv_offers x.cv_count x.cv_allBids x.cv_allOffers x.cv_meetingPrice x.cv_sureBids x.cv_sureOffers x.cv_priceBids x.cv_priceOffers x.cv_volume x.cv_worth x.oc_prices x.oc_volumes x.oc_filled x.oc_worth x.oc_takenSet x.oc_isDone, HM (rm.2.1) m.m_n m.m_collateral (rm.2.2.1) (rm.2.2.2.1) (rm.2.2.2.2.1) (rm.2.2.2.2.2.1) (rm.2.2.2.2.2.2.1) (rm.2.2.2.2.2.2.2.1) (rm.2.2.2.2.2.2.2.2.1) (rm.2.2.2.2.2.2.2.2.2) m.m_sealed m.m_rounds m.m_liar m.m_told m.m_passed m.m_vectors m.m_meters m.m_cleared m.m_prices m.m_trades m.m_fills m.m_welfares m.m_orderEntry m.m_orderFill m.m_orders m.m_blockEntry m.m_blockFill m.m_blocks m.m_price m.m_trade m.m_filled m.m_rest (rx.2.2.2.2.2.2.2.2)) (k + mz_ki rx.1) (n + mz_6i rx.1) F := kk
  refine mr_aload_n d_law_law_294 rfl rfl ?_
  refine mr_aload_nS d_law_law_295 rfl rfl ?_
  refine mr_iload d_law_law_296 rfl ?_
  refine mr_iconst (v := 1) d_law_law_298 (by decide) ?_
  refine mr_iadd d_law_law_299 ?_
  refine mr_sldK d_law_law_300 hi1 ?_
  refine mr_aload_nS d_law_law_301 rfl rfl ?_
  refine mr_iload d_law_law_302 rfl ?_
  refine mr_iconst (v := 2) d_law_law_304 (by decide) ?_
  refine mr_iadd d_law_law_305 ?_
  refine mr_sldK d_law_law_306 hi2 ?_
  refine mr_aload_nS d_law_law_307 rfl rfl ?_
  refine mr_iload d_law_law_308 rfl ?_
  refine mr_iconst (v := 3) d_law_law_310 (by decide) ?_
  refine mr_iadd d_law_law_311 ?_
  refine mr_sldK d_law_law_312 hi3 ?_
  refine mr_aload_nS d_law_law_313 rfl rfl ?_
  refine mr_iload d_law_law_314 rfl ?_
  refine mr_iconst (v := 4) d_law_law_316 (by decide) ?_
  refine mr_iadd d_law_law_317 ?_
  refine mr_sldK d_law_law_318 hi4 ?_
  refine mr_aload_nS d_law_law_319 rfl rfl ?_
  refine mr_iload d_law_law_320 rfl ?_
  refine mr_iconst (v := 5) d_law_law_322 (by decide) ?_
  refine mr_iadd d_law_law_323 ?_
  refine mr_sldK d_law_law_324 hi5 ?_
  refine mr_aload_nS d_law_law_325 rfl rfl ?_
  refine mr_iload d_law_law_326 rfl ?_
  refine mr_bipush (v := 6) d_law_law_328 (by decide) ?_
  refine mr_iadd d_law_law_330 ?_
  refine mr_sldK d_law_law_331 hi6 ?_
  refine mr_aload_n d_law_law_332 rfl rfl ?_
  refine mz_goK (st := []) (e_law_block (hT := [])) hx rfl U_law_block (mz_vS d_law_law_333 U_law_block lk_m_law_92 S_law_block np_law_block) (by decide) ⟨by decide, by decide, by show _ + 200 * 8 ≤ 601024; omega, by show _ + 20000 * 8 ≤ 7293000; omega⟩ ?_
  refine mr_eq (st' := [.int rx.1]) (ex' := mz_xi ex rx.1) (h2 := (HX x.x_members x.x_collaterals (rx.2.1) x.x_isSealed x.x_metered x.x_sealedCount (rx.2.2.1) (rx.2.2.2.1) (rx.2.2.2.2.1) (rx.2.2.2.2.2.1) (rx.2.2.2.2.2.2.1) (rx.2.2.2.2.2.2.2.1) x.ag_toldLies x.ag_passedLies x.ag_words x.ag_vectors x.ag_liarOperator x.ag_rounds x.mk_entries x.mk_slots x.mk_remainders x.mk_blocks x.mk_blockBids x.mk_blockOffers x.mk_entryCount x.mk_blockCount x.cv_limits x.cv_bids x.cv_offers x.cv_count x.cv_allBids x.cv_allOffers x.cv_meetingPrice x.cv_sureBids x.cv_sureOffers x.cv_priceBids x.cv_priceOffers x.cv_volume x.cv_worth x.oc_prices x.oc_volumes x.oc_filled x.oc_worth x.oc_takenSet x.oc_isDone, HM m.m_thrown m.m_n m.m_collateral m.m_many m.m_need m.m_isBlock m.m_hours m.m_side m.m_quantity m.m_limit m.m_sent m.m_sealed m.m_rounds m.m_liar m.m_told m.m_passed m.m_vectors m.m_meters m.m_cleared m.m_prices m.m_trades m.m_fills m.m_welfares m.m_orderEntry m.m_orderFill m.m_orders m.m_blockEntry m.m_blockFill m.m_blocks m.m_price m.m_trade m.m_filled m.m_rest (rx.2.2.2.2.2.2.2.2))) (k' := k + mz_ki rx.1) (n' := n + mz_6i rx.1) rfl rfl rfl rfl rfl ?_
  refine mr_istore (lv' := [(5, .int rx.1), (4, .int i), (3, .ref 82), (2, .ref 54), (1, .ref 0), (0, .float 0)]) d_law_law_336 (by decide) rfl ?_
  refine mr_aload_n d_law_law_338 rfl rfl ?_
  refine mr_aload_nS d_law_law_339 rfl rfl ?_
  refine mr_iload d_law_law_340 rfl ?_
  refine mr_iconst (v := 1) d_law_law_342 (by decide) ?_
  refine mr_iadd d_law_law_343 ?_
  refine mr_sldK d_law_law_344 hi1 ?_
  refine mr_aload_nS d_law_law_345 rfl rfl ?_
  refine mr_iload d_law_law_346 rfl ?_
  refine mr_iconst (v := 2) d_law_law_348 (by decide) ?_
  refine mr_iadd d_law_law_349 ?_
  refine mr_sldK d_law_law_350 hi2 ?_
  refine mr_aload_nS d_law_law_351 rfl rfl ?_
  refine mr_iload d_law_law_352 rfl ?_
  refine mr_iconst (v := 3) d_law_law_354 (by decide) ?_
  refine mr_iadd d_law_law_355 ?_
  refine mr_sldK d_law_law_356 hi3 ?_
  refine mr_aload_nS d_law_law_357 rfl rfl ?_
  refine mr_iload d_law_law_358 rfl ?_
  refine mr_iconst (v := 4) d_law_law_360 (by decide) ?_
  refine mr_iadd d_law_law_361 ?_
  refine mr_sldK d_law_law_362 hi4 ?_
  refine mr_aload_nS d_law_law_363 rfl rfl ?_
  refine mr_iload d_law_law_364 rfl ?_
  refine mr_iconst (v := 5) d_law_law_366 (by decide) ?_
  refine mr_iadd d_law_law_367 ?_
  refine mr_sldK d_law_law_368 hi5 ?_
  refine mr_aload_nS d_law_law_369 rfl rfl ?_
  refine mr_iload d_law_law_370 rfl ?_
  refine mr_bipush (v := 6) d_law_law_372 (by decide) ?_
  refine mr_iadd d_law_law_374 ?_
  refine mr_sldK d_law_law_375 hi6 ?_
  refine mz_goK (st := []) e_m_block hm rfl U_m_block (mz_vV d_law_law_376 U_m_block rfl lk_m_law_94 I_m_block s_m_block np_m_block rfl rfl) (by decide) ⟨by decide, by decide, by show _ + 200 * 3 ≤ 601024; omega, by show _ + 20000 * 3 ≤ 7293000; omega⟩ ?_
  refine mr_eq (st' := [.int rm.1]) (ex' := mz_xi ex rx.1) (h2 := (HX x.x_members x.x_collaterals (rx.2.1) x.x_isSealed x.x_metered x.x_sealedCount (rx.2.2.1) (rx.2.2.2.1) (rx.2.2.2.2.1) (rx.2.2.2.2.2.1) (rx.2.2.2.2.2.2.1) (rx.2.2.2.2.2.2.2.1) x.ag_toldLies x.ag_passedLies x.ag_words x.ag_vectors x.ag_liarOperator x.ag_rounds x.mk_entries x.mk_slots x.mk_remainders x.mk_blocks x.mk_blockBids x.mk_blockOffers x.mk_entryCount x.mk_blockCount x.cv_limits x.cv_bids x.cv_offers x.cv_count x.cv_allBids x.cv_allOffers x.cv_meetingPrice x.cv_sureBids x.cv_sureOffers x.cv_priceBids x.cv_priceOffers x.cv_volume x.cv_worth x.oc_prices x.oc_volumes x.oc_filled x.oc_worth x.oc_takenSet x.oc_isDone, HM (rm.2.1) m.m_n m.m_collateral (rm.2.2.1) (rm.2.2.2.1) (rm.2.2.2.2.1) (rm.2.2.2.2.2.1) (rm.2.2.2.2.2.2.1) (rm.2.2.2.2.2.2.2.1) (rm.2.2.2.2.2.2.2.2.1) (rm.2.2.2.2.2.2.2.2.2) m.m_sealed m.m_rounds m.m_liar m.m_told m.m_passed m.m_vectors m.m_meters m.m_cleared m.m_prices m.m_trades m.m_fills m.m_welfares m.m_orderEntry m.m_orderFill m.m_orders m.m_blockEntry m.m_blockFill m.m_blocks m.m_price m.m_trade m.m_filled m.m_rest (rx.2.2.2.2.2.2.2.2))) (k' := k + mz_ki rx.1) (n' := n + mz_6i rx.1) rfl rfl rfl rfl rfl ?_
  refine mr_istore (lv' := [(6, .int rm.1), (5, .int rx.1), (4, .int i), (3, .ref 82), (2, .ref 54), (1, .ref 0), (0, .float 0)]) d_law_law_379 (by decide) rfl ?_
  refine mr_aload_n d_law_law_381 rfl rfl ?_
  refine mz_goK (st := []) (r' := rm.2.1) e_m_thrown rfl rfl U_m_thrown (mz_vV d_law_law_382 U_m_thrown rfl lk_m_law_85 I_m_thrown s_m_thrown np_m_thrown rfl rfl) (by decide) ⟨by decide, by decide, by show _ + 200 * 0 ≤ 601024; omega, by show _ + 20000 * 0 ≤ 7293000; omega⟩ ?_
  refine mr_eq (st' := [.int rm.2.1]) (ex' := mz_xi ex rx.1) (h2 := (HX x.x_members x.x_collaterals (rx.2.1) x.x_isSealed x.x_metered x.x_sealedCount (rx.2.2.1) (rx.2.2.2.1) (rx.2.2.2.2.1) (rx.2.2.2.2.2.1) (rx.2.2.2.2.2.2.1) (rx.2.2.2.2.2.2.2.1) x.ag_toldLies x.ag_passedLies x.ag_words x.ag_vectors x.ag_liarOperator x.ag_rounds x.mk_entries x.mk_slots x.mk_remainders x.mk_blocks x.mk_blockBids x.mk_blockOffers x.mk_entryCount x.mk_blockCount x.cv_limits x.cv_bids x.cv_offers x.cv_count x.cv_allBids x.cv_allOffers x.cv_meetingPrice x.cv_sureBids x.cv_sureOffers x.cv_priceBids x.cv_priceOffers x.cv_volume x.cv_worth x.oc_prices x.oc_volumes x.oc_filled x.oc_worth x.oc_takenSet x.oc_isDone, HM (rm.2.1) m.m_n m.m_collateral (rm.2.2.1) (rm.2.2.2.1) (rm.2.2.2.2.1) (rm.2.2.2.2.2.1) (rm.2.2.2.2.2.2.1) (rm.2.2.2.2.2.2.2.1) (rm.2.2.2.2.2.2.2.2.1) (rm.2.2.2.2.2.2.2.2.2) m.m_sealed m.m_rounds m.m_liar m.m_told m.m_passed m.m_vectors m.m_meters m.m_cleared m.m_prices m.m_trades m.m_fills m.m_welfares m.m_orderEntry m.m_orderFill m.m_orders m.m_blockEntry m.m_blockFill m.m_blocks m.m_price m.m_trade m.m_filled m.m_rest (rx.2.2.2.2.2.2.2.2))) (k' := k + mz_ki rx.1) (n' := n + mz_6i rx.1) rfl rfl rfl rfl rfl ?_
  refine mr_iload d_law_law_385 rfl ?_
  refine mr_icmp_eqT (tgt := 392) d_law_law_387 (by decide) hth ?_
  refine mr_iload d_law_law_392 rfl ?_
  by_cases hc : rx.1 = 0
  · refine mr_if_neF (tgt := 409) d_law_law_394 (by decide) hc ?_
    refine mr_aload_n d_law_law_397 rfl rfl ?_
    refine mr_iconst (v := 0) d_law_law_398 (by decide) ?_
    refine mr_laldK d_law_law_399 rfl (show ¬ ((0 : Int32) < 0 ∨ 1 ≤ (0 : Int32).toNatClampNeg) by decide) ?_
    refine mr_iload d_law_law_400 rfl ?_
    refine mr_i2l d_law_law_402 ?_
    refine mr_lcmp d_law_law_403 ?_
    refine mr_if_eqT (tgt := 409) d_law_law_404 (by decide) (lg_cmp_same (hans hc)) ?_
    refine mr_goto (tgt := 1177) d_law_law_409 (by decide) ?_
    refine mr_sub (lv' := [(4, .int i), (3, .ref 82), (2, .ref 54), (1, .ref 0), (0, .float 0)]) [2, 3, 4, 5, 6] rfl ?_
    exact kk
  · refine mr_if_neT (tgt := 409) d_law_law_394 (by decide) hc ?_
    refine mr_goto (tgt := 1177) d_law_law_409 (by decide) ?_
    refine mr_sub (lv' := [(4, .int i), (3, .ref 82), (2, .ref 54), (1, .ref 0), (0, .float 0)]) [2, 3, 4, 5, 6] rfl ?_
    exact kk
set_option maxRecDepth 100000 in
set_option maxHeartbeats 4000000 in
theorem w_seal {β : Type} {g : mz_G} {res : β → mz_S} {ex : Bool} {k n : Nat} {F : Option β} {x x' : SX} {m m' : SM} {c i : Int32} (hi1 : vp_in (i + 1) (mz_L g)) (hi2 : vp_in (i + 2) (mz_L g)) (hi3 : vp_in (i + 3) (mz_L g)) (hi4 : vp_in (i + 4) (mz_L g)) (hi5 : vp_in (i + 5) (mz_L g)) (hi6 : vp_in (i + 6) (mz_L g)) (hk : k ≤ 4000) (hn : n ≤ 40000) (hS : St_seal x m (mz_xs g (i + 1).toNatClampNeg) c x' m') (kk : mz_A g M_law_law room_1 res 1177 [(4, .int i), (3, .ref 82), (2, .ref 54), (1, .ref 0), (0, .float 0)] [] (mz_xi ex c) (x'.H, m'.H) (k + mz_ki c) (n + mz_6i c) F) : mz_A g M_law_law room_1 res 412 [(4, .int i), (3, .ref 82), (2, .ref 54), (1, .ref 0), (0, .float 0)] [] ex (x.H, m.H) k n F := by
  obtain ⟨rx, rm, hx, hm, hth, hans, rfl, rfl, rfl⟩ := hS
  show mz_A g M_law_law room_1 res 412 [(4, .int i), (3, .ref 82), (2, .ref 54), (1, .ref 0), (0, .float 0)] [] ex (HX x.x_members x.x_collaterals x.x_hasSent x.x_isSealed x.x_metered x.x_sealedCount x.bk_counts x.bk_needs x.bk_whens x.bk_sides x.bk_quantities x.bk_limits x.ag_toldLies x.ag_passedLies x.ag_words x.ag_vectors x.ag_liarOperator x.ag_rounds x.mk_entries x.mk_slots x.mk_remainders x.mk_blocks x.mk_blockBids x.mk_blockOffers x.mk_entryCount x.mk_blockCount x.cv_limits x.cv_bids x.cv_offers x.cv_count x.cv_allBids x.cv_allOffers x.cv_meetingPrice x.cv_sureBids x.cv_sureOffers x.cv_priceBids x.cv_priceOffers x.cv_volume x.cv_worth x.oc_prices x.oc_volumes x.oc_filled x.oc_worth x.oc_takenSet x.oc_isDone, HM m.m_thrown m.m_n m.m_collateral m.m_many m.m_need m.m_isBlock m.m_hours m.m_side m.m_quantity m.m_limit m.m_sent m.m_sealed m.m_rounds m.m_liar m.m_told m.m_passed m.m_vectors m.m_meters m.m_cleared m.m_prices m.m_trades m.m_fills m.m_welfares m.m_orderEntry m.m_orderFill m.m_orders m.m_blockEntry m.m_blockFill m.m_blocks m.m_price m.m_trade m.m_filled m.m_rest m.m_out) k n F
  have q1 := mz_ki_le rx.1
  have q2 := mz_6i_le rx.1
  have kk : mz_A g M_law_law room_1 res 1177 [(4, .int i), (3, .ref 82), (2, .ref 54), (1, .ref 0), (0, .float 0)] [] (mz_xi ex rx.1) (HX x.x_members x.x_collaterals x.x_hasSent (rx.2.1) x.x_metered (rx.2.2.1) x.bk_counts x.bk_needs x.bk_whens x.bk_sides x.bk_quantities x.bk_limits x.ag_toldLies x.ag_passedLies x.ag_words x.ag_vectors x.ag_liarOperator x.ag_rounds x.mk_entries x.mk_slots x.mk_remainders x.mk_blocks x.mk_blockBids x.mk_blockOffers x.mk_entryCount x.mk_blockCount x.cv_limits x.cv_bids x.cv_offers x.cv_count x.cv_allBids x.cv_allOffers x.cv_meetingPrice x.cv_sureBids x.cv_sureOffers x.cv_priceBids x.cv_priceOffers x.cv_volume x.cv_worth x.oc_prices x.oc_volumes x.oc_filled x.oc_worth x.oc_takenSet x.oc_isDone, HM (rm.2.1) m.m_n m.m_collateral m.m_many m.m_need m.m_isBlock m.m_hours m.m_side m.m_quantity m.m_limit m.m_sent (rm.2.2) m.m_rounds m.m_liar m.m_told m.m_passed m.m_vectors m.m_meters m.m_cleared m.m_prices m.m_trades m.m_fills m.m_welfares m.m_orderEntry m.m_orderFill m.m_orders m.m_blockEntry m.m_blockFill m.m_blocks m.m_price m.m_trade m.m_filled m.m_rest (rx.2.2.2)) (k + mz_ki rx.1) (n + mz_6i rx.1) F := kk
  refine mr_aload_n d_law_law_412 rfl rfl ?_
  refine mr_aload_nS d_law_law_413 rfl rfl ?_
  refine mr_iload d_law_law_414 rfl ?_
  refine mr_iconst (v := 1) d_law_law_416 (by decide) ?_
  refine mr_iadd d_law_law_417 ?_
  refine mr_sldK d_law_law_418 hi1 ?_
  refine mr_aload_n d_law_law_419 rfl rfl ?_
  refine mz_goK (st := []) (e_law_seal (hT := [])) hx rfl U_law_seal (mz_vS d_law_law_420 U_law_seal lk_m_law_95 S_law_seal np_law_seal) (by decide) ⟨by decide, by decide, by show _ + 200 * 7 ≤ 601024; omega, by show _ + 20000 * 7 ≤ 7293000; omega⟩ ?_
  refine mr_eq (st' := [.int rx.1]) (ex' := mz_xi ex rx.1) (h2 := (HX x.x_members x.x_collaterals x.x_hasSent (rx.2.1) x.x_metered (rx.2.2.1) x.bk_counts x.bk_needs x.bk_whens x.bk_sides x.bk_quantities x.bk_limits x.ag_toldLies x.ag_passedLies x.ag_words x.ag_vectors x.ag_liarOperator x.ag_rounds x.mk_entries x.mk_slots x.mk_remainders x.mk_blocks x.mk_blockBids x.mk_blockOffers x.mk_entryCount x.mk_blockCount x.cv_limits x.cv_bids x.cv_offers x.cv_count x.cv_allBids x.cv_allOffers x.cv_meetingPrice x.cv_sureBids x.cv_sureOffers x.cv_priceBids x.cv_priceOffers x.cv_volume x.cv_worth x.oc_prices x.oc_volumes x.oc_filled x.oc_worth x.oc_takenSet x.oc_isDone, HM m.m_thrown m.m_n m.m_collateral m.m_many m.m_need m.m_isBlock m.m_hours m.m_side m.m_quantity m.m_limit m.m_sent m.m_sealed m.m_rounds m.m_liar m.m_told m.m_passed m.m_vectors m.m_meters m.m_cleared m.m_prices m.m_trades m.m_fills m.m_welfares m.m_orderEntry m.m_orderFill m.m_orders m.m_blockEntry m.m_blockFill m.m_blocks m.m_price m.m_trade m.m_filled m.m_rest (rx.2.2.2))) (k' := k + mz_ki rx.1) (n' := n + mz_6i rx.1) rfl rfl rfl rfl rfl ?_
  refine mr_istore (lv' := [(5, .int rx.1), (4, .int i), (3, .ref 82), (2, .ref 54), (1, .ref 0), (0, .float 0)]) d_law_law_423 (by decide) rfl ?_
  refine mr_aload_n d_law_law_425 rfl rfl ?_
  refine mr_aload_nS d_law_law_426 rfl rfl ?_
  refine mr_iload d_law_law_427 rfl ?_
  refine mr_iconst (v := 1) d_law_law_429 (by decide) ?_
  refine mr_iadd d_law_law_430 ?_
  refine mr_sldK d_law_law_431 hi1 ?_
  refine mz_goK (st := []) e_m_seal hm rfl U_m_seal (mz_vV d_law_law_432 U_m_seal rfl lk_m_law_98 I_m_seal s_m_seal np_m_seal rfl rfl) (by decide) ⟨by decide, by decide, by show _ + 200 * 2 ≤ 601024; omega, by show _ + 20000 * 2 ≤ 7293000; omega⟩ ?_
  refine mr_eq (st' := [.int rm.1]) (ex' := mz_xi ex rx.1) (h2 := (HX x.x_members x.x_collaterals x.x_hasSent (rx.2.1) x.x_metered (rx.2.2.1) x.bk_counts x.bk_needs x.bk_whens x.bk_sides x.bk_quantities x.bk_limits x.ag_toldLies x.ag_passedLies x.ag_words x.ag_vectors x.ag_liarOperator x.ag_rounds x.mk_entries x.mk_slots x.mk_remainders x.mk_blocks x.mk_blockBids x.mk_blockOffers x.mk_entryCount x.mk_blockCount x.cv_limits x.cv_bids x.cv_offers x.cv_count x.cv_allBids x.cv_allOffers x.cv_meetingPrice x.cv_sureBids x.cv_sureOffers x.cv_priceBids x.cv_priceOffers x.cv_volume x.cv_worth x.oc_prices x.oc_volumes x.oc_filled x.oc_worth x.oc_takenSet x.oc_isDone, HM (rm.2.1) m.m_n m.m_collateral m.m_many m.m_need m.m_isBlock m.m_hours m.m_side m.m_quantity m.m_limit m.m_sent (rm.2.2) m.m_rounds m.m_liar m.m_told m.m_passed m.m_vectors m.m_meters m.m_cleared m.m_prices m.m_trades m.m_fills m.m_welfares m.m_orderEntry m.m_orderFill m.m_orders m.m_blockEntry m.m_blockFill m.m_blocks m.m_price m.m_trade m.m_filled m.m_rest (rx.2.2.2))) (k' := k + mz_ki rx.1) (n' := n + mz_6i rx.1) rfl rfl rfl rfl rfl ?_
  refine mr_istore (lv' := [(6, .int rm.1), (5, .int rx.1), (4, .int i), (3, .ref 82), (2, .ref 54), (1, .ref 0), (0, .float 0)]) d_law_law_435 (by decide) rfl ?_
  refine mr_aload_n d_law_law_437 rfl rfl ?_
  refine mz_goK (st := []) (r' := rm.2.1) e_m_thrown rfl rfl U_m_thrown (mz_vV d_law_law_438 U_m_thrown rfl lk_m_law_85 I_m_thrown s_m_thrown np_m_thrown rfl rfl) (by decide) ⟨by decide, by decide, by show _ + 200 * 0 ≤ 601024; omega, by show _ + 20000 * 0 ≤ 7293000; omega⟩ ?_
  refine mr_eq (st' := [.int rm.2.1]) (ex' := mz_xi ex rx.1) (h2 := (HX x.x_members x.x_collaterals x.x_hasSent (rx.2.1) x.x_metered (rx.2.2.1) x.bk_counts x.bk_needs x.bk_whens x.bk_sides x.bk_quantities x.bk_limits x.ag_toldLies x.ag_passedLies x.ag_words x.ag_vectors x.ag_liarOperator x.ag_rounds x.mk_entries x.mk_slots x.mk_remainders x.mk_blocks x.mk_blockBids x.mk_blockOffers x.mk_entryCount x.mk_blockCount x.cv_limits x.cv_bids x.cv_offers x.cv_count x.cv_allBids x.cv_allOffers x.cv_meetingPrice x.cv_sureBids x.cv_sureOffers x.cv_priceBids x.cv_priceOffers x.cv_volume x.cv_worth x.oc_prices x.oc_volumes x.oc_filled x.oc_worth x.oc_takenSet x.oc_isDone, HM (rm.2.1) m.m_n m.m_collateral m.m_many m.m_need m.m_isBlock m.m_hours m.m_side m.m_quantity m.m_limit m.m_sent (rm.2.2) m.m_rounds m.m_liar m.m_told m.m_passed m.m_vectors m.m_meters m.m_cleared m.m_prices m.m_trades m.m_fills m.m_welfares m.m_orderEntry m.m_orderFill m.m_orders m.m_blockEntry m.m_blockFill m.m_blocks m.m_price m.m_trade m.m_filled m.m_rest (rx.2.2.2))) (k' := k + mz_ki rx.1) (n' := n + mz_6i rx.1) rfl rfl rfl rfl rfl ?_
  refine mr_iload d_law_law_441 rfl ?_
  refine mr_icmp_eqT (tgt := 448) d_law_law_443 (by decide) hth ?_
  refine mr_iload d_law_law_448 rfl ?_
  by_cases hc : rx.1 = 0
  · refine mr_if_neF (tgt := 465) d_law_law_450 (by decide) hc ?_
    refine mr_aload_n d_law_law_453 rfl rfl ?_
    refine mr_iconst (v := 0) d_law_law_454 (by decide) ?_
    refine mr_laldK d_law_law_455 rfl (show ¬ ((0 : Int32) < 0 ∨ 1 ≤ (0 : Int32).toNatClampNeg) by decide) ?_
    refine mr_iload d_law_law_456 rfl ?_
    refine mr_i2l d_law_law_458 ?_
    refine mr_lcmp d_law_law_459 ?_
    refine mr_if_eqT (tgt := 465) d_law_law_460 (by decide) (lg_cmp_same (hans hc)) ?_
    refine mr_goto (tgt := 1177) d_law_law_465 (by decide) ?_
    refine mr_sub (lv' := [(4, .int i), (3, .ref 82), (2, .ref 54), (1, .ref 0), (0, .float 0)]) [2, 3, 4, 5, 6] rfl ?_
    exact kk
  · refine mr_if_neT (tgt := 465) d_law_law_450 (by decide) hc ?_
    refine mr_goto (tgt := 1177) d_law_law_465 (by decide) ?_
    refine mr_sub (lv' := [(4, .int i), (3, .ref 82), (2, .ref 54), (1, .ref 0), (0, .float 0)]) [2, 3, 4, 5, 6] rfl ?_
    exact kk
set_option maxRecDepth 100000 in
set_option maxHeartbeats 4000000 in
theorem w_liar {β : Type} {g : mz_G} {res : β → mz_S} {ex : Bool} {k n : Nat} {F : Option β} {x x' : SX} {m m' : SM} {c i : Int32} (hi1 : vp_in (i + 1) (mz_L g)) (hi2 : vp_in (i + 2) (mz_L g)) (hi3 : vp_in (i + 3) (mz_L g)) (hi4 : vp_in (i + 4) (mz_L g)) (hi5 : vp_in (i + 5) (mz_L g)) (hi6 : vp_in (i + 6) (mz_L g)) (hk : k ≤ 4000) (hn : n ≤ 40000) (hS : St_liar x m (mz_xs g (i + 1).toNatClampNeg) c x' m') (kk : mz_A g M_law_law room_1 res 1177 [(4, .int i), (3, .ref 82), (2, .ref 54), (1, .ref 0), (0, .float 0)] [] (mz_xi ex c) (x'.H, m'.H) (k + mz_ki c) (n + mz_6i c) F) : mz_A g M_law_law room_1 res 468 [(4, .int i), (3, .ref 82), (2, .ref 54), (1, .ref 0), (0, .float 0)] [] ex (x.H, m.H) k n F := by
  obtain ⟨rx, rm, hx, hm, hth, rfl, rfl, rfl⟩ := hS
  show mz_A g M_law_law room_1 res 468 [(4, .int i), (3, .ref 82), (2, .ref 54), (1, .ref 0), (0, .float 0)] [] ex (HX x.x_members x.x_collaterals x.x_hasSent x.x_isSealed x.x_metered x.x_sealedCount x.bk_counts x.bk_needs x.bk_whens x.bk_sides x.bk_quantities x.bk_limits x.ag_toldLies x.ag_passedLies x.ag_words x.ag_vectors x.ag_liarOperator x.ag_rounds x.mk_entries x.mk_slots x.mk_remainders x.mk_blocks x.mk_blockBids x.mk_blockOffers x.mk_entryCount x.mk_blockCount x.cv_limits x.cv_bids x.cv_offers x.cv_count x.cv_allBids x.cv_allOffers x.cv_meetingPrice x.cv_sureBids x.cv_sureOffers x.cv_priceBids x.cv_priceOffers x.cv_volume x.cv_worth x.oc_prices x.oc_volumes x.oc_filled x.oc_worth x.oc_takenSet x.oc_isDone, HM m.m_thrown m.m_n m.m_collateral m.m_many m.m_need m.m_isBlock m.m_hours m.m_side m.m_quantity m.m_limit m.m_sent m.m_sealed m.m_rounds m.m_liar m.m_told m.m_passed m.m_vectors m.m_meters m.m_cleared m.m_prices m.m_trades m.m_fills m.m_welfares m.m_orderEntry m.m_orderFill m.m_orders m.m_blockEntry m.m_blockFill m.m_blocks m.m_price m.m_trade m.m_filled m.m_rest m.m_out) k n F
  have q1 := mz_ki_le rx.1
  have q2 := mz_6i_le rx.1
  have kk : mz_A g M_law_law room_1 res 1177 [(4, .int i), (3, .ref 82), (2, .ref 54), (1, .ref 0), (0, .float 0)] [] (mz_xi ex rx.1) (HX x.x_members x.x_collaterals x.x_hasSent x.x_isSealed x.x_metered x.x_sealedCount x.bk_counts x.bk_needs x.bk_whens x.bk_sides x.bk_quantities x.bk_limits x.ag_toldLies x.ag_passedLies x.ag_words x.ag_vectors (rx.2) x.ag_rounds x.mk_entries x.mk_slots x.mk_remainders x.mk_blocks x.mk_blockBids x.mk_blockOffers x.mk_entryCount x.mk_blockCount x.cv_limits x.cv_bids x.cv_offers x.cv_count x.cv_allBids x.cv_allOffers x.cv_meetingPrice x.cv_sureBids x.cv_sureOffers x.cv_priceBids x.cv_priceOffers x.cv_volume x.cv_worth x.oc_prices x.oc_volumes x.oc_filled x.oc_worth x.oc_takenSet x.oc_isDone, HM (rm.1) m.m_n m.m_collateral m.m_many m.m_need m.m_isBlock m.m_hours m.m_side m.m_quantity m.m_limit m.m_sent m.m_sealed m.m_rounds (rm.2) m.m_told m.m_passed m.m_vectors m.m_meters m.m_cleared m.m_prices m.m_trades m.m_fills m.m_welfares m.m_orderEntry m.m_orderFill m.m_orders m.m_blockEntry m.m_blockFill m.m_blocks m.m_price m.m_trade m.m_filled m.m_rest m.m_out) (k + mz_ki rx.1) (n + mz_6i rx.1) F := kk
  refine mr_aload_n d_law_law_468 rfl rfl ?_
  refine mr_aload_nS d_law_law_469 rfl rfl ?_
  refine mr_iload d_law_law_470 rfl ?_
  refine mr_iconst (v := 1) d_law_law_472 (by decide) ?_
  refine mr_iadd d_law_law_473 ?_
  refine mr_sldK d_law_law_474 hi1 ?_
  refine mz_goK (st := []) (e_law_liar (hT := [])) hx rfl U_law_liar (mz_vS d_law_law_475 U_law_liar lk_m_law_99 S_law_liar np_law_liar) (by decide) ⟨by decide, by decide, by show _ + 200 * 7 ≤ 601024; omega, by show _ + 20000 * 7 ≤ 7293000; omega⟩ ?_
  refine mr_eq (st' := [.int rx.1]) (ex' := mz_xi ex rx.1) (h2 := (HX x.x_members x.x_collaterals x.x_hasSent x.x_isSealed x.x_metered x.x_sealedCount x.bk_counts x.bk_needs x.bk_whens x.bk_sides x.bk_quantities x.bk_limits x.ag_toldLies x.ag_passedLies x.ag_words x.ag_vectors (rx.2) x.ag_rounds x.mk_entries x.mk_slots x.mk_remainders x.mk_blocks x.mk_blockBids x.mk_blockOffers x.mk_entryCount x.mk_blockCount x.cv_limits x.cv_bids x.cv_offers x.cv_count x.cv_allBids x.cv_allOffers x.cv_meetingPrice x.cv_sureBids x.cv_sureOffers x.cv_priceBids x.cv_priceOffers x.cv_volume x.cv_worth x.oc_prices x.oc_volumes x.oc_filled x.oc_worth x.oc_takenSet x.oc_isDone, HM m.m_thrown m.m_n m.m_collateral m.m_many m.m_need m.m_isBlock m.m_hours m.m_side m.m_quantity m.m_limit m.m_sent m.m_sealed m.m_rounds m.m_liar m.m_told m.m_passed m.m_vectors m.m_meters m.m_cleared m.m_prices m.m_trades m.m_fills m.m_welfares m.m_orderEntry m.m_orderFill m.m_orders m.m_blockEntry m.m_blockFill m.m_blocks m.m_price m.m_trade m.m_filled m.m_rest m.m_out)) (k' := k + mz_ki rx.1) (n' := n + mz_6i rx.1) rfl rfl rfl rfl rfl ?_
  refine mr_istore (lv' := [(5, .int rx.1), (4, .int i), (3, .ref 82), (2, .ref 54), (1, .ref 0), (0, .float 0)]) d_law_law_478 (by decide) rfl ?_
  refine mr_aload_n d_law_law_480 rfl rfl ?_
  refine mr_aload_nS d_law_law_481 rfl rfl ?_
  refine mr_iload d_law_law_482 rfl ?_
  refine mr_iconst (v := 1) d_law_law_484 (by decide) ?_
  refine mr_iadd d_law_law_485 ?_
  refine mr_sldK d_law_law_486 hi1 ?_
  refine mz_goK (st := []) e_m_liar hm rfl U_m_liar (mz_vV d_law_law_487 U_m_liar rfl lk_m_law_102 I_m_liar s_m_liar np_m_liar rfl rfl) (by decide) ⟨by decide, by decide, by show _ + 200 * 1 ≤ 601024; omega, by show _ + 20000 * 1 ≤ 7293000; omega⟩ ?_
  refine mr_eq (st' := []) (ex' := mz_xi ex rx.1) (h2 := (HX x.x_members x.x_collaterals x.x_hasSent x.x_isSealed x.x_metered x.x_sealedCount x.bk_counts x.bk_needs x.bk_whens x.bk_sides x.bk_quantities x.bk_limits x.ag_toldLies x.ag_passedLies x.ag_words x.ag_vectors (rx.2) x.ag_rounds x.mk_entries x.mk_slots x.mk_remainders x.mk_blocks x.mk_blockBids x.mk_blockOffers x.mk_entryCount x.mk_blockCount x.cv_limits x.cv_bids x.cv_offers x.cv_count x.cv_allBids x.cv_allOffers x.cv_meetingPrice x.cv_sureBids x.cv_sureOffers x.cv_priceBids x.cv_priceOffers x.cv_volume x.cv_worth x.oc_prices x.oc_volumes x.oc_filled x.oc_worth x.oc_takenSet x.oc_isDone, HM (rm.1) m.m_n m.m_collateral m.m_many m.m_need m.m_isBlock m.m_hours m.m_side m.m_quantity m.m_limit m.m_sent m.m_sealed m.m_rounds (rm.2) m.m_told m.m_passed m.m_vectors m.m_meters m.m_cleared m.m_prices m.m_trades m.m_fills m.m_welfares m.m_orderEntry m.m_orderFill m.m_orders m.m_blockEntry m.m_blockFill m.m_blocks m.m_price m.m_trade m.m_filled m.m_rest m.m_out)) (k' := k + mz_ki rx.1) (n' := n + mz_6i rx.1) rfl rfl rfl rfl rfl ?_
  refine mr_aload_n d_law_law_490 rfl rfl ?_
  refine mz_goK (st := []) (r' := rm.1) e_m_thrown rfl rfl U_m_thrown (mz_vV d_law_law_491 U_m_thrown rfl lk_m_law_85 I_m_thrown s_m_thrown np_m_thrown rfl rfl) (by decide) ⟨by decide, by decide, by show _ + 200 * 0 ≤ 601024; omega, by show _ + 20000 * 0 ≤ 7293000; omega⟩ ?_
  refine mr_eq (st' := [.int rm.1]) (ex' := mz_xi ex rx.1) (h2 := (HX x.x_members x.x_collaterals x.x_hasSent x.x_isSealed x.x_metered x.x_sealedCount x.bk_counts x.bk_needs x.bk_whens x.bk_sides x.bk_quantities x.bk_limits x.ag_toldLies x.ag_passedLies x.ag_words x.ag_vectors (rx.2) x.ag_rounds x.mk_entries x.mk_slots x.mk_remainders x.mk_blocks x.mk_blockBids x.mk_blockOffers x.mk_entryCount x.mk_blockCount x.cv_limits x.cv_bids x.cv_offers x.cv_count x.cv_allBids x.cv_allOffers x.cv_meetingPrice x.cv_sureBids x.cv_sureOffers x.cv_priceBids x.cv_priceOffers x.cv_volume x.cv_worth x.oc_prices x.oc_volumes x.oc_filled x.oc_worth x.oc_takenSet x.oc_isDone, HM (rm.1) m.m_n m.m_collateral m.m_many m.m_need m.m_isBlock m.m_hours m.m_side m.m_quantity m.m_limit m.m_sent m.m_sealed m.m_rounds (rm.2) m.m_told m.m_passed m.m_vectors m.m_meters m.m_cleared m.m_prices m.m_trades m.m_fills m.m_welfares m.m_orderEntry m.m_orderFill m.m_orders m.m_blockEntry m.m_blockFill m.m_blocks m.m_price m.m_trade m.m_filled m.m_rest m.m_out)) (k' := k + mz_ki rx.1) (n' := n + mz_6i rx.1) rfl rfl rfl rfl rfl ?_
  refine mr_iload d_law_law_494 rfl ?_
  refine mr_icmp_eqT (tgt := 501) d_law_law_496 (by decide) hth ?_
  refine mr_goto (tgt := 1177) d_law_law_501 (by decide) ?_
  refine mr_sub (lv' := [(4, .int i), (3, .ref 82), (2, .ref 54), (1, .ref 0), (0, .float 0)]) [1, 2, 3, 4, 5] rfl ?_
  exact kk
set_option maxRecDepth 100000 in
set_option maxHeartbeats 4000000 in
theorem w_tell {β : Type} {g : mz_G} {res : β → mz_S} {ex : Bool} {k n : Nat} {F : Option β} {x x' : SX} {m m' : SM} {c i : Int32} (hi1 : vp_in (i + 1) (mz_L g)) (hi2 : vp_in (i + 2) (mz_L g)) (hi3 : vp_in (i + 3) (mz_L g)) (hi4 : vp_in (i + 4) (mz_L g)) (hi5 : vp_in (i + 5) (mz_L g)) (hi6 : vp_in (i + 6) (mz_L g)) (hk : k ≤ 4000) (hn : n ≤ 40000) (hS : St_tell x m (mz_xs g (i + 1).toNatClampNeg) (mz_xs g (i + 2).toNatClampNeg) (mz_xs g (i + 3).toNatClampNeg) (mz_xs g (i + 4).toNatClampNeg) c x' m') (kk : mz_A g M_law_law room_1 res 1177 [(4, .int i), (3, .ref 82), (2, .ref 54), (1, .ref 0), (0, .float 0)] [] (mz_xi ex c) (x'.H, m'.H) (k + mz_ki c) (n + mz_6i c) F) : mz_A g M_law_law room_1 res 504 [(4, .int i), (3, .ref 82), (2, .ref 54), (1, .ref 0), (0, .float 0)] [] ex (x.H, m.H) k n F := by
  obtain ⟨rx, rm, hx, hm, hth, rfl, rfl, rfl⟩ := hS
  show mz_A g M_law_law room_1 res 504 [(4, .int i), (3, .ref 82), (2, .ref 54), (1, .ref 0), (0, .float 0)] [] ex (HX x.x_members x.x_collaterals x.x_hasSent x.x_isSealed x.x_metered x.x_sealedCount x.bk_counts x.bk_needs x.bk_whens x.bk_sides x.bk_quantities x.bk_limits x.ag_toldLies x.ag_passedLies x.ag_words x.ag_vectors x.ag_liarOperator x.ag_rounds x.mk_entries x.mk_slots x.mk_remainders x.mk_blocks x.mk_blockBids x.mk_blockOffers x.mk_entryCount x.mk_blockCount x.cv_limits x.cv_bids x.cv_offers x.cv_count x.cv_allBids x.cv_allOffers x.cv_meetingPrice x.cv_sureBids x.cv_sureOffers x.cv_priceBids x.cv_priceOffers x.cv_volume x.cv_worth x.oc_prices x.oc_volumes x.oc_filled x.oc_worth x.oc_takenSet x.oc_isDone, HM m.m_thrown m.m_n m.m_collateral m.m_many m.m_need m.m_isBlock m.m_hours m.m_side m.m_quantity m.m_limit m.m_sent m.m_sealed m.m_rounds m.m_liar m.m_told m.m_passed m.m_vectors m.m_meters m.m_cleared m.m_prices m.m_trades m.m_fills m.m_welfares m.m_orderEntry m.m_orderFill m.m_orders m.m_blockEntry m.m_blockFill m.m_blocks m.m_price m.m_trade m.m_filled m.m_rest m.m_out) k n F
  have q1 := mz_ki_le rx.1
  have q2 := mz_6i_le rx.1
  have kk : mz_A g M_law_law room_1 res 1177 [(4, .int i), (3, .ref 82), (2, .ref 54), (1, .ref 0), (0, .float 0)] [] (mz_xi ex rx.1) (HX x.x_members x.x_collaterals x.x_hasSent x.x_isSealed x.x_metered x.x_sealedCount x.bk_counts x.bk_needs x.bk_whens x.bk_sides x.bk_quantities x.bk_limits (rx.2.1) (rx.2.2) x.ag_words x.ag_vectors x.ag_liarOperator x.ag_rounds x.mk_entries x.mk_slots x.mk_remainders x.mk_blocks x.mk_blockBids x.mk_blockOffers x.mk_entryCount x.mk_blockCount x.cv_limits x.cv_bids x.cv_offers x.cv_count x.cv_allBids x.cv_allOffers x.cv_meetingPrice x.cv_sureBids x.cv_sureOffers x.cv_priceBids x.cv_priceOffers x.cv_volume x.cv_worth x.oc_prices x.oc_volumes x.oc_filled x.oc_worth x.oc_takenSet x.oc_isDone, HM (rm.1) m.m_n m.m_collateral m.m_many m.m_need m.m_isBlock m.m_hours m.m_side m.m_quantity m.m_limit m.m_sent m.m_sealed m.m_rounds m.m_liar (rm.2.1) (rm.2.2) m.m_vectors m.m_meters m.m_cleared m.m_prices m.m_trades m.m_fills m.m_welfares m.m_orderEntry m.m_orderFill m.m_orders m.m_blockEntry m.m_blockFill m.m_blocks m.m_price m.m_trade m.m_filled m.m_rest m.m_out) (k + mz_ki rx.1) (n + mz_6i rx.1) F := kk
  refine mr_aload_n d_law_law_504 rfl rfl ?_
  refine mr_aload_nS d_law_law_505 rfl rfl ?_
  refine mr_iload d_law_law_506 rfl ?_
  refine mr_iconst (v := 1) d_law_law_508 (by decide) ?_
  refine mr_iadd d_law_law_509 ?_
  refine mr_sldK d_law_law_510 hi1 ?_
  refine mr_aload_nS d_law_law_511 rfl rfl ?_
  refine mr_iload d_law_law_512 rfl ?_
  refine mr_iconst (v := 2) d_law_law_514 (by decide) ?_
  refine mr_iadd d_law_law_515 ?_
  refine mr_sldK d_law_law_516 hi2 ?_
  refine mr_aload_nS d_law_law_517 rfl rfl ?_
  refine mr_iload d_law_law_518 rfl ?_
  refine mr_iconst (v := 3) d_law_law_520 (by decide) ?_
  refine mr_iadd d_law_law_521 ?_
  refine mr_sldK d_law_law_522 hi3 ?_
  refine mr_aload_nS d_law_law_523 rfl rfl ?_
  refine mr_iload d_law_law_524 rfl ?_
  refine mr_iconst (v := 4) d_law_law_526 (by decide) ?_
  refine mr_iadd d_law_law_527 ?_
  refine mr_sldK d_law_law_528 hi4 ?_
  refine mz_goK (st := []) (e_law_tell (hT := [])) hx rfl U_law_tell (mz_vS d_law_law_529 U_law_tell lk_m_law_103 S_law_tell np_law_tell) (by decide) ⟨by decide, by decide, by show _ + 200 * 7 ≤ 601024; omega, by show _ + 20000 * 7 ≤ 7293000; omega⟩ ?_
  refine mr_eq (st' := [.int rx.1]) (ex' := mz_xi ex rx.1) (h2 := (HX x.x_members x.x_collaterals x.x_hasSent x.x_isSealed x.x_metered x.x_sealedCount x.bk_counts x.bk_needs x.bk_whens x.bk_sides x.bk_quantities x.bk_limits (rx.2.1) (rx.2.2) x.ag_words x.ag_vectors x.ag_liarOperator x.ag_rounds x.mk_entries x.mk_slots x.mk_remainders x.mk_blocks x.mk_blockBids x.mk_blockOffers x.mk_entryCount x.mk_blockCount x.cv_limits x.cv_bids x.cv_offers x.cv_count x.cv_allBids x.cv_allOffers x.cv_meetingPrice x.cv_sureBids x.cv_sureOffers x.cv_priceBids x.cv_priceOffers x.cv_volume x.cv_worth x.oc_prices x.oc_volumes x.oc_filled x.oc_worth x.oc_takenSet x.oc_isDone, HM m.m_thrown m.m_n m.m_collateral m.m_many m.m_need m.m_isBlock m.m_hours m.m_side m.m_quantity m.m_limit m.m_sent m.m_sealed m.m_rounds m.m_liar m.m_told m.m_passed m.m_vectors m.m_meters m.m_cleared m.m_prices m.m_trades m.m_fills m.m_welfares m.m_orderEntry m.m_orderFill m.m_orders m.m_blockEntry m.m_blockFill m.m_blocks m.m_price m.m_trade m.m_filled m.m_rest m.m_out)) (k' := k + mz_ki rx.1) (n' := n + mz_6i rx.1) rfl rfl rfl rfl rfl ?_
  refine mr_istore (lv' := [(5, .int rx.1), (4, .int i), (3, .ref 82), (2, .ref 54), (1, .ref 0), (0, .float 0)]) d_law_law_532 (by decide) rfl ?_
  refine mr_aload_n d_law_law_534 rfl rfl ?_
  refine mr_aload_nS d_law_law_535 rfl rfl ?_
  refine mr_iload d_law_law_536 rfl ?_
  refine mr_iconst (v := 1) d_law_law_538 (by decide) ?_
  refine mr_iadd d_law_law_539 ?_
  refine mr_sldK d_law_law_540 hi1 ?_
  refine mr_aload_nS d_law_law_541 rfl rfl ?_
  refine mr_iload d_law_law_542 rfl ?_
  refine mr_iconst (v := 2) d_law_law_544 (by decide) ?_
  refine mr_iadd d_law_law_545 ?_
  refine mr_sldK d_law_law_546 hi2 ?_
  refine mr_aload_nS d_law_law_547 rfl rfl ?_
  refine mr_iload d_law_law_548 rfl ?_
  refine mr_iconst (v := 3) d_law_law_550 (by decide) ?_
  refine mr_iadd d_law_law_551 ?_
  refine mr_sldK d_law_law_552 hi3 ?_
  refine mr_aload_nS d_law_law_553 rfl rfl ?_
  refine mr_iload d_law_law_554 rfl ?_
  refine mr_iconst (v := 4) d_law_law_556 (by decide) ?_
  refine mr_iadd d_law_law_557 ?_
  refine mr_sldK d_law_law_558 hi4 ?_
  refine mz_goK (st := []) e_m_tell hm rfl U_m_tell (mz_vV d_law_law_559 U_m_tell rfl lk_m_law_106 I_m_tell s_m_tell np_m_tell rfl rfl) (by decide) ⟨by decide, by decide, by show _ + 200 * 2 ≤ 601024; omega, by show _ + 20000 * 2 ≤ 7293000; omega⟩ ?_
  refine mr_eq (st' := []) (ex' := mz_xi ex rx.1) (h2 := (HX x.x_members x.x_collaterals x.x_hasSent x.x_isSealed x.x_metered x.x_sealedCount x.bk_counts x.bk_needs x.bk_whens x.bk_sides x.bk_quantities x.bk_limits (rx.2.1) (rx.2.2) x.ag_words x.ag_vectors x.ag_liarOperator x.ag_rounds x.mk_entries x.mk_slots x.mk_remainders x.mk_blocks x.mk_blockBids x.mk_blockOffers x.mk_entryCount x.mk_blockCount x.cv_limits x.cv_bids x.cv_offers x.cv_count x.cv_allBids x.cv_allOffers x.cv_meetingPrice x.cv_sureBids x.cv_sureOffers x.cv_priceBids x.cv_priceOffers x.cv_volume x.cv_worth x.oc_prices x.oc_volumes x.oc_filled x.oc_worth x.oc_takenSet x.oc_isDone, HM (rm.1) m.m_n m.m_collateral m.m_many m.m_need m.m_isBlock m.m_hours m.m_side m.m_quantity m.m_limit m.m_sent m.m_sealed m.m_rounds m.m_liar (rm.2.1) (rm.2.2) m.m_vectors m.m_meters m.m_cleared m.m_prices m.m_trades m.m_fills m.m_welfares m.m_orderEntry m.m_orderFill m.m_orders m.m_blockEntry m.m_blockFill m.m_blocks m.m_price m.m_trade m.m_filled m.m_rest m.m_out)) (k' := k + mz_ki rx.1) (n' := n + mz_6i rx.1) rfl rfl rfl rfl rfl ?_
  refine mr_aload_n d_law_law_562 rfl rfl ?_
  refine mz_goK (st := []) (r' := rm.1) e_m_thrown rfl rfl U_m_thrown (mz_vV d_law_law_563 U_m_thrown rfl lk_m_law_85 I_m_thrown s_m_thrown np_m_thrown rfl rfl) (by decide) ⟨by decide, by decide, by show _ + 200 * 0 ≤ 601024; omega, by show _ + 20000 * 0 ≤ 7293000; omega⟩ ?_
  refine mr_eq (st' := [.int rm.1]) (ex' := mz_xi ex rx.1) (h2 := (HX x.x_members x.x_collaterals x.x_hasSent x.x_isSealed x.x_metered x.x_sealedCount x.bk_counts x.bk_needs x.bk_whens x.bk_sides x.bk_quantities x.bk_limits (rx.2.1) (rx.2.2) x.ag_words x.ag_vectors x.ag_liarOperator x.ag_rounds x.mk_entries x.mk_slots x.mk_remainders x.mk_blocks x.mk_blockBids x.mk_blockOffers x.mk_entryCount x.mk_blockCount x.cv_limits x.cv_bids x.cv_offers x.cv_count x.cv_allBids x.cv_allOffers x.cv_meetingPrice x.cv_sureBids x.cv_sureOffers x.cv_priceBids x.cv_priceOffers x.cv_volume x.cv_worth x.oc_prices x.oc_volumes x.oc_filled x.oc_worth x.oc_takenSet x.oc_isDone, HM (rm.1) m.m_n m.m_collateral m.m_many m.m_need m.m_isBlock m.m_hours m.m_side m.m_quantity m.m_limit m.m_sent m.m_sealed m.m_rounds m.m_liar (rm.2.1) (rm.2.2) m.m_vectors m.m_meters m.m_cleared m.m_prices m.m_trades m.m_fills m.m_welfares m.m_orderEntry m.m_orderFill m.m_orders m.m_blockEntry m.m_blockFill m.m_blocks m.m_price m.m_trade m.m_filled m.m_rest m.m_out)) (k' := k + mz_ki rx.1) (n' := n + mz_6i rx.1) rfl rfl rfl rfl rfl ?_
  refine mr_iload d_law_law_566 rfl ?_
  refine mr_icmp_eqT (tgt := 573) d_law_law_568 (by decide) hth ?_
  refine mr_goto (tgt := 1177) d_law_law_573 (by decide) ?_
  refine mr_sub (lv' := [(4, .int i), (3, .ref 82), (2, .ref 54), (1, .ref 0), (0, .float 0)]) [1, 2, 3, 4, 5] rfl ?_
  exact kk
set_option maxRecDepth 100000 in
set_option maxHeartbeats 4000000 in
theorem w_round {β : Type} {g : mz_G} {res : β → mz_S} {ex : Bool} {k n : Nat} {F : Option β} {x x' : SX} {m m' : SM} {c i : Int32} (hi1 : vp_in (i + 1) (mz_L g)) (hi2 : vp_in (i + 2) (mz_L g)) (hi3 : vp_in (i + 3) (mz_L g)) (hi4 : vp_in (i + 4) (mz_L g)) (hi5 : vp_in (i + 5) (mz_L g)) (hi6 : vp_in (i + 6) (mz_L g)) (hk : k ≤ 4000) (hn : n ≤ 40000) (hS : St_round x m c x' m') (kk : mz_A g M_law_law room_1 res 1177 [(4, .int i), (3, .ref 82), (2, .ref 54), (1, .ref 0), (0, .float 0)] [] (mz_xi ex c) (x'.H, m'.H) (k + mz_ki c) (n + mz_6i c) F) : mz_A g M_law_law room_1 res 576 [(4, .int i), (3, .ref 82), (2, .ref 54), (1, .ref 0), (0, .float 0)] [] ex (x.H, m.H) k n F := by
  obtain ⟨rx, rm, hx, hm, hth, hans, rfl, rfl, rfl⟩ := hS
  show mz_A g M_law_law room_1 res 576 [(4, .int i), (3, .ref 82), (2, .ref 54), (1, .ref 0), (0, .float 0)] [] ex (HX x.x_members x.x_collaterals x.x_hasSent x.x_isSealed x.x_metered x.x_sealedCount x.bk_counts x.bk_needs x.bk_whens x.bk_sides x.bk_quantities x.bk_limits x.ag_toldLies x.ag_passedLies x.ag_words x.ag_vectors x.ag_liarOperator x.ag_rounds x.mk_entries x.mk_slots x.mk_remainders x.mk_blocks x.mk_blockBids x.mk_blockOffers x.mk_entryCount x.mk_blockCount x.cv_limits x.cv_bids x.cv_offers x.cv_count x.cv_allBids x.cv_allOffers x.cv_meetingPrice x.cv_sureBids x.cv_sureOffers x.cv_priceBids x.cv_priceOffers x.cv_volume x.cv_worth x.oc_prices x.oc_volumes x.oc_filled x.oc_worth x.oc_takenSet x.oc_isDone, HM m.m_thrown m.m_n m.m_collateral m.m_many m.m_need m.m_isBlock m.m_hours m.m_side m.m_quantity m.m_limit m.m_sent m.m_sealed m.m_rounds m.m_liar m.m_told m.m_passed m.m_vectors m.m_meters m.m_cleared m.m_prices m.m_trades m.m_fills m.m_welfares m.m_orderEntry m.m_orderFill m.m_orders m.m_blockEntry m.m_blockFill m.m_blocks m.m_price m.m_trade m.m_filled m.m_rest m.m_out) k n F
  have q1 := mz_ki_le rx.1
  have q2 := mz_6i_le rx.1
  have kk : mz_A g M_law_law room_1 res 1177 [(4, .int i), (3, .ref 82), (2, .ref 54), (1, .ref 0), (0, .float 0)] [] (mz_xi ex rx.1) (HX x.x_members x.x_collaterals x.x_hasSent x.x_isSealed x.x_metered x.x_sealedCount x.bk_counts x.bk_needs x.bk_whens x.bk_sides x.bk_quantities x.bk_limits x.ag_toldLies x.ag_passedLies (rx.2.1) (rx.2.2.1) x.ag_liarOperator (rx.2.2.2.1) x.mk_entries x.mk_slots x.mk_remainders x.mk_blocks x.mk_blockBids x.mk_blockOffers x.mk_entryCount x.mk_blockCount x.cv_limits x.cv_bids x.cv_offers x.cv_count x.cv_allBids x.cv_allOffers x.cv_meetingPrice x.cv_sureBids x.cv_sureOffers x.cv_priceBids x.cv_priceOffers x.cv_volume x.cv_worth x.oc_prices x.oc_volumes x.oc_filled x.oc_worth x.oc_takenSet x.oc_isDone, HM (rm.2.1) m.m_n m.m_collateral m.m_many m.m_need m.m_isBlock m.m_hours m.m_side m.m_quantity m.m_limit m.m_sent m.m_sealed (rm.2.2.1) m.m_liar m.m_told m.m_passed (rm.2.2.2) m.m_meters m.m_cleared m.m_prices m.m_trades m.m_fills m.m_welfares m.m_orderEntry m.m_orderFill m.m_orders m.m_blockEntry m.m_blockFill m.m_blocks m.m_price m.m_trade m.m_filled m.m_rest (rx.2.2.2.2)) (k + mz_ki rx.1) (n + mz_6i rx.1) F := kk
  refine mr_aload_n d_law_law_576 rfl rfl ?_
  refine mr_aload_n d_law_law_577 rfl rfl ?_
  refine mz_goK (st := []) (e_law_round (hT := [])) hx rfl U_law_round (mz_vS d_law_law_578 U_law_round lk_m_law_107 S_law_round np_law_round) (by decide) ⟨by decide, by decide, by show _ + 200 * 7 ≤ 601024; omega, by show _ + 20000 * 7 ≤ 7293000; omega⟩ ?_
  refine mr_eq (st' := [.int rx.1]) (ex' := mz_xi ex rx.1) (h2 := (HX x.x_members x.x_collaterals x.x_hasSent x.x_isSealed x.x_metered x.x_sealedCount x.bk_counts x.bk_needs x.bk_whens x.bk_sides x.bk_quantities x.bk_limits x.ag_toldLies x.ag_passedLies (rx.2.1) (rx.2.2.1) x.ag_liarOperator (rx.2.2.2.1) x.mk_entries x.mk_slots x.mk_remainders x.mk_blocks x.mk_blockBids x.mk_blockOffers x.mk_entryCount x.mk_blockCount x.cv_limits x.cv_bids x.cv_offers x.cv_count x.cv_allBids x.cv_allOffers x.cv_meetingPrice x.cv_sureBids x.cv_sureOffers x.cv_priceBids x.cv_priceOffers x.cv_volume x.cv_worth x.oc_prices x.oc_volumes x.oc_filled x.oc_worth x.oc_takenSet x.oc_isDone, HM m.m_thrown m.m_n m.m_collateral m.m_many m.m_need m.m_isBlock m.m_hours m.m_side m.m_quantity m.m_limit m.m_sent m.m_sealed m.m_rounds m.m_liar m.m_told m.m_passed m.m_vectors m.m_meters m.m_cleared m.m_prices m.m_trades m.m_fills m.m_welfares m.m_orderEntry m.m_orderFill m.m_orders m.m_blockEntry m.m_blockFill m.m_blocks m.m_price m.m_trade m.m_filled m.m_rest (rx.2.2.2.2))) (k' := k + mz_ki rx.1) (n' := n + mz_6i rx.1) rfl rfl rfl rfl rfl ?_
  refine mr_istore (lv' := [(5, .int rx.1), (4, .int i), (3, .ref 82), (2, .ref 54), (1, .ref 0), (0, .float 0)]) d_law_law_581 (by decide) rfl ?_
  refine mr_aload_n d_law_law_583 rfl rfl ?_
  refine mz_goK (st := []) e_m_round hm rfl U_m_round (mz_vV d_law_law_584 U_m_round rfl lk_m_law_110 I_m_round s_m_round np_m_round rfl rfl) (by decide) ⟨by decide, by decide, by show _ + 200 * 4 ≤ 601024; omega, by show _ + 20000 * 4 ≤ 7293000; omega⟩ ?_
  refine mr_eq (st' := [.int rm.1]) (ex' := mz_xi ex rx.1) (h2 := (HX x.x_members x.x_collaterals x.x_hasSent x.x_isSealed x.x_metered x.x_sealedCount x.bk_counts x.bk_needs x.bk_whens x.bk_sides x.bk_quantities x.bk_limits x.ag_toldLies x.ag_passedLies (rx.2.1) (rx.2.2.1) x.ag_liarOperator (rx.2.2.2.1) x.mk_entries x.mk_slots x.mk_remainders x.mk_blocks x.mk_blockBids x.mk_blockOffers x.mk_entryCount x.mk_blockCount x.cv_limits x.cv_bids x.cv_offers x.cv_count x.cv_allBids x.cv_allOffers x.cv_meetingPrice x.cv_sureBids x.cv_sureOffers x.cv_priceBids x.cv_priceOffers x.cv_volume x.cv_worth x.oc_prices x.oc_volumes x.oc_filled x.oc_worth x.oc_takenSet x.oc_isDone, HM (rm.2.1) m.m_n m.m_collateral m.m_many m.m_need m.m_isBlock m.m_hours m.m_side m.m_quantity m.m_limit m.m_sent m.m_sealed (rm.2.2.1) m.m_liar m.m_told m.m_passed (rm.2.2.2) m.m_meters m.m_cleared m.m_prices m.m_trades m.m_fills m.m_welfares m.m_orderEntry m.m_orderFill m.m_orders m.m_blockEntry m.m_blockFill m.m_blocks m.m_price m.m_trade m.m_filled m.m_rest (rx.2.2.2.2))) (k' := k + mz_ki rx.1) (n' := n + mz_6i rx.1) rfl rfl rfl rfl rfl ?_
  refine mr_istore (lv' := [(6, .int rm.1), (5, .int rx.1), (4, .int i), (3, .ref 82), (2, .ref 54), (1, .ref 0), (0, .float 0)]) d_law_law_587 (by decide) rfl ?_
  refine mr_aload_n d_law_law_589 rfl rfl ?_
  refine mz_goK (st := []) (r' := rm.2.1) e_m_thrown rfl rfl U_m_thrown (mz_vV d_law_law_590 U_m_thrown rfl lk_m_law_85 I_m_thrown s_m_thrown np_m_thrown rfl rfl) (by decide) ⟨by decide, by decide, by show _ + 200 * 0 ≤ 601024; omega, by show _ + 20000 * 0 ≤ 7293000; omega⟩ ?_
  refine mr_eq (st' := [.int rm.2.1]) (ex' := mz_xi ex rx.1) (h2 := (HX x.x_members x.x_collaterals x.x_hasSent x.x_isSealed x.x_metered x.x_sealedCount x.bk_counts x.bk_needs x.bk_whens x.bk_sides x.bk_quantities x.bk_limits x.ag_toldLies x.ag_passedLies (rx.2.1) (rx.2.2.1) x.ag_liarOperator (rx.2.2.2.1) x.mk_entries x.mk_slots x.mk_remainders x.mk_blocks x.mk_blockBids x.mk_blockOffers x.mk_entryCount x.mk_blockCount x.cv_limits x.cv_bids x.cv_offers x.cv_count x.cv_allBids x.cv_allOffers x.cv_meetingPrice x.cv_sureBids x.cv_sureOffers x.cv_priceBids x.cv_priceOffers x.cv_volume x.cv_worth x.oc_prices x.oc_volumes x.oc_filled x.oc_worth x.oc_takenSet x.oc_isDone, HM (rm.2.1) m.m_n m.m_collateral m.m_many m.m_need m.m_isBlock m.m_hours m.m_side m.m_quantity m.m_limit m.m_sent m.m_sealed (rm.2.2.1) m.m_liar m.m_told m.m_passed (rm.2.2.2) m.m_meters m.m_cleared m.m_prices m.m_trades m.m_fills m.m_welfares m.m_orderEntry m.m_orderFill m.m_orders m.m_blockEntry m.m_blockFill m.m_blocks m.m_price m.m_trade m.m_filled m.m_rest (rx.2.2.2.2))) (k' := k + mz_ki rx.1) (n' := n + mz_6i rx.1) rfl rfl rfl rfl rfl ?_
  refine mr_iload d_law_law_593 rfl ?_
  refine mr_icmp_eqT (tgt := 600) d_law_law_595 (by decide) hth ?_
  refine mr_iload d_law_law_600 rfl ?_
  by_cases hc : rx.1 = 0
  · refine mr_if_neF (tgt := 617) d_law_law_602 (by decide) hc ?_
    refine mr_aload_n d_law_law_605 rfl rfl ?_
    refine mr_iconst (v := 0) d_law_law_606 (by decide) ?_
    refine mr_laldK d_law_law_607 rfl (show ¬ ((0 : Int32) < 0 ∨ 1 ≤ (0 : Int32).toNatClampNeg) by decide) ?_
    refine mr_iload d_law_law_608 rfl ?_
    refine mr_i2l d_law_law_610 ?_
    refine mr_lcmp d_law_law_611 ?_
    refine mr_if_eqT (tgt := 617) d_law_law_612 (by decide) (lg_cmp_same (hans hc)) ?_
    refine mr_goto (tgt := 1177) d_law_law_617 (by decide) ?_
    refine mr_sub (lv' := [(4, .int i), (3, .ref 82), (2, .ref 54), (1, .ref 0), (0, .float 0)]) [2, 3, 4, 5, 6] rfl ?_
    exact kk
  · refine mr_if_neT (tgt := 617) d_law_law_602 (by decide) hc ?_
    refine mr_goto (tgt := 1177) d_law_law_617 (by decide) ?_
    refine mr_sub (lv' := [(4, .int i), (3, .ref 82), (2, .ref 54), (1, .ref 0), (0, .float 0)]) [2, 3, 4, 5, 6] rfl ?_
    exact kk
set_option maxRecDepth 100000 in
set_option maxHeartbeats 4000000 in
theorem w_vector {β : Type} {g : mz_G} {res : β → mz_S} {ex : Bool} {k n : Nat} {F : Option β} {x x' : SX} {m m' : SM} {c i : Int32} (hi1 : vp_in (i + 1) (mz_L g)) (hi2 : vp_in (i + 2) (mz_L g)) (hi3 : vp_in (i + 3) (mz_L g)) (hi4 : vp_in (i + 4) (mz_L g)) (hi5 : vp_in (i + 5) (mz_L g)) (hi6 : vp_in (i + 6) (mz_L g)) (hk : k ≤ 4000) (hn : n ≤ 40000) (hS : St_vector x m (mz_xs g (i + 1).toNatClampNeg) (mz_xs g (i + 2).toNatClampNeg) (mz_xs g (i + 3).toNatClampNeg) (mz_xs g (i + 4).toNatClampNeg) c x' m') (kk : mz_A g M_law_law room_1 res 1177 [(4, .int i), (3, .ref 82), (2, .ref 54), (1, .ref 0), (0, .float 0)] [] (mz_xi ex c) (x'.H, m'.H) (k + mz_ki c) (n + mz_6i c) F) : mz_A g M_law_law room_1 res 620 [(4, .int i), (3, .ref 82), (2, .ref 54), (1, .ref 0), (0, .float 0)] [] ex (x.H, m.H) k n F := by
  obtain ⟨rx, rm, hx, hm, hth, hans, rfl, rfl, rfl⟩ := hS
  show mz_A g M_law_law room_1 res 620 [(4, .int i), (3, .ref 82), (2, .ref 54), (1, .ref 0), (0, .float 0)] [] ex (HX x.x_members x.x_collaterals x.x_hasSent x.x_isSealed x.x_metered x.x_sealedCount x.bk_counts x.bk_needs x.bk_whens x.bk_sides x.bk_quantities x.bk_limits x.ag_toldLies x.ag_passedLies x.ag_words x.ag_vectors x.ag_liarOperator x.ag_rounds x.mk_entries x.mk_slots x.mk_remainders x.mk_blocks x.mk_blockBids x.mk_blockOffers x.mk_entryCount x.mk_blockCount x.cv_limits x.cv_bids x.cv_offers x.cv_count x.cv_allBids x.cv_allOffers x.cv_meetingPrice x.cv_sureBids x.cv_sureOffers x.cv_priceBids x.cv_priceOffers x.cv_volume x.cv_worth x.oc_prices x.oc_volumes x.oc_filled x.oc_worth x.oc_takenSet x.oc_isDone, HM m.m_thrown m.m_n m.m_collateral m.m_many m.m_need m.m_isBlock m.m_hours m.m_side m.m_quantity m.m_limit m.m_sent m.m_sealed m.m_rounds m.m_liar m.m_told m.m_passed m.m_vectors m.m_meters m.m_cleared m.m_prices m.m_trades m.m_fills m.m_welfares m.m_orderEntry m.m_orderFill m.m_orders m.m_blockEntry m.m_blockFill m.m_blocks m.m_price m.m_trade m.m_filled m.m_rest m.m_out) k n F
  have q1 := mz_ki_le rx.1
  have q2 := mz_6i_le rx.1
  have kk : mz_A g M_law_law room_1 res 1177 [(4, .int i), (3, .ref 82), (2, .ref 54), (1, .ref 0), (0, .float 0)] [] (mz_xi ex rx.1) (HX x.x_members x.x_collaterals x.x_hasSent x.x_isSealed x.x_metered x.x_sealedCount x.bk_counts x.bk_needs x.bk_whens x.bk_sides x.bk_quantities x.bk_limits x.ag_toldLies x.ag_passedLies x.ag_words x.ag_vectors x.ag_liarOperator x.ag_rounds x.mk_entries x.mk_slots x.mk_remainders x.mk_blocks x.mk_blockBids x.mk_blockOffers x.mk_entryCount x.mk_blockCount x.cv_limits x.cv_bids x.cv_offers x.cv_count x.cv_allBids x.cv_allOffers x.cv_meetingPrice x.cv_sureBids x.cv_sureOffers x.cv_priceBids x.cv_priceOffers x.cv_volume x.cv_worth x.oc_prices x.oc_volumes x.oc_filled x.oc_worth x.oc_takenSet x.oc_isDone, HM (rm.2) m.m_n m.m_collateral m.m_many m.m_need m.m_isBlock m.m_hours m.m_side m.m_quantity m.m_limit m.m_sent m.m_sealed m.m_rounds m.m_liar m.m_told m.m_passed m.m_vectors m.m_meters m.m_cleared m.m_prices m.m_trades m.m_fills m.m_welfares m.m_orderEntry m.m_orderFill m.m_orders m.m_blockEntry m.m_blockFill m.m_blocks m.m_price m.m_trade m.m_filled m.m_rest (rx.2)) (k + mz_ki rx.1) (n + mz_6i rx.1) F := kk
  refine mr_aload_n d_law_law_620 rfl rfl ?_
  refine mr_aload_nS d_law_law_621 rfl rfl ?_
  refine mr_iload d_law_law_622 rfl ?_
  refine mr_iconst (v := 1) d_law_law_624 (by decide) ?_
  refine mr_iadd d_law_law_625 ?_
  refine mr_sldK d_law_law_626 hi1 ?_
  refine mr_aload_nS d_law_law_627 rfl rfl ?_
  refine mr_iload d_law_law_628 rfl ?_
  refine mr_iconst (v := 2) d_law_law_630 (by decide) ?_
  refine mr_iadd d_law_law_631 ?_
  refine mr_sldK d_law_law_632 hi2 ?_
  refine mr_aload_nS d_law_law_633 rfl rfl ?_
  refine mr_iload d_law_law_634 rfl ?_
  refine mr_iconst (v := 3) d_law_law_636 (by decide) ?_
  refine mr_iadd d_law_law_637 ?_
  refine mr_sldK d_law_law_638 hi3 ?_
  refine mr_aload_nS d_law_law_639 rfl rfl ?_
  refine mr_iload d_law_law_640 rfl ?_
  refine mr_iconst (v := 4) d_law_law_642 (by decide) ?_
  refine mr_iadd d_law_law_643 ?_
  refine mr_sldK d_law_law_644 hi4 ?_
  refine mr_aload_n d_law_law_645 rfl rfl ?_
  refine mz_goK (st := []) (e_law_vector (hT := [])) hx rfl U_law_vector (mz_vS d_law_law_646 U_law_vector lk_m_law_111 S_law_vector np_law_vector) (by decide) ⟨by decide, by decide, by show _ + 200 * 7 ≤ 601024; omega, by show _ + 20000 * 7 ≤ 7293000; omega⟩ ?_
  refine mr_eq (st' := [.int rx.1]) (ex' := mz_xi ex rx.1) (h2 := (HX x.x_members x.x_collaterals x.x_hasSent x.x_isSealed x.x_metered x.x_sealedCount x.bk_counts x.bk_needs x.bk_whens x.bk_sides x.bk_quantities x.bk_limits x.ag_toldLies x.ag_passedLies x.ag_words x.ag_vectors x.ag_liarOperator x.ag_rounds x.mk_entries x.mk_slots x.mk_remainders x.mk_blocks x.mk_blockBids x.mk_blockOffers x.mk_entryCount x.mk_blockCount x.cv_limits x.cv_bids x.cv_offers x.cv_count x.cv_allBids x.cv_allOffers x.cv_meetingPrice x.cv_sureBids x.cv_sureOffers x.cv_priceBids x.cv_priceOffers x.cv_volume x.cv_worth x.oc_prices x.oc_volumes x.oc_filled x.oc_worth x.oc_takenSet x.oc_isDone, HM m.m_thrown m.m_n m.m_collateral m.m_many m.m_need m.m_isBlock m.m_hours m.m_side m.m_quantity m.m_limit m.m_sent m.m_sealed m.m_rounds m.m_liar m.m_told m.m_passed m.m_vectors m.m_meters m.m_cleared m.m_prices m.m_trades m.m_fills m.m_welfares m.m_orderEntry m.m_orderFill m.m_orders m.m_blockEntry m.m_blockFill m.m_blocks m.m_price m.m_trade m.m_filled m.m_rest (rx.2))) (k' := k + mz_ki rx.1) (n' := n + mz_6i rx.1) rfl rfl rfl rfl rfl ?_
  refine mr_istore (lv' := [(5, .int rx.1), (4, .int i), (3, .ref 82), (2, .ref 54), (1, .ref 0), (0, .float 0)]) d_law_law_649 (by decide) rfl ?_
  refine mr_aload_n d_law_law_651 rfl rfl ?_
  refine mr_aload_nS d_law_law_652 rfl rfl ?_
  refine mr_iload d_law_law_653 rfl ?_
  refine mr_iconst (v := 1) d_law_law_655 (by decide) ?_
  refine mr_iadd d_law_law_656 ?_
  refine mr_sldK d_law_law_657 hi1 ?_
  refine mr_aload_nS d_law_law_658 rfl rfl ?_
  refine mr_iload d_law_law_659 rfl ?_
  refine mr_iconst (v := 2) d_law_law_661 (by decide) ?_
  refine mr_iadd d_law_law_662 ?_
  refine mr_sldK d_law_law_663 hi2 ?_
  refine mr_aload_nS d_law_law_664 rfl rfl ?_
  refine mr_iload d_law_law_665 rfl ?_
  refine mr_iconst (v := 3) d_law_law_667 (by decide) ?_
  refine mr_iadd d_law_law_668 ?_
  refine mr_sldK d_law_law_669 hi3 ?_
  refine mr_aload_nS d_law_law_670 rfl rfl ?_
  refine mr_iload d_law_law_671 rfl ?_
  refine mr_iconst (v := 4) d_law_law_673 (by decide) ?_
  refine mr_iadd d_law_law_674 ?_
  refine mr_sldK d_law_law_675 hi4 ?_
  refine mz_goK (st := []) e_m_vector hm rfl U_m_vector (mz_vV d_law_law_676 U_m_vector rfl lk_m_law_114 I_m_vector s_m_vector np_m_vector rfl rfl) (by decide) ⟨by decide, by decide, by show _ + 200 * 2 ≤ 601024; omega, by show _ + 20000 * 2 ≤ 7293000; omega⟩ ?_
  refine mr_eq (st' := [.int rm.1]) (ex' := mz_xi ex rx.1) (h2 := (HX x.x_members x.x_collaterals x.x_hasSent x.x_isSealed x.x_metered x.x_sealedCount x.bk_counts x.bk_needs x.bk_whens x.bk_sides x.bk_quantities x.bk_limits x.ag_toldLies x.ag_passedLies x.ag_words x.ag_vectors x.ag_liarOperator x.ag_rounds x.mk_entries x.mk_slots x.mk_remainders x.mk_blocks x.mk_blockBids x.mk_blockOffers x.mk_entryCount x.mk_blockCount x.cv_limits x.cv_bids x.cv_offers x.cv_count x.cv_allBids x.cv_allOffers x.cv_meetingPrice x.cv_sureBids x.cv_sureOffers x.cv_priceBids x.cv_priceOffers x.cv_volume x.cv_worth x.oc_prices x.oc_volumes x.oc_filled x.oc_worth x.oc_takenSet x.oc_isDone, HM (rm.2) m.m_n m.m_collateral m.m_many m.m_need m.m_isBlock m.m_hours m.m_side m.m_quantity m.m_limit m.m_sent m.m_sealed m.m_rounds m.m_liar m.m_told m.m_passed m.m_vectors m.m_meters m.m_cleared m.m_prices m.m_trades m.m_fills m.m_welfares m.m_orderEntry m.m_orderFill m.m_orders m.m_blockEntry m.m_blockFill m.m_blocks m.m_price m.m_trade m.m_filled m.m_rest (rx.2))) (k' := k + mz_ki rx.1) (n' := n + mz_6i rx.1) rfl rfl rfl rfl rfl ?_
  refine mr_istore (lv' := [(6, .int rm.1), (5, .int rx.1), (4, .int i), (3, .ref 82), (2, .ref 54), (1, .ref 0), (0, .float 0)]) d_law_law_679 (by decide) rfl ?_
  refine mr_aload_n d_law_law_681 rfl rfl ?_
  refine mz_goK (st := []) (r' := rm.2) e_m_thrown rfl rfl U_m_thrown (mz_vV d_law_law_682 U_m_thrown rfl lk_m_law_85 I_m_thrown s_m_thrown np_m_thrown rfl rfl) (by decide) ⟨by decide, by decide, by show _ + 200 * 0 ≤ 601024; omega, by show _ + 20000 * 0 ≤ 7293000; omega⟩ ?_
  refine mr_eq (st' := [.int rm.2]) (ex' := mz_xi ex rx.1) (h2 := (HX x.x_members x.x_collaterals x.x_hasSent x.x_isSealed x.x_metered x.x_sealedCount x.bk_counts x.bk_needs x.bk_whens x.bk_sides x.bk_quantities x.bk_limits x.ag_toldLies x.ag_passedLies x.ag_words x.ag_vectors x.ag_liarOperator x.ag_rounds x.mk_entries x.mk_slots x.mk_remainders x.mk_blocks x.mk_blockBids x.mk_blockOffers x.mk_entryCount x.mk_blockCount x.cv_limits x.cv_bids x.cv_offers x.cv_count x.cv_allBids x.cv_allOffers x.cv_meetingPrice x.cv_sureBids x.cv_sureOffers x.cv_priceBids x.cv_priceOffers x.cv_volume x.cv_worth x.oc_prices x.oc_volumes x.oc_filled x.oc_worth x.oc_takenSet x.oc_isDone, HM (rm.2) m.m_n m.m_collateral m.m_many m.m_need m.m_isBlock m.m_hours m.m_side m.m_quantity m.m_limit m.m_sent m.m_sealed m.m_rounds m.m_liar m.m_told m.m_passed m.m_vectors m.m_meters m.m_cleared m.m_prices m.m_trades m.m_fills m.m_welfares m.m_orderEntry m.m_orderFill m.m_orders m.m_blockEntry m.m_blockFill m.m_blocks m.m_price m.m_trade m.m_filled m.m_rest (rx.2))) (k' := k + mz_ki rx.1) (n' := n + mz_6i rx.1) rfl rfl rfl rfl rfl ?_
  refine mr_iload d_law_law_685 rfl ?_
  refine mr_icmp_eqT (tgt := 692) d_law_law_687 (by decide) hth ?_
  refine mr_iload d_law_law_692 rfl ?_
  by_cases hc : rx.1 = 0
  · refine mr_if_neF (tgt := 709) d_law_law_694 (by decide) hc ?_
    refine mr_aload_n d_law_law_697 rfl rfl ?_
    refine mr_iconst (v := 0) d_law_law_698 (by decide) ?_
    refine mr_laldK d_law_law_699 rfl (show ¬ ((0 : Int32) < 0 ∨ 1 ≤ (0 : Int32).toNatClampNeg) by decide) ?_
    refine mr_iload d_law_law_700 rfl ?_
    refine mr_i2l d_law_law_702 ?_
    refine mr_lcmp d_law_law_703 ?_
    refine mr_if_eqT (tgt := 709) d_law_law_704 (by decide) (lg_cmp_same (hans hc)) ?_
    refine mr_goto (tgt := 1177) d_law_law_709 (by decide) ?_
    refine mr_sub (lv' := [(4, .int i), (3, .ref 82), (2, .ref 54), (1, .ref 0), (0, .float 0)]) [2, 3, 4, 5, 6] rfl ?_
    exact kk
  · refine mr_if_neT (tgt := 709) d_law_law_694 (by decide) hc ?_
    refine mr_goto (tgt := 1177) d_law_law_709 (by decide) ?_
    refine mr_sub (lv' := [(4, .int i), (3, .ref 82), (2, .ref 54), (1, .ref 0), (0, .float 0)]) [2, 3, 4, 5, 6] rfl ?_
    exact kk
set_option maxRecDepth 100000 in
set_option maxHeartbeats 4000000 in
theorem w_clear {β : Type} {g : mz_G} {res : β → mz_S} {ex : Bool} {k n : Nat} {F : Option β} {x x' : SX} {m m' : SM} {c i : Int32} (hi1 : vp_in (i + 1) (mz_L g)) (hi2 : vp_in (i + 2) (mz_L g)) (hi3 : vp_in (i + 3) (mz_L g)) (hi4 : vp_in (i + 4) (mz_L g)) (hi5 : vp_in (i + 5) (mz_L g)) (hi6 : vp_in (i + 6) (mz_L g)) (hk : k ≤ 4000) (hn : n ≤ 40000) (hS : St_clear x m (mz_xs g (i + 1).toNatClampNeg) c x' m') (kk : mz_A g M_law_law room_1 res 1177 [(4, .int i), (3, .ref 82), (2, .ref 54), (1, .ref 0), (0, .float 0)] [] (mz_xi ex c) (x'.H, m'.H) (k + mz_ki c) (n + mz_6i c) F) : mz_A g M_law_law room_1 res 712 [(4, .int i), (3, .ref 82), (2, .ref 54), (1, .ref 0), (0, .float 0)] [] ex (x.H, m.H) k n F := by
  obtain ⟨rx, rm, hx, hm, hth, hans, rfl, rfl, rfl⟩ := hS
  show mz_A g M_law_law room_1 res 712 [(4, .int i), (3, .ref 82), (2, .ref 54), (1, .ref 0), (0, .float 0)] [] ex (HX x.x_members x.x_collaterals x.x_hasSent x.x_isSealed x.x_metered x.x_sealedCount x.bk_counts x.bk_needs x.bk_whens x.bk_sides x.bk_quantities x.bk_limits x.ag_toldLies x.ag_passedLies x.ag_words x.ag_vectors x.ag_liarOperator x.ag_rounds x.mk_entries x.mk_slots x.mk_remainders x.mk_blocks x.mk_blockBids x.mk_blockOffers x.mk_entryCount x.mk_blockCount x.cv_limits x.cv_bids x.cv_offers x.cv_count x.cv_allBids x.cv_allOffers x.cv_meetingPrice x.cv_sureBids x.cv_sureOffers x.cv_priceBids x.cv_priceOffers x.cv_volume x.cv_worth x.oc_prices x.oc_volumes x.oc_filled x.oc_worth x.oc_takenSet x.oc_isDone, HM m.m_thrown m.m_n m.m_collateral m.m_many m.m_need m.m_isBlock m.m_hours m.m_side m.m_quantity m.m_limit m.m_sent m.m_sealed m.m_rounds m.m_liar m.m_told m.m_passed m.m_vectors m.m_meters m.m_cleared m.m_prices m.m_trades m.m_fills m.m_welfares m.m_orderEntry m.m_orderFill m.m_orders m.m_blockEntry m.m_blockFill m.m_blocks m.m_price m.m_trade m.m_filled m.m_rest m.m_out) k n F
  have q1 := mz_ki_le rx.1
  have q2 := mz_6i_le rx.1
  have kk : mz_A g M_law_law room_1 res 1177 [(4, .int i), (3, .ref 82), (2, .ref 54), (1, .ref 0), (0, .float 0)] [] (mz_xi ex rx.1) (HX x.x_members x.x_collaterals x.x_hasSent x.x_isSealed x.x_metered x.x_sealedCount x.bk_counts x.bk_needs x.bk_whens x.bk_sides x.bk_quantities x.bk_limits x.ag_toldLies x.ag_passedLies x.ag_words x.ag_vectors x.ag_liarOperator x.ag_rounds (rx.2.1) (rx.2.2.1) (rx.2.2.2.1) (rx.2.2.2.2.1) (rx.2.2.2.2.2.1) (rx.2.2.2.2.2.2.1) (rx.2.2.2.2.2.2.2.1) (rx.2.2.2.2.2.2.2.2.1) (rx.2.2.2.2.2.2.2.2.2.1) (rx.2.2.2.2.2.2.2.2.2.2.1) (rx.2.2.2.2.2.2.2.2.2.2.2.1) (rx.2.2.2.2.2.2.2.2.2.2.2.2.1) (rx.2.2.2.2.2.2.2.2.2.2.2.2.2.1) (rx.2.2.2.2.2.2.2.2.2.2.2.2.2.2.1) (rx.2.2.2.2.2.2.2.2.2.2.2.2.2.2.2.1) (rx.2.2.2.2.2.2.2.2.2.2.2.2.2.2.2.2.1) (rx.2.2.2.2.2.2.2.2.2.2.2.2.2.2.2.2.2.1) (rx.2.2.2.2.2.2.2.2.2.2.2.2.2.2.2.2.2.2.1) (rx.2.2.2.2.2.2.2.2.2.2.2.2.2.2.2.2.2.2.2.1) (rx.2.2.2.2.2.2.2.2.2.2.2.2.2.2.2.2.2.2.2.2.1) (rx.2.2.2.2.2.2.2.2.2.2.2.2.2.2.2.2.2.2.2.2.2.1) (rx.2.2.2.2.2.2.2.2.2.2.2.2.2.2.2.2.2.2.2.2.2.2.1) (rx.2.2.2.2.2.2.2.2.2.2.2.2.2.2.2.2.2.2.2.2.2.2.2.1) (rx.2.2.2.2.2.2.2.2.2.2.2.2.2.2.2.2.2.2.2.2.2.2.2.2.1) (rx.2.2.2.2.2.2.2.2.2.2.2.2.2.2.2.2.2.2.2.2.2.2.2.2.2.1) (rx.2.2.2.2.2.2.2.2.2.2.2.2.2.2.2.2.2.2.2.2.2.2.2.2.2.2.1) (rx.2.2.2.2.2.2.2.2.2.2.2.2.2.2.2.2.2.2.2.2.2.2.2.2.2.2.2.1), HM (rm.2.1) m.m_n m.m_collateral m.m_many m.m_need m.m_isBlock m.m_hours m.m_side m.m_quantity m.m_limit m.m_sent m.m_sealed m.m_rounds m.m_liar m.m_told m.m_passed m.m_vectors m.m_meters (rm.2.2.1) (rm.2.2.2.1) (rm.2.2.2.2.1) (rm.2.2.2.2.2.1) (rm.2.2.2.2.2.2.1) (rm.2.2.2.2.2.2.2.1) (rm.2.2.2.2.2.2.2.2.1) (rm.2.2.2.2.2.2.2.2.2.1) (rm.2.2.2.2.2.2.2.2.2.2.1) (rm.2.2.2.2.2.2.2.2.2.2.2.1) (rm.2.2.2.2.2.2.2.2.2.2.2.2.1) (rm.2.2.2.2.2.2.2.2.2.2.2.2.2.1) (rm.2.2.2.2.2.2.2.2.2.2.2.2.2.2.1) (rm.2.2.2.2.2.2.2.2.2.2.2.2.2.2.2.1) (rm.2.2.2.2.2.2.2.2.2.2.2.2.2.2.2.2) (rx.2.2.2.2.2.2.2.2.2.2.2.2.2.2.2.2.2.2.2.2.2.2.2.2.2.2.2.2)) (k + mz_ki rx.1) (n + mz_6i rx.1) F := kk
  refine mr_aload_n d_law_law_712 rfl rfl ?_
  refine mr_aload_nS d_law_law_713 rfl rfl ?_
  refine mr_iload d_law_law_714 rfl ?_
  refine mr_iconst (v := 1) d_law_law_716 (by decide) ?_
  refine mr_iadd d_law_law_717 ?_
  refine mr_sldK d_law_law_718 hi1 ?_
  refine mr_aload_n d_law_law_719 rfl rfl ?_
  refine mz_goK (st := []) (e_law_clear (hT := [])) hx rfl U_law_clear (mz_vS d_law_law_720 U_law_clear lk_m_law_115 S_law_clear np_law_clear) (by decide) ⟨by decide, by decide, by show _ + 200 * 8 ≤ 601024; omega, by show _ + 20000 * 8 ≤ 7293000; omega⟩ ?_
  refine mr_eq (st' := [.int rx.1]) (ex' := mz_xi ex rx.1) (h2 := (HX x.x_members x.x_collaterals x.x_hasSent x.x_isSealed x.x_metered x.x_sealedCount x.bk_counts x.bk_needs x.bk_whens x.bk_sides x.bk_quantities x.bk_limits x.ag_toldLies x.ag_passedLies x.ag_words x.ag_vectors x.ag_liarOperator x.ag_rounds (rx.2.1) (rx.2.2.1) (rx.2.2.2.1) (rx.2.2.2.2.1) (rx.2.2.2.2.2.1) (rx.2.2.2.2.2.2.1) (rx.2.2.2.2.2.2.2.1) (rx.2.2.2.2.2.2.2.2.1) (rx.2.2.2.2.2.2.2.2.2.1) (rx.2.2.2.2.2.2.2.2.2.2.1) (rx.2.2.2.2.2.2.2.2.2.2.2.1) (rx.2.2.2.2.2.2.2.2.2.2.2.2.1) (rx.2.2.2.2.2.2.2.2.2.2.2.2.2.1) (rx.2.2.2.2.2.2.2.2.2.2.2.2.2.2.1) (rx.2.2.2.2.2.2.2.2.2.2.2.2.2.2.2.1) (rx.2.2.2.2.2.2.2.2.2.2.2.2.2.2.2.2.1) (rx.2.2.2.2.2.2.2.2.2.2.2.2.2.2.2.2.2.1) (rx.2.2.2.2.2.2.2.2.2.2.2.2.2.2.2.2.2.2.1) (rx.2.2.2.2.2.2.2.2.2.2.2.2.2.2.2.2.2.2.2.1) (rx.2.2.2.2.2.2.2.2.2.2.2.2.2.2.2.2.2.2.2.2.1) (rx.2.2.2.2.2.2.2.2.2.2.2.2.2.2.2.2.2.2.2.2.2.1) (rx.2.2.2.2.2.2.2.2.2.2.2.2.2.2.2.2.2.2.2.2.2.2.1) (rx.2.2.2.2.2.2.2.2.2.2.2.2.2.2.2.2.2.2.2.2.2.2.2.1) (rx.2.2.2.2.2.2.2.2.2.2.2.2.2.2.2.2.2.2.2.2.2.2.2.2.1) (rx.2.2.2.2.2.2.2.2.2.2.2.2.2.2.2.2.2.2.2.2.2.2.2.2.2.1) (rx.2.2.2.2.2.2.2.2.2.2.2.2.2.2.2.2.2.2.2.2.2.2.2.2.2.2.1) (rx.2.2.2.2.2.2.2.2.2.2.2.2.2.2.2.2.2.2.2.2.2.2.2.2.2.2.2.1), HM m.m_thrown m.m_n m.m_collateral m.m_many m.m_need m.m_isBlock m.m_hours m.m_side m.m_quantity m.m_limit m.m_sent m.m_sealed m.m_rounds m.m_liar m.m_told m.m_passed m.m_vectors m.m_meters m.m_cleared m.m_prices m.m_trades m.m_fills m.m_welfares m.m_orderEntry m.m_orderFill m.m_orders m.m_blockEntry m.m_blockFill m.m_blocks m.m_price m.m_trade m.m_filled m.m_rest (rx.2.2.2.2.2.2.2.2.2.2.2.2.2.2.2.2.2.2.2.2.2.2.2.2.2.2.2.2))) (k' := k + mz_ki rx.1) (n' := n + mz_6i rx.1) rfl rfl rfl rfl rfl ?_
  refine mr_istore (lv' := [(5, .int rx.1), (4, .int i), (3, .ref 82), (2, .ref 54), (1, .ref 0), (0, .float 0)]) d_law_law_723 (by decide) rfl ?_
  refine mr_aload_n d_law_law_725 rfl rfl ?_
  refine mr_aload_nS d_law_law_726 rfl rfl ?_
  refine mr_iload d_law_law_727 rfl ?_
  refine mr_iconst (v := 1) d_law_law_729 (by decide) ?_
  refine mr_iadd d_law_law_730 ?_
  refine mr_sldK d_law_law_731 hi1 ?_
  refine mz_goK (st := []) e_m_clear hm rfl U_m_clear (mz_vV d_law_law_732 U_m_clear rfl lk_m_law_117 I_m_clear s_m_clear np_m_clear rfl rfl) (by decide) ⟨by decide, by decide, by show _ + 200 * 4 ≤ 601024; omega, by show _ + 20000 * 4 ≤ 7293000; omega⟩ ?_
  refine mr_eq (st' := [.int rm.1]) (ex' := mz_xi ex rx.1) (h2 := (HX x.x_members x.x_collaterals x.x_hasSent x.x_isSealed x.x_metered x.x_sealedCount x.bk_counts x.bk_needs x.bk_whens x.bk_sides x.bk_quantities x.bk_limits x.ag_toldLies x.ag_passedLies x.ag_words x.ag_vectors x.ag_liarOperator x.ag_rounds (rx.2.1) (rx.2.2.1) (rx.2.2.2.1) (rx.2.2.2.2.1) (rx.2.2.2.2.2.1) (rx.2.2.2.2.2.2.1) (rx.2.2.2.2.2.2.2.1) (rx.2.2.2.2.2.2.2.2.1) (rx.2.2.2.2.2.2.2.2.2.1) (rx.2.2.2.2.2.2.2.2.2.2.1) (rx.2.2.2.2.2.2.2.2.2.2.2.1) (rx.2.2.2.2.2.2.2.2.2.2.2.2.1) (rx.2.2.2.2.2.2.2.2.2.2.2.2.2.1) (rx.2.2.2.2.2.2.2.2.2.2.2.2.2.2.1) (rx.2.2.2.2.2.2.2.2.2.2.2.2.2.2.2.1) (rx.2.2.2.2.2.2.2.2.2.2.2.2.2.2.2.2.1) (rx.2.2.2.2.2.2.2.2.2.2.2.2.2.2.2.2.2.1) (rx.2.2.2.2.2.2.2.2.2.2.2.2.2.2.2.2.2.2.1) (rx.2.2.2.2.2.2.2.2.2.2.2.2.2.2.2.2.2.2.2.1) (rx.2.2.2.2.2.2.2.2.2.2.2.2.2.2.2.2.2.2.2.2.1) (rx.2.2.2.2.2.2.2.2.2.2.2.2.2.2.2.2.2.2.2.2.2.1) (rx.2.2.2.2.2.2.2.2.2.2.2.2.2.2.2.2.2.2.2.2.2.2.1) (rx.2.2.2.2.2.2.2.2.2.2.2.2.2.2.2.2.2.2.2.2.2.2.2.1) (rx.2.2.2.2.2.2.2.2.2.2.2.2.2.2.2.2.2.2.2.2.2.2.2.2.1) (rx.2.2.2.2.2.2.2.2.2.2.2.2.2.2.2.2.2.2.2.2.2.2.2.2.2.1) (rx.2.2.2.2.2.2.2.2.2.2.2.2.2.2.2.2.2.2.2.2.2.2.2.2.2.2.1) (rx.2.2.2.2.2.2.2.2.2.2.2.2.2.2.2.2.2.2.2.2.2.2.2.2.2.2.2.1), HM (rm.2.1) m.m_n m.m_collateral m.m_many m.m_need m.m_isBlock m.m_hours m.m_side m.m_quantity m.m_limit m.m_sent m.m_sealed m.m_rounds m.m_liar m.m_told m.m_passed m.m_vectors m.m_meters (rm.2.2.1) (rm.2.2.2.1) (rm.2.2.2.2.1) (rm.2.2.2.2.2.1) (rm.2.2.2.2.2.2.1) (rm.2.2.2.2.2.2.2.1) (rm.2.2.2.2.2.2.2.2.1) (rm.2.2.2.2.2.2.2.2.2.1) (rm.2.2.2.2.2.2.2.2.2.2.1) (rm.2.2.2.2.2.2.2.2.2.2.2.1) (rm.2.2.2.2.2.2.2.2.2.2.2.2.1) (rm.2.2.2.2.2.2.2.2.2.2.2.2.2.1) (rm.2.2.2.2.2.2.2.2.2.2.2.2.2.2.1) (rm.2.2.2.2.2.2.2.2.2.2.2.2.2.2.2.1) (rm.2.2.2.2.2.2.2.2.2.2.2.2.2.2.2.2) (rx.2.2.2.2.2.2.2.2.2.2.2.2.2.2.2.2.2.2.2.2.2.2.2.2.2.2.2.2))) (k' := k + mz_ki rx.1) (n' := n + mz_6i rx.1) rfl rfl rfl rfl rfl ?_
  refine mr_istore (lv' := [(6, .int rm.1), (5, .int rx.1), (4, .int i), (3, .ref 82), (2, .ref 54), (1, .ref 0), (0, .float 0)]) d_law_law_735 (by decide) rfl ?_
  refine mr_aload_n d_law_law_737 rfl rfl ?_
  refine mz_goK (st := []) (r' := rm.2.1) e_m_thrown rfl rfl U_m_thrown (mz_vV d_law_law_738 U_m_thrown rfl lk_m_law_85 I_m_thrown s_m_thrown np_m_thrown rfl rfl) (by decide) ⟨by decide, by decide, by show _ + 200 * 0 ≤ 601024; omega, by show _ + 20000 * 0 ≤ 7293000; omega⟩ ?_
  refine mr_eq (st' := [.int rm.2.1]) (ex' := mz_xi ex rx.1) (h2 := (HX x.x_members x.x_collaterals x.x_hasSent x.x_isSealed x.x_metered x.x_sealedCount x.bk_counts x.bk_needs x.bk_whens x.bk_sides x.bk_quantities x.bk_limits x.ag_toldLies x.ag_passedLies x.ag_words x.ag_vectors x.ag_liarOperator x.ag_rounds (rx.2.1) (rx.2.2.1) (rx.2.2.2.1) (rx.2.2.2.2.1) (rx.2.2.2.2.2.1) (rx.2.2.2.2.2.2.1) (rx.2.2.2.2.2.2.2.1) (rx.2.2.2.2.2.2.2.2.1) (rx.2.2.2.2.2.2.2.2.2.1) (rx.2.2.2.2.2.2.2.2.2.2.1) (rx.2.2.2.2.2.2.2.2.2.2.2.1) (rx.2.2.2.2.2.2.2.2.2.2.2.2.1) (rx.2.2.2.2.2.2.2.2.2.2.2.2.2.1) (rx.2.2.2.2.2.2.2.2.2.2.2.2.2.2.1) (rx.2.2.2.2.2.2.2.2.2.2.2.2.2.2.2.1) (rx.2.2.2.2.2.2.2.2.2.2.2.2.2.2.2.2.1) (rx.2.2.2.2.2.2.2.2.2.2.2.2.2.2.2.2.2.1) (rx.2.2.2.2.2.2.2.2.2.2.2.2.2.2.2.2.2.2.1) (rx.2.2.2.2.2.2.2.2.2.2.2.2.2.2.2.2.2.2.2.1) (rx.2.2.2.2.2.2.2.2.2.2.2.2.2.2.2.2.2.2.2.2.1) (rx.2.2.2.2.2.2.2.2.2.2.2.2.2.2.2.2.2.2.2.2.2.1) (rx.2.2.2.2.2.2.2.2.2.2.2.2.2.2.2.2.2.2.2.2.2.2.1) (rx.2.2.2.2.2.2.2.2.2.2.2.2.2.2.2.2.2.2.2.2.2.2.2.1) (rx.2.2.2.2.2.2.2.2.2.2.2.2.2.2.2.2.2.2.2.2.2.2.2.2.1) (rx.2.2.2.2.2.2.2.2.2.2.2.2.2.2.2.2.2.2.2.2.2.2.2.2.2.1) (rx.2.2.2.2.2.2.2.2.2.2.2.2.2.2.2.2.2.2.2.2.2.2.2.2.2.2.1) (rx.2.2.2.2.2.2.2.2.2.2.2.2.2.2.2.2.2.2.2.2.2.2.2.2.2.2.2.1), HM (rm.2.1) m.m_n m.m_collateral m.m_many m.m_need m.m_isBlock m.m_hours m.m_side m.m_quantity m.m_limit m.m_sent m.m_sealed m.m_rounds m.m_liar m.m_told m.m_passed m.m_vectors m.m_meters (rm.2.2.1) (rm.2.2.2.1) (rm.2.2.2.2.1) (rm.2.2.2.2.2.1) (rm.2.2.2.2.2.2.1) (rm.2.2.2.2.2.2.2.1) (rm.2.2.2.2.2.2.2.2.1) (rm.2.2.2.2.2.2.2.2.2.1) (rm.2.2.2.2.2.2.2.2.2.2.1) (rm.2.2.2.2.2.2.2.2.2.2.2.1) (rm.2.2.2.2.2.2.2.2.2.2.2.2.1) (rm.2.2.2.2.2.2.2.2.2.2.2.2.2.1) (rm.2.2.2.2.2.2.2.2.2.2.2.2.2.2.1) (rm.2.2.2.2.2.2.2.2.2.2.2.2.2.2.2.1) (rm.2.2.2.2.2.2.2.2.2.2.2.2.2.2.2.2) (rx.2.2.2.2.2.2.2.2.2.2.2.2.2.2.2.2.2.2.2.2.2.2.2.2.2.2.2.2))) (k' := k + mz_ki rx.1) (n' := n + mz_6i rx.1) rfl rfl rfl rfl rfl ?_
  refine mr_iload d_law_law_741 rfl ?_
  refine mr_icmp_eqT (tgt := 748) d_law_law_743 (by decide) hth ?_
  refine mr_iload d_law_law_748 rfl ?_
  by_cases hc : rx.1 = 0
  · refine mr_if_neF (tgt := 765) d_law_law_750 (by decide) hc ?_
    refine mr_aload_n d_law_law_753 rfl rfl ?_
    refine mr_iconst (v := 0) d_law_law_754 (by decide) ?_
    refine mr_laldK d_law_law_755 rfl (show ¬ ((0 : Int32) < 0 ∨ 1 ≤ (0 : Int32).toNatClampNeg) by decide) ?_
    refine mr_iload d_law_law_756 rfl ?_
    refine mr_i2l d_law_law_758 ?_
    refine mr_lcmp d_law_law_759 ?_
    refine mr_if_eqT (tgt := 765) d_law_law_760 (by decide) (lg_cmp_same (hans hc)) ?_
    refine mr_goto (tgt := 1177) d_law_law_765 (by decide) ?_
    refine mr_sub (lv' := [(4, .int i), (3, .ref 82), (2, .ref 54), (1, .ref 0), (0, .float 0)]) [2, 3, 4, 5, 6] rfl ?_
    exact kk
  · refine mr_if_neT (tgt := 765) d_law_law_750 (by decide) hc ?_
    refine mr_goto (tgt := 1177) d_law_law_765 (by decide) ?_
    refine mr_sub (lv' := [(4, .int i), (3, .ref 82), (2, .ref 54), (1, .ref 0), (0, .float 0)]) [2, 3, 4, 5, 6] rfl ?_
    exact kk
set_option maxRecDepth 100000 in
set_option maxHeartbeats 4000000 in
theorem w_price {β : Type} {g : mz_G} {res : β → mz_S} {ex : Bool} {k n : Nat} {F : Option β} {x x' : SX} {m m' : SM} {c i : Int32} (hi1 : vp_in (i + 1) (mz_L g)) (hi2 : vp_in (i + 2) (mz_L g)) (hi3 : vp_in (i + 3) (mz_L g)) (hi4 : vp_in (i + 4) (mz_L g)) (hi5 : vp_in (i + 5) (mz_L g)) (hi6 : vp_in (i + 6) (mz_L g)) (hk : k ≤ 4000) (hn : n ≤ 40000) (hS : St_price x m (mz_xs g (i + 1).toNatClampNeg) (mz_xs g (i + 2).toNatClampNeg) c x' m') (kk : mz_A g M_law_law room_1 res 1177 [(4, .int i), (3, .ref 82), (2, .ref 54), (1, .ref 0), (0, .float 0)] [] (mz_xi ex c) (x'.H, m'.H) (k + mz_ki c) (n + mz_6i c) F) : mz_A g M_law_law room_1 res 768 [(4, .int i), (3, .ref 82), (2, .ref 54), (1, .ref 0), (0, .float 0)] [] ex (x.H, m.H) k n F := by
  obtain ⟨rx, rm, hx, hm, hth, hans, rfl, rfl, rfl⟩ := hS
  show mz_A g M_law_law room_1 res 768 [(4, .int i), (3, .ref 82), (2, .ref 54), (1, .ref 0), (0, .float 0)] [] ex (HX x.x_members x.x_collaterals x.x_hasSent x.x_isSealed x.x_metered x.x_sealedCount x.bk_counts x.bk_needs x.bk_whens x.bk_sides x.bk_quantities x.bk_limits x.ag_toldLies x.ag_passedLies x.ag_words x.ag_vectors x.ag_liarOperator x.ag_rounds x.mk_entries x.mk_slots x.mk_remainders x.mk_blocks x.mk_blockBids x.mk_blockOffers x.mk_entryCount x.mk_blockCount x.cv_limits x.cv_bids x.cv_offers x.cv_count x.cv_allBids x.cv_allOffers x.cv_meetingPrice x.cv_sureBids x.cv_sureOffers x.cv_priceBids x.cv_priceOffers x.cv_volume x.cv_worth x.oc_prices x.oc_volumes x.oc_filled x.oc_worth x.oc_takenSet x.oc_isDone, HM m.m_thrown m.m_n m.m_collateral m.m_many m.m_need m.m_isBlock m.m_hours m.m_side m.m_quantity m.m_limit m.m_sent m.m_sealed m.m_rounds m.m_liar m.m_told m.m_passed m.m_vectors m.m_meters m.m_cleared m.m_prices m.m_trades m.m_fills m.m_welfares m.m_orderEntry m.m_orderFill m.m_orders m.m_blockEntry m.m_blockFill m.m_blocks m.m_price m.m_trade m.m_filled m.m_rest m.m_out) k n F
  have q1 := mz_ki_le rx.1
  have q2 := mz_6i_le rx.1
  have kk : mz_A g M_law_law room_1 res 1177 [(4, .int i), (3, .ref 82), (2, .ref 54), (1, .ref 0), (0, .float 0)] [] (mz_xi ex rx.1) (HX x.x_members x.x_collaterals x.x_hasSent x.x_isSealed x.x_metered x.x_sealedCount x.bk_counts x.bk_needs x.bk_whens x.bk_sides x.bk_quantities x.bk_limits x.ag_toldLies x.ag_passedLies x.ag_words x.ag_vectors x.ag_liarOperator x.ag_rounds x.mk_entries x.mk_slots x.mk_remainders x.mk_blocks x.mk_blockBids x.mk_blockOffers x.mk_entryCount x.mk_blockCount x.cv_limits x.cv_bids x.cv_offers x.cv_count x.cv_allBids x.cv_allOffers x.cv_meetingPrice x.cv_sureBids x.cv_sureOffers x.cv_priceBids x.cv_priceOffers x.cv_volume x.cv_worth x.oc_prices x.oc_volumes x.oc_filled x.oc_worth x.oc_takenSet x.oc_isDone, HM (rm.2) m.m_n m.m_collateral m.m_many m.m_need m.m_isBlock m.m_hours m.m_side m.m_quantity m.m_limit m.m_sent m.m_sealed m.m_rounds m.m_liar m.m_told m.m_passed m.m_vectors m.m_meters m.m_cleared m.m_prices m.m_trades m.m_fills m.m_welfares m.m_orderEntry m.m_orderFill m.m_orders m.m_blockEntry m.m_blockFill m.m_blocks m.m_price m.m_trade m.m_filled m.m_rest (rx.2)) (k + mz_ki rx.1) (n + mz_6i rx.1) F := kk
  refine mr_aload_n d_law_law_768 rfl rfl ?_
  refine mr_aload_nS d_law_law_769 rfl rfl ?_
  refine mr_iload d_law_law_770 rfl ?_
  refine mr_iconst (v := 1) d_law_law_772 (by decide) ?_
  refine mr_iadd d_law_law_773 ?_
  refine mr_sldK d_law_law_774 hi1 ?_
  refine mr_aload_nS d_law_law_775 rfl rfl ?_
  refine mr_iload d_law_law_776 rfl ?_
  refine mr_iconst (v := 2) d_law_law_778 (by decide) ?_
  refine mr_iadd d_law_law_779 ?_
  refine mr_sldK d_law_law_780 hi2 ?_
  refine mr_aload_n d_law_law_781 rfl rfl ?_
  refine mz_goK (st := []) (e_law_price (hT := [])) hx rfl U_law_price (mz_vS d_law_law_782 U_law_price lk_m_law_118 S_law_price np_law_price) (by decide) ⟨by decide, by decide, by show _ + 200 * 8 ≤ 601024; omega, by show _ + 20000 * 8 ≤ 7293000; omega⟩ ?_
  refine mr_eq (st' := [.int rx.1]) (ex' := mz_xi ex rx.1) (h2 := (HX x.x_members x.x_collaterals x.x_hasSent x.x_isSealed x.x_metered x.x_sealedCount x.bk_counts x.bk_needs x.bk_whens x.bk_sides x.bk_quantities x.bk_limits x.ag_toldLies x.ag_passedLies x.ag_words x.ag_vectors x.ag_liarOperator x.ag_rounds x.mk_entries x.mk_slots x.mk_remainders x.mk_blocks x.mk_blockBids x.mk_blockOffers x.mk_entryCount x.mk_blockCount x.cv_limits x.cv_bids x.cv_offers x.cv_count x.cv_allBids x.cv_allOffers x.cv_meetingPrice x.cv_sureBids x.cv_sureOffers x.cv_priceBids x.cv_priceOffers x.cv_volume x.cv_worth x.oc_prices x.oc_volumes x.oc_filled x.oc_worth x.oc_takenSet x.oc_isDone, HM m.m_thrown m.m_n m.m_collateral m.m_many m.m_need m.m_isBlock m.m_hours m.m_side m.m_quantity m.m_limit m.m_sent m.m_sealed m.m_rounds m.m_liar m.m_told m.m_passed m.m_vectors m.m_meters m.m_cleared m.m_prices m.m_trades m.m_fills m.m_welfares m.m_orderEntry m.m_orderFill m.m_orders m.m_blockEntry m.m_blockFill m.m_blocks m.m_price m.m_trade m.m_filled m.m_rest (rx.2))) (k' := k + mz_ki rx.1) (n' := n + mz_6i rx.1) rfl rfl rfl rfl rfl ?_
  refine mr_istore (lv' := [(5, .int rx.1), (4, .int i), (3, .ref 82), (2, .ref 54), (1, .ref 0), (0, .float 0)]) d_law_law_785 (by decide) rfl ?_
  refine mr_aload_n d_law_law_787 rfl rfl ?_
  refine mr_aload_nS d_law_law_788 rfl rfl ?_
  refine mr_iload d_law_law_789 rfl ?_
  refine mr_iconst (v := 1) d_law_law_791 (by decide) ?_
  refine mr_iadd d_law_law_792 ?_
  refine mr_sldK d_law_law_793 hi1 ?_
  refine mr_aload_nS d_law_law_794 rfl rfl ?_
  refine mr_iload d_law_law_795 rfl ?_
  refine mr_iconst (v := 2) d_law_law_797 (by decide) ?_
  refine mr_iadd d_law_law_798 ?_
  refine mr_sldK d_law_law_799 hi2 ?_
  refine mz_goK (st := []) e_m_price hm rfl U_m_price (mz_vV d_law_law_800 U_m_price rfl lk_m_law_121 I_m_price s_m_price np_m_price rfl rfl) (by decide) ⟨by decide, by decide, by show _ + 200 * 2 ≤ 601024; omega, by show _ + 20000 * 2 ≤ 7293000; omega⟩ ?_
  refine mr_eq (st' := [.int rm.1]) (ex' := mz_xi ex rx.1) (h2 := (HX x.x_members x.x_collaterals x.x_hasSent x.x_isSealed x.x_metered x.x_sealedCount x.bk_counts x.bk_needs x.bk_whens x.bk_sides x.bk_quantities x.bk_limits x.ag_toldLies x.ag_passedLies x.ag_words x.ag_vectors x.ag_liarOperator x.ag_rounds x.mk_entries x.mk_slots x.mk_remainders x.mk_blocks x.mk_blockBids x.mk_blockOffers x.mk_entryCount x.mk_blockCount x.cv_limits x.cv_bids x.cv_offers x.cv_count x.cv_allBids x.cv_allOffers x.cv_meetingPrice x.cv_sureBids x.cv_sureOffers x.cv_priceBids x.cv_priceOffers x.cv_volume x.cv_worth x.oc_prices x.oc_volumes x.oc_filled x.oc_worth x.oc_takenSet x.oc_isDone, HM (rm.2) m.m_n m.m_collateral m.m_many m.m_need m.m_isBlock m.m_hours m.m_side m.m_quantity m.m_limit m.m_sent m.m_sealed m.m_rounds m.m_liar m.m_told m.m_passed m.m_vectors m.m_meters m.m_cleared m.m_prices m.m_trades m.m_fills m.m_welfares m.m_orderEntry m.m_orderFill m.m_orders m.m_blockEntry m.m_blockFill m.m_blocks m.m_price m.m_trade m.m_filled m.m_rest (rx.2))) (k' := k + mz_ki rx.1) (n' := n + mz_6i rx.1) rfl rfl rfl rfl rfl ?_
  refine mr_istore (lv' := [(6, .int rm.1), (5, .int rx.1), (4, .int i), (3, .ref 82), (2, .ref 54), (1, .ref 0), (0, .float 0)]) d_law_law_803 (by decide) rfl ?_
  refine mr_aload_n d_law_law_805 rfl rfl ?_
  refine mz_goK (st := []) (r' := rm.2) e_m_thrown rfl rfl U_m_thrown (mz_vV d_law_law_806 U_m_thrown rfl lk_m_law_85 I_m_thrown s_m_thrown np_m_thrown rfl rfl) (by decide) ⟨by decide, by decide, by show _ + 200 * 0 ≤ 601024; omega, by show _ + 20000 * 0 ≤ 7293000; omega⟩ ?_
  refine mr_eq (st' := [.int rm.2]) (ex' := mz_xi ex rx.1) (h2 := (HX x.x_members x.x_collaterals x.x_hasSent x.x_isSealed x.x_metered x.x_sealedCount x.bk_counts x.bk_needs x.bk_whens x.bk_sides x.bk_quantities x.bk_limits x.ag_toldLies x.ag_passedLies x.ag_words x.ag_vectors x.ag_liarOperator x.ag_rounds x.mk_entries x.mk_slots x.mk_remainders x.mk_blocks x.mk_blockBids x.mk_blockOffers x.mk_entryCount x.mk_blockCount x.cv_limits x.cv_bids x.cv_offers x.cv_count x.cv_allBids x.cv_allOffers x.cv_meetingPrice x.cv_sureBids x.cv_sureOffers x.cv_priceBids x.cv_priceOffers x.cv_volume x.cv_worth x.oc_prices x.oc_volumes x.oc_filled x.oc_worth x.oc_takenSet x.oc_isDone, HM (rm.2) m.m_n m.m_collateral m.m_many m.m_need m.m_isBlock m.m_hours m.m_side m.m_quantity m.m_limit m.m_sent m.m_sealed m.m_rounds m.m_liar m.m_told m.m_passed m.m_vectors m.m_meters m.m_cleared m.m_prices m.m_trades m.m_fills m.m_welfares m.m_orderEntry m.m_orderFill m.m_orders m.m_blockEntry m.m_blockFill m.m_blocks m.m_price m.m_trade m.m_filled m.m_rest (rx.2))) (k' := k + mz_ki rx.1) (n' := n + mz_6i rx.1) rfl rfl rfl rfl rfl ?_
  refine mr_iload d_law_law_809 rfl ?_
  refine mr_icmp_eqT (tgt := 816) d_law_law_811 (by decide) hth ?_
  refine mr_iload d_law_law_816 rfl ?_
  by_cases hc : rx.1 = 0
  · refine mr_if_neF (tgt := 833) d_law_law_818 (by decide) hc ?_
    refine mr_aload_n d_law_law_821 rfl rfl ?_
    refine mr_iconst (v := 0) d_law_law_822 (by decide) ?_
    refine mr_laldK d_law_law_823 rfl (show ¬ ((0 : Int32) < 0 ∨ 1 ≤ (0 : Int32).toNatClampNeg) by decide) ?_
    refine mr_iload d_law_law_824 rfl ?_
    refine mr_i2l d_law_law_826 ?_
    refine mr_lcmp d_law_law_827 ?_
    refine mr_if_eqT (tgt := 833) d_law_law_828 (by decide) (lg_cmp_same (hans hc)) ?_
    refine mr_goto (tgt := 1177) d_law_law_833 (by decide) ?_
    refine mr_sub (lv' := [(4, .int i), (3, .ref 82), (2, .ref 54), (1, .ref 0), (0, .float 0)]) [2, 3, 4, 5, 6] rfl ?_
    exact kk
  · refine mr_if_neT (tgt := 833) d_law_law_818 (by decide) hc ?_
    refine mr_goto (tgt := 1177) d_law_law_833 (by decide) ?_
    refine mr_sub (lv' := [(4, .int i), (3, .ref 82), (2, .ref 54), (1, .ref 0), (0, .float 0)]) [2, 3, 4, 5, 6] rfl ?_
    exact kk
set_option maxRecDepth 100000 in
set_option maxHeartbeats 4000000 in
theorem w_traded {β : Type} {g : mz_G} {res : β → mz_S} {ex : Bool} {k n : Nat} {F : Option β} {x x' : SX} {m m' : SM} {c i : Int32} (hi1 : vp_in (i + 1) (mz_L g)) (hi2 : vp_in (i + 2) (mz_L g)) (hi3 : vp_in (i + 3) (mz_L g)) (hi4 : vp_in (i + 4) (mz_L g)) (hi5 : vp_in (i + 5) (mz_L g)) (hi6 : vp_in (i + 6) (mz_L g)) (hk : k ≤ 4000) (hn : n ≤ 40000) (hS : St_traded x m (mz_xs g (i + 1).toNatClampNeg) (mz_xs g (i + 2).toNatClampNeg) c x' m') (kk : mz_A g M_law_law room_1 res 1177 [(4, .int i), (3, .ref 82), (2, .ref 54), (1, .ref 0), (0, .float 0)] [] (mz_xi ex c) (x'.H, m'.H) (k + mz_ki c) (n + mz_6i c) F) : mz_A g M_law_law room_1 res 836 [(4, .int i), (3, .ref 82), (2, .ref 54), (1, .ref 0), (0, .float 0)] [] ex (x.H, m.H) k n F := by
  obtain ⟨rx, rm, hx, hm, hth, hans, rfl, rfl, rfl⟩ := hS
  show mz_A g M_law_law room_1 res 836 [(4, .int i), (3, .ref 82), (2, .ref 54), (1, .ref 0), (0, .float 0)] [] ex (HX x.x_members x.x_collaterals x.x_hasSent x.x_isSealed x.x_metered x.x_sealedCount x.bk_counts x.bk_needs x.bk_whens x.bk_sides x.bk_quantities x.bk_limits x.ag_toldLies x.ag_passedLies x.ag_words x.ag_vectors x.ag_liarOperator x.ag_rounds x.mk_entries x.mk_slots x.mk_remainders x.mk_blocks x.mk_blockBids x.mk_blockOffers x.mk_entryCount x.mk_blockCount x.cv_limits x.cv_bids x.cv_offers x.cv_count x.cv_allBids x.cv_allOffers x.cv_meetingPrice x.cv_sureBids x.cv_sureOffers x.cv_priceBids x.cv_priceOffers x.cv_volume x.cv_worth x.oc_prices x.oc_volumes x.oc_filled x.oc_worth x.oc_takenSet x.oc_isDone, HM m.m_thrown m.m_n m.m_collateral m.m_many m.m_need m.m_isBlock m.m_hours m.m_side m.m_quantity m.m_limit m.m_sent m.m_sealed m.m_rounds m.m_liar m.m_told m.m_passed m.m_vectors m.m_meters m.m_cleared m.m_prices m.m_trades m.m_fills m.m_welfares m.m_orderEntry m.m_orderFill m.m_orders m.m_blockEntry m.m_blockFill m.m_blocks m.m_price m.m_trade m.m_filled m.m_rest m.m_out) k n F
  have q1 := mz_ki_le rx.1
  have q2 := mz_6i_le rx.1
  have kk : mz_A g M_law_law room_1 res 1177 [(4, .int i), (3, .ref 82), (2, .ref 54), (1, .ref 0), (0, .float 0)] [] (mz_xi ex rx.1) (HX x.x_members x.x_collaterals x.x_hasSent x.x_isSealed x.x_metered x.x_sealedCount x.bk_counts x.bk_needs x.bk_whens x.bk_sides x.bk_quantities x.bk_limits x.ag_toldLies x.ag_passedLies x.ag_words x.ag_vectors x.ag_liarOperator x.ag_rounds x.mk_entries x.mk_slots x.mk_remainders x.mk_blocks x.mk_blockBids x.mk_blockOffers x.mk_entryCount x.mk_blockCount x.cv_limits x.cv_bids x.cv_offers x.cv_count x.cv_allBids x.cv_allOffers x.cv_meetingPrice x.cv_sureBids x.cv_sureOffers x.cv_priceBids x.cv_priceOffers x.cv_volume x.cv_worth x.oc_prices x.oc_volumes x.oc_filled x.oc_worth x.oc_takenSet x.oc_isDone, HM (rm.2) m.m_n m.m_collateral m.m_many m.m_need m.m_isBlock m.m_hours m.m_side m.m_quantity m.m_limit m.m_sent m.m_sealed m.m_rounds m.m_liar m.m_told m.m_passed m.m_vectors m.m_meters m.m_cleared m.m_prices m.m_trades m.m_fills m.m_welfares m.m_orderEntry m.m_orderFill m.m_orders m.m_blockEntry m.m_blockFill m.m_blocks m.m_price m.m_trade m.m_filled m.m_rest (rx.2)) (k + mz_ki rx.1) (n + mz_6i rx.1) F := kk
  refine mr_aload_n d_law_law_836 rfl rfl ?_
  refine mr_aload_nS d_law_law_837 rfl rfl ?_
  refine mr_iload d_law_law_838 rfl ?_
  refine mr_iconst (v := 1) d_law_law_840 (by decide) ?_
  refine mr_iadd d_law_law_841 ?_
  refine mr_sldK d_law_law_842 hi1 ?_
  refine mr_aload_nS d_law_law_843 rfl rfl ?_
  refine mr_iload d_law_law_844 rfl ?_
  refine mr_iconst (v := 2) d_law_law_846 (by decide) ?_
  refine mr_iadd d_law_law_847 ?_
  refine mr_sldK d_law_law_848 hi2 ?_
  refine mr_aload_n d_law_law_849 rfl rfl ?_
  refine mz_goK (st := []) (e_law_traded (hT := [])) hx rfl U_law_traded (mz_vS d_law_law_850 U_law_traded lk_m_law_122 S_law_traded np_law_traded) (by decide) ⟨by decide, by decide, by show _ + 200 * 8 ≤ 601024; omega, by show _ + 20000 * 8 ≤ 7293000; omega⟩ ?_
  refine mr_eq (st' := [.int rx.1]) (ex' := mz_xi ex rx.1) (h2 := (HX x.x_members x.x_collaterals x.x_hasSent x.x_isSealed x.x_metered x.x_sealedCount x.bk_counts x.bk_needs x.bk_whens x.bk_sides x.bk_quantities x.bk_limits x.ag_toldLies x.ag_passedLies x.ag_words x.ag_vectors x.ag_liarOperator x.ag_rounds x.mk_entries x.mk_slots x.mk_remainders x.mk_blocks x.mk_blockBids x.mk_blockOffers x.mk_entryCount x.mk_blockCount x.cv_limits x.cv_bids x.cv_offers x.cv_count x.cv_allBids x.cv_allOffers x.cv_meetingPrice x.cv_sureBids x.cv_sureOffers x.cv_priceBids x.cv_priceOffers x.cv_volume x.cv_worth x.oc_prices x.oc_volumes x.oc_filled x.oc_worth x.oc_takenSet x.oc_isDone, HM m.m_thrown m.m_n m.m_collateral m.m_many m.m_need m.m_isBlock m.m_hours m.m_side m.m_quantity m.m_limit m.m_sent m.m_sealed m.m_rounds m.m_liar m.m_told m.m_passed m.m_vectors m.m_meters m.m_cleared m.m_prices m.m_trades m.m_fills m.m_welfares m.m_orderEntry m.m_orderFill m.m_orders m.m_blockEntry m.m_blockFill m.m_blocks m.m_price m.m_trade m.m_filled m.m_rest (rx.2))) (k' := k + mz_ki rx.1) (n' := n + mz_6i rx.1) rfl rfl rfl rfl rfl ?_
  refine mr_istore (lv' := [(5, .int rx.1), (4, .int i), (3, .ref 82), (2, .ref 54), (1, .ref 0), (0, .float 0)]) d_law_law_853 (by decide) rfl ?_
  refine mr_aload_n d_law_law_855 rfl rfl ?_
  refine mr_aload_nS d_law_law_856 rfl rfl ?_
  refine mr_iload d_law_law_857 rfl ?_
  refine mr_iconst (v := 1) d_law_law_859 (by decide) ?_
  refine mr_iadd d_law_law_860 ?_
  refine mr_sldK d_law_law_861 hi1 ?_
  refine mr_aload_nS d_law_law_862 rfl rfl ?_
  refine mr_iload d_law_law_863 rfl ?_
  refine mr_iconst (v := 2) d_law_law_865 (by decide) ?_
  refine mr_iadd d_law_law_866 ?_
  refine mr_sldK d_law_law_867 hi2 ?_
  refine mz_goK (st := []) e_m_traded hm rfl U_m_traded (mz_vV d_law_law_868 U_m_traded rfl lk_m_law_124 I_m_traded s_m_traded np_m_traded rfl rfl) (by decide) ⟨by decide, by decide, by show _ + 200 * 2 ≤ 601024; omega, by show _ + 20000 * 2 ≤ 7293000; omega⟩ ?_
  refine mr_eq (st' := [.int rm.1]) (ex' := mz_xi ex rx.1) (h2 := (HX x.x_members x.x_collaterals x.x_hasSent x.x_isSealed x.x_metered x.x_sealedCount x.bk_counts x.bk_needs x.bk_whens x.bk_sides x.bk_quantities x.bk_limits x.ag_toldLies x.ag_passedLies x.ag_words x.ag_vectors x.ag_liarOperator x.ag_rounds x.mk_entries x.mk_slots x.mk_remainders x.mk_blocks x.mk_blockBids x.mk_blockOffers x.mk_entryCount x.mk_blockCount x.cv_limits x.cv_bids x.cv_offers x.cv_count x.cv_allBids x.cv_allOffers x.cv_meetingPrice x.cv_sureBids x.cv_sureOffers x.cv_priceBids x.cv_priceOffers x.cv_volume x.cv_worth x.oc_prices x.oc_volumes x.oc_filled x.oc_worth x.oc_takenSet x.oc_isDone, HM (rm.2) m.m_n m.m_collateral m.m_many m.m_need m.m_isBlock m.m_hours m.m_side m.m_quantity m.m_limit m.m_sent m.m_sealed m.m_rounds m.m_liar m.m_told m.m_passed m.m_vectors m.m_meters m.m_cleared m.m_prices m.m_trades m.m_fills m.m_welfares m.m_orderEntry m.m_orderFill m.m_orders m.m_blockEntry m.m_blockFill m.m_blocks m.m_price m.m_trade m.m_filled m.m_rest (rx.2))) (k' := k + mz_ki rx.1) (n' := n + mz_6i rx.1) rfl rfl rfl rfl rfl ?_
  refine mr_istore (lv' := [(6, .int rm.1), (5, .int rx.1), (4, .int i), (3, .ref 82), (2, .ref 54), (1, .ref 0), (0, .float 0)]) d_law_law_871 (by decide) rfl ?_
  refine mr_aload_n d_law_law_873 rfl rfl ?_
  refine mz_goK (st := []) (r' := rm.2) e_m_thrown rfl rfl U_m_thrown (mz_vV d_law_law_874 U_m_thrown rfl lk_m_law_85 I_m_thrown s_m_thrown np_m_thrown rfl rfl) (by decide) ⟨by decide, by decide, by show _ + 200 * 0 ≤ 601024; omega, by show _ + 20000 * 0 ≤ 7293000; omega⟩ ?_
  refine mr_eq (st' := [.int rm.2]) (ex' := mz_xi ex rx.1) (h2 := (HX x.x_members x.x_collaterals x.x_hasSent x.x_isSealed x.x_metered x.x_sealedCount x.bk_counts x.bk_needs x.bk_whens x.bk_sides x.bk_quantities x.bk_limits x.ag_toldLies x.ag_passedLies x.ag_words x.ag_vectors x.ag_liarOperator x.ag_rounds x.mk_entries x.mk_slots x.mk_remainders x.mk_blocks x.mk_blockBids x.mk_blockOffers x.mk_entryCount x.mk_blockCount x.cv_limits x.cv_bids x.cv_offers x.cv_count x.cv_allBids x.cv_allOffers x.cv_meetingPrice x.cv_sureBids x.cv_sureOffers x.cv_priceBids x.cv_priceOffers x.cv_volume x.cv_worth x.oc_prices x.oc_volumes x.oc_filled x.oc_worth x.oc_takenSet x.oc_isDone, HM (rm.2) m.m_n m.m_collateral m.m_many m.m_need m.m_isBlock m.m_hours m.m_side m.m_quantity m.m_limit m.m_sent m.m_sealed m.m_rounds m.m_liar m.m_told m.m_passed m.m_vectors m.m_meters m.m_cleared m.m_prices m.m_trades m.m_fills m.m_welfares m.m_orderEntry m.m_orderFill m.m_orders m.m_blockEntry m.m_blockFill m.m_blocks m.m_price m.m_trade m.m_filled m.m_rest (rx.2))) (k' := k + mz_ki rx.1) (n' := n + mz_6i rx.1) rfl rfl rfl rfl rfl ?_
  refine mr_iload d_law_law_877 rfl ?_
  refine mr_icmp_eqT (tgt := 884) d_law_law_879 (by decide) hth ?_
  refine mr_iload d_law_law_884 rfl ?_
  by_cases hc : rx.1 = 0
  · refine mr_if_neF (tgt := 901) d_law_law_886 (by decide) hc ?_
    refine mr_aload_n d_law_law_889 rfl rfl ?_
    refine mr_iconst (v := 0) d_law_law_890 (by decide) ?_
    refine mr_laldK d_law_law_891 rfl (show ¬ ((0 : Int32) < 0 ∨ 1 ≤ (0 : Int32).toNatClampNeg) by decide) ?_
    refine mr_iload d_law_law_892 rfl ?_
    refine mr_i2l d_law_law_894 ?_
    refine mr_lcmp d_law_law_895 ?_
    refine mr_if_eqT (tgt := 901) d_law_law_896 (by decide) (lg_cmp_same (hans hc)) ?_
    refine mr_goto (tgt := 1177) d_law_law_901 (by decide) ?_
    refine mr_sub (lv' := [(4, .int i), (3, .ref 82), (2, .ref 54), (1, .ref 0), (0, .float 0)]) [2, 3, 4, 5, 6] rfl ?_
    exact kk
  · refine mr_if_neT (tgt := 901) d_law_law_886 (by decide) hc ?_
    refine mr_goto (tgt := 1177) d_law_law_901 (by decide) ?_
    refine mr_sub (lv' := [(4, .int i), (3, .ref 82), (2, .ref 54), (1, .ref 0), (0, .float 0)]) [2, 3, 4, 5, 6] rfl ?_
    exact kk
set_option maxRecDepth 100000 in
set_option maxHeartbeats 4000000 in
theorem w_fill {β : Type} {g : mz_G} {res : β → mz_S} {ex : Bool} {k n : Nat} {F : Option β} {x x' : SX} {m m' : SM} {c i : Int32} (hi1 : vp_in (i + 1) (mz_L g)) (hi2 : vp_in (i + 2) (mz_L g)) (hi3 : vp_in (i + 3) (mz_L g)) (hi4 : vp_in (i + 4) (mz_L g)) (hi5 : vp_in (i + 5) (mz_L g)) (hi6 : vp_in (i + 6) (mz_L g)) (hk : k ≤ 4000) (hn : n ≤ 40000) (hS : St_fill x m (mz_xs g (i + 1).toNatClampNeg) (mz_xs g (i + 2).toNatClampNeg) (mz_xs g (i + 3).toNatClampNeg) c x' m') (kk : mz_A g M_law_law room_1 res 1177 [(4, .int i), (3, .ref 82), (2, .ref 54), (1, .ref 0), (0, .float 0)] [] (mz_xi ex c) (x'.H, m'.H) (k + mz_ki c) (n + mz_6i c) F) : mz_A g M_law_law room_1 res 904 [(4, .int i), (3, .ref 82), (2, .ref 54), (1, .ref 0), (0, .float 0)] [] ex (x.H, m.H) k n F := by
  obtain ⟨rx, rm, hx, hm, hth, hans, rfl, rfl, rfl⟩ := hS
  show mz_A g M_law_law room_1 res 904 [(4, .int i), (3, .ref 82), (2, .ref 54), (1, .ref 0), (0, .float 0)] [] ex (HX x.x_members x.x_collaterals x.x_hasSent x.x_isSealed x.x_metered x.x_sealedCount x.bk_counts x.bk_needs x.bk_whens x.bk_sides x.bk_quantities x.bk_limits x.ag_toldLies x.ag_passedLies x.ag_words x.ag_vectors x.ag_liarOperator x.ag_rounds x.mk_entries x.mk_slots x.mk_remainders x.mk_blocks x.mk_blockBids x.mk_blockOffers x.mk_entryCount x.mk_blockCount x.cv_limits x.cv_bids x.cv_offers x.cv_count x.cv_allBids x.cv_allOffers x.cv_meetingPrice x.cv_sureBids x.cv_sureOffers x.cv_priceBids x.cv_priceOffers x.cv_volume x.cv_worth x.oc_prices x.oc_volumes x.oc_filled x.oc_worth x.oc_takenSet x.oc_isDone, HM m.m_thrown m.m_n m.m_collateral m.m_many m.m_need m.m_isBlock m.m_hours m.m_side m.m_quantity m.m_limit m.m_sent m.m_sealed m.m_rounds m.m_liar m.m_told m.m_passed m.m_vectors m.m_meters m.m_cleared m.m_prices m.m_trades m.m_fills m.m_welfares m.m_orderEntry m.m_orderFill m.m_orders m.m_blockEntry m.m_blockFill m.m_blocks m.m_price m.m_trade m.m_filled m.m_rest m.m_out) k n F
  have q1 := mz_ki_le rx.1
  have q2 := mz_6i_le rx.1
  have kk : mz_A g M_law_law room_1 res 1177 [(4, .int i), (3, .ref 82), (2, .ref 54), (1, .ref 0), (0, .float 0)] [] (mz_xi ex rx.1) (HX x.x_members x.x_collaterals x.x_hasSent x.x_isSealed x.x_metered x.x_sealedCount x.bk_counts x.bk_needs x.bk_whens x.bk_sides x.bk_quantities x.bk_limits x.ag_toldLies x.ag_passedLies x.ag_words x.ag_vectors x.ag_liarOperator x.ag_rounds x.mk_entries x.mk_slots x.mk_remainders x.mk_blocks x.mk_blockBids x.mk_blockOffers x.mk_entryCount x.mk_blockCount x.cv_limits x.cv_bids x.cv_offers x.cv_count x.cv_allBids x.cv_allOffers x.cv_meetingPrice x.cv_sureBids x.cv_sureOffers x.cv_priceBids x.cv_priceOffers x.cv_volume x.cv_worth x.oc_prices x.oc_volumes x.oc_filled x.oc_worth x.oc_takenSet x.oc_isDone, HM (rm.2) m.m_n m.m_collateral m.m_many m.m_need m.m_isBlock m.m_hours m.m_side m.m_quantity m.m_limit m.m_sent m.m_sealed m.m_rounds m.m_liar m.m_told m.m_passed m.m_vectors m.m_meters m.m_cleared m.m_prices m.m_trades m.m_fills m.m_welfares m.m_orderEntry m.m_orderFill m.m_orders m.m_blockEntry m.m_blockFill m.m_blocks m.m_price m.m_trade m.m_filled m.m_rest (rx.2)) (k + mz_ki rx.1) (n + mz_6i rx.1) F := kk
  refine mr_aload_n d_law_law_904 rfl rfl ?_
  refine mr_aload_nS d_law_law_905 rfl rfl ?_
  refine mr_iload d_law_law_906 rfl ?_
  refine mr_iconst (v := 1) d_law_law_908 (by decide) ?_
  refine mr_iadd d_law_law_909 ?_
  refine mr_sldK d_law_law_910 hi1 ?_
  refine mr_aload_nS d_law_law_911 rfl rfl ?_
  refine mr_iload d_law_law_912 rfl ?_
  refine mr_iconst (v := 2) d_law_law_914 (by decide) ?_
  refine mr_iadd d_law_law_915 ?_
  refine mr_sldK d_law_law_916 hi2 ?_
  refine mr_aload_nS d_law_law_917 rfl rfl ?_
  refine mr_iload d_law_law_918 rfl ?_
  refine mr_iconst (v := 3) d_law_law_920 (by decide) ?_
  refine mr_iadd d_law_law_921 ?_
  refine mr_sldK d_law_law_922 hi3 ?_
  refine mr_aload_n d_law_law_923 rfl rfl ?_
  refine mz_goK (st := []) (e_law_fill (hT := [])) hx rfl U_law_fill (mz_vS d_law_law_924 U_law_fill lk_m_law_125 S_law_fill np_law_fill) (by decide) ⟨by decide, by decide, by show _ + 200 * 8 ≤ 601024; omega, by show _ + 20000 * 8 ≤ 7293000; omega⟩ ?_
  refine mr_eq (st' := [.int rx.1]) (ex' := mz_xi ex rx.1) (h2 := (HX x.x_members x.x_collaterals x.x_hasSent x.x_isSealed x.x_metered x.x_sealedCount x.bk_counts x.bk_needs x.bk_whens x.bk_sides x.bk_quantities x.bk_limits x.ag_toldLies x.ag_passedLies x.ag_words x.ag_vectors x.ag_liarOperator x.ag_rounds x.mk_entries x.mk_slots x.mk_remainders x.mk_blocks x.mk_blockBids x.mk_blockOffers x.mk_entryCount x.mk_blockCount x.cv_limits x.cv_bids x.cv_offers x.cv_count x.cv_allBids x.cv_allOffers x.cv_meetingPrice x.cv_sureBids x.cv_sureOffers x.cv_priceBids x.cv_priceOffers x.cv_volume x.cv_worth x.oc_prices x.oc_volumes x.oc_filled x.oc_worth x.oc_takenSet x.oc_isDone, HM m.m_thrown m.m_n m.m_collateral m.m_many m.m_need m.m_isBlock m.m_hours m.m_side m.m_quantity m.m_limit m.m_sent m.m_sealed m.m_rounds m.m_liar m.m_told m.m_passed m.m_vectors m.m_meters m.m_cleared m.m_prices m.m_trades m.m_fills m.m_welfares m.m_orderEntry m.m_orderFill m.m_orders m.m_blockEntry m.m_blockFill m.m_blocks m.m_price m.m_trade m.m_filled m.m_rest (rx.2))) (k' := k + mz_ki rx.1) (n' := n + mz_6i rx.1) rfl rfl rfl rfl rfl ?_
  refine mr_istore (lv' := [(5, .int rx.1), (4, .int i), (3, .ref 82), (2, .ref 54), (1, .ref 0), (0, .float 0)]) d_law_law_927 (by decide) rfl ?_
  refine mr_aload_n d_law_law_929 rfl rfl ?_
  refine mr_aload_nS d_law_law_930 rfl rfl ?_
  refine mr_iload d_law_law_931 rfl ?_
  refine mr_iconst (v := 1) d_law_law_933 (by decide) ?_
  refine mr_iadd d_law_law_934 ?_
  refine mr_sldK d_law_law_935 hi1 ?_
  refine mr_aload_nS d_law_law_936 rfl rfl ?_
  refine mr_iload d_law_law_937 rfl ?_
  refine mr_iconst (v := 2) d_law_law_939 (by decide) ?_
  refine mr_iadd d_law_law_940 ?_
  refine mr_sldK d_law_law_941 hi2 ?_
  refine mr_aload_nS d_law_law_942 rfl rfl ?_
  refine mr_iload d_law_law_943 rfl ?_
  refine mr_iconst (v := 3) d_law_law_945 (by decide) ?_
  refine mr_iadd d_law_law_946 ?_
  refine mr_sldK d_law_law_947 hi3 ?_
  refine mz_goK (st := []) e_m_fill hm rfl U_m_fill (mz_vV d_law_law_948 U_m_fill rfl lk_m_law_128 I_m_fill s_m_fill np_m_fill rfl rfl) (by decide) ⟨by decide, by decide, by show _ + 200 * 2 ≤ 601024; omega, by show _ + 20000 * 2 ≤ 7293000; omega⟩ ?_
  refine mr_eq (st' := [.int rm.1]) (ex' := mz_xi ex rx.1) (h2 := (HX x.x_members x.x_collaterals x.x_hasSent x.x_isSealed x.x_metered x.x_sealedCount x.bk_counts x.bk_needs x.bk_whens x.bk_sides x.bk_quantities x.bk_limits x.ag_toldLies x.ag_passedLies x.ag_words x.ag_vectors x.ag_liarOperator x.ag_rounds x.mk_entries x.mk_slots x.mk_remainders x.mk_blocks x.mk_blockBids x.mk_blockOffers x.mk_entryCount x.mk_blockCount x.cv_limits x.cv_bids x.cv_offers x.cv_count x.cv_allBids x.cv_allOffers x.cv_meetingPrice x.cv_sureBids x.cv_sureOffers x.cv_priceBids x.cv_priceOffers x.cv_volume x.cv_worth x.oc_prices x.oc_volumes x.oc_filled x.oc_worth x.oc_takenSet x.oc_isDone, HM (rm.2) m.m_n m.m_collateral m.m_many m.m_need m.m_isBlock m.m_hours m.m_side m.m_quantity m.m_limit m.m_sent m.m_sealed m.m_rounds m.m_liar m.m_told m.m_passed m.m_vectors m.m_meters m.m_cleared m.m_prices m.m_trades m.m_fills m.m_welfares m.m_orderEntry m.m_orderFill m.m_orders m.m_blockEntry m.m_blockFill m.m_blocks m.m_price m.m_trade m.m_filled m.m_rest (rx.2))) (k' := k + mz_ki rx.1) (n' := n + mz_6i rx.1) rfl rfl rfl rfl rfl ?_
  refine mr_istore (lv' := [(6, .int rm.1), (5, .int rx.1), (4, .int i), (3, .ref 82), (2, .ref 54), (1, .ref 0), (0, .float 0)]) d_law_law_951 (by decide) rfl ?_
  refine mr_aload_n d_law_law_953 rfl rfl ?_
  refine mz_goK (st := []) (r' := rm.2) e_m_thrown rfl rfl U_m_thrown (mz_vV d_law_law_954 U_m_thrown rfl lk_m_law_85 I_m_thrown s_m_thrown np_m_thrown rfl rfl) (by decide) ⟨by decide, by decide, by show _ + 200 * 0 ≤ 601024; omega, by show _ + 20000 * 0 ≤ 7293000; omega⟩ ?_
  refine mr_eq (st' := [.int rm.2]) (ex' := mz_xi ex rx.1) (h2 := (HX x.x_members x.x_collaterals x.x_hasSent x.x_isSealed x.x_metered x.x_sealedCount x.bk_counts x.bk_needs x.bk_whens x.bk_sides x.bk_quantities x.bk_limits x.ag_toldLies x.ag_passedLies x.ag_words x.ag_vectors x.ag_liarOperator x.ag_rounds x.mk_entries x.mk_slots x.mk_remainders x.mk_blocks x.mk_blockBids x.mk_blockOffers x.mk_entryCount x.mk_blockCount x.cv_limits x.cv_bids x.cv_offers x.cv_count x.cv_allBids x.cv_allOffers x.cv_meetingPrice x.cv_sureBids x.cv_sureOffers x.cv_priceBids x.cv_priceOffers x.cv_volume x.cv_worth x.oc_prices x.oc_volumes x.oc_filled x.oc_worth x.oc_takenSet x.oc_isDone, HM (rm.2) m.m_n m.m_collateral m.m_many m.m_need m.m_isBlock m.m_hours m.m_side m.m_quantity m.m_limit m.m_sent m.m_sealed m.m_rounds m.m_liar m.m_told m.m_passed m.m_vectors m.m_meters m.m_cleared m.m_prices m.m_trades m.m_fills m.m_welfares m.m_orderEntry m.m_orderFill m.m_orders m.m_blockEntry m.m_blockFill m.m_blocks m.m_price m.m_trade m.m_filled m.m_rest (rx.2))) (k' := k + mz_ki rx.1) (n' := n + mz_6i rx.1) rfl rfl rfl rfl rfl ?_
  refine mr_iload d_law_law_957 rfl ?_
  refine mr_icmp_eqT (tgt := 964) d_law_law_959 (by decide) hth ?_
  refine mr_iload d_law_law_964 rfl ?_
  by_cases hc : rx.1 = 0
  · refine mr_if_neF (tgt := 981) d_law_law_966 (by decide) hc ?_
    refine mr_aload_n d_law_law_969 rfl rfl ?_
    refine mr_iconst (v := 0) d_law_law_970 (by decide) ?_
    refine mr_laldK d_law_law_971 rfl (show ¬ ((0 : Int32) < 0 ∨ 1 ≤ (0 : Int32).toNatClampNeg) by decide) ?_
    refine mr_iload d_law_law_972 rfl ?_
    refine mr_i2l d_law_law_974 ?_
    refine mr_lcmp d_law_law_975 ?_
    refine mr_if_eqT (tgt := 981) d_law_law_976 (by decide) (lg_cmp_same (hans hc)) ?_
    refine mr_goto (tgt := 1177) d_law_law_981 (by decide) ?_
    refine mr_sub (lv' := [(4, .int i), (3, .ref 82), (2, .ref 54), (1, .ref 0), (0, .float 0)]) [2, 3, 4, 5, 6] rfl ?_
    exact kk
  · refine mr_if_neT (tgt := 981) d_law_law_966 (by decide) hc ?_
    refine mr_goto (tgt := 1177) d_law_law_981 (by decide) ?_
    refine mr_sub (lv' := [(4, .int i), (3, .ref 82), (2, .ref 54), (1, .ref 0), (0, .float 0)]) [2, 3, 4, 5, 6] rfl ?_
    exact kk
set_option maxRecDepth 100000 in
set_option maxHeartbeats 4000000 in
theorem w_welfare {β : Type} {g : mz_G} {res : β → mz_S} {ex : Bool} {k n : Nat} {F : Option β} {x x' : SX} {m m' : SM} {c i : Int32} (hi1 : vp_in (i + 1) (mz_L g)) (hi2 : vp_in (i + 2) (mz_L g)) (hi3 : vp_in (i + 3) (mz_L g)) (hi4 : vp_in (i + 4) (mz_L g)) (hi5 : vp_in (i + 5) (mz_L g)) (hi6 : vp_in (i + 6) (mz_L g)) (hk : k ≤ 4000) (hn : n ≤ 40000) (hS : St_welfare x m (mz_xs g (i + 1).toNatClampNeg) c x' m') (kk : mz_A g M_law_law room_1 res 1177 [(4, .int i), (3, .ref 82), (2, .ref 54), (1, .ref 0), (0, .float 0)] [] (mz_xi ex c) (x'.H, m'.H) (k + mz_ki c) (n + mz_6i c) F) : mz_A g M_law_law room_1 res 984 [(4, .int i), (3, .ref 82), (2, .ref 54), (1, .ref 0), (0, .float 0)] [] ex (x.H, m.H) k n F := by
  obtain ⟨rx, rm, hx, hm, hth, hans, rfl, rfl, rfl⟩ := hS
  show mz_A g M_law_law room_1 res 984 [(4, .int i), (3, .ref 82), (2, .ref 54), (1, .ref 0), (0, .float 0)] [] ex (HX x.x_members x.x_collaterals x.x_hasSent x.x_isSealed x.x_metered x.x_sealedCount x.bk_counts x.bk_needs x.bk_whens x.bk_sides x.bk_quantities x.bk_limits x.ag_toldLies x.ag_passedLies x.ag_words x.ag_vectors x.ag_liarOperator x.ag_rounds x.mk_entries x.mk_slots x.mk_remainders x.mk_blocks x.mk_blockBids x.mk_blockOffers x.mk_entryCount x.mk_blockCount x.cv_limits x.cv_bids x.cv_offers x.cv_count x.cv_allBids x.cv_allOffers x.cv_meetingPrice x.cv_sureBids x.cv_sureOffers x.cv_priceBids x.cv_priceOffers x.cv_volume x.cv_worth x.oc_prices x.oc_volumes x.oc_filled x.oc_worth x.oc_takenSet x.oc_isDone, HM m.m_thrown m.m_n m.m_collateral m.m_many m.m_need m.m_isBlock m.m_hours m.m_side m.m_quantity m.m_limit m.m_sent m.m_sealed m.m_rounds m.m_liar m.m_told m.m_passed m.m_vectors m.m_meters m.m_cleared m.m_prices m.m_trades m.m_fills m.m_welfares m.m_orderEntry m.m_orderFill m.m_orders m.m_blockEntry m.m_blockFill m.m_blocks m.m_price m.m_trade m.m_filled m.m_rest m.m_out) k n F
  have q1 := mz_ki_le rx.1
  have q2 := mz_6i_le rx.1
  have kk : mz_A g M_law_law room_1 res 1177 [(4, .int i), (3, .ref 82), (2, .ref 54), (1, .ref 0), (0, .float 0)] [] (mz_xi ex rx.1) (HX x.x_members x.x_collaterals x.x_hasSent x.x_isSealed x.x_metered x.x_sealedCount x.bk_counts x.bk_needs x.bk_whens x.bk_sides x.bk_quantities x.bk_limits x.ag_toldLies x.ag_passedLies x.ag_words x.ag_vectors x.ag_liarOperator x.ag_rounds x.mk_entries x.mk_slots x.mk_remainders x.mk_blocks x.mk_blockBids x.mk_blockOffers x.mk_entryCount x.mk_blockCount x.cv_limits x.cv_bids x.cv_offers x.cv_count x.cv_allBids x.cv_allOffers x.cv_meetingPrice x.cv_sureBids x.cv_sureOffers x.cv_priceBids x.cv_priceOffers x.cv_volume x.cv_worth x.oc_prices x.oc_volumes x.oc_filled x.oc_worth x.oc_takenSet x.oc_isDone, HM (rm.2) m.m_n m.m_collateral m.m_many m.m_need m.m_isBlock m.m_hours m.m_side m.m_quantity m.m_limit m.m_sent m.m_sealed m.m_rounds m.m_liar m.m_told m.m_passed m.m_vectors m.m_meters m.m_cleared m.m_prices m.m_trades m.m_fills m.m_welfares m.m_orderEntry m.m_orderFill m.m_orders m.m_blockEntry m.m_blockFill m.m_blocks m.m_price m.m_trade m.m_filled m.m_rest (rx.2)) (k + mz_ki rx.1) (n + mz_6i rx.1) F := kk
  refine mr_aload_n d_law_law_984 rfl rfl ?_
  refine mr_aload_nS d_law_law_985 rfl rfl ?_
  refine mr_iload d_law_law_986 rfl ?_
  refine mr_iconst (v := 1) d_law_law_988 (by decide) ?_
  refine mr_iadd d_law_law_989 ?_
  refine mr_sldK d_law_law_990 hi1 ?_
  refine mr_aload_n d_law_law_991 rfl rfl ?_
  refine mz_goK (st := []) (e_law_welfare (hT := [])) hx rfl U_law_welfare (mz_vS d_law_law_992 U_law_welfare lk_m_law_129 S_law_welfare np_law_welfare) (by decide) ⟨by decide, by decide, by show _ + 200 * 8 ≤ 601024; omega, by show _ + 20000 * 8 ≤ 7293000; omega⟩ ?_
  refine mr_eq (st' := [.int rx.1]) (ex' := mz_xi ex rx.1) (h2 := (HX x.x_members x.x_collaterals x.x_hasSent x.x_isSealed x.x_metered x.x_sealedCount x.bk_counts x.bk_needs x.bk_whens x.bk_sides x.bk_quantities x.bk_limits x.ag_toldLies x.ag_passedLies x.ag_words x.ag_vectors x.ag_liarOperator x.ag_rounds x.mk_entries x.mk_slots x.mk_remainders x.mk_blocks x.mk_blockBids x.mk_blockOffers x.mk_entryCount x.mk_blockCount x.cv_limits x.cv_bids x.cv_offers x.cv_count x.cv_allBids x.cv_allOffers x.cv_meetingPrice x.cv_sureBids x.cv_sureOffers x.cv_priceBids x.cv_priceOffers x.cv_volume x.cv_worth x.oc_prices x.oc_volumes x.oc_filled x.oc_worth x.oc_takenSet x.oc_isDone, HM m.m_thrown m.m_n m.m_collateral m.m_many m.m_need m.m_isBlock m.m_hours m.m_side m.m_quantity m.m_limit m.m_sent m.m_sealed m.m_rounds m.m_liar m.m_told m.m_passed m.m_vectors m.m_meters m.m_cleared m.m_prices m.m_trades m.m_fills m.m_welfares m.m_orderEntry m.m_orderFill m.m_orders m.m_blockEntry m.m_blockFill m.m_blocks m.m_price m.m_trade m.m_filled m.m_rest (rx.2))) (k' := k + mz_ki rx.1) (n' := n + mz_6i rx.1) rfl rfl rfl rfl rfl ?_
  refine mr_istore (lv' := [(5, .int rx.1), (4, .int i), (3, .ref 82), (2, .ref 54), (1, .ref 0), (0, .float 0)]) d_law_law_995 (by decide) rfl ?_
  refine mr_aload_n d_law_law_997 rfl rfl ?_
  refine mr_aload_nS d_law_law_998 rfl rfl ?_
  refine mr_iload d_law_law_999 rfl ?_
  refine mr_iconst (v := 1) d_law_law_1001 (by decide) ?_
  refine mr_iadd d_law_law_1002 ?_
  refine mr_sldK d_law_law_1003 hi1 ?_
  refine mz_goK (st := []) e_m_welfare hm rfl U_m_welfare (mz_vV d_law_law_1004 U_m_welfare rfl lk_m_law_131 I_m_welfare s_m_welfare np_m_welfare rfl rfl) (by decide) ⟨by decide, by decide, by show _ + 200 * 2 ≤ 601024; omega, by show _ + 20000 * 2 ≤ 7293000; omega⟩ ?_
  refine mr_eq (st' := [.long rm.1]) (ex' := mz_xi ex rx.1) (h2 := (HX x.x_members x.x_collaterals x.x_hasSent x.x_isSealed x.x_metered x.x_sealedCount x.bk_counts x.bk_needs x.bk_whens x.bk_sides x.bk_quantities x.bk_limits x.ag_toldLies x.ag_passedLies x.ag_words x.ag_vectors x.ag_liarOperator x.ag_rounds x.mk_entries x.mk_slots x.mk_remainders x.mk_blocks x.mk_blockBids x.mk_blockOffers x.mk_entryCount x.mk_blockCount x.cv_limits x.cv_bids x.cv_offers x.cv_count x.cv_allBids x.cv_allOffers x.cv_meetingPrice x.cv_sureBids x.cv_sureOffers x.cv_priceBids x.cv_priceOffers x.cv_volume x.cv_worth x.oc_prices x.oc_volumes x.oc_filled x.oc_worth x.oc_takenSet x.oc_isDone, HM (rm.2) m.m_n m.m_collateral m.m_many m.m_need m.m_isBlock m.m_hours m.m_side m.m_quantity m.m_limit m.m_sent m.m_sealed m.m_rounds m.m_liar m.m_told m.m_passed m.m_vectors m.m_meters m.m_cleared m.m_prices m.m_trades m.m_fills m.m_welfares m.m_orderEntry m.m_orderFill m.m_orders m.m_blockEntry m.m_blockFill m.m_blocks m.m_price m.m_trade m.m_filled m.m_rest (rx.2))) (k' := k + mz_ki rx.1) (n' := n + mz_6i rx.1) rfl rfl rfl rfl rfl ?_
  refine mr_lstore (lv' := [(6, .long rm.1), (5, .int rx.1), (4, .int i), (3, .ref 82), (2, .ref 54), (1, .ref 0), (0, .float 0)]) d_law_law_1007 (by decide) rfl ?_
  refine mr_aload_n d_law_law_1009 rfl rfl ?_
  refine mz_goK (st := []) (r' := rm.2) e_m_thrown rfl rfl U_m_thrown (mz_vV d_law_law_1010 U_m_thrown rfl lk_m_law_85 I_m_thrown s_m_thrown np_m_thrown rfl rfl) (by decide) ⟨by decide, by decide, by show _ + 200 * 0 ≤ 601024; omega, by show _ + 20000 * 0 ≤ 7293000; omega⟩ ?_
  refine mr_eq (st' := [.int rm.2]) (ex' := mz_xi ex rx.1) (h2 := (HX x.x_members x.x_collaterals x.x_hasSent x.x_isSealed x.x_metered x.x_sealedCount x.bk_counts x.bk_needs x.bk_whens x.bk_sides x.bk_quantities x.bk_limits x.ag_toldLies x.ag_passedLies x.ag_words x.ag_vectors x.ag_liarOperator x.ag_rounds x.mk_entries x.mk_slots x.mk_remainders x.mk_blocks x.mk_blockBids x.mk_blockOffers x.mk_entryCount x.mk_blockCount x.cv_limits x.cv_bids x.cv_offers x.cv_count x.cv_allBids x.cv_allOffers x.cv_meetingPrice x.cv_sureBids x.cv_sureOffers x.cv_priceBids x.cv_priceOffers x.cv_volume x.cv_worth x.oc_prices x.oc_volumes x.oc_filled x.oc_worth x.oc_takenSet x.oc_isDone, HM (rm.2) m.m_n m.m_collateral m.m_many m.m_need m.m_isBlock m.m_hours m.m_side m.m_quantity m.m_limit m.m_sent m.m_sealed m.m_rounds m.m_liar m.m_told m.m_passed m.m_vectors m.m_meters m.m_cleared m.m_prices m.m_trades m.m_fills m.m_welfares m.m_orderEntry m.m_orderFill m.m_orders m.m_blockEntry m.m_blockFill m.m_blocks m.m_price m.m_trade m.m_filled m.m_rest (rx.2))) (k' := k + mz_ki rx.1) (n' := n + mz_6i rx.1) rfl rfl rfl rfl rfl ?_
  refine mr_iload d_law_law_1013 rfl ?_
  refine mr_icmp_eqT (tgt := 1020) d_law_law_1015 (by decide) hth ?_
  refine mr_iload d_law_law_1020 rfl ?_
  by_cases hc : rx.1 = 0
  · refine mr_if_neF (tgt := 1036) d_law_law_1022 (by decide) hc ?_
    refine mr_aload_n d_law_law_1025 rfl rfl ?_
    refine mr_iconst (v := 0) d_law_law_1026 (by decide) ?_
    refine mr_laldK d_law_law_1027 rfl (show ¬ ((0 : Int32) < 0 ∨ 1 ≤ (0 : Int32).toNatClampNeg) by decide) ?_
    refine mr_lload d_law_law_1028 rfl ?_
    refine mr_lcmp d_law_law_1030 ?_
    refine mr_if_eqT (tgt := 1036) d_law_law_1031 (by decide) (lg_cmp_same (hans hc)) ?_
    refine mr_goto (tgt := 1177) d_law_law_1036 (by decide) ?_
    refine mr_sub (lv' := [(4, .int i), (3, .ref 82), (2, .ref 54), (1, .ref 0), (0, .float 0)]) [2, 3, 4, 5, 6] rfl ?_
    exact kk
  · refine mr_if_neT (tgt := 1036) d_law_law_1022 (by decide) hc ?_
    refine mr_goto (tgt := 1177) d_law_law_1036 (by decide) ?_
    refine mr_sub (lv' := [(4, .int i), (3, .ref 82), (2, .ref 54), (1, .ref 0), (0, .float 0)]) [2, 3, 4, 5, 6] rfl ?_
    exact kk
set_option maxRecDepth 100000 in
set_option maxHeartbeats 4000000 in
theorem w_meter {β : Type} {g : mz_G} {res : β → mz_S} {ex : Bool} {k n : Nat} {F : Option β} {x x' : SX} {m m' : SM} {c i : Int32} (hi1 : vp_in (i + 1) (mz_L g)) (hi2 : vp_in (i + 2) (mz_L g)) (hi3 : vp_in (i + 3) (mz_L g)) (hi4 : vp_in (i + 4) (mz_L g)) (hi5 : vp_in (i + 5) (mz_L g)) (hi6 : vp_in (i + 6) (mz_L g)) (hk : k ≤ 4000) (hn : n ≤ 40000) (hS : St_meter x m (mz_xs g (i + 1).toNatClampNeg) (mz_xs g (i + 2).toNatClampNeg) (mz_xs g (i + 3).toNatClampNeg) c x' m') (kk : mz_A g M_law_law room_1 res 1177 [(4, .int i), (3, .ref 82), (2, .ref 54), (1, .ref 0), (0, .float 0)] [] (mz_xi ex c) (x'.H, m'.H) (k + mz_ki c) (n + mz_6i c) F) : mz_A g M_law_law room_1 res 1039 [(4, .int i), (3, .ref 82), (2, .ref 54), (1, .ref 0), (0, .float 0)] [] ex (x.H, m.H) k n F := by
  obtain ⟨rx, rm, hx, hm, hth, rfl, rfl, rfl⟩ := hS
  show mz_A g M_law_law room_1 res 1039 [(4, .int i), (3, .ref 82), (2, .ref 54), (1, .ref 0), (0, .float 0)] [] ex (HX x.x_members x.x_collaterals x.x_hasSent x.x_isSealed x.x_metered x.x_sealedCount x.bk_counts x.bk_needs x.bk_whens x.bk_sides x.bk_quantities x.bk_limits x.ag_toldLies x.ag_passedLies x.ag_words x.ag_vectors x.ag_liarOperator x.ag_rounds x.mk_entries x.mk_slots x.mk_remainders x.mk_blocks x.mk_blockBids x.mk_blockOffers x.mk_entryCount x.mk_blockCount x.cv_limits x.cv_bids x.cv_offers x.cv_count x.cv_allBids x.cv_allOffers x.cv_meetingPrice x.cv_sureBids x.cv_sureOffers x.cv_priceBids x.cv_priceOffers x.cv_volume x.cv_worth x.oc_prices x.oc_volumes x.oc_filled x.oc_worth x.oc_takenSet x.oc_isDone, HM m.m_thrown m.m_n m.m_collateral m.m_many m.m_need m.m_isBlock m.m_hours m.m_side m.m_quantity m.m_limit m.m_sent m.m_sealed m.m_rounds m.m_liar m.m_told m.m_passed m.m_vectors m.m_meters m.m_cleared m.m_prices m.m_trades m.m_fills m.m_welfares m.m_orderEntry m.m_orderFill m.m_orders m.m_blockEntry m.m_blockFill m.m_blocks m.m_price m.m_trade m.m_filled m.m_rest m.m_out) k n F
  have q1 := mz_ki_le rx.1
  have q2 := mz_6i_le rx.1
  have kk : mz_A g M_law_law room_1 res 1177 [(4, .int i), (3, .ref 82), (2, .ref 54), (1, .ref 0), (0, .float 0)] [] (mz_xi ex rx.1) (HX x.x_members x.x_collaterals x.x_hasSent x.x_isSealed (rx.2) x.x_sealedCount x.bk_counts x.bk_needs x.bk_whens x.bk_sides x.bk_quantities x.bk_limits x.ag_toldLies x.ag_passedLies x.ag_words x.ag_vectors x.ag_liarOperator x.ag_rounds x.mk_entries x.mk_slots x.mk_remainders x.mk_blocks x.mk_blockBids x.mk_blockOffers x.mk_entryCount x.mk_blockCount x.cv_limits x.cv_bids x.cv_offers x.cv_count x.cv_allBids x.cv_allOffers x.cv_meetingPrice x.cv_sureBids x.cv_sureOffers x.cv_priceBids x.cv_priceOffers x.cv_volume x.cv_worth x.oc_prices x.oc_volumes x.oc_filled x.oc_worth x.oc_takenSet x.oc_isDone, HM (rm.1) m.m_n m.m_collateral m.m_many m.m_need m.m_isBlock m.m_hours m.m_side m.m_quantity m.m_limit m.m_sent m.m_sealed m.m_rounds m.m_liar m.m_told m.m_passed m.m_vectors (rm.2) m.m_cleared m.m_prices m.m_trades m.m_fills m.m_welfares m.m_orderEntry m.m_orderFill m.m_orders m.m_blockEntry m.m_blockFill m.m_blocks m.m_price m.m_trade m.m_filled m.m_rest m.m_out) (k + mz_ki rx.1) (n + mz_6i rx.1) F := kk
  refine mr_aload_n d_law_law_1039 rfl rfl ?_
  refine mr_aload_nS d_law_law_1040 rfl rfl ?_
  refine mr_iload d_law_law_1041 rfl ?_
  refine mr_iconst (v := 1) d_law_law_1043 (by decide) ?_
  refine mr_iadd d_law_law_1044 ?_
  refine mr_sldK d_law_law_1045 hi1 ?_
  refine mr_aload_nS d_law_law_1046 rfl rfl ?_
  refine mr_iload d_law_law_1047 rfl ?_
  refine mr_iconst (v := 2) d_law_law_1049 (by decide) ?_
  refine mr_iadd d_law_law_1050 ?_
  refine mr_sldK d_law_law_1051 hi2 ?_
  refine mr_aload_nS d_law_law_1052 rfl rfl ?_
  refine mr_iload d_law_law_1053 rfl ?_
  refine mr_iconst (v := 3) d_law_law_1055 (by decide) ?_
  refine mr_iadd d_law_law_1056 ?_
  refine mr_sldK d_law_law_1057 hi3 ?_
  refine mz_goK (st := []) (e_law_meter (hT := [])) hx rfl U_law_meter (mz_vS d_law_law_1058 U_law_meter lk_m_law_132 S_law_meter np_law_meter) (by decide) ⟨by decide, by decide, by show _ + 200 * 7 ≤ 601024; omega, by show _ + 20000 * 7 ≤ 7293000; omega⟩ ?_
  refine mr_eq (st' := [.int rx.1]) (ex' := mz_xi ex rx.1) (h2 := (HX x.x_members x.x_collaterals x.x_hasSent x.x_isSealed (rx.2) x.x_sealedCount x.bk_counts x.bk_needs x.bk_whens x.bk_sides x.bk_quantities x.bk_limits x.ag_toldLies x.ag_passedLies x.ag_words x.ag_vectors x.ag_liarOperator x.ag_rounds x.mk_entries x.mk_slots x.mk_remainders x.mk_blocks x.mk_blockBids x.mk_blockOffers x.mk_entryCount x.mk_blockCount x.cv_limits x.cv_bids x.cv_offers x.cv_count x.cv_allBids x.cv_allOffers x.cv_meetingPrice x.cv_sureBids x.cv_sureOffers x.cv_priceBids x.cv_priceOffers x.cv_volume x.cv_worth x.oc_prices x.oc_volumes x.oc_filled x.oc_worth x.oc_takenSet x.oc_isDone, HM m.m_thrown m.m_n m.m_collateral m.m_many m.m_need m.m_isBlock m.m_hours m.m_side m.m_quantity m.m_limit m.m_sent m.m_sealed m.m_rounds m.m_liar m.m_told m.m_passed m.m_vectors m.m_meters m.m_cleared m.m_prices m.m_trades m.m_fills m.m_welfares m.m_orderEntry m.m_orderFill m.m_orders m.m_blockEntry m.m_blockFill m.m_blocks m.m_price m.m_trade m.m_filled m.m_rest m.m_out)) (k' := k + mz_ki rx.1) (n' := n + mz_6i rx.1) rfl rfl rfl rfl rfl ?_
  refine mr_istore (lv' := [(5, .int rx.1), (4, .int i), (3, .ref 82), (2, .ref 54), (1, .ref 0), (0, .float 0)]) d_law_law_1061 (by decide) rfl ?_
  refine mr_aload_n d_law_law_1063 rfl rfl ?_
  refine mr_aload_nS d_law_law_1064 rfl rfl ?_
  refine mr_iload d_law_law_1065 rfl ?_
  refine mr_iconst (v := 1) d_law_law_1067 (by decide) ?_
  refine mr_iadd d_law_law_1068 ?_
  refine mr_sldK d_law_law_1069 hi1 ?_
  refine mr_aload_nS d_law_law_1070 rfl rfl ?_
  refine mr_iload d_law_law_1071 rfl ?_
  refine mr_iconst (v := 2) d_law_law_1073 (by decide) ?_
  refine mr_iadd d_law_law_1074 ?_
  refine mr_sldK d_law_law_1075 hi2 ?_
  refine mr_aload_nS d_law_law_1076 rfl rfl ?_
  refine mr_iload d_law_law_1077 rfl ?_
  refine mr_iconst (v := 3) d_law_law_1079 (by decide) ?_
  refine mr_iadd d_law_law_1080 ?_
  refine mr_sldK d_law_law_1081 hi3 ?_
  refine mz_goK (st := []) e_m_meter hm rfl U_m_meter (mz_vV d_law_law_1082 U_m_meter rfl lk_m_law_135 I_m_meter s_m_meter np_m_meter rfl rfl) (by decide) ⟨by decide, by decide, by show _ + 200 * 2 ≤ 601024; omega, by show _ + 20000 * 2 ≤ 7293000; omega⟩ ?_
  refine mr_eq (st' := []) (ex' := mz_xi ex rx.1) (h2 := (HX x.x_members x.x_collaterals x.x_hasSent x.x_isSealed (rx.2) x.x_sealedCount x.bk_counts x.bk_needs x.bk_whens x.bk_sides x.bk_quantities x.bk_limits x.ag_toldLies x.ag_passedLies x.ag_words x.ag_vectors x.ag_liarOperator x.ag_rounds x.mk_entries x.mk_slots x.mk_remainders x.mk_blocks x.mk_blockBids x.mk_blockOffers x.mk_entryCount x.mk_blockCount x.cv_limits x.cv_bids x.cv_offers x.cv_count x.cv_allBids x.cv_allOffers x.cv_meetingPrice x.cv_sureBids x.cv_sureOffers x.cv_priceBids x.cv_priceOffers x.cv_volume x.cv_worth x.oc_prices x.oc_volumes x.oc_filled x.oc_worth x.oc_takenSet x.oc_isDone, HM (rm.1) m.m_n m.m_collateral m.m_many m.m_need m.m_isBlock m.m_hours m.m_side m.m_quantity m.m_limit m.m_sent m.m_sealed m.m_rounds m.m_liar m.m_told m.m_passed m.m_vectors (rm.2) m.m_cleared m.m_prices m.m_trades m.m_fills m.m_welfares m.m_orderEntry m.m_orderFill m.m_orders m.m_blockEntry m.m_blockFill m.m_blocks m.m_price m.m_trade m.m_filled m.m_rest m.m_out)) (k' := k + mz_ki rx.1) (n' := n + mz_6i rx.1) rfl rfl rfl rfl rfl ?_
  refine mr_aload_n d_law_law_1085 rfl rfl ?_
  refine mz_goK (st := []) (r' := rm.1) e_m_thrown rfl rfl U_m_thrown (mz_vV d_law_law_1086 U_m_thrown rfl lk_m_law_85 I_m_thrown s_m_thrown np_m_thrown rfl rfl) (by decide) ⟨by decide, by decide, by show _ + 200 * 0 ≤ 601024; omega, by show _ + 20000 * 0 ≤ 7293000; omega⟩ ?_
  refine mr_eq (st' := [.int rm.1]) (ex' := mz_xi ex rx.1) (h2 := (HX x.x_members x.x_collaterals x.x_hasSent x.x_isSealed (rx.2) x.x_sealedCount x.bk_counts x.bk_needs x.bk_whens x.bk_sides x.bk_quantities x.bk_limits x.ag_toldLies x.ag_passedLies x.ag_words x.ag_vectors x.ag_liarOperator x.ag_rounds x.mk_entries x.mk_slots x.mk_remainders x.mk_blocks x.mk_blockBids x.mk_blockOffers x.mk_entryCount x.mk_blockCount x.cv_limits x.cv_bids x.cv_offers x.cv_count x.cv_allBids x.cv_allOffers x.cv_meetingPrice x.cv_sureBids x.cv_sureOffers x.cv_priceBids x.cv_priceOffers x.cv_volume x.cv_worth x.oc_prices x.oc_volumes x.oc_filled x.oc_worth x.oc_takenSet x.oc_isDone, HM (rm.1) m.m_n m.m_collateral m.m_many m.m_need m.m_isBlock m.m_hours m.m_side m.m_quantity m.m_limit m.m_sent m.m_sealed m.m_rounds m.m_liar m.m_told m.m_passed m.m_vectors (rm.2) m.m_cleared m.m_prices m.m_trades m.m_fills m.m_welfares m.m_orderEntry m.m_orderFill m.m_orders m.m_blockEntry m.m_blockFill m.m_blocks m.m_price m.m_trade m.m_filled m.m_rest m.m_out)) (k' := k + mz_ki rx.1) (n' := n + mz_6i rx.1) rfl rfl rfl rfl rfl ?_
  refine mr_iload d_law_law_1089 rfl ?_
  refine mr_icmp_eqT (tgt := 1096) d_law_law_1091 (by decide) hth ?_
  refine mr_goto (tgt := 1177) d_law_law_1096 (by decide) ?_
  refine mr_sub (lv' := [(4, .int i), (3, .ref 82), (2, .ref 54), (1, .ref 0), (0, .float 0)]) [1, 2, 3, 4, 5] rfl ?_
  exact kk
set_option maxRecDepth 100000 in
set_option maxHeartbeats 4000000 in
theorem w_balance {β : Type} {g : mz_G} {res : β → mz_S} {ex : Bool} {k n : Nat} {F : Option β} {x x' : SX} {m m' : SM} {c i : Int32} (hi1 : vp_in (i + 1) (mz_L g)) (hi2 : vp_in (i + 2) (mz_L g)) (hi3 : vp_in (i + 3) (mz_L g)) (hi4 : vp_in (i + 4) (mz_L g)) (hi5 : vp_in (i + 5) (mz_L g)) (hi6 : vp_in (i + 6) (mz_L g)) (hk : k ≤ 4000) (hn : n ≤ 40000) (hS : St_balance x m (mz_xs g (i + 1).toNatClampNeg) (mz_xs g (i + 2).toNatClampNeg) c x' m') (kk : mz_A g M_law_law room_1 res 1177 [(4, .int i), (3, .ref 82), (2, .ref 54), (1, .ref 0), (0, .float 0)] [] (mz_xi ex c) (x'.H, m'.H) (k + mz_ki c) (n + mz_6i c) F) : mz_A g M_law_law room_1 res 1099 [(4, .int i), (3, .ref 82), (2, .ref 54), (1, .ref 0), (0, .float 0)] [] ex (x.H, m.H) k n F := by
  obtain ⟨rx, rm, hx, hm, hth, hans, rfl, rfl, rfl⟩ := hS
  show mz_A g M_law_law room_1 res 1099 [(4, .int i), (3, .ref 82), (2, .ref 54), (1, .ref 0), (0, .float 0)] [] ex (HX x.x_members x.x_collaterals x.x_hasSent x.x_isSealed x.x_metered x.x_sealedCount x.bk_counts x.bk_needs x.bk_whens x.bk_sides x.bk_quantities x.bk_limits x.ag_toldLies x.ag_passedLies x.ag_words x.ag_vectors x.ag_liarOperator x.ag_rounds x.mk_entries x.mk_slots x.mk_remainders x.mk_blocks x.mk_blockBids x.mk_blockOffers x.mk_entryCount x.mk_blockCount x.cv_limits x.cv_bids x.cv_offers x.cv_count x.cv_allBids x.cv_allOffers x.cv_meetingPrice x.cv_sureBids x.cv_sureOffers x.cv_priceBids x.cv_priceOffers x.cv_volume x.cv_worth x.oc_prices x.oc_volumes x.oc_filled x.oc_worth x.oc_takenSet x.oc_isDone, HM m.m_thrown m.m_n m.m_collateral m.m_many m.m_need m.m_isBlock m.m_hours m.m_side m.m_quantity m.m_limit m.m_sent m.m_sealed m.m_rounds m.m_liar m.m_told m.m_passed m.m_vectors m.m_meters m.m_cleared m.m_prices m.m_trades m.m_fills m.m_welfares m.m_orderEntry m.m_orderFill m.m_orders m.m_blockEntry m.m_blockFill m.m_blocks m.m_price m.m_trade m.m_filled m.m_rest m.m_out) k n F
  have q1 := mz_ki_le rx.1
  have q2 := mz_6i_le rx.1
  have kk : mz_A g M_law_law room_1 res 1177 [(4, .int i), (3, .ref 82), (2, .ref 54), (1, .ref 0), (0, .float 0)] [] (mz_xi ex rx.1) (HX x.x_members x.x_collaterals x.x_hasSent x.x_isSealed x.x_metered x.x_sealedCount x.bk_counts x.bk_needs x.bk_whens x.bk_sides x.bk_quantities x.bk_limits x.ag_toldLies x.ag_passedLies x.ag_words x.ag_vectors x.ag_liarOperator x.ag_rounds x.mk_entries x.mk_slots x.mk_remainders x.mk_blocks x.mk_blockBids x.mk_blockOffers x.mk_entryCount x.mk_blockCount x.cv_limits x.cv_bids x.cv_offers x.cv_count x.cv_allBids x.cv_allOffers x.cv_meetingPrice x.cv_sureBids x.cv_sureOffers x.cv_priceBids x.cv_priceOffers x.cv_volume x.cv_worth x.oc_prices x.oc_volumes x.oc_filled x.oc_worth x.oc_takenSet x.oc_isDone, HM (rm.2) m.m_n m.m_collateral m.m_many m.m_need m.m_isBlock m.m_hours m.m_side m.m_quantity m.m_limit m.m_sent m.m_sealed m.m_rounds m.m_liar m.m_told m.m_passed m.m_vectors m.m_meters m.m_cleared m.m_prices m.m_trades m.m_fills m.m_welfares m.m_orderEntry m.m_orderFill m.m_orders m.m_blockEntry m.m_blockFill m.m_blocks m.m_price m.m_trade m.m_filled m.m_rest (rx.2)) (k + mz_ki rx.1) (n + mz_6i rx.1) F := kk
  refine mr_aload_n d_law_law_1099 rfl rfl ?_
  refine mr_aload_nS d_law_law_1100 rfl rfl ?_
  refine mr_iload d_law_law_1101 rfl ?_
  refine mr_iconst (v := 1) d_law_law_1103 (by decide) ?_
  refine mr_iadd d_law_law_1104 ?_
  refine mr_sldK d_law_law_1105 hi1 ?_
  refine mr_aload_nS d_law_law_1106 rfl rfl ?_
  refine mr_iload d_law_law_1107 rfl ?_
  refine mr_iconst (v := 2) d_law_law_1109 (by decide) ?_
  refine mr_iadd d_law_law_1110 ?_
  refine mr_sldK d_law_law_1111 hi2 ?_
  refine mr_aload_n d_law_law_1112 rfl rfl ?_
  refine mz_goK (st := []) (e_law_balance (hT := [])) hx rfl U_law_balance (mz_vS d_law_law_1113 U_law_balance lk_m_law_136 S_law_balance np_law_balance) (by decide) ⟨by decide, by decide, by show _ + 200 * 8 ≤ 601024; omega, by show _ + 20000 * 8 ≤ 7293000; omega⟩ ?_
  refine mr_eq (st' := [.int rx.1]) (ex' := mz_xi ex rx.1) (h2 := (HX x.x_members x.x_collaterals x.x_hasSent x.x_isSealed x.x_metered x.x_sealedCount x.bk_counts x.bk_needs x.bk_whens x.bk_sides x.bk_quantities x.bk_limits x.ag_toldLies x.ag_passedLies x.ag_words x.ag_vectors x.ag_liarOperator x.ag_rounds x.mk_entries x.mk_slots x.mk_remainders x.mk_blocks x.mk_blockBids x.mk_blockOffers x.mk_entryCount x.mk_blockCount x.cv_limits x.cv_bids x.cv_offers x.cv_count x.cv_allBids x.cv_allOffers x.cv_meetingPrice x.cv_sureBids x.cv_sureOffers x.cv_priceBids x.cv_priceOffers x.cv_volume x.cv_worth x.oc_prices x.oc_volumes x.oc_filled x.oc_worth x.oc_takenSet x.oc_isDone, HM m.m_thrown m.m_n m.m_collateral m.m_many m.m_need m.m_isBlock m.m_hours m.m_side m.m_quantity m.m_limit m.m_sent m.m_sealed m.m_rounds m.m_liar m.m_told m.m_passed m.m_vectors m.m_meters m.m_cleared m.m_prices m.m_trades m.m_fills m.m_welfares m.m_orderEntry m.m_orderFill m.m_orders m.m_blockEntry m.m_blockFill m.m_blocks m.m_price m.m_trade m.m_filled m.m_rest (rx.2))) (k' := k + mz_ki rx.1) (n' := n + mz_6i rx.1) rfl rfl rfl rfl rfl ?_
  refine mr_istore (lv' := [(5, .int rx.1), (4, .int i), (3, .ref 82), (2, .ref 54), (1, .ref 0), (0, .float 0)]) d_law_law_1116 (by decide) rfl ?_
  refine mr_aload_n d_law_law_1118 rfl rfl ?_
  refine mr_aload_nS d_law_law_1119 rfl rfl ?_
  refine mr_iload d_law_law_1120 rfl ?_
  refine mr_iconst (v := 1) d_law_law_1122 (by decide) ?_
  refine mr_iadd d_law_law_1123 ?_
  refine mr_sldK d_law_law_1124 hi1 ?_
  refine mr_aload_nS d_law_law_1125 rfl rfl ?_
  refine mr_iload d_law_law_1126 rfl ?_
  refine mr_iconst (v := 2) d_law_law_1128 (by decide) ?_
  refine mr_iadd d_law_law_1129 ?_
  refine mr_sldK d_law_law_1130 hi2 ?_
  refine mz_goK (st := []) e_m_balance hm rfl U_m_balance (mz_vV d_law_law_1131 U_m_balance rfl lk_m_law_138 I_m_balance s_m_balance np_m_balance rfl rfl) (by decide) ⟨by decide, by decide, by show _ + 200 * 3 ≤ 601024; omega, by show _ + 20000 * 3 ≤ 7293000; omega⟩ ?_
  refine mr_eq (st' := [.long rm.1]) (ex' := mz_xi ex rx.1) (h2 := (HX x.x_members x.x_collaterals x.x_hasSent x.x_isSealed x.x_metered x.x_sealedCount x.bk_counts x.bk_needs x.bk_whens x.bk_sides x.bk_quantities x.bk_limits x.ag_toldLies x.ag_passedLies x.ag_words x.ag_vectors x.ag_liarOperator x.ag_rounds x.mk_entries x.mk_slots x.mk_remainders x.mk_blocks x.mk_blockBids x.mk_blockOffers x.mk_entryCount x.mk_blockCount x.cv_limits x.cv_bids x.cv_offers x.cv_count x.cv_allBids x.cv_allOffers x.cv_meetingPrice x.cv_sureBids x.cv_sureOffers x.cv_priceBids x.cv_priceOffers x.cv_volume x.cv_worth x.oc_prices x.oc_volumes x.oc_filled x.oc_worth x.oc_takenSet x.oc_isDone, HM (rm.2) m.m_n m.m_collateral m.m_many m.m_need m.m_isBlock m.m_hours m.m_side m.m_quantity m.m_limit m.m_sent m.m_sealed m.m_rounds m.m_liar m.m_told m.m_passed m.m_vectors m.m_meters m.m_cleared m.m_prices m.m_trades m.m_fills m.m_welfares m.m_orderEntry m.m_orderFill m.m_orders m.m_blockEntry m.m_blockFill m.m_blocks m.m_price m.m_trade m.m_filled m.m_rest (rx.2))) (k' := k + mz_ki rx.1) (n' := n + mz_6i rx.1) rfl rfl rfl rfl rfl ?_
  refine mr_lstore (lv' := [(6, .long rm.1), (5, .int rx.1), (4, .int i), (3, .ref 82), (2, .ref 54), (1, .ref 0), (0, .float 0)]) d_law_law_1134 (by decide) rfl ?_
  refine mr_aload_n d_law_law_1136 rfl rfl ?_
  refine mz_goK (st := []) (r' := rm.2) e_m_thrown rfl rfl U_m_thrown (mz_vV d_law_law_1137 U_m_thrown rfl lk_m_law_85 I_m_thrown s_m_thrown np_m_thrown rfl rfl) (by decide) ⟨by decide, by decide, by show _ + 200 * 0 ≤ 601024; omega, by show _ + 20000 * 0 ≤ 7293000; omega⟩ ?_
  refine mr_eq (st' := [.int rm.2]) (ex' := mz_xi ex rx.1) (h2 := (HX x.x_members x.x_collaterals x.x_hasSent x.x_isSealed x.x_metered x.x_sealedCount x.bk_counts x.bk_needs x.bk_whens x.bk_sides x.bk_quantities x.bk_limits x.ag_toldLies x.ag_passedLies x.ag_words x.ag_vectors x.ag_liarOperator x.ag_rounds x.mk_entries x.mk_slots x.mk_remainders x.mk_blocks x.mk_blockBids x.mk_blockOffers x.mk_entryCount x.mk_blockCount x.cv_limits x.cv_bids x.cv_offers x.cv_count x.cv_allBids x.cv_allOffers x.cv_meetingPrice x.cv_sureBids x.cv_sureOffers x.cv_priceBids x.cv_priceOffers x.cv_volume x.cv_worth x.oc_prices x.oc_volumes x.oc_filled x.oc_worth x.oc_takenSet x.oc_isDone, HM (rm.2) m.m_n m.m_collateral m.m_many m.m_need m.m_isBlock m.m_hours m.m_side m.m_quantity m.m_limit m.m_sent m.m_sealed m.m_rounds m.m_liar m.m_told m.m_passed m.m_vectors m.m_meters m.m_cleared m.m_prices m.m_trades m.m_fills m.m_welfares m.m_orderEntry m.m_orderFill m.m_orders m.m_blockEntry m.m_blockFill m.m_blocks m.m_price m.m_trade m.m_filled m.m_rest (rx.2))) (k' := k + mz_ki rx.1) (n' := n + mz_6i rx.1) rfl rfl rfl rfl rfl ?_
  refine mr_iload d_law_law_1140 rfl ?_
  refine mr_icmp_eqT (tgt := 1147) d_law_law_1142 (by decide) hth ?_
  refine mr_iload d_law_law_1147 rfl ?_
  by_cases hc : rx.1 = 0
  · refine mr_if_neF (tgt := 1163) d_law_law_1149 (by decide) hc ?_
    refine mr_aload_n d_law_law_1152 rfl rfl ?_
    refine mr_iconst (v := 0) d_law_law_1153 (by decide) ?_
    refine mr_laldK d_law_law_1154 rfl (show ¬ ((0 : Int32) < 0 ∨ 1 ≤ (0 : Int32).toNatClampNeg) by decide) ?_
    refine mr_lload d_law_law_1155 rfl ?_
    refine mr_lcmp d_law_law_1157 ?_
    refine mr_if_eqT (tgt := 1163) d_law_law_1158 (by decide) (lg_cmp_same (hans hc)) ?_
    refine mr_goto (tgt := 1177) d_law_law_1163 (by decide) ?_
    refine mr_sub (lv' := [(4, .int i), (3, .ref 82), (2, .ref 54), (1, .ref 0), (0, .float 0)]) [2, 3, 4, 5, 6] rfl ?_
    exact kk
  · refine mr_if_neT (tgt := 1163) d_law_law_1149 (by decide) hc ?_
    refine mr_goto (tgt := 1177) d_law_law_1163 (by decide) ?_
    refine mr_sub (lv' := [(4, .int i), (3, .ref 82), (2, .ref 54), (1, .ref 0), (0, .float 0)]) [2, 3, 4, 5, 6] rfl ?_
    exact kk
set_option maxRecDepth 100000 in
set_option maxHeartbeats 4000000 in
theorem w_nextDay {β : Type} {g : mz_G} {res : β → mz_S} {ex : Bool} {k n : Nat} {F : Option β} {x x' : SX} {m m' : SM} {c i : Int32} (hi1 : vp_in (i + 1) (mz_L g)) (hi2 : vp_in (i + 2) (mz_L g)) (hi3 : vp_in (i + 3) (mz_L g)) (hi4 : vp_in (i + 4) (mz_L g)) (hi5 : vp_in (i + 5) (mz_L g)) (hi6 : vp_in (i + 6) (mz_L g)) (hk : k ≤ 4000) (hn : n ≤ 40000) (hS : St_nextDay x m c x' m') (kk : mz_A g M_law_law room_1 res 1177 [(4, .int i), (3, .ref 82), (2, .ref 54), (1, .ref 0), (0, .float 0)] [] (mz_xi ex c) (x'.H, m'.H) (k + mz_ki c) (n + mz_6i c) F) : mz_A g M_law_law room_1 res 1166 [(4, .int i), (3, .ref 82), (2, .ref 54), (1, .ref 0), (0, .float 0)] [] ex (x.H, m.H) k n F := by
  obtain ⟨rx, rm, hx, hm, rfl, rfl, rfl⟩ := hS
  show mz_A g M_law_law room_1 res 1166 [(4, .int i), (3, .ref 82), (2, .ref 54), (1, .ref 0), (0, .float 0)] [] ex (HX x.x_members x.x_collaterals x.x_hasSent x.x_isSealed x.x_metered x.x_sealedCount x.bk_counts x.bk_needs x.bk_whens x.bk_sides x.bk_quantities x.bk_limits x.ag_toldLies x.ag_passedLies x.ag_words x.ag_vectors x.ag_liarOperator x.ag_rounds x.mk_entries x.mk_slots x.mk_remainders x.mk_blocks x.mk_blockBids x.mk_blockOffers x.mk_entryCount x.mk_blockCount x.cv_limits x.cv_bids x.cv_offers x.cv_count x.cv_allBids x.cv_allOffers x.cv_meetingPrice x.cv_sureBids x.cv_sureOffers x.cv_priceBids x.cv_priceOffers x.cv_volume x.cv_worth x.oc_prices x.oc_volumes x.oc_filled x.oc_worth x.oc_takenSet x.oc_isDone, HM m.m_thrown m.m_n m.m_collateral m.m_many m.m_need m.m_isBlock m.m_hours m.m_side m.m_quantity m.m_limit m.m_sent m.m_sealed m.m_rounds m.m_liar m.m_told m.m_passed m.m_vectors m.m_meters m.m_cleared m.m_prices m.m_trades m.m_fills m.m_welfares m.m_orderEntry m.m_orderFill m.m_orders m.m_blockEntry m.m_blockFill m.m_blocks m.m_price m.m_trade m.m_filled m.m_rest m.m_out) k n F
  have kk : mz_A g M_law_law room_1 res 1177 [(4, .int i), (3, .ref 82), (2, .ref 54), (1, .ref 0), (0, .float 0)] [] ex (HX x.x_members x.x_collaterals (rx.1) (rx.2.1) (rx.2.2.1) (rx.2.2.2.1) (rx.2.2.2.2.1) (rx.2.2.2.2.2.1) x.bk_whens x.bk_sides x.bk_quantities x.bk_limits (rx.2.2.2.2.2.2.1) (rx.2.2.2.2.2.2.2.1) x.ag_words (rx.2.2.2.2.2.2.2.2.1) (rx.2.2.2.2.2.2.2.2.2.1) (rx.2.2.2.2.2.2.2.2.2.2.1) x.mk_entries x.mk_slots x.mk_remainders x.mk_blocks x.mk_blockBids x.mk_blockOffers x.mk_entryCount x.mk_blockCount x.cv_limits x.cv_bids x.cv_offers x.cv_count x.cv_allBids x.cv_allOffers x.cv_meetingPrice x.cv_sureBids x.cv_sureOffers x.cv_priceBids x.cv_priceOffers x.cv_volume x.cv_worth x.oc_prices x.oc_volumes x.oc_filled x.oc_worth x.oc_takenSet (rx.2.2.2.2.2.2.2.2.2.2.2), HM (rm.1) m.m_n m.m_collateral (rm.2.1) (rm.2.2.1) m.m_isBlock m.m_hours m.m_side m.m_quantity m.m_limit (rm.2.2.2.1) (rm.2.2.2.2.1) (rm.2.2.2.2.2.1) (rm.2.2.2.2.2.2.1) (rm.2.2.2.2.2.2.2.1) (rm.2.2.2.2.2.2.2.2.1) m.m_vectors (rm.2.2.2.2.2.2.2.2.2.1) (rm.2.2.2.2.2.2.2.2.2.2) m.m_prices m.m_trades m.m_fills m.m_welfares m.m_orderEntry m.m_orderFill m.m_orders m.m_blockEntry m.m_blockFill m.m_blocks m.m_price m.m_trade m.m_filled m.m_rest m.m_out) k n F := kk
  refine mr_aload_n d_law_law_1166 rfl rfl ?_
  refine mz_goK (st := []) e_x_nextDay hx rfl U_x_nextDay (mz_vV d_law_law_1167 U_x_nextDay rfl lk_m_law_139 I_x_nextDay s_x_nextDay np_x_nextDay rfl rfl) (by decide) ⟨by decide, by decide, by show _ + 200 * 1 ≤ 601024; omega, by show _ + 20000 * 1 ≤ 7293000; omega⟩ ?_
  refine mr_eq (st' := []) (ex' := ex) (h2 := (HX x.x_members x.x_collaterals (rx.1) (rx.2.1) (rx.2.2.1) (rx.2.2.2.1) (rx.2.2.2.2.1) (rx.2.2.2.2.2.1) x.bk_whens x.bk_sides x.bk_quantities x.bk_limits (rx.2.2.2.2.2.2.1) (rx.2.2.2.2.2.2.2.1) x.ag_words (rx.2.2.2.2.2.2.2.2.1) (rx.2.2.2.2.2.2.2.2.2.1) (rx.2.2.2.2.2.2.2.2.2.2.1) x.mk_entries x.mk_slots x.mk_remainders x.mk_blocks x.mk_blockBids x.mk_blockOffers x.mk_entryCount x.mk_blockCount x.cv_limits x.cv_bids x.cv_offers x.cv_count x.cv_allBids x.cv_allOffers x.cv_meetingPrice x.cv_sureBids x.cv_sureOffers x.cv_priceBids x.cv_priceOffers x.cv_volume x.cv_worth x.oc_prices x.oc_volumes x.oc_filled x.oc_worth x.oc_takenSet (rx.2.2.2.2.2.2.2.2.2.2.2), HM m.m_thrown m.m_n m.m_collateral m.m_many m.m_need m.m_isBlock m.m_hours m.m_side m.m_quantity m.m_limit m.m_sent m.m_sealed m.m_rounds m.m_liar m.m_told m.m_passed m.m_vectors m.m_meters m.m_cleared m.m_prices m.m_trades m.m_fills m.m_welfares m.m_orderEntry m.m_orderFill m.m_orders m.m_blockEntry m.m_blockFill m.m_blocks m.m_price m.m_trade m.m_filled m.m_rest m.m_out)) (k' := k) (n' := n) rfl rfl rfl rfl rfl ?_
  refine mr_aload_n d_law_law_1170 rfl rfl ?_
  refine mz_goK (st := []) e_m_nextDay hm rfl U_m_nextDay (mz_vV d_law_law_1171 U_m_nextDay rfl lk_m_law_142 I_m_nextDay s_m_nextDay np_m_nextDay rfl rfl) (by decide) ⟨by decide, by decide, by show _ + 200 * 1 ≤ 601024; omega, by show _ + 20000 * 1 ≤ 7293000; omega⟩ ?_
  refine mr_eq (st' := []) (ex' := ex) (h2 := (HX x.x_members x.x_collaterals (rx.1) (rx.2.1) (rx.2.2.1) (rx.2.2.2.1) (rx.2.2.2.2.1) (rx.2.2.2.2.2.1) x.bk_whens x.bk_sides x.bk_quantities x.bk_limits (rx.2.2.2.2.2.2.1) (rx.2.2.2.2.2.2.2.1) x.ag_words (rx.2.2.2.2.2.2.2.2.1) (rx.2.2.2.2.2.2.2.2.2.1) (rx.2.2.2.2.2.2.2.2.2.2.1) x.mk_entries x.mk_slots x.mk_remainders x.mk_blocks x.mk_blockBids x.mk_blockOffers x.mk_entryCount x.mk_blockCount x.cv_limits x.cv_bids x.cv_offers x.cv_count x.cv_allBids x.cv_allOffers x.cv_meetingPrice x.cv_sureBids x.cv_sureOffers x.cv_priceBids x.cv_priceOffers x.cv_volume x.cv_worth x.oc_prices x.oc_volumes x.oc_filled x.oc_worth x.oc_takenSet (rx.2.2.2.2.2.2.2.2.2.2.2), HM (rm.1) m.m_n m.m_collateral (rm.2.1) (rm.2.2.1) m.m_isBlock m.m_hours m.m_side m.m_quantity m.m_limit (rm.2.2.2.1) (rm.2.2.2.2.1) (rm.2.2.2.2.2.1) (rm.2.2.2.2.2.2.1) (rm.2.2.2.2.2.2.2.1) (rm.2.2.2.2.2.2.2.2.1) m.m_vectors (rm.2.2.2.2.2.2.2.2.2.1) (rm.2.2.2.2.2.2.2.2.2.2) m.m_prices m.m_trades m.m_fills m.m_welfares m.m_orderEntry m.m_orderFill m.m_orders m.m_blockEntry m.m_blockFill m.m_blocks m.m_price m.m_trade m.m_filled m.m_rest m.m_out)) (k' := k) (n' := n) rfl rfl rfl rfl rfl ?_
  refine mr_goto (tgt := 1177) d_law_law_1174 (by decide) ?_
  refine mr_sub (lv' := [(4, .int i), (3, .ref 82), (2, .ref 54), (1, .ref 0), (0, .float 0)]) [0, 1, 2, 3, 4] rfl ?_
  exact kk
theorem w_head0 {β : Type} {g : mz_G} {res : β → mz_S} {ex : Bool} {k n : Nat} {F : Option β} {h : mz_H} {i : Int32} (hi0 : vp_in i (mz_L g)) (hlt : ¬ Int32.ofNat (mz_L g) - 7 < i) (hy : mz_xs g i.toNatClampNeg &&& 15 = 0) (kk : mz_A g M_law_law room_1 res 128 [(4, .int i), (3, .ref 82), (2, .ref 54), (1, .ref 0), (0, .float 0)] [] ex h k n F) : mz_A g M_law_law room_1 res 33 [(4, .int i), (3, .ref 82), (2, .ref 54), (1, .ref 0), (0, .float 0)] [] ex h k n F := by
  refine mr_iload d_law_law_33 rfl ?_
  refine mr_aload_nS d_law_law_35 rfl rfl ?_
  refine mr_slen d_law_law_36 ?_
  refine mr_bipush (v := 7) d_law_law_37 (by decide) ?_
  refine mr_isub d_law_law_39 ?_
  refine mr_icmp_gtF (tgt := 1183) d_law_law_40 (by decide) hlt ?_
  refine mr_aload_nS d_law_law_43 rfl rfl ?_
  refine mr_iload d_law_law_44 rfl ?_
  refine mr_sldK d_law_law_46 hi0 ?_
  refine mr_bipush (v := 15) d_law_law_47 (by decide) ?_
  refine mr_iand d_law_law_49 ?_
  exact mr_tIn (y := 0) (off := 78) (tgt := 128) d_law_law_50 hy (by decide) (by decide) (by decide) (by decide) kk
theorem w_head1 {β : Type} {g : mz_G} {res : β → mz_S} {ex : Bool} {k n : Nat} {F : Option β} {h : mz_H} {i : Int32} (hi0 : vp_in i (mz_L g)) (hlt : ¬ Int32.ofNat (mz_L g) - 7 < i) (hy : mz_xs g i.toNatClampNeg &&& 15 = 1) (kk : mz_A g M_law_law room_1 res 176 [(4, .int i), (3, .ref 82), (2, .ref 54), (1, .ref 0), (0, .float 0)] [] ex h k n F) : mz_A g M_law_law room_1 res 33 [(4, .int i), (3, .ref 82), (2, .ref 54), (1, .ref 0), (0, .float 0)] [] ex h k n F := by
  refine mr_iload d_law_law_33 rfl ?_
  refine mr_aload_nS d_law_law_35 rfl rfl ?_
  refine mr_slen d_law_law_36 ?_
  refine mr_bipush (v := 7) d_law_law_37 (by decide) ?_
  refine mr_isub d_law_law_39 ?_
  refine mr_icmp_gtF (tgt := 1183) d_law_law_40 (by decide) hlt ?_
  refine mr_aload_nS d_law_law_43 rfl rfl ?_
  refine mr_iload d_law_law_44 rfl ?_
  refine mr_sldK d_law_law_46 hi0 ?_
  refine mr_bipush (v := 15) d_law_law_47 (by decide) ?_
  refine mr_iand d_law_law_49 ?_
  exact mr_tIn (y := 1) (off := 126) (tgt := 176) d_law_law_50 hy (by decide) (by decide) (by decide) (by decide) kk
theorem w_head2 {β : Type} {g : mz_G} {res : β → mz_S} {ex : Bool} {k n : Nat} {F : Option β} {h : mz_H} {i : Int32} (hi0 : vp_in i (mz_L g)) (hlt : ¬ Int32.ofNat (mz_L g) - 7 < i) (hy : mz_xs g i.toNatClampNeg &&& 15 = 2) (kk : mz_A g M_law_law room_1 res 294 [(4, .int i), (3, .ref 82), (2, .ref 54), (1, .ref 0), (0, .float 0)] [] ex h k n F) : mz_A g M_law_law room_1 res 33 [(4, .int i), (3, .ref 82), (2, .ref 54), (1, .ref 0), (0, .float 0)] [] ex h k n F := by
  refine mr_iload d_law_law_33 rfl ?_
  refine mr_aload_nS d_law_law_35 rfl rfl ?_
  refine mr_slen d_law_law_36 ?_
  refine mr_bipush (v := 7) d_law_law_37 (by decide) ?_
  refine mr_isub d_law_law_39 ?_
  refine mr_icmp_gtF (tgt := 1183) d_law_law_40 (by decide) hlt ?_
  refine mr_aload_nS d_law_law_43 rfl rfl ?_
  refine mr_iload d_law_law_44 rfl ?_
  refine mr_sldK d_law_law_46 hi0 ?_
  refine mr_bipush (v := 15) d_law_law_47 (by decide) ?_
  refine mr_iand d_law_law_49 ?_
  exact mr_tIn (y := 2) (off := 244) (tgt := 294) d_law_law_50 hy (by decide) (by decide) (by decide) (by decide) kk
theorem w_head3 {β : Type} {g : mz_G} {res : β → mz_S} {ex : Bool} {k n : Nat} {F : Option β} {h : mz_H} {i : Int32} (hi0 : vp_in i (mz_L g)) (hlt : ¬ Int32.ofNat (mz_L g) - 7 < i) (hy : mz_xs g i.toNatClampNeg &&& 15 = 3) (kk : mz_A g M_law_law room_1 res 412 [(4, .int i), (3, .ref 82), (2, .ref 54), (1, .ref 0), (0, .float 0)] [] ex h k n F) : mz_A g M_law_law room_1 res 33 [(4, .int i), (3, .ref 82), (2, .ref 54), (1, .ref 0), (0, .float 0)] [] ex h k n F := by
  refine mr_iload d_law_law_33 rfl ?_
  refine mr_aload_nS d_law_law_35 rfl rfl ?_
  refine mr_slen d_law_law_36 ?_
  refine mr_bipush (v := 7) d_law_law_37 (by decide) ?_
  refine mr_isub d_law_law_39 ?_
  refine mr_icmp_gtF (tgt := 1183) d_law_law_40 (by decide) hlt ?_
  refine mr_aload_nS d_law_law_43 rfl rfl ?_
  refine mr_iload d_law_law_44 rfl ?_
  refine mr_sldK d_law_law_46 hi0 ?_
  refine mr_bipush (v := 15) d_law_law_47 (by decide) ?_
  refine mr_iand d_law_law_49 ?_
  exact mr_tIn (y := 3) (off := 362) (tgt := 412) d_law_law_50 hy (by decide) (by decide) (by decide) (by decide) kk
theorem w_head4 {β : Type} {g : mz_G} {res : β → mz_S} {ex : Bool} {k n : Nat} {F : Option β} {h : mz_H} {i : Int32} (hi0 : vp_in i (mz_L g)) (hlt : ¬ Int32.ofNat (mz_L g) - 7 < i) (hy : mz_xs g i.toNatClampNeg &&& 15 = 4) (kk : mz_A g M_law_law room_1 res 468 [(4, .int i), (3, .ref 82), (2, .ref 54), (1, .ref 0), (0, .float 0)] [] ex h k n F) : mz_A g M_law_law room_1 res 33 [(4, .int i), (3, .ref 82), (2, .ref 54), (1, .ref 0), (0, .float 0)] [] ex h k n F := by
  refine mr_iload d_law_law_33 rfl ?_
  refine mr_aload_nS d_law_law_35 rfl rfl ?_
  refine mr_slen d_law_law_36 ?_
  refine mr_bipush (v := 7) d_law_law_37 (by decide) ?_
  refine mr_isub d_law_law_39 ?_
  refine mr_icmp_gtF (tgt := 1183) d_law_law_40 (by decide) hlt ?_
  refine mr_aload_nS d_law_law_43 rfl rfl ?_
  refine mr_iload d_law_law_44 rfl ?_
  refine mr_sldK d_law_law_46 hi0 ?_
  refine mr_bipush (v := 15) d_law_law_47 (by decide) ?_
  refine mr_iand d_law_law_49 ?_
  exact mr_tIn (y := 4) (off := 418) (tgt := 468) d_law_law_50 hy (by decide) (by decide) (by decide) (by decide) kk
theorem w_head5 {β : Type} {g : mz_G} {res : β → mz_S} {ex : Bool} {k n : Nat} {F : Option β} {h : mz_H} {i : Int32} (hi0 : vp_in i (mz_L g)) (hlt : ¬ Int32.ofNat (mz_L g) - 7 < i) (hy : mz_xs g i.toNatClampNeg &&& 15 = 5) (kk : mz_A g M_law_law room_1 res 504 [(4, .int i), (3, .ref 82), (2, .ref 54), (1, .ref 0), (0, .float 0)] [] ex h k n F) : mz_A g M_law_law room_1 res 33 [(4, .int i), (3, .ref 82), (2, .ref 54), (1, .ref 0), (0, .float 0)] [] ex h k n F := by
  refine mr_iload d_law_law_33 rfl ?_
  refine mr_aload_nS d_law_law_35 rfl rfl ?_
  refine mr_slen d_law_law_36 ?_
  refine mr_bipush (v := 7) d_law_law_37 (by decide) ?_
  refine mr_isub d_law_law_39 ?_
  refine mr_icmp_gtF (tgt := 1183) d_law_law_40 (by decide) hlt ?_
  refine mr_aload_nS d_law_law_43 rfl rfl ?_
  refine mr_iload d_law_law_44 rfl ?_
  refine mr_sldK d_law_law_46 hi0 ?_
  refine mr_bipush (v := 15) d_law_law_47 (by decide) ?_
  refine mr_iand d_law_law_49 ?_
  exact mr_tIn (y := 5) (off := 454) (tgt := 504) d_law_law_50 hy (by decide) (by decide) (by decide) (by decide) kk
theorem w_head6 {β : Type} {g : mz_G} {res : β → mz_S} {ex : Bool} {k n : Nat} {F : Option β} {h : mz_H} {i : Int32} (hi0 : vp_in i (mz_L g)) (hlt : ¬ Int32.ofNat (mz_L g) - 7 < i) (hy : mz_xs g i.toNatClampNeg &&& 15 = 6) (kk : mz_A g M_law_law room_1 res 576 [(4, .int i), (3, .ref 82), (2, .ref 54), (1, .ref 0), (0, .float 0)] [] ex h k n F) : mz_A g M_law_law room_1 res 33 [(4, .int i), (3, .ref 82), (2, .ref 54), (1, .ref 0), (0, .float 0)] [] ex h k n F := by
  refine mr_iload d_law_law_33 rfl ?_
  refine mr_aload_nS d_law_law_35 rfl rfl ?_
  refine mr_slen d_law_law_36 ?_
  refine mr_bipush (v := 7) d_law_law_37 (by decide) ?_
  refine mr_isub d_law_law_39 ?_
  refine mr_icmp_gtF (tgt := 1183) d_law_law_40 (by decide) hlt ?_
  refine mr_aload_nS d_law_law_43 rfl rfl ?_
  refine mr_iload d_law_law_44 rfl ?_
  refine mr_sldK d_law_law_46 hi0 ?_
  refine mr_bipush (v := 15) d_law_law_47 (by decide) ?_
  refine mr_iand d_law_law_49 ?_
  exact mr_tIn (y := 6) (off := 526) (tgt := 576) d_law_law_50 hy (by decide) (by decide) (by decide) (by decide) kk
theorem w_head7 {β : Type} {g : mz_G} {res : β → mz_S} {ex : Bool} {k n : Nat} {F : Option β} {h : mz_H} {i : Int32} (hi0 : vp_in i (mz_L g)) (hlt : ¬ Int32.ofNat (mz_L g) - 7 < i) (hy : mz_xs g i.toNatClampNeg &&& 15 = 7) (kk : mz_A g M_law_law room_1 res 620 [(4, .int i), (3, .ref 82), (2, .ref 54), (1, .ref 0), (0, .float 0)] [] ex h k n F) : mz_A g M_law_law room_1 res 33 [(4, .int i), (3, .ref 82), (2, .ref 54), (1, .ref 0), (0, .float 0)] [] ex h k n F := by
  refine mr_iload d_law_law_33 rfl ?_
  refine mr_aload_nS d_law_law_35 rfl rfl ?_
  refine mr_slen d_law_law_36 ?_
  refine mr_bipush (v := 7) d_law_law_37 (by decide) ?_
  refine mr_isub d_law_law_39 ?_
  refine mr_icmp_gtF (tgt := 1183) d_law_law_40 (by decide) hlt ?_
  refine mr_aload_nS d_law_law_43 rfl rfl ?_
  refine mr_iload d_law_law_44 rfl ?_
  refine mr_sldK d_law_law_46 hi0 ?_
  refine mr_bipush (v := 15) d_law_law_47 (by decide) ?_
  refine mr_iand d_law_law_49 ?_
  exact mr_tIn (y := 7) (off := 570) (tgt := 620) d_law_law_50 hy (by decide) (by decide) (by decide) (by decide) kk
theorem w_head8 {β : Type} {g : mz_G} {res : β → mz_S} {ex : Bool} {k n : Nat} {F : Option β} {h : mz_H} {i : Int32} (hi0 : vp_in i (mz_L g)) (hlt : ¬ Int32.ofNat (mz_L g) - 7 < i) (hy : mz_xs g i.toNatClampNeg &&& 15 = 8) (kk : mz_A g M_law_law room_1 res 712 [(4, .int i), (3, .ref 82), (2, .ref 54), (1, .ref 0), (0, .float 0)] [] ex h k n F) : mz_A g M_law_law room_1 res 33 [(4, .int i), (3, .ref 82), (2, .ref 54), (1, .ref 0), (0, .float 0)] [] ex h k n F := by
  refine mr_iload d_law_law_33 rfl ?_
  refine mr_aload_nS d_law_law_35 rfl rfl ?_
  refine mr_slen d_law_law_36 ?_
  refine mr_bipush (v := 7) d_law_law_37 (by decide) ?_
  refine mr_isub d_law_law_39 ?_
  refine mr_icmp_gtF (tgt := 1183) d_law_law_40 (by decide) hlt ?_
  refine mr_aload_nS d_law_law_43 rfl rfl ?_
  refine mr_iload d_law_law_44 rfl ?_
  refine mr_sldK d_law_law_46 hi0 ?_
  refine mr_bipush (v := 15) d_law_law_47 (by decide) ?_
  refine mr_iand d_law_law_49 ?_
  exact mr_tIn (y := 8) (off := 662) (tgt := 712) d_law_law_50 hy (by decide) (by decide) (by decide) (by decide) kk
theorem w_head9 {β : Type} {g : mz_G} {res : β → mz_S} {ex : Bool} {k n : Nat} {F : Option β} {h : mz_H} {i : Int32} (hi0 : vp_in i (mz_L g)) (hlt : ¬ Int32.ofNat (mz_L g) - 7 < i) (hy : mz_xs g i.toNatClampNeg &&& 15 = 9) (kk : mz_A g M_law_law room_1 res 768 [(4, .int i), (3, .ref 82), (2, .ref 54), (1, .ref 0), (0, .float 0)] [] ex h k n F) : mz_A g M_law_law room_1 res 33 [(4, .int i), (3, .ref 82), (2, .ref 54), (1, .ref 0), (0, .float 0)] [] ex h k n F := by
  refine mr_iload d_law_law_33 rfl ?_
  refine mr_aload_nS d_law_law_35 rfl rfl ?_
  refine mr_slen d_law_law_36 ?_
  refine mr_bipush (v := 7) d_law_law_37 (by decide) ?_
  refine mr_isub d_law_law_39 ?_
  refine mr_icmp_gtF (tgt := 1183) d_law_law_40 (by decide) hlt ?_
  refine mr_aload_nS d_law_law_43 rfl rfl ?_
  refine mr_iload d_law_law_44 rfl ?_
  refine mr_sldK d_law_law_46 hi0 ?_
  refine mr_bipush (v := 15) d_law_law_47 (by decide) ?_
  refine mr_iand d_law_law_49 ?_
  exact mr_tIn (y := 9) (off := 718) (tgt := 768) d_law_law_50 hy (by decide) (by decide) (by decide) (by decide) kk
theorem w_head10 {β : Type} {g : mz_G} {res : β → mz_S} {ex : Bool} {k n : Nat} {F : Option β} {h : mz_H} {i : Int32} (hi0 : vp_in i (mz_L g)) (hlt : ¬ Int32.ofNat (mz_L g) - 7 < i) (hy : mz_xs g i.toNatClampNeg &&& 15 = 10) (kk : mz_A g M_law_law room_1 res 836 [(4, .int i), (3, .ref 82), (2, .ref 54), (1, .ref 0), (0, .float 0)] [] ex h k n F) : mz_A g M_law_law room_1 res 33 [(4, .int i), (3, .ref 82), (2, .ref 54), (1, .ref 0), (0, .float 0)] [] ex h k n F := by
  refine mr_iload d_law_law_33 rfl ?_
  refine mr_aload_nS d_law_law_35 rfl rfl ?_
  refine mr_slen d_law_law_36 ?_
  refine mr_bipush (v := 7) d_law_law_37 (by decide) ?_
  refine mr_isub d_law_law_39 ?_
  refine mr_icmp_gtF (tgt := 1183) d_law_law_40 (by decide) hlt ?_
  refine mr_aload_nS d_law_law_43 rfl rfl ?_
  refine mr_iload d_law_law_44 rfl ?_
  refine mr_sldK d_law_law_46 hi0 ?_
  refine mr_bipush (v := 15) d_law_law_47 (by decide) ?_
  refine mr_iand d_law_law_49 ?_
  exact mr_tIn (y := 10) (off := 786) (tgt := 836) d_law_law_50 hy (by decide) (by decide) (by decide) (by decide) kk
theorem w_head11 {β : Type} {g : mz_G} {res : β → mz_S} {ex : Bool} {k n : Nat} {F : Option β} {h : mz_H} {i : Int32} (hi0 : vp_in i (mz_L g)) (hlt : ¬ Int32.ofNat (mz_L g) - 7 < i) (hy : mz_xs g i.toNatClampNeg &&& 15 = 11) (kk : mz_A g M_law_law room_1 res 904 [(4, .int i), (3, .ref 82), (2, .ref 54), (1, .ref 0), (0, .float 0)] [] ex h k n F) : mz_A g M_law_law room_1 res 33 [(4, .int i), (3, .ref 82), (2, .ref 54), (1, .ref 0), (0, .float 0)] [] ex h k n F := by
  refine mr_iload d_law_law_33 rfl ?_
  refine mr_aload_nS d_law_law_35 rfl rfl ?_
  refine mr_slen d_law_law_36 ?_
  refine mr_bipush (v := 7) d_law_law_37 (by decide) ?_
  refine mr_isub d_law_law_39 ?_
  refine mr_icmp_gtF (tgt := 1183) d_law_law_40 (by decide) hlt ?_
  refine mr_aload_nS d_law_law_43 rfl rfl ?_
  refine mr_iload d_law_law_44 rfl ?_
  refine mr_sldK d_law_law_46 hi0 ?_
  refine mr_bipush (v := 15) d_law_law_47 (by decide) ?_
  refine mr_iand d_law_law_49 ?_
  exact mr_tIn (y := 11) (off := 854) (tgt := 904) d_law_law_50 hy (by decide) (by decide) (by decide) (by decide) kk
theorem w_head12 {β : Type} {g : mz_G} {res : β → mz_S} {ex : Bool} {k n : Nat} {F : Option β} {h : mz_H} {i : Int32} (hi0 : vp_in i (mz_L g)) (hlt : ¬ Int32.ofNat (mz_L g) - 7 < i) (hy : mz_xs g i.toNatClampNeg &&& 15 = 12) (kk : mz_A g M_law_law room_1 res 984 [(4, .int i), (3, .ref 82), (2, .ref 54), (1, .ref 0), (0, .float 0)] [] ex h k n F) : mz_A g M_law_law room_1 res 33 [(4, .int i), (3, .ref 82), (2, .ref 54), (1, .ref 0), (0, .float 0)] [] ex h k n F := by
  refine mr_iload d_law_law_33 rfl ?_
  refine mr_aload_nS d_law_law_35 rfl rfl ?_
  refine mr_slen d_law_law_36 ?_
  refine mr_bipush (v := 7) d_law_law_37 (by decide) ?_
  refine mr_isub d_law_law_39 ?_
  refine mr_icmp_gtF (tgt := 1183) d_law_law_40 (by decide) hlt ?_
  refine mr_aload_nS d_law_law_43 rfl rfl ?_
  refine mr_iload d_law_law_44 rfl ?_
  refine mr_sldK d_law_law_46 hi0 ?_
  refine mr_bipush (v := 15) d_law_law_47 (by decide) ?_
  refine mr_iand d_law_law_49 ?_
  exact mr_tIn (y := 12) (off := 934) (tgt := 984) d_law_law_50 hy (by decide) (by decide) (by decide) (by decide) kk
theorem w_head13 {β : Type} {g : mz_G} {res : β → mz_S} {ex : Bool} {k n : Nat} {F : Option β} {h : mz_H} {i : Int32} (hi0 : vp_in i (mz_L g)) (hlt : ¬ Int32.ofNat (mz_L g) - 7 < i) (hy : mz_xs g i.toNatClampNeg &&& 15 = 13) (kk : mz_A g M_law_law room_1 res 1039 [(4, .int i), (3, .ref 82), (2, .ref 54), (1, .ref 0), (0, .float 0)] [] ex h k n F) : mz_A g M_law_law room_1 res 33 [(4, .int i), (3, .ref 82), (2, .ref 54), (1, .ref 0), (0, .float 0)] [] ex h k n F := by
  refine mr_iload d_law_law_33 rfl ?_
  refine mr_aload_nS d_law_law_35 rfl rfl ?_
  refine mr_slen d_law_law_36 ?_
  refine mr_bipush (v := 7) d_law_law_37 (by decide) ?_
  refine mr_isub d_law_law_39 ?_
  refine mr_icmp_gtF (tgt := 1183) d_law_law_40 (by decide) hlt ?_
  refine mr_aload_nS d_law_law_43 rfl rfl ?_
  refine mr_iload d_law_law_44 rfl ?_
  refine mr_sldK d_law_law_46 hi0 ?_
  refine mr_bipush (v := 15) d_law_law_47 (by decide) ?_
  refine mr_iand d_law_law_49 ?_
  exact mr_tIn (y := 13) (off := 989) (tgt := 1039) d_law_law_50 hy (by decide) (by decide) (by decide) (by decide) kk
theorem w_head14 {β : Type} {g : mz_G} {res : β → mz_S} {ex : Bool} {k n : Nat} {F : Option β} {h : mz_H} {i : Int32} (hi0 : vp_in i (mz_L g)) (hlt : ¬ Int32.ofNat (mz_L g) - 7 < i) (hy : mz_xs g i.toNatClampNeg &&& 15 = 14) (kk : mz_A g M_law_law room_1 res 1099 [(4, .int i), (3, .ref 82), (2, .ref 54), (1, .ref 0), (0, .float 0)] [] ex h k n F) : mz_A g M_law_law room_1 res 33 [(4, .int i), (3, .ref 82), (2, .ref 54), (1, .ref 0), (0, .float 0)] [] ex h k n F := by
  refine mr_iload d_law_law_33 rfl ?_
  refine mr_aload_nS d_law_law_35 rfl rfl ?_
  refine mr_slen d_law_law_36 ?_
  refine mr_bipush (v := 7) d_law_law_37 (by decide) ?_
  refine mr_isub d_law_law_39 ?_
  refine mr_icmp_gtF (tgt := 1183) d_law_law_40 (by decide) hlt ?_
  refine mr_aload_nS d_law_law_43 rfl rfl ?_
  refine mr_iload d_law_law_44 rfl ?_
  refine mr_sldK d_law_law_46 hi0 ?_
  refine mr_bipush (v := 15) d_law_law_47 (by decide) ?_
  refine mr_iand d_law_law_49 ?_
  exact mr_tIn (y := 14) (off := 1049) (tgt := 1099) d_law_law_50 hy (by decide) (by decide) (by decide) (by decide) kk
theorem w_head15 {β : Type} {g : mz_G} {res : β → mz_S} {ex : Bool} {k n : Nat} {F : Option β} {h : mz_H} {i : Int32} (hi0 : vp_in i (mz_L g)) (hlt : ¬ Int32.ofNat (mz_L g) - 7 < i) (hy : mz_xs g i.toNatClampNeg &&& 15 = 15) (kk : mz_A g M_law_law room_1 res 1166 [(4, .int i), (3, .ref 82), (2, .ref 54), (1, .ref 0), (0, .float 0)] [] ex h k n F) : mz_A g M_law_law room_1 res 33 [(4, .int i), (3, .ref 82), (2, .ref 54), (1, .ref 0), (0, .float 0)] [] ex h k n F := by
  refine mr_iload d_law_law_33 rfl ?_
  refine mr_aload_nS d_law_law_35 rfl rfl ?_
  refine mr_slen d_law_law_36 ?_
  refine mr_bipush (v := 7) d_law_law_37 (by decide) ?_
  refine mr_isub d_law_law_39 ?_
  refine mr_icmp_gtF (tgt := 1183) d_law_law_40 (by decide) hlt ?_
  refine mr_aload_nS d_law_law_43 rfl rfl ?_
  refine mr_iload d_law_law_44 rfl ?_
  refine mr_sldK d_law_law_46 hi0 ?_
  refine mr_bipush (v := 15) d_law_law_47 (by decide) ?_
  refine mr_iand d_law_law_49 ?_
  exact mr_tIn (y := 15) (off := 1116) (tgt := 1166) d_law_law_50 hy (by decide) (by decide) (by decide) (by decide) kk
theorem w_inc {β : Type} {g : mz_G} {res : β → mz_S} {ex : Bool} {k n : Nat} {F : Option β} {h : mz_H} {i i2 : Int32} (he : i + 7 = i2) (kk : mz_A g M_law_law room_1 res 33 [(4, .int i2), (3, .ref 82), (2, .ref 54), (1, .ref 0), (0, .float 0)] [] ex h k n F) : mz_A g M_law_law room_1 res 1177 [(4, .int i), (3, .ref 82), (2, .ref 54), (1, .ref 0), (0, .float 0)] [] ex h k n F := by
  refine mr_iinc (v := i2) (lv' := [(4, .int i2), (3, .ref 82), (2, .ref 54), (1, .ref 0), (0, .float 0)]) d_law_law_1177 rfl he (by decide) rfl ?_
  exact mr_goto (tgt := 33) d_law_law_1180 (by decide) kk
theorem w_end {g : mz_G} {ex : Bool} {k n : Nat} {h : mz_H} {i : Int32} (hlt : Int32.ofNat (mz_L g) - 7 < i) : mz_A g M_law_law room_1 (fun S : mz_S => S) 33 [(4, .int i), (3, .ref 82), (2, .ref 54), (1, .ref 0), (0, .float 0)] [] ex h k n (some (0, some (.int 1), ex, h, k, n)) := by
  refine mr_iload d_law_law_33 rfl ?_
  refine mr_aload_nS d_law_law_35 rfl rfl ?_
  refine mr_slen d_law_law_36 ?_
  refine mr_bipush (v := 7) d_law_law_37 (by decide) ?_
  refine mr_isub d_law_law_39 ?_
  refine mr_icmp_gtT (tgt := 1183) d_law_law_40 (by decide) hlt ?_
  refine mr_iconst (v := 1) d_law_law_1183 (by decide) ?_
  exact mr_zret d_law_law_1184 rfl rfl
