/-! THE CLAIM. -/
theorem wp_all : wp_All := wp_pure
theorem i_vc : Claimed_1_1 ∧ Claimed_1_2 := wh_vc wp_all
