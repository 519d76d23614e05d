theorem vk_0_16 : vp_in 0 16 := vp_lit (by decide +kernel)
theorem vk_0_4 : vp_in 0 4 := vp_lit (by decide +kernel)
theorem vk_1_4 : vp_in 1 4 := vp_lit (by decide +kernel)
theorem vk_2_16 : vp_in 2 16 := vp_lit (by decide +kernel)
theorem vk_2_4 : vp_in 2 4 := vp_lit (by decide +kernel)
theorem vk_3_16 : vp_in 3 16 := vp_lit (by decide +kernel)
theorem vk_3_4 : vp_in 3 4 := vp_lit (by decide +kernel)
theorem lk_99 : (99 : Int32).toNatClampNeg = 99 := by decide +kernel
theorem vk_99_100 : vp_in 99 100 := vp_lit (by decide +kernel)
