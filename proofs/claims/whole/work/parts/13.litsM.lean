theorem lk_0 : (0 : Int32).toNatClampNeg = 0 := by decide +kernel
theorem vk_0_2 : vp_in 0 2 := vp_lit (by decide +kernel)
theorem vk_0_5 : vp_in 0 5 := vp_lit (by decide +kernel)
theorem vk_0_8 : vp_in 0 8 := vp_lit (by decide +kernel)
theorem lk_1 : (1 : Int32).toNatClampNeg = 1 := by decide +kernel
theorem vk_1_2 : vp_in 1 2 := vp_lit (by decide +kernel)
theorem vk_1_5 : vp_in 1 5 := vp_lit (by decide +kernel)
theorem vk_1_8 : vp_in 1 8 := vp_lit (by decide +kernel)
theorem lk_2 : (2 : Int32).toNatClampNeg = 2 := by decide +kernel
theorem vk_2_5 : vp_in 2 5 := vp_lit (by decide +kernel)
theorem vk_2_8 : vp_in 2 8 := vp_lit (by decide +kernel)
theorem lk_3 : (3 : Int32).toNatClampNeg = 3 := by decide +kernel
theorem vk_3_5 : vp_in 3 5 := vp_lit (by decide +kernel)
theorem vk_3_8 : vp_in 3 8 := vp_lit (by decide +kernel)
theorem lk_4 : (4 : Int32).toNatClampNeg = 4 := by decide +kernel
theorem vk_4_5 : vp_in 4 5 := vp_lit (by decide +kernel)
theorem vk_4_8 : vp_in 4 8 := vp_lit (by decide +kernel)
theorem lk_5 : (5 : Int32).toNatClampNeg = 5 := by decide +kernel
theorem vk_5_7 : vp_in 5 7 := vp_lit (by decide +kernel)
theorem vk_5_8 : vp_in 5 8 := vp_lit (by decide +kernel)
theorem lk_6 : (6 : Int32).toNatClampNeg = 6 := by decide +kernel
theorem vk_6_7 : vp_in 6 7 := vp_lit (by decide +kernel)
theorem vk_6_8 : vp_in 6 8 := vp_lit (by decide +kernel)
theorem lk_7 : (7 : Int32).toNatClampNeg = 7 := by decide +kernel
theorem vk_7_8 : vp_in 7 8 := vp_lit (by decide +kernel)
theorem lk_395 : (395 : Int32).toNatClampNeg = 395 := by decide +kernel
theorem vk_395_6012 : vp_in 395 6012 := vp_lit (by decide +kernel)
theorem lk_396 : (396 : Int32).toNatClampNeg = 396 := by decide +kernel
theorem vk_396_6012 : vp_in 396 6012 := vp_lit (by decide +kernel)
theorem lk_397 : (397 : Int32).toNatClampNeg = 397 := by decide +kernel
theorem vk_397_6012 : vp_in 397 6012 := vp_lit (by decide +kernel)
theorem lk_398 : (398 : Int32).toNatClampNeg = 398 := by decide +kernel
theorem vk_398_6012 : vp_in 398 6012 := vp_lit (by decide +kernel)
theorem lk_399 : (399 : Int32).toNatClampNeg = 399 := by decide +kernel
theorem vk_399_6012 : vp_in 399 6012 := vp_lit (by decide +kernel)
theorem lk_400 : (400 : Int32).toNatClampNeg = 400 := by decide +kernel
theorem vk_400_6012 : vp_in 400 6012 := vp_lit (by decide +kernel)
theorem lk_401 : (401 : Int32).toNatClampNeg = 401 := by decide +kernel
theorem vk_401_6012 : vp_in 401 6012 := vp_lit (by decide +kernel)
theorem lk_402 : (402 : Int32).toNatClampNeg = 402 := by decide +kernel
theorem vk_402_6012 : vp_in 402 6012 := vp_lit (by decide +kernel)
theorem lk_403 : (403 : Int32).toNatClampNeg = 403 := by decide +kernel
theorem vk_403_6012 : vp_in 403 6012 := vp_lit (by decide +kernel)
theorem lk_404 : (404 : Int32).toNatClampNeg = 404 := by decide +kernel
theorem vk_404_6012 : vp_in 404 6012 := vp_lit (by decide +kernel)
theorem lk_411 : (411 : Int32).toNatClampNeg = 411 := by decide +kernel
theorem vk_411_6012 : vp_in 411 6012 := vp_lit (by decide +kernel)
