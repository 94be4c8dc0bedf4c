theorem pm_ckk_318 : pm_ckm 318 = true := by
  refine List.all_eq_true.mpr fun pc h => ?_
  have h : pc < 2521 := List.mem_range.mp h
  by_cases h0 : pc < 40
  · exact List.all_eq_true.mp pm_ckp_318_0 pc (List.mem_range'_1.mpr ⟨by omega, by omega⟩)
  by_cases h40 : pc < 80
  · exact List.all_eq_true.mp pm_ckp_318_40 pc (List.mem_range'_1.mpr ⟨by omega, by omega⟩)
  by_cases h80 : pc < 120
  · exact List.all_eq_true.mp pm_ckp_318_80 pc (List.mem_range'_1.mpr ⟨by omega, by omega⟩)
  by_cases h120 : pc < 160
  · exact List.all_eq_true.mp pm_ckp_318_120 pc (List.mem_range'_1.mpr ⟨by omega, by omega⟩)
  by_cases h160 : pc < 200
  · exact List.all_eq_true.mp pm_ckp_318_160 pc (List.mem_range'_1.mpr ⟨by omega, by omega⟩)
  by_cases h200 : pc < 240
  · exact List.all_eq_true.mp pm_ckp_318_200 pc (List.mem_range'_1.mpr ⟨by omega, by omega⟩)
  by_cases h240 : pc < 280
  · exact List.all_eq_true.mp pm_ckp_318_240 pc (List.mem_range'_1.mpr ⟨by omega, by omega⟩)
  by_cases h280 : pc < 320
  · exact List.all_eq_true.mp pm_ckp_318_280 pc (List.mem_range'_1.mpr ⟨by omega, by omega⟩)
  by_cases h320 : pc < 360
  · exact List.all_eq_true.mp pm_ckp_318_320 pc (List.mem_range'_1.mpr ⟨by omega, by omega⟩)
  by_cases h360 : pc < 400
  · exact List.all_eq_true.mp pm_ckp_318_360 pc (List.mem_range'_1.mpr ⟨by omega, by omega⟩)
  by_cases h400 : pc < 440
  · exact List.all_eq_true.mp pm_ckp_318_400 pc (List.mem_range'_1.mpr ⟨by omega, by omega⟩)
  by_cases h440 : pc < 480
  · exact List.all_eq_true.mp pm_ckp_318_440 pc (List.mem_range'_1.mpr ⟨by omega, by omega⟩)
  by_cases h480 : pc < 520
  · exact List.all_eq_true.mp pm_ckp_318_480 pc (List.mem_range'_1.mpr ⟨by omega, by omega⟩)
  by_cases h520 : pc < 560
  · exact List.all_eq_true.mp pm_ckp_318_520 pc (List.mem_range'_1.mpr ⟨by omega, by omega⟩)
  by_cases h560 : pc < 600
  · exact List.all_eq_true.mp pm_ckp_318_560 pc (List.mem_range'_1.mpr ⟨by omega, by omega⟩)
  by_cases h600 : pc < 640
  · exact List.all_eq_true.mp pm_ckp_318_600 pc (List.mem_range'_1.mpr ⟨by omega, by omega⟩)
  by_cases h640 : pc < 680
  · exact List.all_eq_true.mp pm_ckp_318_640 pc (List.mem_range'_1.mpr ⟨by omega, by omega⟩)
  by_cases h680 : pc < 720
  · exact List.all_eq_true.mp pm_ckp_318_680 pc (List.mem_range'_1.mpr ⟨by omega, by omega⟩)
  by_cases h720 : pc < 760
  · exact List.all_eq_true.mp pm_ckp_318_720 pc (List.mem_range'_1.mpr ⟨by omega, by omega⟩)
  by_cases h760 : pc < 800
  · exact List.all_eq_true.mp pm_ckp_318_760 pc (List.mem_range'_1.mpr ⟨by omega, by omega⟩)
  by_cases h800 : pc < 840
  · exact List.all_eq_true.mp pm_ckp_318_800 pc (List.mem_range'_1.mpr ⟨by omega, by omega⟩)
  by_cases h840 : pc < 880
  · exact List.all_eq_true.mp pm_ckp_318_840 pc (List.mem_range'_1.mpr ⟨by omega, by omega⟩)
  by_cases h880 : pc < 920
  · exact List.all_eq_true.mp pm_ckp_318_880 pc (List.mem_range'_1.mpr ⟨by omega, by omega⟩)
  by_cases h920 : pc < 960
  · exact List.all_eq_true.mp pm_ckp_318_920 pc (List.mem_range'_1.mpr ⟨by omega, by omega⟩)
  by_cases h960 : pc < 1000
  · exact List.all_eq_true.mp pm_ckp_318_960 pc (List.mem_range'_1.mpr ⟨by omega, by omega⟩)
  by_cases h1000 : pc < 1040
  · exact List.all_eq_true.mp pm_ckp_318_1000 pc (List.mem_range'_1.mpr ⟨by omega, by omega⟩)
  by_cases h1040 : pc < 1080
  · exact List.all_eq_true.mp pm_ckp_318_1040 pc (List.mem_range'_1.mpr ⟨by omega, by omega⟩)
  by_cases h1080 : pc < 1120
  · exact List.all_eq_true.mp pm_ckp_318_1080 pc (List.mem_range'_1.mpr ⟨by omega, by omega⟩)
  by_cases h1120 : pc < 1160
  · exact List.all_eq_true.mp pm_ckp_318_1120 pc (List.mem_range'_1.mpr ⟨by omega, by omega⟩)
  by_cases h1160 : pc < 1200
  · exact List.all_eq_true.mp pm_ckp_318_1160 pc (List.mem_range'_1.mpr ⟨by omega, by omega⟩)
  by_cases h1200 : pc < 1240
  · exact List.all_eq_true.mp pm_ckp_318_1200 pc (List.mem_range'_1.mpr ⟨by omega, by omega⟩)
  by_cases h1240 : pc < 1280
  · exact List.all_eq_true.mp pm_ckp_318_1240 pc (List.mem_range'_1.mpr ⟨by omega, by omega⟩)
  by_cases h1280 : pc < 1320
  · exact List.all_eq_true.mp pm_ckp_318_1280 pc (List.mem_range'_1.mpr ⟨by omega, by omega⟩)
  by_cases h1320 : pc < 1360
  · exact List.all_eq_true.mp pm_ckp_318_1320 pc (List.mem_range'_1.mpr ⟨by omega, by omega⟩)
  by_cases h1360 : pc < 1400
  · exact List.all_eq_true.mp pm_ckp_318_1360 pc (List.mem_range'_1.mpr ⟨by omega, by omega⟩)
  by_cases h1400 : pc < 1440
  · exact List.all_eq_true.mp pm_ckp_318_1400 pc (List.mem_range'_1.mpr ⟨by omega, by omega⟩)
  by_cases h1440 : pc < 1480
  · exact List.all_eq_true.mp pm_ckp_318_1440 pc (List.mem_range'_1.mpr ⟨by omega, by omega⟩)
  by_cases h1480 : pc < 1520
  · exact List.all_eq_true.mp pm_ckp_318_1480 pc (List.mem_range'_1.mpr ⟨by omega, by omega⟩)
  by_cases h1520 : pc < 1560
  · exact List.all_eq_true.mp pm_ckp_318_1520 pc (List.mem_range'_1.mpr ⟨by omega, by omega⟩)
  by_cases h1560 : pc < 1600
  · exact List.all_eq_true.mp pm_ckp_318_1560 pc (List.mem_range'_1.mpr ⟨by omega, by omega⟩)
  by_cases h1600 : pc < 1640
  · exact List.all_eq_true.mp pm_ckp_318_1600 pc (List.mem_range'_1.mpr ⟨by omega, by omega⟩)
  by_cases h1640 : pc < 1680
  · exact List.all_eq_true.mp pm_ckp_318_1640 pc (List.mem_range'_1.mpr ⟨by omega, by omega⟩)
  by_cases h1680 : pc < 1720
  · exact List.all_eq_true.mp pm_ckp_318_1680 pc (List.mem_range'_1.mpr ⟨by omega, by omega⟩)
  by_cases h1720 : pc < 1760
  · exact List.all_eq_true.mp pm_ckp_318_1720 pc (List.mem_range'_1.mpr ⟨by omega, by omega⟩)
  by_cases h1760 : pc < 1800
  · exact List.all_eq_true.mp pm_ckp_318_1760 pc (List.mem_range'_1.mpr ⟨by omega, by omega⟩)
  by_cases h1800 : pc < 1840
  · exact List.all_eq_true.mp pm_ckp_318_1800 pc (List.mem_range'_1.mpr ⟨by omega, by omega⟩)
  by_cases h1840 : pc < 1880
  · exact List.all_eq_true.mp pm_ckp_318_1840 pc (List.mem_range'_1.mpr ⟨by omega, by omega⟩)
  by_cases h1880 : pc < 1920
  · exact List.all_eq_true.mp pm_ckp_318_1880 pc (List.mem_range'_1.mpr ⟨by omega, by omega⟩)
  by_cases h1920 : pc < 1960
  · exact List.all_eq_true.mp pm_ckp_318_1920 pc (List.mem_range'_1.mpr ⟨by omega, by omega⟩)
  by_cases h1960 : pc < 2000
  · exact List.all_eq_true.mp pm_ckp_318_1960 pc (List.mem_range'_1.mpr ⟨by omega, by omega⟩)
  by_cases h2000 : pc < 2040
  · exact List.all_eq_true.mp pm_ckp_318_2000 pc (List.mem_range'_1.mpr ⟨by omega, by omega⟩)
  by_cases h2040 : pc < 2080
  · exact List.all_eq_true.mp pm_ckp_318_2040 pc (List.mem_range'_1.mpr ⟨by omega, by omega⟩)
  by_cases h2080 : pc < 2120
  · exact List.all_eq_true.mp pm_ckp_318_2080 pc (List.mem_range'_1.mpr ⟨by omega, by omega⟩)
  by_cases h2120 : pc < 2160
  · exact List.all_eq_true.mp pm_ckp_318_2120 pc (List.mem_range'_1.mpr ⟨by omega, by omega⟩)
  by_cases h2160 : pc < 2200
  · exact List.all_eq_true.mp pm_ckp_318_2160 pc (List.mem_range'_1.mpr ⟨by omega, by omega⟩)
  by_cases h2200 : pc < 2240
  · exact List.all_eq_true.mp pm_ckp_318_2200 pc (List.mem_range'_1.mpr ⟨by omega, by omega⟩)
  by_cases h2240 : pc < 2280
  · exact List.all_eq_true.mp pm_ckp_318_2240 pc (List.mem_range'_1.mpr ⟨by omega, by omega⟩)
  by_cases h2280 : pc < 2320
  · exact List.all_eq_true.mp pm_ckp_318_2280 pc (List.mem_range'_1.mpr ⟨by omega, by omega⟩)
  by_cases h2320 : pc < 2360
  · exact List.all_eq_true.mp pm_ckp_318_2320 pc (List.mem_range'_1.mpr ⟨by omega, by omega⟩)
  by_cases h2360 : pc < 2400
  · exact List.all_eq_true.mp pm_ckp_318_2360 pc (List.mem_range'_1.mpr ⟨by omega, by omega⟩)
  by_cases h2400 : pc < 2440
  · exact List.all_eq_true.mp pm_ckp_318_2400 pc (List.mem_range'_1.mpr ⟨by omega, by omega⟩)
  by_cases h2440 : pc < 2480
  · exact List.all_eq_true.mp pm_ckp_318_2440 pc (List.mem_range'_1.mpr ⟨by omega, by omega⟩)
  by_cases h2480 : pc < 2520
  · exact List.all_eq_true.mp pm_ckp_318_2480 pc (List.mem_range'_1.mpr ⟨by omega, by omega⟩)
  by_cases h2520 : pc < 2521
  · exact List.all_eq_true.mp pm_ckp_318_2520 pc (List.mem_range'_1.mpr ⟨by omega, by omega⟩)
  omega
theorem pm_ckl_300 : ∀ k ∈ [300, 301, 302, 303, 304, 305, 306, 307, 308, 309, 310, 311, 312, 313, 314, 315, 316, 317, 318], pm_ckm k = true := List.forall_mem_cons.mpr ⟨pm_ckk_300, List.forall_mem_cons.mpr ⟨pm_ckk_301, List.forall_mem_cons.mpr ⟨pm_ckk_302, List.forall_mem_cons.mpr ⟨pm_ckk_303, List.forall_mem_cons.mpr ⟨pm_ckk_304, List.forall_mem_cons.mpr ⟨pm_ckk_305, List.forall_mem_cons.mpr ⟨pm_ckk_306, List.forall_mem_cons.mpr ⟨pm_ckk_307, List.forall_mem_cons.mpr ⟨pm_ckk_308, List.forall_mem_cons.mpr ⟨pm_ckk_309, List.forall_mem_cons.mpr ⟨pm_ckk_310, List.forall_mem_cons.mpr ⟨pm_ckk_311, List.forall_mem_cons.mpr ⟨pm_ckk_312, List.forall_mem_cons.mpr ⟨pm_ckk_313, List.forall_mem_cons.mpr ⟨pm_ckk_314, List.forall_mem_cons.mpr ⟨pm_ckk_315, List.forall_mem_cons.mpr ⟨pm_ckk_316, List.forall_mem_cons.mpr ⟨pm_ckk_317, List.forall_mem_cons.mpr ⟨pm_ckk_318, fun _ h => absurd h List.not_mem_nil⟩⟩⟩⟩⟩⟩⟩⟩⟩⟩⟩⟩⟩⟩⟩⟩⟩⟩⟩
theorem pm_ckm_300 : (List.range' 300 19).all pm_ckm = true := List.all_eq_true.mpr pm_ckl_300
