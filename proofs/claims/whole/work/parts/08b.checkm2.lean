theorem pm_ckk_140 : pm_ckm 140 = true := by decide +kernel
theorem pm_ckk_141 : pm_ckm 141 = true := by decide +kernel
theorem pm_ckk_142 : pm_ckm 142 = true := by decide +kernel
theorem pm_ckk_143 : pm_ckm 143 = true := by decide +kernel
theorem pm_ckk_144 : pm_ckm 144 = true := by decide +kernel
theorem pm_ckk_145 : pm_ckm 145 = true := by decide +kernel
theorem pm_ckk_146 : pm_ckm 146 = true := by decide +kernel
theorem pm_ckk_147 : pm_ckm 147 = true := by decide +kernel
theorem pm_ckk_148 : pm_ckm 148 = true := by decide +kernel
theorem pm_ckk_149 : pm_ckm 149 = true := by decide +kernel
theorem pm_ckk_150 : pm_ckm 150 = true := by decide +kernel
theorem pm_ckk_151 : pm_ckm 151 = true := by decide +kernel
theorem pm_ckk_152 : pm_ckm 152 = true := by decide +kernel
theorem pm_ckk_153 : pm_ckm 153 = true := by decide +kernel
theorem pm_ckk_154 : pm_ckm 154 = true := by decide +kernel
theorem pm_ckk_155 : pm_ckm 155 = true := by decide +kernel
theorem pm_ckk_156 : pm_ckm 156 = true := by decide +kernel
theorem pm_ckk_157 : pm_ckm 157 = true := by decide +kernel
theorem pm_ckk_158 : pm_ckm 158 = true := by decide +kernel
theorem pm_ckk_159 : pm_ckm 159 = true := by decide +kernel
theorem pm_ckl_140 : ∀ k ∈ [140, 141, 142, 143, 144, 145, 146, 147, 148, 149, 150, 151, 152, 153, 154, 155, 156, 157, 158, 159], pm_ckm k = true := List.forall_mem_cons.mpr ⟨pm_ckk_140, List.forall_mem_cons.mpr ⟨pm_ckk_141, List.forall_mem_cons.mpr ⟨pm_ckk_142, List.forall_mem_cons.mpr ⟨pm_ckk_143, List.forall_mem_cons.mpr ⟨pm_ckk_144, List.forall_mem_cons.mpr ⟨pm_ckk_145, List.forall_mem_cons.mpr ⟨pm_ckk_146, List.forall_mem_cons.mpr ⟨pm_ckk_147, List.forall_mem_cons.mpr ⟨pm_ckk_148, List.forall_mem_cons.mpr ⟨pm_ckk_149, List.forall_mem_cons.mpr ⟨pm_ckk_150, List.forall_mem_cons.mpr ⟨pm_ckk_151, List.forall_mem_cons.mpr ⟨pm_ckk_152, List.forall_mem_cons.mpr ⟨pm_ckk_153, List.forall_mem_cons.mpr ⟨pm_ckk_154, List.forall_mem_cons.mpr ⟨pm_ckk_155, List.forall_mem_cons.mpr ⟨pm_ckk_156, List.forall_mem_cons.mpr ⟨pm_ckk_157, List.forall_mem_cons.mpr ⟨pm_ckk_158, List.forall_mem_cons.mpr ⟨pm_ckk_159, fun _ h => absurd h List.not_mem_nil⟩⟩⟩⟩⟩⟩⟩⟩⟩⟩⟩⟩⟩⟩⟩⟩⟩⟩⟩⟩
theorem pm_ckm_140 : (List.range' 140 20).all pm_ckm = true := List.all_eq_true.mpr pm_ckl_140
theorem pm_ckk_300 : pm_ckm 300 = true := by decide +kernel
theorem pm_ckk_301 : pm_ckm 301 = true := by decide +kernel
theorem pm_ckk_302 : pm_ckm 302 = true := by decide +kernel
theorem pm_ckk_303 : pm_ckm 303 = true := by decide +kernel
theorem pm_ckk_304 : pm_ckm 304 = true := by decide +kernel
theorem pm_ckk_305 : pm_ckm 305 = true := by decide +kernel
theorem pm_ckk_306 : pm_ckm 306 = true := by decide +kernel
theorem pm_ckk_307 : pm_ckm 307 = true := by decide +kernel
theorem pm_ckk_308 : pm_ckm 308 = true := by decide +kernel
theorem pm_ckk_309 : pm_ckm 309 = true := by decide +kernel
theorem pm_ckk_310 : pm_ckm 310 = true := by decide +kernel
theorem pm_ckk_311 : pm_ckm 311 = true := by decide +kernel
theorem pm_ckk_312 : pm_ckm 312 = true := by decide +kernel
theorem pm_ckk_313 : pm_ckm 313 = true := by decide +kernel
theorem pm_ckk_314 : pm_ckm 314 = true := by decide +kernel
theorem pm_ckk_315 : pm_ckm 315 = true := by decide +kernel
theorem pm_ckk_316 : pm_ckm 316 = true := by decide +kernel
theorem pm_ckk_317 : pm_ckm 317 = true := by decide +kernel
theorem pm_ckp_318_0 : (List.range' 0 250).all (pm_ck1 318) = true := by decide +kernel
theorem pm_ckp_318_250 : (List.range' 250 250).all (pm_ck1 318) = true := by decide +kernel
theorem pm_ckp_318_500 : (List.range' 500 250).all (pm_ck1 318) = true := by decide +kernel
theorem pm_ckp_318_750 : (List.range' 750 250).all (pm_ck1 318) = true := by decide +kernel
theorem pm_ckp_318_1000 : (List.range' 1000 250).all (pm_ck1 318) = true := by decide +kernel
theorem pm_ckp_318_1250 : (List.range' 1250 250).all (pm_ck1 318) = true := by decide +kernel
theorem pm_ckp_318_1500 : (List.range' 1500 250).all (pm_ck1 318) = true := by decide +kernel
theorem pm_ckp_318_1750 : (List.range' 1750 250).all (pm_ck1 318) = true := by decide +kernel
theorem pm_ckp_318_2000 : (List.range' 2000 250).all (pm_ck1 318) = true := by decide +kernel
theorem pm_ckp_318_2250 : (List.range' 2250 250).all (pm_ck1 318) = true := by decide +kernel
theorem pm_ckp_318_2500 : (List.range' 2500 21).all (pm_ck1 318) = true := by decide +kernel
theorem pm_ckk_318 : pm_ckm 318 = true := by
  refine List.all_eq_true.mpr fun pc h => ?_
  have h : pc < 2521 := List.mem_range.mp h
  by_cases h0 : pc < 250
  · exact List.all_eq_true.mp pm_ckp_318_0 pc (List.mem_range'_1.mpr ⟨by omega, by omega⟩)
  by_cases h250 : pc < 500
  · exact List.all_eq_true.mp pm_ckp_318_250 pc (List.mem_range'_1.mpr ⟨by omega, by omega⟩)
  by_cases h500 : pc < 750
  · exact List.all_eq_true.mp pm_ckp_318_500 pc (List.mem_range'_1.mpr ⟨by omega, by omega⟩)
  by_cases h750 : pc < 1000
  · exact List.all_eq_true.mp pm_ckp_318_750 pc (List.mem_range'_1.mpr ⟨by omega, by omega⟩)
  by_cases h1000 : pc < 1250
  · exact List.all_eq_true.mp pm_ckp_318_1000 pc (List.mem_range'_1.mpr ⟨by omega, by omega⟩)
  by_cases h1250 : pc < 1500
  · exact List.all_eq_true.mp pm_ckp_318_1250 pc (List.mem_range'_1.mpr ⟨by omega, by omega⟩)
  by_cases h1500 : pc < 1750
  · exact List.all_eq_true.mp pm_ckp_318_1500 pc (List.mem_range'_1.mpr ⟨by omega, by omega⟩)
  by_cases h1750 : pc < 2000
  · exact List.all_eq_true.mp pm_ckp_318_1750 pc (List.mem_range'_1.mpr ⟨by omega, by omega⟩)
  by_cases h2000 : pc < 2250
  · exact List.all_eq_true.mp pm_ckp_318_2000 pc (List.mem_range'_1.mpr ⟨by omega, by omega⟩)
  by_cases h2250 : pc < 2500
  · exact List.all_eq_true.mp pm_ckp_318_2250 pc (List.mem_range'_1.mpr ⟨by omega, by omega⟩)
  by_cases h2500 : pc < 2521
  · exact List.all_eq_true.mp pm_ckp_318_2500 pc (List.mem_range'_1.mpr ⟨by omega, by omega⟩)
  omega
theorem pm_ckl_300 : ∀ k ∈ [300, 301, 302, 303, 304, 305, 306, 307, 308, 309, 310, 311, 312, 313, 314, 315, 316, 317, 318], pm_ckm k = true := List.forall_mem_cons.mpr ⟨pm_ckk_300, List.forall_mem_cons.mpr ⟨pm_ckk_301, List.forall_mem_cons.mpr ⟨pm_ckk_302, List.forall_mem_cons.mpr ⟨pm_ckk_303, List.forall_mem_cons.mpr ⟨pm_ckk_304, List.forall_mem_cons.mpr ⟨pm_ckk_305, List.forall_mem_cons.mpr ⟨pm_ckk_306, List.forall_mem_cons.mpr ⟨pm_ckk_307, List.forall_mem_cons.mpr ⟨pm_ckk_308, List.forall_mem_cons.mpr ⟨pm_ckk_309, List.forall_mem_cons.mpr ⟨pm_ckk_310, List.forall_mem_cons.mpr ⟨pm_ckk_311, List.forall_mem_cons.mpr ⟨pm_ckk_312, List.forall_mem_cons.mpr ⟨pm_ckk_313, List.forall_mem_cons.mpr ⟨pm_ckk_314, List.forall_mem_cons.mpr ⟨pm_ckk_315, List.forall_mem_cons.mpr ⟨pm_ckk_316, List.forall_mem_cons.mpr ⟨pm_ckk_317, List.forall_mem_cons.mpr ⟨pm_ckk_318, fun _ h => absurd h List.not_mem_nil⟩⟩⟩⟩⟩⟩⟩⟩⟩⟩⟩⟩⟩⟩⟩⟩⟩⟩⟩
theorem pm_ckm_300 : (List.range' 300 19).all pm_ckm = true := List.all_eq_true.mpr pm_ckl_300
