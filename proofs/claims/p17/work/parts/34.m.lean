section YI2
set_option maxRecDepth 100000 in
theorem yim_0 : ydall yh_meth yfM_0 = true := by decide +kernel
set_option maxRecDepth 100000 in
theorem yim_1 : ydall yh_meth yfM_1 = true := by decide +kernel
set_option maxRecDepth 100000 in
theorem yim_2 : ydall yh_meth yfM_2 = true := by decide +kernel
set_option maxRecDepth 100000 in
theorem yim_3 : ydall yh_meth yfM_3 = true := by decide +kernel
set_option maxRecDepth 100000 in
theorem yim_4 : ydall yh_meth yfM_4 = true := by decide +kernel
set_option maxRecDepth 100000 in
theorem yim_5 : ydall yh_meth yfM_5 = true := by decide +kernel
set_option maxRecDepth 100000 in
theorem yim_6 : ydall yh_meth yfM_6 = true := by decide +kernel
set_option maxRecDepth 100000 in
theorem yim_7 : ydall yh_meth yfM_7 = true := by decide +kernel
set_option maxRecDepth 100000 in
theorem yim_8 : ydall yh_meth yfM_8 = true := by decide +kernel
set_option maxRecDepth 100000 in
theorem yim_9 : ydall yh_meth yfM_9 = true := by decide +kernel
set_option maxRecDepth 100000 in
theorem yim_10 : ydall yh_meth yfM_10 = true := by decide +kernel
set_option maxRecDepth 100000 in
theorem yim_11 : ydall yh_meth yfM_11 = true := by decide +kernel
set_option maxRecDepth 100000 in
theorem yim_12 : ydall yh_meth yfM_12 = true := by decide +kernel
set_option maxRecDepth 100000 in
theorem yim_13 : ydall yh_meth yfM_13 = true := by decide +kernel
set_option maxRecDepth 100000 in
theorem yim_14 : ydall yh_meth yfM_14 = true := by decide +kernel
set_option maxRecDepth 100000 in
theorem yim_15 : ydall yh_meth yfM_15 = true := by decide +kernel
set_option maxRecDepth 100000 in
theorem yim_16 : ydall yh_meth yfM_16 = true := by decide +kernel
set_option maxRecDepth 100000 in
theorem yim_17 : ydall yh_meth yfM_17 = true := by decide +kernel
set_option maxRecDepth 100000 in
theorem yim_18 : ydall yh_meth yfM_18 = true := by decide +kernel
set_option maxRecDepth 100000 in
theorem yim_19 : ydall yh_meth yfM_19 = true := by decide +kernel
set_option maxRecDepth 100000 in
theorem yim_20 : ydall yh_meth yfM_20 = true := by decide +kernel
set_option maxRecDepth 100000 in
theorem yim_21 : ydall yh_meth yfM_21 = true := by decide +kernel
set_option maxRecDepth 100000 in
theorem yi_M : ydall yh_meth yfM = true := by
  unfold yfM
  simp only [ydall, yim_0, yim_1, yim_2, yim_3, yim_4, yim_5, yim_6, yim_7, yim_8, yim_9, yim_10, yim_11, yim_12, yim_13, yim_14, yim_15, yim_16, yim_17, yim_18, yim_19, yim_20, yim_21, Bool.and_self]
end YI2
