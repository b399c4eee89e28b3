section YI4
set_option maxRecDepth 100000 in
theorem yib_0 : ydall ybm yfM_0 = true := by decide +kernel
set_option maxRecDepth 100000 in
theorem yib_1 : ydall ybm yfM_1 = true := by decide +kernel
set_option maxRecDepth 100000 in
theorem yib_2 : ydall ybm yfM_2 = true := by decide +kernel
set_option maxRecDepth 100000 in
theorem yib_3 : ydall ybm yfM_3 = true := by decide +kernel
set_option maxRecDepth 100000 in
theorem yib_4 : ydall ybm yfM_4 = true := by decide +kernel
set_option maxRecDepth 100000 in
theorem yib_5 : ydall ybm yfM_5 = true := by decide +kernel
set_option maxRecDepth 100000 in
theorem yib_6 : ydall ybm yfM_6 = true := by decide +kernel
set_option maxRecDepth 100000 in
theorem yib_7 : ydall ybm yfM_7 = true := by decide +kernel
set_option maxRecDepth 100000 in
theorem yib_8 : ydall ybm yfM_8 = true := by decide +kernel
set_option maxRecDepth 100000 in
theorem yib_9 : ydall ybm yfM_9 = true := by decide +kernel
set_option maxRecDepth 100000 in
theorem yib_10 : ydall ybm yfM_10 = true := by decide +kernel
set_option maxRecDepth 100000 in
theorem yib_11 : ydall ybm yfM_11 = true := by decide +kernel
set_option maxRecDepth 100000 in
theorem yib_12 : ydall ybm yfM_12 = true := by decide +kernel
set_option maxRecDepth 100000 in
theorem yib_13 : ydall ybm yfM_13 = true := by decide +kernel
set_option maxRecDepth 100000 in
theorem yib_14 : ydall ybm yfM_14 = true := by decide +kernel
set_option maxRecDepth 100000 in
theorem yib_15 : ydall ybm yfM_15 = true := by decide +kernel
set_option maxRecDepth 100000 in
theorem yib_16 : ydall ybm yfM_16 = true := by decide +kernel
set_option maxRecDepth 100000 in
theorem yib_17 : ydall ybm yfM_17 = true := by decide +kernel
set_option maxRecDepth 100000 in
theorem yib_18 : ydall ybm yfM_18 = true := by decide +kernel
set_option maxRecDepth 100000 in
theorem yib_19 : ydall ybm yfM_19 = true := by decide +kernel
set_option maxRecDepth 100000 in
theorem yib_20 : ydall ybm yfM_20 = true := by decide +kernel
set_option maxRecDepth 100000 in
theorem yib_21 : ydall ybm yfM_21 = true := by decide +kernel
set_option maxRecDepth 100000 in
theorem yi_B : ydall yh_body yfM = true := by
  unfold yfM
  simp only [ydall, ybm_all yib_0, ybm_all yib_1, ybm_all yib_2, ybm_all yib_3, ybm_all yib_4, ybm_all yib_5, ybm_all yib_6, ybm_all yib_7, ybm_all yib_8, ybm_all yib_9, ybm_all yib_10, ybm_all yib_11, ybm_all yib_12, ybm_all yib_13, ybm_all yib_14, ybm_all yib_15, ybm_all yib_16, ybm_all yib_17, ybm_all yib_18, ybm_all yib_19, ybm_all yib_20, ybm_all yib_21, Bool.and_self]
end YI4
