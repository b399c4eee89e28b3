section YI3
set_option maxRecDepth 100000 in
theorem yic_0 : yh_class yf_0 = true := by decide +kernel
set_option maxRecDepth 100000 in
theorem yic_1 : yh_class yf_1 = true := by decide +kernel
set_option maxRecDepth 100000 in
theorem yic_2 : yh_class yf_2 = true := by decide +kernel
set_option maxRecDepth 100000 in
theorem yic_3 : yh_class yf_3 = true := by decide +kernel
set_option maxRecDepth 100000 in
theorem yic_4 : yh_class yf_4 = true := by decide +kernel
set_option maxRecDepth 100000 in
theorem yic_5 : yh_class yf_5 = true := by decide +kernel
set_option maxRecDepth 100000 in
theorem yic_6 : yh_class yf_6 = true := by decide +kernel
set_option maxRecDepth 100000 in
theorem yic_7 : yh_class yf_7 = true := by decide +kernel
set_option maxRecDepth 100000 in
theorem yic_8 : yh_class yf_8 = true := by decide +kernel
set_option maxRecDepth 100000 in
theorem yic_9 : yh_class yf_9 = true := by decide +kernel
set_option maxRecDepth 100000 in
theorem yic_10 : yh_class yf_10 = true := by decide +kernel
set_option maxRecDepth 100000 in
theorem yic_11 : yh_class yf_11 = true := by decide +kernel
set_option maxRecDepth 100000 in
theorem yic_12 : yh_class yf_12 = true := by decide +kernel
set_option maxRecDepth 100000 in
theorem yic_13 : yh_class yf_13 = true := by decide +kernel
set_option maxRecDepth 100000 in
theorem yic_14 : yh_class yf_14 = true := by decide +kernel
set_option maxRecDepth 100000 in
theorem yi_C : ydall yh_class yfC = true := by
  unfold yfC
  simp only [ydall, yic_0, yic_1, yic_2, yic_3, yic_4, yic_5, yic_6, yic_7, yic_8, yic_9, yic_10, yic_11, yic_12, yic_13, yic_14, Bool.and_self]
end YI3
