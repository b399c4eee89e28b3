section YI4
set_option maxRecDepth 100000 in
theorem yib_0 : ydall yh_body yfM_0 = true := by decide +kernel
end YI4
