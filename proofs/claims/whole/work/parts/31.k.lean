section YI1
set_option maxRecDepth 100000 in
theorem yi_K : yeK.all ydkok = true := by decide +kernel
set_option maxRecDepth 100000 in
theorem yi_M : ydall yh_meth yfM = true := by decide +kernel
end YI1
