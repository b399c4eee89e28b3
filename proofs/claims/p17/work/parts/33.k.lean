section YI1
set_option maxRecDepth 100000 in
theorem yi_K : yeK.all ydkok = true := by decide +kernel
end YI1
