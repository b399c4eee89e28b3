noncomputable section YQ48h
set_option maxRecDepth 100000 in
theorem yq48_E2_2 : yzrun yct48_f (xcut [yc48_180]) 3524 yt48_E2 ((.var 384, 0, 0) :: (.var 320, 2, 2) :: yF48_E2) = true := by decide +kernel
set_option maxRecDepth 100000 in
theorem yq48_E3_2 : yzrun yct48_f (xcut [yc48_181]) 3524 yt48_E3 ((.var 384, 0, 0) :: (.var 320, 2, 2) :: yF48_E3) = true := by decide +kernel
set_option maxRecDepth 100000 in
theorem yq48_E2_3 : yzrun yct48_f (xcut [yc48_180]) 3539 yt48_E2 ((.var 384, 1, 2) :: (.var 320, 3, 3) :: yF48_E2) = true := by decide +kernel
set_option maxRecDepth 100000 in
theorem yq48_E3_3 : yzrun yct48_f (xcut [yc48_181]) 3539 yt48_E3 ((.var 384, 1, 2) :: (.var 320, 3, 3) :: yF48_E3) = true := by decide +kernel
end YQ48h
