noncomputable section YQ48g
set_option maxRecDepth 100000 in
theorem yq48_V7s0 : yzrun yct48_d (xcut [yc48_94, yc48_113, yc48_171]) 238 yt48_V7 ((.var 4195394, 0, 0) :: (.pow (.sub (.num 4194310) (.var 1048960)) 0, 0, 0) :: (.var 1049024, 0, 0) :: (.sub (.var 128) (.var 1048960), 1, 16) :: yF48_V7) = true := by decide +kernel
set_option maxRecDepth 100000 in
theorem yq48_R8 : yzrun yct48_d (xcut [yc48_172]) 20 yt48_R8 ((.sub (.var 128) (.pow (.add (.pow (.add (.pow (.add (.pow (.add (.var 1048577) (.num 6364136223846793005)) 38) (.num 1442695040888963407)) 36) (.num 33)) 51) (.var 128)) 40), 1, 16) :: yF48_R8) = true := by decide +kernel
set_option maxRecDepth 100000 in
theorem yq48_V8n : yzrun yct48_d (xcut [yc48_173]) 23 yt48_V8 ((.var 1049024, 1, 15) :: (.sub (.var 128) (.var 1048960), 2, 16) :: yF48_V8) = true := by decide +kernel
set_option maxRecDepth 100000 in
theorem yq48_V8t : yzrun yct48_d (xcut [yc48_174, yc48_175]) 298 yt48_V8 ((.pow (.sub (.num 4194310) (.var 1048960)) 0, (-1), (-1)) :: (.var 1049024, 0, 0) :: (.sub (.var 128) (.var 1048960), 1, 16) :: yF48_V8) = true := by decide +kernel
set_option maxRecDepth 100000 in
theorem yq48_RKn : yzrun yct48_c (xcut [yc48_176]) 34 yt48_RK ((.pow (.sub (.num 4194310) (.var 1048960)) 0, (-1), (-1)) :: (.sub (.var 128) (.var 1048960), 1, 16) :: yF48_RK) = true := by decide +kernel
set_option maxRecDepth 100000 in
theorem yq48_RKg : yzrun yct48_d (xcut [yc48_177, yc48_178]) 61 yt48_RK ((.pow (.sub (.num 4194310) (.var 1048960)) 0, 0, 7) :: (.sub (.var 128) (.var 1048960), 1, 16) :: yF48_RK) = true := by decide +kernel
set_option maxRecDepth 100000 in
theorem yq48_RKx : yzrun yct48_d (xcut [yc48_179]) 17 yt48_RK ((.sub (.var 128) (.var 1048960), 0, 0) :: yF48_RK) = true := by decide +kernel
set_option maxRecDepth 100000 in
theorem yq48_X2 : yzrun yct48_e (xcut []) 54 yt48_X2 ((.var 1049153, (-2), (-2)) :: yF48_X2) = true := by decide +kernel
set_option maxRecDepth 100000 in
theorem yq48_X3 : yzrun yct48_e (xcut []) 54 yt48_X3 ((.var 1049153, (-3), (-3)) :: yF48_X3) = true := by decide +kernel
set_option maxRecDepth 100000 in
theorem yq48_E2_0 : yzrun yct48_f (xcut [yc48_180]) 3530 yt48_E2 ((.var 384, 0, 3) :: (.var 320, 0, 0) :: yF48_E2) = true := by decide +kernel
set_option maxRecDepth 100000 in
theorem yq48_E3_0 : yzrun yct48_f (xcut [yc48_181]) 3530 yt48_E3 ((.var 384, 0, 3) :: (.var 320, 0, 0) :: yF48_E3) = true := by decide +kernel
set_option maxRecDepth 100000 in
theorem yq48_E2_1 : yzrun yct48_f (xcut [yc48_180]) 3533 yt48_E2 ((.var 384, 0, 60000) :: (.var 320, 1, 1) :: yF48_E2) = true := by decide +kernel
set_option maxRecDepth 100000 in
theorem yq48_E3_1 : yzrun yct48_f (xcut [yc48_181]) 3533 yt48_E3 ((.var 384, 0, 60000) :: (.var 320, 1, 1) :: yF48_E3) = true := by decide +kernel
end YQ48g
