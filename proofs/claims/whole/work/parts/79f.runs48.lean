noncomputable section YQ48f
set_option maxRecDepth 100000 in
theorem yq48_V4n : yzrun yct48_d (xcut [yc48_147]) 23 yt48_V4 ((.var 1049024, 1, 15) :: (.sub (.var 128) (.var 1048960), 2, 16) :: yF48_V4) = true := by decide +kernel
set_option maxRecDepth 100000 in
theorem yq48_V4t : yzrun yct48_d (xcut [yc48_148, yc48_149]) 234 yt48_V4 ((.pow (.sub (.num 4194310) (.var 1048960)) 0, (-1), (-1)) :: (.var 1049024, 0, 0) :: (.sub (.var 128) (.var 1048960), 1, 16) :: yF48_V4) = true := by decide +kernel
set_option maxRecDepth 100000 in
theorem yq48_V4s0 : yzrun yct48_d (xcut [yc48_94, yc48_113, yc48_150]) 238 yt48_V4 ((.var 4195394, 0, 0) :: (.pow (.sub (.num 4194310) (.var 1048960)) 0, 0, 0) :: (.var 1049024, 0, 0) :: (.sub (.var 128) (.var 1048960), 1, 16) :: yF48_V4) = true := by decide +kernel
set_option maxRecDepth 100000 in
theorem yq48_V4s1 : yzrun yct48_d (xcut [yc48_96, yc48_115, yc48_151]) 238 yt48_V4 ((.var 4195458, 0, 0) :: (.pow (.sub (.num 4194310) (.var 1048960)) 0, 1, 1) :: (.var 1049024, 0, 0) :: (.sub (.var 128) (.var 1048960), 1, 16) :: yF48_V4) = true := by decide +kernel
set_option maxRecDepth 100000 in
theorem yq48_V4s2 : yzrun yct48_d (xcut [yc48_98, yc48_117, yc48_152]) 238 yt48_V4 ((.var 4195522, 0, 0) :: (.pow (.sub (.num 4194310) (.var 1048960)) 0, 2, 2) :: (.var 1049024, 0, 0) :: (.sub (.var 128) (.var 1048960), 1, 16) :: yF48_V4) = true := by decide +kernel
set_option maxRecDepth 100000 in
theorem yq48_V4s3 : yzrun yct48_d (xcut [yc48_100, yc48_119, yc48_153]) 238 yt48_V4 ((.var 4195586, 0, 0) :: (.pow (.sub (.num 4194310) (.var 1048960)) 0, 3, 3) :: (.var 1049024, 0, 0) :: (.sub (.var 128) (.var 1048960), 1, 16) :: yF48_V4) = true := by decide +kernel
set_option maxRecDepth 100000 in
theorem yq48_R5 : yzrun yct48_d (xcut [yc48_154]) 20 yt48_R5 ((.sub (.var 128) (.pow (.add (.pow (.add (.pow (.add (.pow (.add (.var 1048577) (.num 6364136223846793005)) 38) (.num 1442695040888963407)) 36) (.num 33)) 51) (.var 128)) 40), 1, 16) :: yF48_R5) = true := by decide +kernel
set_option maxRecDepth 100000 in
theorem yq48_V5n : yzrun yct48_d (xcut [yc48_155]) 23 yt48_V5 ((.var 1049024, 1, 15) :: (.sub (.var 128) (.var 1048960), 2, 16) :: yF48_V5) = true := by decide +kernel
set_option maxRecDepth 100000 in
theorem yq48_V5t : yzrun yct48_d (xcut [yc48_156, yc48_157]) 250 yt48_V5 ((.pow (.sub (.num 4194310) (.var 1048960)) 0, (-1), (-1)) :: (.var 1049024, 0, 0) :: (.sub (.var 128) (.var 1048960), 1, 16) :: yF48_V5) = true := by decide +kernel
set_option maxRecDepth 100000 in
theorem yq48_V5s0 : yzrun yct48_d (xcut [yc48_94, yc48_113, yc48_158]) 238 yt48_V5 ((.var 4195394, 0, 0) :: (.pow (.sub (.num 4194310) (.var 1048960)) 0, 0, 0) :: (.var 1049024, 0, 0) :: (.sub (.var 128) (.var 1048960), 1, 16) :: yF48_V5) = true := by decide +kernel
set_option maxRecDepth 100000 in
theorem yq48_V5s1 : yzrun yct48_d (xcut [yc48_96, yc48_115, yc48_159]) 238 yt48_V5 ((.var 4195458, 0, 0) :: (.pow (.sub (.num 4194310) (.var 1048960)) 0, 1, 1) :: (.var 1049024, 0, 0) :: (.sub (.var 128) (.var 1048960), 1, 16) :: yF48_V5) = true := by decide +kernel
set_option maxRecDepth 100000 in
theorem yq48_V5s2 : yzrun yct48_d (xcut [yc48_98, yc48_117, yc48_160]) 238 yt48_V5 ((.var 4195522, 0, 0) :: (.pow (.sub (.num 4194310) (.var 1048960)) 0, 2, 2) :: (.var 1049024, 0, 0) :: (.sub (.var 128) (.var 1048960), 1, 16) :: yF48_V5) = true := by decide +kernel
set_option maxRecDepth 100000 in
theorem yq48_R6 : yzrun yct48_d (xcut [yc48_161]) 20 yt48_R6 ((.sub (.var 128) (.pow (.add (.pow (.add (.pow (.add (.pow (.add (.var 1048577) (.num 6364136223846793005)) 38) (.num 1442695040888963407)) 36) (.num 33)) 51) (.var 128)) 40), 1, 16) :: yF48_R6) = true := by decide +kernel
set_option maxRecDepth 100000 in
theorem yq48_V6n : yzrun yct48_d (xcut [yc48_162]) 23 yt48_V6 ((.var 1049024, 1, 15) :: (.sub (.var 128) (.var 1048960), 2, 16) :: yF48_V6) = true := by decide +kernel
set_option maxRecDepth 100000 in
theorem yq48_V6t : yzrun yct48_d (xcut [yc48_163, yc48_164]) 266 yt48_V6 ((.pow (.sub (.num 4194310) (.var 1048960)) 0, (-1), (-1)) :: (.var 1049024, 0, 0) :: (.sub (.var 128) (.var 1048960), 1, 16) :: yF48_V6) = true := by decide +kernel
set_option maxRecDepth 100000 in
theorem yq48_V6s0 : yzrun yct48_d (xcut [yc48_94, yc48_113, yc48_165]) 238 yt48_V6 ((.var 4195394, 0, 0) :: (.pow (.sub (.num 4194310) (.var 1048960)) 0, 0, 0) :: (.var 1049024, 0, 0) :: (.sub (.var 128) (.var 1048960), 1, 16) :: yF48_V6) = true := by decide +kernel
set_option maxRecDepth 100000 in
theorem yq48_V6s1 : yzrun yct48_d (xcut [yc48_96, yc48_115, yc48_166]) 238 yt48_V6 ((.var 4195458, 0, 0) :: (.pow (.sub (.num 4194310) (.var 1048960)) 0, 1, 1) :: (.var 1049024, 0, 0) :: (.sub (.var 128) (.var 1048960), 1, 16) :: yF48_V6) = true := by decide +kernel
set_option maxRecDepth 100000 in
theorem yq48_R7 : yzrun yct48_d (xcut [yc48_167]) 20 yt48_R7 ((.sub (.var 128) (.pow (.add (.pow (.add (.pow (.add (.pow (.add (.var 1048577) (.num 6364136223846793005)) 38) (.num 1442695040888963407)) 36) (.num 33)) 51) (.var 128)) 40), 1, 16) :: yF48_R7) = true := by decide +kernel
set_option maxRecDepth 100000 in
theorem yq48_V7n : yzrun yct48_d (xcut [yc48_168]) 23 yt48_V7 ((.var 1049024, 1, 15) :: (.sub (.var 128) (.var 1048960), 2, 16) :: yF48_V7) = true := by decide +kernel
set_option maxRecDepth 100000 in
theorem yq48_V7t : yzrun yct48_d (xcut [yc48_169, yc48_170]) 282 yt48_V7 ((.pow (.sub (.num 4194310) (.var 1048960)) 0, (-1), (-1)) :: (.var 1049024, 0, 0) :: (.sub (.var 128) (.var 1048960), 1, 16) :: yF48_V7) = true := by decide +kernel
end YQ48f
