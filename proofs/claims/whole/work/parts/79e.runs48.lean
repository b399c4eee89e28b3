noncomputable section YQ48e
set_option maxRecDepth 100000 in
theorem yq48_V1s6 : yzrun yct48_d (xcut [yc48_106, yc48_125, yc48_126]) 238 yt48_V1 ((.var 4195778, 0, 0) :: (.pow (.sub (.num 4194310) (.var 1048960)) 0, 6, 6) :: (.var 1049024, 0, 0) :: (.sub (.var 128) (.var 1048960), 1, 16) :: yF48_V1) = true := by decide +kernel
set_option maxRecDepth 100000 in
theorem yq48_R2 : yzrun yct48_d (xcut [yc48_127]) 20 yt48_R2 ((.sub (.var 128) (.pow (.add (.pow (.add (.pow (.add (.pow (.add (.var 1048577) (.num 6364136223846793005)) 38) (.num 1442695040888963407)) 36) (.num 33)) 51) (.var 128)) 40), 1, 16) :: yF48_R2) = true := by decide +kernel
set_option maxRecDepth 100000 in
theorem yq48_V2n : yzrun yct48_d (xcut [yc48_128]) 23 yt48_V2 ((.var 1049024, 1, 15) :: (.sub (.var 128) (.var 1048960), 2, 16) :: yF48_V2) = true := by decide +kernel
set_option maxRecDepth 100000 in
theorem yq48_V2t : yzrun yct48_d (xcut [yc48_129, yc48_130]) 202 yt48_V2 ((.pow (.sub (.num 4194310) (.var 1048960)) 0, (-1), (-1)) :: (.var 1049024, 0, 0) :: (.sub (.var 128) (.var 1048960), 1, 16) :: yF48_V2) = true := by decide +kernel
set_option maxRecDepth 100000 in
theorem yq48_V2s0 : yzrun yct48_d (xcut [yc48_94, yc48_113, yc48_131]) 238 yt48_V2 ((.var 4195394, 0, 0) :: (.pow (.sub (.num 4194310) (.var 1048960)) 0, 0, 0) :: (.var 1049024, 0, 0) :: (.sub (.var 128) (.var 1048960), 1, 16) :: yF48_V2) = true := by decide +kernel
set_option maxRecDepth 100000 in
theorem yq48_V2s1 : yzrun yct48_d (xcut [yc48_96, yc48_115, yc48_132]) 238 yt48_V2 ((.var 4195458, 0, 0) :: (.pow (.sub (.num 4194310) (.var 1048960)) 0, 1, 1) :: (.var 1049024, 0, 0) :: (.sub (.var 128) (.var 1048960), 1, 16) :: yF48_V2) = true := by decide +kernel
set_option maxRecDepth 100000 in
theorem yq48_V2s2 : yzrun yct48_d (xcut [yc48_98, yc48_117, yc48_133]) 238 yt48_V2 ((.var 4195522, 0, 0) :: (.pow (.sub (.num 4194310) (.var 1048960)) 0, 2, 2) :: (.var 1049024, 0, 0) :: (.sub (.var 128) (.var 1048960), 1, 16) :: yF48_V2) = true := by decide +kernel
set_option maxRecDepth 100000 in
theorem yq48_V2s3 : yzrun yct48_d (xcut [yc48_100, yc48_119, yc48_134]) 238 yt48_V2 ((.var 4195586, 0, 0) :: (.pow (.sub (.num 4194310) (.var 1048960)) 0, 3, 3) :: (.var 1049024, 0, 0) :: (.sub (.var 128) (.var 1048960), 1, 16) :: yF48_V2) = true := by decide +kernel
set_option maxRecDepth 100000 in
theorem yq48_V2s4 : yzrun yct48_d (xcut [yc48_102, yc48_121, yc48_135]) 238 yt48_V2 ((.var 4195650, 0, 0) :: (.pow (.sub (.num 4194310) (.var 1048960)) 0, 4, 4) :: (.var 1049024, 0, 0) :: (.sub (.var 128) (.var 1048960), 1, 16) :: yF48_V2) = true := by decide +kernel
set_option maxRecDepth 100000 in
theorem yq48_V2s5 : yzrun yct48_d (xcut [yc48_104, yc48_123, yc48_136]) 238 yt48_V2 ((.var 4195714, 0, 0) :: (.pow (.sub (.num 4194310) (.var 1048960)) 0, 5, 5) :: (.var 1049024, 0, 0) :: (.sub (.var 128) (.var 1048960), 1, 16) :: yF48_V2) = true := by decide +kernel
set_option maxRecDepth 100000 in
theorem yq48_R3 : yzrun yct48_d (xcut [yc48_137]) 20 yt48_R3 ((.sub (.var 128) (.pow (.add (.pow (.add (.pow (.add (.pow (.add (.var 1048577) (.num 6364136223846793005)) 38) (.num 1442695040888963407)) 36) (.num 33)) 51) (.var 128)) 40), 1, 16) :: yF48_R3) = true := by decide +kernel
set_option maxRecDepth 100000 in
theorem yq48_V3n : yzrun yct48_d (xcut [yc48_138]) 23 yt48_V3 ((.var 1049024, 1, 15) :: (.sub (.var 128) (.var 1048960), 2, 16) :: yF48_V3) = true := by decide +kernel
set_option maxRecDepth 100000 in
theorem yq48_V3t : yzrun yct48_d (xcut [yc48_139, yc48_140]) 218 yt48_V3 ((.pow (.sub (.num 4194310) (.var 1048960)) 0, (-1), (-1)) :: (.var 1049024, 0, 0) :: (.sub (.var 128) (.var 1048960), 1, 16) :: yF48_V3) = true := by decide +kernel
set_option maxRecDepth 100000 in
theorem yq48_V3s0 : yzrun yct48_d (xcut [yc48_94, yc48_113, yc48_141]) 238 yt48_V3 ((.var 4195394, 0, 0) :: (.pow (.sub (.num 4194310) (.var 1048960)) 0, 0, 0) :: (.var 1049024, 0, 0) :: (.sub (.var 128) (.var 1048960), 1, 16) :: yF48_V3) = true := by decide +kernel
set_option maxRecDepth 100000 in
theorem yq48_V3s1 : yzrun yct48_d (xcut [yc48_96, yc48_115, yc48_142]) 238 yt48_V3 ((.var 4195458, 0, 0) :: (.pow (.sub (.num 4194310) (.var 1048960)) 0, 1, 1) :: (.var 1049024, 0, 0) :: (.sub (.var 128) (.var 1048960), 1, 16) :: yF48_V3) = true := by decide +kernel
set_option maxRecDepth 100000 in
theorem yq48_V3s2 : yzrun yct48_d (xcut [yc48_98, yc48_117, yc48_143]) 238 yt48_V3 ((.var 4195522, 0, 0) :: (.pow (.sub (.num 4194310) (.var 1048960)) 0, 2, 2) :: (.var 1049024, 0, 0) :: (.sub (.var 128) (.var 1048960), 1, 16) :: yF48_V3) = true := by decide +kernel
set_option maxRecDepth 100000 in
theorem yq48_V3s3 : yzrun yct48_d (xcut [yc48_100, yc48_119, yc48_144]) 238 yt48_V3 ((.var 4195586, 0, 0) :: (.pow (.sub (.num 4194310) (.var 1048960)) 0, 3, 3) :: (.var 1049024, 0, 0) :: (.sub (.var 128) (.var 1048960), 1, 16) :: yF48_V3) = true := by decide +kernel
set_option maxRecDepth 100000 in
theorem yq48_V3s4 : yzrun yct48_d (xcut [yc48_102, yc48_121, yc48_145]) 238 yt48_V3 ((.var 4195650, 0, 0) :: (.pow (.sub (.num 4194310) (.var 1048960)) 0, 4, 4) :: (.var 1049024, 0, 0) :: (.sub (.var 128) (.var 1048960), 1, 16) :: yF48_V3) = true := by decide +kernel
set_option maxRecDepth 100000 in
theorem yq48_R4 : yzrun yct48_d (xcut [yc48_146]) 20 yt48_R4 ((.sub (.var 128) (.pow (.add (.pow (.add (.pow (.add (.pow (.add (.var 1048577) (.num 6364136223846793005)) 38) (.num 1442695040888963407)) 36) (.num 33)) 51) (.var 128)) 40), 1, 16) :: yF48_R4) = true := by decide +kernel
end YQ48e
