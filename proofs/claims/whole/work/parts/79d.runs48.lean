noncomputable section YQ48d
set_option maxRecDepth 100000 in
theorem yq48_W8t : yzrun yct48_a (xcut [yc48_83, yc48_84]) 378 yt48_W8 ((.pow (.sub (.num 4194310) (.var 1048960)) 0, (-1), (-1)) :: (.sub (.var 1048960) (.var 1049024), 0, 0) :: (.sub (.var 128) (.var 1048960), 1, 16) :: yF48_W8) = true := by decide +kernel
set_option maxRecDepth 100000 in
theorem yq48_Kn : yzrun yct48_b (xcut [yc48_85]) 35 yt48_K ((.pow (.sub (.num 4194310) (.var 1048960)) 0, (-1), (-1)) :: (.sub (.var 128) (.var 1048960), 1, 16) :: yF48_K) = true := by decide +kernel
set_option maxRecDepth 100000 in
theorem yq48_Kg : yzrun yct48_a (xcut [yc48_86, yc48_87]) 67 yt48_K ((.pow (.sub (.num 4194310) (.var 1048960)) 0, 0, 7) :: (.sub (.var 128) (.var 1048960), 1, 16) :: yF48_K) = true := by decide +kernel
set_option maxRecDepth 100000 in
theorem yq48_Kx : yzrun yct48_a (xcut [yc48_88]) 17 yt48_K ((.sub (.var 128) (.var 1048960), 0, 0) :: yF48_K) = true := by decide +kernel
set_option maxRecDepth 100000 in
theorem yq48_B : yzrun yct48_c (xcut [yc48_89]) 13 yt48_B ((.sub (.var 128) (.var 1048960), 1, 16) :: yF48_B) = true := by decide +kernel
set_option maxRecDepth 100000 in
theorem yq48_Bx : yzrun yct48_d (xcut [yc48_90]) 123 yt48_B ((.var 4194310, (-1), (-1)) :: (.sub (.var 128) (.var 1048960), 0, 0) :: yF48_B) = true := by decide +kernel
set_option maxRecDepth 100000 in
theorem yq48_R0 : yzrun yct48_d (xcut [yc48_91]) 20 yt48_R0 ((.sub (.var 128) (.pow (.add (.pow (.add (.pow (.add (.pow (.add (.var 1048577) (.num 6364136223846793005)) 38) (.num 1442695040888963407)) 36) (.num 33)) 51) (.var 128)) 40), 1, 16) :: yF48_R0) = true := by decide +kernel
set_option maxRecDepth 100000 in
theorem yq48_V0n : yzrun yct48_d (xcut [yc48_92]) 23 yt48_V0 ((.var 1049024, 1, 15) :: (.sub (.var 128) (.var 1048960), 2, 16) :: yF48_V0) = true := by decide +kernel
set_option maxRecDepth 100000 in
theorem yq48_V0t : yzrun yct48_c (xcut [yc48_93]) 63 yt48_V0 ((.pow (.sub (.num 4194310) (.var 1048960)) 0, (-1), (-1)) :: (.var 1049024, 0, 0) :: (.sub (.var 128) (.var 1048960), 1, 16) :: yF48_V0) = true := by decide +kernel
set_option maxRecDepth 100000 in
theorem yq48_V0s0 : yzrun yct48_c (xcut [yc48_94, yc48_95]) 176 yt48_V0 ((.var 4195394, 0, 0) :: (.pow (.sub (.num 4194310) (.var 1048960)) 0, 0, 0) :: (.var 1049024, 0, 0) :: (.sub (.var 128) (.var 1048960), 1, 16) :: yF48_V0) = true := by decide +kernel
set_option maxRecDepth 100000 in
theorem yq48_V0s1 : yzrun yct48_c (xcut [yc48_96, yc48_97]) 176 yt48_V0 ((.var 4195458, 0, 0) :: (.pow (.sub (.num 4194310) (.var 1048960)) 0, 1, 1) :: (.var 1049024, 0, 0) :: (.sub (.var 128) (.var 1048960), 1, 16) :: yF48_V0) = true := by decide +kernel
set_option maxRecDepth 100000 in
theorem yq48_V0s2 : yzrun yct48_c (xcut [yc48_98, yc48_99]) 176 yt48_V0 ((.var 4195522, 0, 0) :: (.pow (.sub (.num 4194310) (.var 1048960)) 0, 2, 2) :: (.var 1049024, 0, 0) :: (.sub (.var 128) (.var 1048960), 1, 16) :: yF48_V0) = true := by decide +kernel
set_option maxRecDepth 100000 in
theorem yq48_V0s3 : yzrun yct48_c (xcut [yc48_100, yc48_101]) 176 yt48_V0 ((.var 4195586, 0, 0) :: (.pow (.sub (.num 4194310) (.var 1048960)) 0, 3, 3) :: (.var 1049024, 0, 0) :: (.sub (.var 128) (.var 1048960), 1, 16) :: yF48_V0) = true := by decide +kernel
set_option maxRecDepth 100000 in
theorem yq48_V0s4 : yzrun yct48_c (xcut [yc48_102, yc48_103]) 176 yt48_V0 ((.var 4195650, 0, 0) :: (.pow (.sub (.num 4194310) (.var 1048960)) 0, 4, 4) :: (.var 1049024, 0, 0) :: (.sub (.var 128) (.var 1048960), 1, 16) :: yF48_V0) = true := by decide +kernel
set_option maxRecDepth 100000 in
theorem yq48_V0s5 : yzrun yct48_c (xcut [yc48_104, yc48_105]) 176 yt48_V0 ((.var 4195714, 0, 0) :: (.pow (.sub (.num 4194310) (.var 1048960)) 0, 5, 5) :: (.var 1049024, 0, 0) :: (.sub (.var 128) (.var 1048960), 1, 16) :: yF48_V0) = true := by decide +kernel
set_option maxRecDepth 100000 in
theorem yq48_V0s6 : yzrun yct48_c (xcut [yc48_106, yc48_107]) 176 yt48_V0 ((.var 4195778, 0, 0) :: (.pow (.sub (.num 4194310) (.var 1048960)) 0, 6, 6) :: (.var 1049024, 0, 0) :: (.sub (.var 128) (.var 1048960), 1, 16) :: yF48_V0) = true := by decide +kernel
set_option maxRecDepth 100000 in
theorem yq48_V0s7 : yzrun yct48_c (xcut [yc48_108, yc48_109]) 176 yt48_V0 ((.var 4195842, 0, 0) :: (.pow (.sub (.num 4194310) (.var 1048960)) 0, 7, 7) :: (.var 1049024, 0, 0) :: (.sub (.var 128) (.var 1048960), 1, 16) :: yF48_V0) = true := by decide +kernel
set_option maxRecDepth 100000 in
theorem yq48_R1 : yzrun yct48_d (xcut [yc48_110]) 20 yt48_R1 ((.sub (.var 128) (.pow (.add (.pow (.add (.pow (.add (.pow (.add (.var 1048577) (.num 6364136223846793005)) 38) (.num 1442695040888963407)) 36) (.num 33)) 51) (.var 128)) 40), 1, 16) :: yF48_R1) = true := by decide +kernel
set_option maxRecDepth 100000 in
theorem yq48_V1n : yzrun yct48_d (xcut [yc48_111]) 23 yt48_V1 ((.var 1049024, 1, 15) :: (.sub (.var 128) (.var 1048960), 2, 16) :: yF48_V1) = true := by decide +kernel
set_option maxRecDepth 100000 in
theorem yq48_V1t : yzrun yct48_c (xcut [yc48_112]) 124 yt48_V1 ((.pow (.sub (.num 4194310) (.var 1048960)) 0, (-1), (-1)) :: (.var 1049024, 0, 0) :: (.sub (.var 128) (.var 1048960), 1, 16) :: yF48_V1) = true := by decide +kernel
set_option maxRecDepth 100000 in
theorem yq48_V1s0 : yzrun yct48_d (xcut [yc48_94, yc48_113, yc48_114]) 238 yt48_V1 ((.var 4195394, 0, 0) :: (.pow (.sub (.num 4194310) (.var 1048960)) 0, 0, 0) :: (.var 1049024, 0, 0) :: (.sub (.var 128) (.var 1048960), 1, 16) :: yF48_V1) = true := by decide +kernel
set_option maxRecDepth 100000 in
theorem yq48_V1s1 : yzrun yct48_d (xcut [yc48_96, yc48_115, yc48_116]) 238 yt48_V1 ((.var 4195458, 0, 0) :: (.pow (.sub (.num 4194310) (.var 1048960)) 0, 1, 1) :: (.var 1049024, 0, 0) :: (.sub (.var 128) (.var 1048960), 1, 16) :: yF48_V1) = true := by decide +kernel
set_option maxRecDepth 100000 in
theorem yq48_V1s2 : yzrun yct48_d (xcut [yc48_98, yc48_117, yc48_118]) 238 yt48_V1 ((.var 4195522, 0, 0) :: (.pow (.sub (.num 4194310) (.var 1048960)) 0, 2, 2) :: (.var 1049024, 0, 0) :: (.sub (.var 128) (.var 1048960), 1, 16) :: yF48_V1) = true := by decide +kernel
set_option maxRecDepth 100000 in
theorem yq48_V1s3 : yzrun yct48_d (xcut [yc48_100, yc48_119, yc48_120]) 238 yt48_V1 ((.var 4195586, 0, 0) :: (.pow (.sub (.num 4194310) (.var 1048960)) 0, 3, 3) :: (.var 1049024, 0, 0) :: (.sub (.var 128) (.var 1048960), 1, 16) :: yF48_V1) = true := by decide +kernel
set_option maxRecDepth 100000 in
theorem yq48_V1s4 : yzrun yct48_d (xcut [yc48_102, yc48_121, yc48_122]) 238 yt48_V1 ((.var 4195650, 0, 0) :: (.pow (.sub (.num 4194310) (.var 1048960)) 0, 4, 4) :: (.var 1049024, 0, 0) :: (.sub (.var 128) (.var 1048960), 1, 16) :: yF48_V1) = true := by decide +kernel
set_option maxRecDepth 100000 in
theorem yq48_V1s5 : yzrun yct48_d (xcut [yc48_104, yc48_123, yc48_124]) 238 yt48_V1 ((.var 4195714, 0, 0) :: (.pow (.sub (.num 4194310) (.var 1048960)) 0, 5, 5) :: (.var 1049024, 0, 0) :: (.sub (.var 128) (.var 1048960), 1, 16) :: yF48_V1) = true := by decide +kernel
end YQ48d
