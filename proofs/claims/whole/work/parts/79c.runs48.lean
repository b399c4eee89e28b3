noncomputable section YQ48c
set_option maxRecDepth 100000 in
theorem yq48_W4s0 : yzrun yct48_a (xcut [yc48_3, yc48_59, yc48_23]) 288 yt48_W4 ((.var 4195394, 0, 0) :: (.pow (.sub (.num 4194310) (.var 1048960)) 0, 0, 0) :: (.sub (.var 1048960) (.var 1049024), 0, 0) :: (.sub (.var 128) (.var 1048960), 1, 16) :: yF48_W4) = true := by decide +kernel
set_option maxRecDepth 100000 in
theorem yq48_W4s1 : yzrun yct48_a (xcut [yc48_5, yc48_60, yc48_25]) 288 yt48_W4 ((.var 4195458, 0, 0) :: (.pow (.sub (.num 4194310) (.var 1048960)) 0, 1, 1) :: (.sub (.var 1048960) (.var 1049024), 0, 0) :: (.sub (.var 128) (.var 1048960), 1, 16) :: yF48_W4) = true := by decide +kernel
set_option maxRecDepth 100000 in
theorem yq48_W4s2 : yzrun yct48_a (xcut [yc48_7, yc48_61, yc48_27]) 288 yt48_W4 ((.var 4195522, 0, 0) :: (.pow (.sub (.num 4194310) (.var 1048960)) 0, 2, 2) :: (.sub (.var 1048960) (.var 1049024), 0, 0) :: (.sub (.var 128) (.var 1048960), 1, 16) :: yF48_W4) = true := by decide +kernel
set_option maxRecDepth 100000 in
theorem yq48_W4s3 : yzrun yct48_a (xcut [yc48_9, yc48_62, yc48_29]) 288 yt48_W4 ((.var 4195586, 0, 0) :: (.pow (.sub (.num 4194310) (.var 1048960)) 0, 3, 3) :: (.sub (.var 1048960) (.var 1049024), 0, 0) :: (.sub (.var 128) (.var 1048960), 1, 16) :: yF48_W4) = true := by decide +kernel
set_option maxRecDepth 100000 in
theorem yq48_C5 : yzrun yct48_a (xcut [yc48_63]) 36 yt48_C5 ((.sub (.var 128) (.pow (.add (.pow (.add (.pow (.add (.pow (.add (.var 1048577) (.num 6364136223846793005)) 38) (.num 1442695040888963407)) 36) (.num 33)) 51) (.var 128)) 40), 1, 16) :: yF48_C5) = true := by decide +kernel
set_option maxRecDepth 100000 in
theorem yq48_W5n : yzrun yct48_a (xcut [yc48_64]) 19 yt48_W5 ((.sub (.var 1048960) (.var 1049024), (-15), (-1)) :: (.sub (.var 128) (.var 1048960), 1, 16) :: yF48_W5) = true := by decide +kernel
set_option maxRecDepth 100000 in
theorem yq48_W5t : yzrun yct48_a (xcut [yc48_65, yc48_66]) 315 yt48_W5 ((.pow (.sub (.num 4194310) (.var 1048960)) 0, (-1), (-1)) :: (.sub (.var 1048960) (.var 1049024), 0, 0) :: (.sub (.var 128) (.var 1048960), 1, 16) :: yF48_W5) = true := by decide +kernel
set_option maxRecDepth 100000 in
theorem yq48_W5s0 : yzrun yct48_a (xcut [yc48_3, yc48_67, yc48_23]) 288 yt48_W5 ((.var 4195394, 0, 0) :: (.pow (.sub (.num 4194310) (.var 1048960)) 0, 0, 0) :: (.sub (.var 1048960) (.var 1049024), 0, 0) :: (.sub (.var 128) (.var 1048960), 1, 16) :: yF48_W5) = true := by decide +kernel
set_option maxRecDepth 100000 in
theorem yq48_W5s1 : yzrun yct48_a (xcut [yc48_5, yc48_68, yc48_25]) 288 yt48_W5 ((.var 4195458, 0, 0) :: (.pow (.sub (.num 4194310) (.var 1048960)) 0, 1, 1) :: (.sub (.var 1048960) (.var 1049024), 0, 0) :: (.sub (.var 128) (.var 1048960), 1, 16) :: yF48_W5) = true := by decide +kernel
set_option maxRecDepth 100000 in
theorem yq48_W5s2 : yzrun yct48_a (xcut [yc48_7, yc48_69, yc48_27]) 288 yt48_W5 ((.var 4195522, 0, 0) :: (.pow (.sub (.num 4194310) (.var 1048960)) 0, 2, 2) :: (.sub (.var 1048960) (.var 1049024), 0, 0) :: (.sub (.var 128) (.var 1048960), 1, 16) :: yF48_W5) = true := by decide +kernel
set_option maxRecDepth 100000 in
theorem yq48_C6 : yzrun yct48_a (xcut [yc48_70]) 36 yt48_C6 ((.sub (.var 128) (.pow (.add (.pow (.add (.pow (.add (.pow (.add (.var 1048577) (.num 6364136223846793005)) 38) (.num 1442695040888963407)) 36) (.num 33)) 51) (.var 128)) 40), 1, 16) :: yF48_C6) = true := by decide +kernel
set_option maxRecDepth 100000 in
theorem yq48_W6n : yzrun yct48_a (xcut [yc48_71]) 19 yt48_W6 ((.sub (.var 1048960) (.var 1049024), (-15), (-1)) :: (.sub (.var 128) (.var 1048960), 1, 16) :: yF48_W6) = true := by decide +kernel
set_option maxRecDepth 100000 in
theorem yq48_W6t : yzrun yct48_a (xcut [yc48_72, yc48_73]) 336 yt48_W6 ((.pow (.sub (.num 4194310) (.var 1048960)) 0, (-1), (-1)) :: (.sub (.var 1048960) (.var 1049024), 0, 0) :: (.sub (.var 128) (.var 1048960), 1, 16) :: yF48_W6) = true := by decide +kernel
set_option maxRecDepth 100000 in
theorem yq48_W6s0 : yzrun yct48_a (xcut [yc48_3, yc48_74, yc48_23]) 288 yt48_W6 ((.var 4195394, 0, 0) :: (.pow (.sub (.num 4194310) (.var 1048960)) 0, 0, 0) :: (.sub (.var 1048960) (.var 1049024), 0, 0) :: (.sub (.var 128) (.var 1048960), 1, 16) :: yF48_W6) = true := by decide +kernel
set_option maxRecDepth 100000 in
theorem yq48_W6s1 : yzrun yct48_a (xcut [yc48_5, yc48_75, yc48_25]) 288 yt48_W6 ((.var 4195458, 0, 0) :: (.pow (.sub (.num 4194310) (.var 1048960)) 0, 1, 1) :: (.sub (.var 1048960) (.var 1049024), 0, 0) :: (.sub (.var 128) (.var 1048960), 1, 16) :: yF48_W6) = true := by decide +kernel
set_option maxRecDepth 100000 in
theorem yq48_C7 : yzrun yct48_a (xcut [yc48_76]) 36 yt48_C7 ((.sub (.var 128) (.pow (.add (.pow (.add (.pow (.add (.pow (.add (.var 1048577) (.num 6364136223846793005)) 38) (.num 1442695040888963407)) 36) (.num 33)) 51) (.var 128)) 40), 1, 16) :: yF48_C7) = true := by decide +kernel
set_option maxRecDepth 100000 in
theorem yq48_W7n : yzrun yct48_a (xcut [yc48_77]) 19 yt48_W7 ((.sub (.var 1048960) (.var 1049024), (-15), (-1)) :: (.sub (.var 128) (.var 1048960), 1, 16) :: yF48_W7) = true := by decide +kernel
set_option maxRecDepth 100000 in
theorem yq48_W7t : yzrun yct48_a (xcut [yc48_78, yc48_79]) 357 yt48_W7 ((.pow (.sub (.num 4194310) (.var 1048960)) 0, (-1), (-1)) :: (.sub (.var 1048960) (.var 1049024), 0, 0) :: (.sub (.var 128) (.var 1048960), 1, 16) :: yF48_W7) = true := by decide +kernel
set_option maxRecDepth 100000 in
theorem yq48_W7s0 : yzrun yct48_a (xcut [yc48_3, yc48_80, yc48_23]) 288 yt48_W7 ((.var 4195394, 0, 0) :: (.pow (.sub (.num 4194310) (.var 1048960)) 0, 0, 0) :: (.sub (.var 1048960) (.var 1049024), 0, 0) :: (.sub (.var 128) (.var 1048960), 1, 16) :: yF48_W7) = true := by decide +kernel
set_option maxRecDepth 100000 in
theorem yq48_C8 : yzrun yct48_a (xcut [yc48_81]) 36 yt48_C8 ((.sub (.var 128) (.pow (.add (.pow (.add (.pow (.add (.pow (.add (.var 1048577) (.num 6364136223846793005)) 38) (.num 1442695040888963407)) 36) (.num 33)) 51) (.var 128)) 40), 1, 16) :: yF48_C8) = true := by decide +kernel
set_option maxRecDepth 100000 in
theorem yq48_W8n : yzrun yct48_a (xcut [yc48_82]) 19 yt48_W8 ((.sub (.var 1048960) (.var 1049024), (-15), (-1)) :: (.sub (.var 128) (.var 1048960), 1, 16) :: yF48_W8) = true := by decide +kernel
end YQ48c
