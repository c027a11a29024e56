set_option maxRecDepth 100000 in
theorem cl_0 : (decide ((nth [] kL_law 0).length ≤ 32) && chkL false 15 code (32 * 0) (nth [] kL_law 0)) = true := by decide +kernel
set_option maxRecDepth 100000 in
theorem cl_1 : (decide ((nth [] kL_law 1).length ≤ 32) && chkL false 15 code (32 * 1) (nth [] kL_law 1)) = true := by decide +kernel
set_option maxRecDepth 100000 in
theorem cl_2 : (decide ((nth [] kL_law 2).length ≤ 32) && chkL false 15 code (32 * 2) (nth [] kL_law 2)) = true := by decide +kernel
set_option maxRecDepth 100000 in
theorem cl_3 : (decide ((nth [] kL_law 3).length ≤ 32) && chkL false 15 code (32 * 3) (nth [] kL_law 3)) = true := by decide +kernel
set_option maxRecDepth 100000 in
theorem cl_4 : (decide ((nth [] kL_law 4).length ≤ 32) && chkL false 15 code (32 * 4) (nth [] kL_law 4)) = true := by decide +kernel
set_option maxRecDepth 100000 in
theorem cl_5 : (decide ((nth [] kL_law 5).length ≤ 32) && chkL false 15 code (32 * 5) (nth [] kL_law 5)) = true := by decide +kernel
set_option maxRecDepth 100000 in
theorem cl_6 : (decide ((nth [] kL_law 6).length ≤ 32) && chkL false 15 code (32 * 6) (nth [] kL_law 6)) = true := by decide +kernel
set_option maxRecDepth 100000 in
theorem cl_7 : (decide ((nth [] kL_law 7).length ≤ 32) && chkL false 15 code (32 * 7) (nth [] kL_law 7)) = true := by decide +kernel
set_option maxRecDepth 100000 in
theorem cl_8 : (decide ((nth [] kL_law 8).length ≤ 32) && chkL false 15 code (32 * 8) (nth [] kL_law 8)) = true := by decide +kernel
set_option maxRecDepth 100000 in
theorem cl_9 : (decide ((nth [] kL_law 9).length ≤ 32) && chkL false 15 code (32 * 9) (nth [] kL_law 9)) = true := by decide +kernel
set_option maxRecDepth 100000 in
theorem cl_10 : (decide ((nth [] kL_law 10).length ≤ 32) && chkL false 15 code (32 * 10) (nth [] kL_law 10)) = true := by decide +kernel
set_option maxRecDepth 100000 in
theorem cl_11 : (decide ((nth [] kL_law 11).length ≤ 32) && chkL false 15 code (32 * 11) (nth [] kL_law 11)) = true := by decide +kernel
set_option maxRecDepth 100000 in
theorem cl_12 : (decide ((nth [] kL_law 12).length ≤ 32) && chkL false 15 code (32 * 12) (nth [] kL_law 12)) = true := by decide +kernel
set_option maxRecDepth 100000 in
theorem cl_13 : (decide ((nth [] kL_law 13).length ≤ 32) && chkL false 15 code (32 * 13) (nth [] kL_law 13)) = true := by decide +kernel
set_option maxRecDepth 100000 in
theorem cl_14 : (decide ((nth [] kL_law 14).length ≤ 32) && chkL false 15 code (32 * 14) (nth [] kL_law 14)) = true := by decide +kernel
set_option maxRecDepth 100000 in
theorem cl_15 : (decide ((nth [] kL_law 15).length ≤ 32) && chkL false 15 code (32 * 15) (nth [] kL_law 15)) = true := by decide +kernel
set_option maxRecDepth 100000 in
theorem cl_16 : (decide ((nth [] kL_law 16).length ≤ 32) && chkL false 15 code (32 * 16) (nth [] kL_law 16)) = true := by decide +kernel
set_option maxRecDepth 100000 in
theorem cl_17 : (decide ((nth [] kL_law 17).length ≤ 32) && chkL false 15 code (32 * 17) (nth [] kL_law 17)) = true := by decide +kernel
