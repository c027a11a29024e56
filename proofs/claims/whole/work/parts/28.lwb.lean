set_option maxRecDepth 100000 in
theorem cl_18 : (decide ((nth [] kL_law 18).length ≤ 32) && chkL false 15 code (32 * 18) (nth [] kL_law 18)) = true := by decide +kernel
set_option maxRecDepth 100000 in
theorem cl_19 : (decide ((nth [] kL_law 19).length ≤ 32) && chkL false 15 code (32 * 19) (nth [] kL_law 19)) = true := by decide +kernel
set_option maxRecDepth 100000 in
theorem cl_20 : (decide ((nth [] kL_law 20).length ≤ 32) && chkL false 15 code (32 * 20) (nth [] kL_law 20)) = true := by decide +kernel
set_option maxRecDepth 100000 in
theorem cl_21 : (decide ((nth [] kL_law 21).length ≤ 32) && chkL false 15 code (32 * 21) (nth [] kL_law 21)) = true := by decide +kernel
set_option maxRecDepth 100000 in
theorem cl_22 : (decide ((nth [] kL_law 22).length ≤ 32) && chkL false 15 code (32 * 22) (nth [] kL_law 22)) = true := by decide +kernel
set_option maxRecDepth 100000 in
theorem cl_23 : (decide ((nth [] kL_law 23).length ≤ 32) && chkL false 15 code (32 * 23) (nth [] kL_law 23)) = true := by decide +kernel
set_option maxRecDepth 100000 in
theorem cl_24 : (decide ((nth [] kL_law 24).length ≤ 32) && chkL false 15 code (32 * 24) (nth [] kL_law 24)) = true := by decide +kernel
set_option maxRecDepth 100000 in
theorem cl_25 : (decide ((nth [] kL_law 25).length ≤ 32) && chkL false 15 code (32 * 25) (nth [] kL_law 25)) = true := by decide +kernel
set_option maxRecDepth 100000 in
theorem cl_26 : (decide ((nth [] kL_law 26).length ≤ 32) && chkL false 15 code (32 * 26) (nth [] kL_law 26)) = true := by decide +kernel
set_option maxRecDepth 100000 in
theorem cl_27 : (decide ((nth [] kL_law 27).length ≤ 32) && chkL false 15 code (32 * 27) (nth [] kL_law 27)) = true := by decide +kernel
set_option maxRecDepth 100000 in
theorem cl_28 : (decide ((nth [] kL_law 28).length ≤ 32) && chkL false 15 code (32 * 28) (nth [] kL_law 28)) = true := by decide +kernel
set_option maxRecDepth 100000 in
theorem cl_29 : (decide ((nth [] kL_law 29).length ≤ 32) && chkL false 15 code (32 * 29) (nth [] kL_law 29)) = true := by decide +kernel
set_option maxRecDepth 100000 in
theorem cl_30 : (decide ((nth [] kL_law 30).length ≤ 32) && chkL false 15 code (32 * 30) (nth [] kL_law 30)) = true := by decide +kernel
set_option maxRecDepth 100000 in
theorem cl_31 : (decide ((nth [] kL_law 31).length ≤ 32) && chkL false 15 code (32 * 31) (nth [] kL_law 31)) = true := by decide +kernel
set_option maxRecDepth 100000 in
theorem cl_32 : (decide ((nth [] kL_law 32).length ≤ 32) && chkL false 15 code (32 * 32) (nth [] kL_law 32)) = true := by decide +kernel
set_option maxRecDepth 100000 in
theorem cl_33 : (decide ((nth [] kL_law 33).length ≤ 32) && chkL false 15 code (32 * 33) (nth [] kL_law 33)) = true := by decide +kernel
set_option maxRecDepth 100000 in
theorem cl_34 : (decide ((nth [] kL_law 34).length ≤ 32) && chkL false 15 code (32 * 34) (nth [] kL_law 34)) = true := by decide +kernel
set_option maxRecDepth 100000 in
theorem cl_35 : (decide ((nth [] kL_law 35).length ≤ 32) && chkL false 15 code (32 * 35) (nth [] kL_law 35)) = true := by decide +kernel
