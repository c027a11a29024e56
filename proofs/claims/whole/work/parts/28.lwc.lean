set_option maxRecDepth 100000 in
theorem cl_36 : (decide ((nth [] kL_law 36).length ≤ 32) && chkL false 15 code (32 * 36) (nth [] kL_law 36)) = true := by decide +kernel
set_option maxRecDepth 100000 in
theorem cl_37 : (decide ((nth [] kL_law 37).length ≤ 32) && chkL false 15 code (32 * 37) (nth [] kL_law 37)) = true := by decide +kernel
set_option maxRecDepth 100000 in
theorem cl_38 : (decide ((nth [] kL_law 38).length ≤ 32) && chkL false 15 code (32 * 38) (nth [] kL_law 38)) = true := by decide +kernel
set_option maxRecDepth 100000 in
theorem cl_39 : (decide ((nth [] kL_law 39).length ≤ 32) && chkL false 15 code (32 * 39) (nth [] kL_law 39)) = true := by decide +kernel
set_option maxRecDepth 100000 in
theorem cl_40 : (decide ((nth [] kL_law 40).length ≤ 32) && chkL false 15 code (32 * 40) (nth [] kL_law 40)) = true := by decide +kernel
set_option maxRecDepth 100000 in
theorem cl_41 : (decide ((nth [] kL_law 41).length ≤ 32) && chkL false 15 code (32 * 41) (nth [] kL_law 41)) = true := by decide +kernel
set_option maxRecDepth 100000 in
theorem cl_42 : (decide ((nth [] kL_law 42).length ≤ 32) && chkL false 15 code (32 * 42) (nth [] kL_law 42)) = true := by decide +kernel
set_option maxRecDepth 100000 in
theorem cl_43 : (decide ((nth [] kL_law 43).length ≤ 32) && chkL false 15 code (32 * 43) (nth [] kL_law 43)) = true := by decide +kernel
set_option maxRecDepth 100000 in
theorem cl_44 : (decide ((nth [] kL_law 44).length ≤ 32) && chkL false 15 code (32 * 44) (nth [] kL_law 44)) = true := by decide +kernel
set_option maxRecDepth 100000 in
theorem cl_45 : (decide ((nth [] kL_law 45).length ≤ 32) && chkL false 15 code (32 * 45) (nth [] kL_law 45)) = true := by decide +kernel
set_option maxRecDepth 100000 in
theorem cl_46 : (decide ((nth [] kL_law 46).length ≤ 32) && chkL false 15 code (32 * 46) (nth [] kL_law 46)) = true := by decide +kernel
set_option maxRecDepth 100000 in
theorem cl_47 : (decide ((nth [] kL_law 47).length ≤ 32) && chkL false 15 code (32 * 47) (nth [] kL_law 47)) = true := by decide +kernel
set_option maxRecDepth 100000 in
theorem cl_48 : (decide ((nth [] kL_law 48).length ≤ 32) && chkL false 15 code (32 * 48) (nth [] kL_law 48)) = true := by decide +kernel
set_option maxRecDepth 100000 in
theorem cl_49 : (decide ((nth [] kL_law 49).length ≤ 32) && chkL false 15 code (32 * 49) (nth [] kL_law 49)) = true := by decide +kernel
set_option maxRecDepth 100000 in
theorem cl_50 : (decide ((nth [] kL_law 50).length ≤ 32) && chkL false 15 code (32 * 50) (nth [] kL_law 50)) = true := by decide +kernel
set_option maxRecDepth 100000 in
theorem cl_51 : (decide ((nth [] kL_law 51).length ≤ 32) && chkL false 15 code (32 * 51) (nth [] kL_law 51)) = true := by decide +kernel
set_option maxRecDepth 100000 in
theorem cl_52 : (decide ((nth [] kL_law 52).length ≤ 32) && chkL false 15 code (32 * 52) (nth [] kL_law 52)) = true := by decide +kernel
set_option maxRecDepth 100000 in
theorem cl_53 : (decide ((nth [] kL_law 53).length ≤ 32) && chkL false 15 code (32 * 53) (nth [] kL_law 53)) = true := by decide +kernel
