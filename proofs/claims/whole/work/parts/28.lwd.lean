set_option maxRecDepth 100000 in
theorem cl_54 : (decide ((nth [] kL_law 54).length ≤ 32) && chkL false 15 code (32 * 54) (nth [] kL_law 54)) = true := by decide +kernel
set_option maxRecDepth 100000 in
theorem cl_55 : (decide ((nth [] kL_law 55).length ≤ 32) && chkL false 15 code (32 * 55) (nth [] kL_law 55)) = true := by decide +kernel
set_option maxRecDepth 100000 in
theorem cl_56 : (decide ((nth [] kL_law 56).length ≤ 32) && chkL false 15 code (32 * 56) (nth [] kL_law 56)) = true := by decide +kernel
set_option maxRecDepth 100000 in
theorem cl_57 : (decide ((nth [] kL_law 57).length ≤ 32) && chkL false 15 code (32 * 57) (nth [] kL_law 57)) = true := by decide +kernel
set_option maxRecDepth 100000 in
theorem cl_58 : (decide ((nth [] kL_law 58).length ≤ 32) && chkL false 15 code (32 * 58) (nth [] kL_law 58)) = true := by decide +kernel
set_option maxRecDepth 100000 in
theorem cl_59 : (decide ((nth [] kL_law 59).length ≤ 32) && chkL false 15 code (32 * 59) (nth [] kL_law 59)) = true := by decide +kernel
set_option maxRecDepth 100000 in
theorem cl_60 : (decide ((nth [] kL_law 60).length ≤ 32) && chkL false 15 code (32 * 60) (nth [] kL_law 60)) = true := by decide +kernel
set_option maxRecDepth 100000 in
theorem cl_61 : (decide ((nth [] kL_law 61).length ≤ 32) && chkL false 15 code (32 * 61) (nth [] kL_law 61)) = true := by decide +kernel
set_option maxRecDepth 100000 in
theorem cl_62 : (decide ((nth [] kL_law 62).length ≤ 32) && chkL false 15 code (32 * 62) (nth [] kL_law 62)) = true := by decide +kernel
set_option maxRecDepth 100000 in
theorem cl_63 : (decide ((nth [] kL_law 63).length ≤ 32) && chkL false 15 code (32 * 63) (nth [] kL_law 63)) = true := by decide +kernel
set_option maxRecDepth 100000 in
theorem cl_64 : (decide ((nth [] kL_law 64).length ≤ 32) && chkL false 15 code (32 * 64) (nth [] kL_law 64)) = true := by decide +kernel
set_option maxRecDepth 100000 in
theorem cl_65 : (decide ((nth [] kL_law 65).length ≤ 32) && chkL false 15 code (32 * 65) (nth [] kL_law 65)) = true := by decide +kernel
set_option maxRecDepth 100000 in
theorem cl_66 : (decide ((nth [] kL_law 66).length ≤ 32) && chkL false 15 code (32 * 66) (nth [] kL_law 66)) = true := by decide +kernel
set_option maxRecDepth 100000 in
theorem cl_67 : (decide ((nth [] kL_law 67).length ≤ 32) && chkL false 15 code (32 * 67) (nth [] kL_law 67)) = true := by decide +kernel
set_option maxRecDepth 100000 in
theorem cl_68 : (decide ((nth [] kL_law 68).length ≤ 32) && chkL false 15 code (32 * 68) (nth [] kL_law 68)) = true := by decide +kernel
set_option maxRecDepth 100000 in
theorem cl_69 : (decide ((nth [] kL_law 69).length ≤ 32) && chkL false 15 code (32 * 69) (nth [] kL_law 69)) = true := by decide +kernel
theorem ck_lw (j : Nat) (hj : j < 70) : (decide ((nth [] kL_law j).length ≤ 32) && chkL false 15 code (32 * j) (nth [] kL_law j)) = true := match j, hj with
  | 0, _ => cl_0
  | 1, _ => cl_1
  | 2, _ => cl_2
  | 3, _ => cl_3
  | 4, _ => cl_4
  | 5, _ => cl_5
  | 6, _ => cl_6
  | 7, _ => cl_7
  | 8, _ => cl_8
  | 9, _ => cl_9
  | 10, _ => cl_10
  | 11, _ => cl_11
  | 12, _ => cl_12
  | 13, _ => cl_13
  | 14, _ => cl_14
  | 15, _ => cl_15
  | 16, _ => cl_16
  | 17, _ => cl_17
  | 18, _ => cl_18
  | 19, _ => cl_19
  | 20, _ => cl_20
  | 21, _ => cl_21
  | 22, _ => cl_22
  | 23, _ => cl_23
  | 24, _ => cl_24
  | 25, _ => cl_25
  | 26, _ => cl_26
  | 27, _ => cl_27
  | 28, _ => cl_28
  | 29, _ => cl_29
  | 30, _ => cl_30
  | 31, _ => cl_31
  | 32, _ => cl_32
  | 33, _ => cl_33
  | 34, _ => cl_34
  | 35, _ => cl_35
  | 36, _ => cl_36
  | 37, _ => cl_37
  | 38, _ => cl_38
  | 39, _ => cl_39
  | 40, _ => cl_40
  | 41, _ => cl_41
  | 42, _ => cl_42
  | 43, _ => cl_43
  | 44, _ => cl_44
  | 45, _ => cl_45
  | 46, _ => cl_46
  | 47, _ => cl_47
  | 48, _ => cl_48
  | 49, _ => cl_49
  | 50, _ => cl_50
  | 51, _ => cl_51
  | 52, _ => cl_52
  | 53, _ => cl_53
  | 54, _ => cl_54
  | 55, _ => cl_55
  | 56, _ => cl_56
  | 57, _ => cl_57
  | 58, _ => cl_58
  | 59, _ => cl_59
  | 60, _ => cl_60
  | 61, _ => cl_61
  | 62, _ => cl_62
  | 63, _ => cl_63
  | 64, _ => cl_64
  | 65, _ => cl_65
  | 66, _ => cl_66
  | 67, _ => cl_67
  | 68, _ => cl_68
  | 69, _ => cl_69
  | j + 70, h => absurd h (by omega)
