/-! CONTRACTS: texts (String.length, charAt, indexOf on the constants), Tokens.spells .. (by program, wip/whole/gen22.py) -/
theorem sl_0 (h : sm_H) : sm_ex none 40 6 203 0 (lv_args 0 [.float 1]) [] h = some (some (.int 6), h) := rfl
theorem sc_0_0 (h : sm_H) : sm_ex none 80 8 198 0 (lv_args 0 [.float 1, .int 0]) [] h = some (some (.int 99), h) := rfl
theorem sc_0_1 (h : sm_H) : sm_ex none 80 8 198 0 (lv_args 0 [.float 1, .int 1]) [] h = some (some (.int 114), h) := rfl
theorem sc_0_2 (h : sm_H) : sm_ex none 80 8 198 0 (lv_args 0 [.float 1, .int 2]) [] h = some (some (.int 101), h) := rfl
theorem sc_0_3 (h : sm_H) : sm_ex none 80 8 198 0 (lv_args 0 [.float 1, .int 3]) [] h = some (some (.int 97), h) := rfl
theorem sc_0_4 (h : sm_H) : sm_ex none 80 8 198 0 (lv_args 0 [.float 1, .int 4]) [] h = some (some (.int 116), h) := rfl
theorem sc_0_5 (h : sm_H) : sm_ex none 80 8 198 0 (lv_args 0 [.float 1, .int 5]) [] h = some (some (.int 101), h) := rfl
theorem sl_1 (h : sm_H) : sm_ex none 40 6 203 0 (lv_args 0 [.float 3]) [] h = some (some (.int 5), h) := rfl
theorem sc_1_0 (h : sm_H) : sm_ex none 80 8 198 0 (lv_args 0 [.float 3, .int 0]) [] h = some (some (.int 105), h) := rfl
theorem sc_1_1 (h : sm_H) : sm_ex none 80 8 198 0 (lv_args 0 [.float 3, .int 1]) [] h = some (some (.int 110), h) := rfl
theorem sc_1_2 (h : sm_H) : sm_ex none 80 8 198 0 (lv_args 0 [.float 3, .int 2]) [] h = some (some (.int 100), h) := rfl
theorem sc_1_3 (h : sm_H) : sm_ex none 80 8 198 0 (lv_args 0 [.float 3, .int 3]) [] h = some (some (.int 101), h) := rfl
theorem sc_1_4 (h : sm_H) : sm_ex none 80 8 198 0 (lv_args 0 [.float 3, .int 4]) [] h = some (some (.int 120), h) := rfl
theorem sl_2 (h : sm_H) : sm_ex none 40 6 203 0 (lv_args 0 [.float 5]) [] h = some (some (.int 6), h) := rfl
theorem sc_2_0 (h : sm_H) : sm_ex none 80 8 198 0 (lv_args 0 [.float 5, .int 0]) [] h = some (some (.int 105), h) := rfl
theorem sc_2_1 (h : sm_H) : sm_ex none 80 8 198 0 (lv_args 0 [.float 5, .int 1]) [] h = some (some (.int 110), h) := rfl
theorem sc_2_2 (h : sm_H) : sm_ex none 80 8 198 0 (lv_args 0 [.float 5, .int 2]) [] h = some (some (.int 115), h) := rfl
theorem sc_2_3 (h : sm_H) : sm_ex none 80 8 198 0 (lv_args 0 [.float 5, .int 3]) [] h = some (some (.int 101), h) := rfl
theorem sc_2_4 (h : sm_H) : sm_ex none 80 8 198 0 (lv_args 0 [.float 5, .int 4]) [] h = some (some (.int 114), h) := rfl
theorem sc_2_5 (h : sm_H) : sm_ex none 80 8 198 0 (lv_args 0 [.float 5, .int 5]) [] h = some (some (.int 116), h) := rfl
theorem sl_3 (h : sm_H) : sm_ex none 40 6 203 0 (lv_args 0 [.float 7]) [] h = some (some (.int 6), h) := rfl
theorem sc_3_0 (h : sm_H) : sm_ex none 80 8 198 0 (lv_args 0 [.float 7, .int 0]) [] h = some (some (.int 117), h) := rfl
theorem sc_3_1 (h : sm_H) : sm_ex none 80 8 198 0 (lv_args 0 [.float 7, .int 1]) [] h = some (some (.int 112), h) := rfl
theorem sc_3_2 (h : sm_H) : sm_ex none 80 8 198 0 (lv_args 0 [.float 7, .int 2]) [] h = some (some (.int 100), h) := rfl
theorem sc_3_3 (h : sm_H) : sm_ex none 80 8 198 0 (lv_args 0 [.float 7, .int 3]) [] h = some (some (.int 97), h) := rfl
theorem sc_3_4 (h : sm_H) : sm_ex none 80 8 198 0 (lv_args 0 [.float 7, .int 4]) [] h = some (some (.int 116), h) := rfl
theorem sc_3_5 (h : sm_H) : sm_ex none 80 8 198 0 (lv_args 0 [.float 7, .int 5]) [] h = some (some (.int 101), h) := rfl
theorem sl_4 (h : sm_H) : sm_ex none 40 6 203 0 (lv_args 0 [.float 9]) [] h = some (some (.int 6), h) := rfl
theorem sc_4_0 (h : sm_H) : sm_ex none 80 8 198 0 (lv_args 0 [.float 9, .int 0]) [] h = some (some (.int 100), h) := rfl
theorem sc_4_1 (h : sm_H) : sm_ex none 80 8 198 0 (lv_args 0 [.float 9, .int 1]) [] h = some (some (.int 101), h) := rfl
theorem sc_4_2 (h : sm_H) : sm_ex none 80 8 198 0 (lv_args 0 [.float 9, .int 2]) [] h = some (some (.int 108), h) := rfl
theorem sc_4_3 (h : sm_H) : sm_ex none 80 8 198 0 (lv_args 0 [.float 9, .int 3]) [] h = some (some (.int 101), h) := rfl
theorem sc_4_4 (h : sm_H) : sm_ex none 80 8 198 0 (lv_args 0 [.float 9, .int 4]) [] h = some (some (.int 116), h) := rfl
theorem sc_4_5 (h : sm_H) : sm_ex none 80 8 198 0 (lv_args 0 [.float 9, .int 5]) [] h = some (some (.int 101), h) := rfl
theorem sl_5 (h : sm_H) : sm_ex none 40 6 203 0 (lv_args 0 [.float 11]) [] h = some (some (.int 6), h) := rfl
theorem sc_5_0 (h : sm_H) : sm_ex none 80 8 198 0 (lv_args 0 [.float 11, .int 0]) [] h = some (some (.int 115), h) := rfl
theorem sc_5_1 (h : sm_H) : sm_ex none 80 8 198 0 (lv_args 0 [.float 11, .int 1]) [] h = some (some (.int 101), h) := rfl
theorem sc_5_2 (h : sm_H) : sm_ex none 80 8 198 0 (lv_args 0 [.float 11, .int 2]) [] h = some (some (.int 108), h) := rfl
theorem sc_5_3 (h : sm_H) : sm_ex none 80 8 198 0 (lv_args 0 [.float 11, .int 3]) [] h = some (some (.int 101), h) := rfl
theorem sc_5_4 (h : sm_H) : sm_ex none 80 8 198 0 (lv_args 0 [.float 11, .int 4]) [] h = some (some (.int 99), h) := rfl
theorem sc_5_5 (h : sm_H) : sm_ex none 80 8 198 0 (lv_args 0 [.float 11, .int 5]) [] h = some (some (.int 116), h) := rfl
theorem sl_6 (h : sm_H) : sm_ex none 40 6 203 0 (lv_args 0 [.float 13]) [] h = some (some (.int 4), h) := rfl
theorem sc_6_0 (h : sm_H) : sm_ex none 80 8 198 0 (lv_args 0 [.float 13, .int 0]) [] h = some (some (.int 102), h) := rfl
theorem sc_6_1 (h : sm_H) : sm_ex none 80 8 198 0 (lv_args 0 [.float 13, .int 1]) [] h = some (some (.int 114), h) := rfl
theorem sc_6_2 (h : sm_H) : sm_ex none 80 8 198 0 (lv_args 0 [.float 13, .int 2]) [] h = some (some (.int 111), h) := rfl
theorem sc_6_3 (h : sm_H) : sm_ex none 80 8 198 0 (lv_args 0 [.float 13, .int 3]) [] h = some (some (.int 109), h) := rfl
theorem sl_7 (h : sm_H) : sm_ex none 40 6 203 0 (lv_args 0 [.float 15]) [] h = some (some (.int 5), h) := rfl
theorem sc_7_0 (h : sm_H) : sm_ex none 80 8 198 0 (lv_args 0 [.float 15, .int 0]) [] h = some (some (.int 119), h) := rfl
theorem sc_7_1 (h : sm_H) : sm_ex none 80 8 198 0 (lv_args 0 [.float 15, .int 1]) [] h = some (some (.int 104), h) := rfl
theorem sc_7_2 (h : sm_H) : sm_ex none 80 8 198 0 (lv_args 0 [.float 15, .int 2]) [] h = some (some (.int 101), h) := rfl
theorem sc_7_3 (h : sm_H) : sm_ex none 80 8 198 0 (lv_args 0 [.float 15, .int 3]) [] h = some (some (.int 114), h) := rfl
theorem sc_7_4 (h : sm_H) : sm_ex none 80 8 198 0 (lv_args 0 [.float 15, .int 4]) [] h = some (some (.int 101), h) := rfl
theorem sl_8 (h : sm_H) : sm_ex none 40 6 203 0 (lv_args 0 [.float 17]) [] h = some (some (.int 5), h) := rfl
theorem sc_8_0 (h : sm_H) : sm_ex none 80 8 198 0 (lv_args 0 [.float 17, .int 0]) [] h = some (some (.int 111), h) := rfl
theorem sc_8_1 (h : sm_H) : sm_ex none 80 8 198 0 (lv_args 0 [.float 17, .int 1]) [] h = some (some (.int 114), h) := rfl
theorem sc_8_2 (h : sm_H) : sm_ex none 80 8 198 0 (lv_args 0 [.float 17, .int 2]) [] h = some (some (.int 100), h) := rfl
theorem sc_8_3 (h : sm_H) : sm_ex none 80 8 198 0 (lv_args 0 [.float 17, .int 3]) [] h = some (some (.int 101), h) := rfl
theorem sc_8_4 (h : sm_H) : sm_ex none 80 8 198 0 (lv_args 0 [.float 17, .int 4]) [] h = some (some (.int 114), h) := rfl
theorem sl_9 (h : sm_H) : sm_ex none 40 6 203 0 (lv_args 0 [.float 19]) [] h = some (some (.int 4), h) := rfl
theorem sc_9_0 (h : sm_H) : sm_ex none 80 8 198 0 (lv_args 0 [.float 19, .int 0]) [] h = some (some (.int 100), h) := rfl
theorem sc_9_1 (h : sm_H) : sm_ex none 80 8 198 0 (lv_args 0 [.float 19, .int 1]) [] h = some (some (.int 101), h) := rfl
theorem sc_9_2 (h : sm_H) : sm_ex none 80 8 198 0 (lv_args 0 [.float 19, .int 2]) [] h = some (some (.int 115), h) := rfl
theorem sc_9_3 (h : sm_H) : sm_ex none 80 8 198 0 (lv_args 0 [.float 19, .int 3]) [] h = some (some (.int 99), h) := rfl
theorem sl_10 (h : sm_H) : sm_ex none 40 6 203 0 (lv_args 0 [.float 21]) [] h = some (some (.int 5), h) := rfl
theorem sc_10_0 (h : sm_H) : sm_ex none 80 8 198 0 (lv_args 0 [.float 21, .int 0]) [] h = some (some (.int 108), h) := rfl
theorem sc_10_1 (h : sm_H) : sm_ex none 80 8 198 0 (lv_args 0 [.float 21, .int 1]) [] h = some (some (.int 105), h) := rfl
theorem sc_10_2 (h : sm_H) : sm_ex none 80 8 198 0 (lv_args 0 [.float 21, .int 2]) [] h = some (some (.int 109), h) := rfl
theorem sc_10_3 (h : sm_H) : sm_ex none 80 8 198 0 (lv_args 0 [.float 21, .int 3]) [] h = some (some (.int 105), h) := rfl
theorem sc_10_4 (h : sm_H) : sm_ex none 80 8 198 0 (lv_args 0 [.float 21, .int 4]) [] h = some (some (.int 116), h) := rfl
theorem sl_11 (h : sm_H) : sm_ex none 40 6 203 0 (lv_args 0 [.float 23]) [] h = some (some (.int 4), h) := rfl
theorem sc_11_0 (h : sm_H) : sm_ex none 80 8 198 0 (lv_args 0 [.float 23, .int 0]) [] h = some (some (.int 110), h) := rfl
theorem sc_11_1 (h : sm_H) : sm_ex none 80 8 198 0 (lv_args 0 [.float 23, .int 1]) [] h = some (some (.int 117), h) := rfl
theorem sc_11_2 (h : sm_H) : sm_ex none 80 8 198 0 (lv_args 0 [.float 23, .int 2]) [] h = some (some (.int 108), h) := rfl
theorem sc_11_3 (h : sm_H) : sm_ex none 80 8 198 0 (lv_args 0 [.float 23, .int 3]) [] h = some (some (.int 108), h) := rfl
theorem sl_12 (h : sm_H) : sm_ex none 40 6 203 0 (lv_args 0 [.float 25]) [] h = some (some (.int 2), h) := rfl
theorem sc_12_0 (h : sm_H) : sm_ex none 80 8 198 0 (lv_args 0 [.float 25, .int 0]) [] h = some (some (.int 111), h) := rfl
theorem sc_12_1 (h : sm_H) : sm_ex none 80 8 198 0 (lv_args 0 [.float 25, .int 1]) [] h = some (some (.int 114), h) := rfl
theorem sl_13 (h : sm_H) : sm_ex none 40 6 203 0 (lv_args 0 [.float 27]) [] h = some (some (.int 3), h) := rfl
theorem sc_13_0 (h : sm_H) : sm_ex none 80 8 198 0 (lv_args 0 [.float 27, .int 0]) [] h = some (some (.int 97), h) := rfl
theorem sc_13_1 (h : sm_H) : sm_ex none 80 8 198 0 (lv_args 0 [.float 27, .int 1]) [] h = some (some (.int 110), h) := rfl
theorem sc_13_2 (h : sm_H) : sm_ex none 80 8 198 0 (lv_args 0 [.float 27, .int 2]) [] h = some (some (.int 100), h) := rfl
theorem sl_14 (h : sm_H) : sm_ex none 40 6 203 0 (lv_args 0 [.float 29]) [] h = some (some (.int 3), h) := rfl
theorem sc_14_0 (h : sm_H) : sm_ex none 80 8 198 0 (lv_args 0 [.float 29, .int 0]) [] h = some (some (.int 110), h) := rfl
theorem sc_14_1 (h : sm_H) : sm_ex none 80 8 198 0 (lv_args 0 [.float 29, .int 1]) [] h = some (some (.int 111), h) := rfl
theorem sc_14_2 (h : sm_H) : sm_ex none 80 8 198 0 (lv_args 0 [.float 29, .int 2]) [] h = some (some (.int 116), h) := rfl
theorem sl_15 (h : sm_H) : sm_ex none 40 6 203 0 (lv_args 0 [.float 31]) [] h = some (some (.int 13), h) := rfl
theorem ixf_32 (h : sm_H) : sm_ex none 300 10 200 0 (lv_args 0 [.float 31, .int 32]) [] h = some (some (.int (-1)), h) := rfl
theorem ixf_33 (h : sm_H) : sm_ex none 300 10 200 0 (lv_args 0 [.float 31, .int 33]) [] h = some (some (.int (-1)), h) := rfl
theorem ixf_34 (h : sm_H) : sm_ex none 300 10 200 0 (lv_args 0 [.float 31, .int 34]) [] h = some (some (.int (-1)), h) := rfl
theorem ixf_35 (h : sm_H) : sm_ex none 300 10 200 0 (lv_args 0 [.float 31, .int 35]) [] h = some (some (.int (-1)), h) := rfl
theorem ixf_36 (h : sm_H) : sm_ex none 300 10 200 0 (lv_args 0 [.float 31, .int 36]) [] h = some (some (.int (-1)), h) := rfl
theorem ixf_37 (h : sm_H) : sm_ex none 300 10 200 0 (lv_args 0 [.float 31, .int 37]) [] h = some (some (.int (-1)), h) := rfl
theorem ixf_38 (h : sm_H) : sm_ex none 300 10 200 0 (lv_args 0 [.float 31, .int 38]) [] h = some (some (.int (-1)), h) := rfl
theorem ixf_39 (h : sm_H) : sm_ex none 300 10 200 0 (lv_args 0 [.float 31, .int 39]) [] h = some (some (.int (-1)), h) := rfl
theorem ixf_40 (h : sm_H) : sm_ex none 300 10 200 0 (lv_args 0 [.float 31, .int 40]) [] h = some (some (.int 0), h) := rfl
theorem ixf_41 (h : sm_H) : sm_ex none 300 10 200 0 (lv_args 0 [.float 31, .int 41]) [] h = some (some (.int 1), h) := rfl
theorem ixf_42 (h : sm_H) : sm_ex none 300 10 200 0 (lv_args 0 [.float 31, .int 42]) [] h = some (some (.int 8), h) := rfl
theorem ixf_43 (h : sm_H) : sm_ex none 300 10 200 0 (lv_args 0 [.float 31, .int 43]) [] h = some (some (.int 6), h) := rfl
theorem ixf_44 (h : sm_H) : sm_ex none 300 10 200 0 (lv_args 0 [.float 31, .int 44]) [] h = some (some (.int 4), h) := rfl
theorem ixf_45 (h : sm_H) : sm_ex none 300 10 200 0 (lv_args 0 [.float 31, .int 45]) [] h = some (some (.int 7), h) := rfl
theorem ixf_46 (h : sm_H) : sm_ex none 300 10 200 0 (lv_args 0 [.float 31, .int 46]) [] h = some (some (.int 5), h) := rfl
theorem ixf_47 (h : sm_H) : sm_ex none 300 10 200 0 (lv_args 0 [.float 31, .int 47]) [] h = some (some (.int 9), h) := rfl
theorem ixf_48 (h : sm_H) : sm_ex none 300 10 200 0 (lv_args 0 [.float 31, .int 48]) [] h = some (some (.int (-1)), h) := rfl
theorem ixf_49 (h : sm_H) : sm_ex none 300 10 200 0 (lv_args 0 [.float 31, .int 49]) [] h = some (some (.int (-1)), h) := rfl
theorem ixf_50 (h : sm_H) : sm_ex none 300 10 200 0 (lv_args 0 [.float 31, .int 50]) [] h = some (some (.int (-1)), h) := rfl
theorem ixf_51 (h : sm_H) : sm_ex none 300 10 200 0 (lv_args 0 [.float 31, .int 51]) [] h = some (some (.int (-1)), h) := rfl
theorem ixf_52 (h : sm_H) : sm_ex none 300 10 200 0 (lv_args 0 [.float 31, .int 52]) [] h = some (some (.int (-1)), h) := rfl
theorem ixf_53 (h : sm_H) : sm_ex none 300 10 200 0 (lv_args 0 [.float 31, .int 53]) [] h = some (some (.int (-1)), h) := rfl
theorem ixf_54 (h : sm_H) : sm_ex none 300 10 200 0 (lv_args 0 [.float 31, .int 54]) [] h = some (some (.int (-1)), h) := rfl
theorem ixf_55 (h : sm_H) : sm_ex none 300 10 200 0 (lv_args 0 [.float 31, .int 55]) [] h = some (some (.int (-1)), h) := rfl
theorem ixf_56 (h : sm_H) : sm_ex none 300 10 200 0 (lv_args 0 [.float 31, .int 56]) [] h = some (some (.int (-1)), h) := rfl
theorem ixf_57 (h : sm_H) : sm_ex none 300 10 200 0 (lv_args 0 [.float 31, .int 57]) [] h = some (some (.int (-1)), h) := rfl
theorem ixf_58 (h : sm_H) : sm_ex none 300 10 200 0 (lv_args 0 [.float 31, .int 58]) [] h = some (some (.int (-1)), h) := rfl
theorem ixf_59 (h : sm_H) : sm_ex none 300 10 200 0 (lv_args 0 [.float 31, .int 59]) [] h = some (some (.int (-1)), h) := rfl
theorem ixf_60 (h : sm_H) : sm_ex none 300 10 200 0 (lv_args 0 [.float 31, .int 60]) [] h = some (some (.int 11), h) := rfl
theorem ixf_61 (h : sm_H) : sm_ex none 300 10 200 0 (lv_args 0 [.float 31, .int 61]) [] h = some (some (.int 10), h) := rfl
theorem ixf_62 (h : sm_H) : sm_ex none 300 10 200 0 (lv_args 0 [.float 31, .int 62]) [] h = some (some (.int 12), h) := rfl
theorem ixf_63 (h : sm_H) : sm_ex none 300 10 200 0 (lv_args 0 [.float 31, .int 63]) [] h = some (some (.int (-1)), h) := rfl
theorem ixf_64 (h : sm_H) : sm_ex none 300 10 200 0 (lv_args 0 [.float 31, .int 64]) [] h = some (some (.int (-1)), h) := rfl
theorem ixf_65 (h : sm_H) : sm_ex none 300 10 200 0 (lv_args 0 [.float 31, .int 65]) [] h = some (some (.int (-1)), h) := rfl
theorem ixf_66 (h : sm_H) : sm_ex none 300 10 200 0 (lv_args 0 [.float 31, .int 66]) [] h = some (some (.int (-1)), h) := rfl
theorem ixf_67 (h : sm_H) : sm_ex none 300 10 200 0 (lv_args 0 [.float 31, .int 67]) [] h = some (some (.int (-1)), h) := rfl
theorem ixf_68 (h : sm_H) : sm_ex none 300 10 200 0 (lv_args 0 [.float 31, .int 68]) [] h = some (some (.int (-1)), h) := rfl
theorem ixf_69 (h : sm_H) : sm_ex none 300 10 200 0 (lv_args 0 [.float 31, .int 69]) [] h = some (some (.int (-1)), h) := rfl
theorem ixf_70 (h : sm_H) : sm_ex none 300 10 200 0 (lv_args 0 [.float 31, .int 70]) [] h = some (some (.int (-1)), h) := rfl
theorem ixf_71 (h : sm_H) : sm_ex none 300 10 200 0 (lv_args 0 [.float 31, .int 71]) [] h = some (some (.int (-1)), h) := rfl
theorem ixf_72 (h : sm_H) : sm_ex none 300 10 200 0 (lv_args 0 [.float 31, .int 72]) [] h = some (some (.int (-1)), h) := rfl
theorem ixf_73 (h : sm_H) : sm_ex none 300 10 200 0 (lv_args 0 [.float 31, .int 73]) [] h = some (some (.int (-1)), h) := rfl
theorem ixf_74 (h : sm_H) : sm_ex none 300 10 200 0 (lv_args 0 [.float 31, .int 74]) [] h = some (some (.int (-1)), h) := rfl
theorem ixf_75 (h : sm_H) : sm_ex none 300 10 200 0 (lv_args 0 [.float 31, .int 75]) [] h = some (some (.int (-1)), h) := rfl
theorem ixf_76 (h : sm_H) : sm_ex none 300 10 200 0 (lv_args 0 [.float 31, .int 76]) [] h = some (some (.int (-1)), h) := rfl
theorem ixf_77 (h : sm_H) : sm_ex none 300 10 200 0 (lv_args 0 [.float 31, .int 77]) [] h = some (some (.int (-1)), h) := rfl
theorem ixf_78 (h : sm_H) : sm_ex none 300 10 200 0 (lv_args 0 [.float 31, .int 78]) [] h = some (some (.int (-1)), h) := rfl
theorem ixf_79 (h : sm_H) : sm_ex none 300 10 200 0 (lv_args 0 [.float 31, .int 79]) [] h = some (some (.int (-1)), h) := rfl
theorem ixf_80 (h : sm_H) : sm_ex none 300 10 200 0 (lv_args 0 [.float 31, .int 80]) [] h = some (some (.int (-1)), h) := rfl
theorem ixf_81 (h : sm_H) : sm_ex none 300 10 200 0 (lv_args 0 [.float 31, .int 81]) [] h = some (some (.int (-1)), h) := rfl
theorem ixf_82 (h : sm_H) : sm_ex none 300 10 200 0 (lv_args 0 [.float 31, .int 82]) [] h = some (some (.int (-1)), h) := rfl
theorem ixf_83 (h : sm_H) : sm_ex none 300 10 200 0 (lv_args 0 [.float 31, .int 83]) [] h = some (some (.int (-1)), h) := rfl
theorem ixf_84 (h : sm_H) : sm_ex none 300 10 200 0 (lv_args 0 [.float 31, .int 84]) [] h = some (some (.int (-1)), h) := rfl
theorem ixf_85 (h : sm_H) : sm_ex none 300 10 200 0 (lv_args 0 [.float 31, .int 85]) [] h = some (some (.int (-1)), h) := rfl
theorem ixf_86 (h : sm_H) : sm_ex none 300 10 200 0 (lv_args 0 [.float 31, .int 86]) [] h = some (some (.int (-1)), h) := rfl
theorem ixf_87 (h : sm_H) : sm_ex none 300 10 200 0 (lv_args 0 [.float 31, .int 87]) [] h = some (some (.int (-1)), h) := rfl
theorem ixf_88 (h : sm_H) : sm_ex none 300 10 200 0 (lv_args 0 [.float 31, .int 88]) [] h = some (some (.int (-1)), h) := rfl
theorem ixf_89 (h : sm_H) : sm_ex none 300 10 200 0 (lv_args 0 [.float 31, .int 89]) [] h = some (some (.int (-1)), h) := rfl
theorem ixf_90 (h : sm_H) : sm_ex none 300 10 200 0 (lv_args 0 [.float 31, .int 90]) [] h = some (some (.int (-1)), h) := rfl
theorem ixf_91 (h : sm_H) : sm_ex none 300 10 200 0 (lv_args 0 [.float 31, .int 91]) [] h = some (some (.int 2), h) := rfl
theorem ixf_92 (h : sm_H) : sm_ex none 300 10 200 0 (lv_args 0 [.float 31, .int 92]) [] h = some (some (.int (-1)), h) := rfl
theorem ixf_93 (h : sm_H) : sm_ex none 300 10 200 0 (lv_args 0 [.float 31, .int 93]) [] h = some (some (.int 3), h) := rfl
theorem ixf_94 (h : sm_H) : sm_ex none 300 10 200 0 (lv_args 0 [.float 31, .int 94]) [] h = some (some (.int (-1)), h) := rfl
theorem ixf_95 (h : sm_H) : sm_ex none 300 10 200 0 (lv_args 0 [.float 31, .int 95]) [] h = some (some (.int (-1)), h) := rfl
theorem ixf_96 (h : sm_H) : sm_ex none 300 10 200 0 (lv_args 0 [.float 31, .int 96]) [] h = some (some (.int (-1)), h) := rfl
theorem ixf_97 (h : sm_H) : sm_ex none 300 10 200 0 (lv_args 0 [.float 31, .int 97]) [] h = some (some (.int (-1)), h) := rfl
theorem ixf_98 (h : sm_H) : sm_ex none 300 10 200 0 (lv_args 0 [.float 31, .int 98]) [] h = some (some (.int (-1)), h) := rfl
theorem ixf_99 (h : sm_H) : sm_ex none 300 10 200 0 (lv_args 0 [.float 31, .int 99]) [] h = some (some (.int (-1)), h) := rfl
theorem ixf_100 (h : sm_H) : sm_ex none 300 10 200 0 (lv_args 0 [.float 31, .int 100]) [] h = some (some (.int (-1)), h) := rfl
theorem ixf_101 (h : sm_H) : sm_ex none 300 10 200 0 (lv_args 0 [.float 31, .int 101]) [] h = some (some (.int (-1)), h) := rfl
theorem ixf_102 (h : sm_H) : sm_ex none 300 10 200 0 (lv_args 0 [.float 31, .int 102]) [] h = some (some (.int (-1)), h) := rfl
theorem ixf_103 (h : sm_H) : sm_ex none 300 10 200 0 (lv_args 0 [.float 31, .int 103]) [] h = some (some (.int (-1)), h) := rfl
theorem ixf_104 (h : sm_H) : sm_ex none 300 10 200 0 (lv_args 0 [.float 31, .int 104]) [] h = some (some (.int (-1)), h) := rfl
theorem ixf_105 (h : sm_H) : sm_ex none 300 10 200 0 (lv_args 0 [.float 31, .int 105]) [] h = some (some (.int (-1)), h) := rfl
theorem ixf_106 (h : sm_H) : sm_ex none 300 10 200 0 (lv_args 0 [.float 31, .int 106]) [] h = some (some (.int (-1)), h) := rfl
theorem ixf_107 (h : sm_H) : sm_ex none 300 10 200 0 (lv_args 0 [.float 31, .int 107]) [] h = some (some (.int (-1)), h) := rfl
theorem ixf_108 (h : sm_H) : sm_ex none 300 10 200 0 (lv_args 0 [.float 31, .int 108]) [] h = some (some (.int (-1)), h) := rfl
theorem ixf_109 (h : sm_H) : sm_ex none 300 10 200 0 (lv_args 0 [.float 31, .int 109]) [] h = some (some (.int (-1)), h) := rfl
theorem ixf_110 (h : sm_H) : sm_ex none 300 10 200 0 (lv_args 0 [.float 31, .int 110]) [] h = some (some (.int (-1)), h) := rfl
theorem ixf_111 (h : sm_H) : sm_ex none 300 10 200 0 (lv_args 0 [.float 31, .int 111]) [] h = some (some (.int (-1)), h) := rfl
theorem ixf_112 (h : sm_H) : sm_ex none 300 10 200 0 (lv_args 0 [.float 31, .int 112]) [] h = some (some (.int (-1)), h) := rfl
theorem ixf_113 (h : sm_H) : sm_ex none 300 10 200 0 (lv_args 0 [.float 31, .int 113]) [] h = some (some (.int (-1)), h) := rfl
theorem ixf_114 (h : sm_H) : sm_ex none 300 10 200 0 (lv_args 0 [.float 31, .int 114]) [] h = some (some (.int (-1)), h) := rfl
theorem ixf_115 (h : sm_H) : sm_ex none 300 10 200 0 (lv_args 0 [.float 31, .int 115]) [] h = some (some (.int (-1)), h) := rfl
theorem ixf_116 (h : sm_H) : sm_ex none 300 10 200 0 (lv_args 0 [.float 31, .int 116]) [] h = some (some (.int (-1)), h) := rfl
theorem ixf_117 (h : sm_H) : sm_ex none 300 10 200 0 (lv_args 0 [.float 31, .int 117]) [] h = some (some (.int (-1)), h) := rfl
theorem ixf_118 (h : sm_H) : sm_ex none 300 10 200 0 (lv_args 0 [.float 31, .int 118]) [] h = some (some (.int (-1)), h) := rfl
theorem ixf_119 (h : sm_H) : sm_ex none 300 10 200 0 (lv_args 0 [.float 31, .int 119]) [] h = some (some (.int (-1)), h) := rfl
theorem ixf_120 (h : sm_H) : sm_ex none 300 10 200 0 (lv_args 0 [.float 31, .int 120]) [] h = some (some (.int (-1)), h) := rfl
theorem ixf_121 (h : sm_H) : sm_ex none 300 10 200 0 (lv_args 0 [.float 31, .int 121]) [] h = some (some (.int (-1)), h) := rfl
theorem ixf_122 (h : sm_H) : sm_ex none 300 10 200 0 (lv_args 0 [.float 31, .int 122]) [] h = some (some (.int (-1)), h) := rfl
theorem ixf_123 (h : sm_H) : sm_ex none 300 10 200 0 (lv_args 0 [.float 31, .int 123]) [] h = some (some (.int (-1)), h) := rfl
theorem ixf_124 (h : sm_H) : sm_ex none 300 10 200 0 (lv_args 0 [.float 31, .int 124]) [] h = some (some (.int (-1)), h) := rfl
theorem ixf_125 (h : sm_H) : sm_ex none 300 10 200 0 (lv_args 0 [.float 31, .int 125]) [] h = some (some (.int (-1)), h) := rfl
theorem ixf_126 (h : sm_H) : sm_ex none 300 10 200 0 (lv_args 0 [.float 31, .int 126]) [] h = some (some (.int (-1)), h) := rfl
/-- what a run of small letters is, by its list -/
theorem sp_iff (w cl : List Nat) (f : Nat) (hf : f + w.length ≤ cl.length) : (cl.drop f).take w.length = w ↔ ∀ j, j < w.length → cl.getD (f + j) 0 = w.getD j 0 := by
  constructor
  · intro h j hj
    have h1 : ((cl.drop f).take w.length)[j]? = w[j]? := by rw [h]
    rw [List.getElem?_take_of_lt hj, List.getElem?_drop] at h1
    rw [List.getD_eq_getElem?_getD, List.getD_eq_getElem?_getD, h1]
  · intro h
    apply List.ext_getElem?
    intro j
    by_cases hj : j < w.length
    · rw [List.getElem?_take_of_lt hj, List.getElem?_drop]
      have h1 := h j hj
      rw [List.getD_eq_getElem?_getD, List.getD_eq_getElem?_getD] at h1
      rw [List.getElem?_eq_getElem (by omega : f + j < cl.length), List.getElem?_eq_getElem hj] at h1 ⊢
      exact congrArg some h1
    · rw [List.getElem?_eq_none (by rw [List.length_take]; omega), List.getElem?_eq_none (by omega)]
theorem sp_len {w cl : List Nat} {f t : Nat} (ht : t ≤ cl.length) (hf : f ≤ t) (h : (cl.drop f).take (t - f) = w) : t - f = w.length := by
  rw [← h, List.length_take, List.length_drop]; omega
theorem spw_0 (cl : List Nat) (f e : Nat) (hf : f ≤ e) (he : e ≤ cl.length) : (e - f = 6 ∧ cl.getD (f + 0) 0 = 99 ∧ cl.getD (f + 1) 0 = 114 ∧ cl.getD (f + 2) 0 = 101 ∧ cl.getD (f + 3) 0 = 97 ∧ cl.getD (f + 4) 0 = 116 ∧ cl.getD (f + 5) 0 = 101) ↔ (cl.drop f).take (e - f) = [99, 114, 101, 97, 116, 101] := by
  constructor
  · intro q
    have e1 : e - f = 6 := q.1
    rw [e1]
    refine (sp_iff [99, 114, 101, 97, 116, 101] cl f (by show f + 6 ≤ _; omega)).mpr (fun j hj => ?_)
    have hj : j < 6 := hj
    rcases (show j = 0 ∨ j = 1 ∨ j = 2 ∨ j = 3 ∨ j = 4 ∨ j = 5 by omega) with rfl | rfl | rfl | rfl | rfl | rfl
    · exact q.2.1
    · exact q.2.2.1
    · exact q.2.2.2.1
    · exact q.2.2.2.2.1
    · exact q.2.2.2.2.2.1
    · exact q.2.2.2.2.2.2
  · intro q
    have e1 : e - f = 6 := sp_len he hf q
    rw [e1] at q
    have q2 := (sp_iff [99, 114, 101, 97, 116, 101] cl f (by show f + 6 ≤ _; omega)).mp q
    exact ⟨e1, q2 0 (by decide), q2 1 (by decide), q2 2 (by decide), q2 3 (by decide), q2 4 (by decide), q2 5 (by decide)⟩
set_option maxRecDepth 20000 in
theorem c_spells_0 (c0 : sm_E) (t : sm_H) (tx : List Int32) (cl : List Nat) (f e : Nat) (hlt : ∀ i, cl.getD i 0 < 65536) (h1 : tx.length = 80) (hcl : cl.length ≤ 80) (htx : ∀ i, i < cl.length → tx.getD i 0 = nI (cl.getD i 0)) (hf : f ≤ e) (he : e ≤ cl.length) : sm_run none 10 82 0 (lv_args 0 [.ref 1, .int (nI f), .int (nI e), .float 1]) [] (c0 :: .inl (2, .inl tx) :: t) ((some (.int (if (cl.drop f).take (e - f) = [99, 114, 101, 97, 116, 101] then 1 else 0))), (c0 :: .inl (2, .inl tx) :: t)) := by
  refine wp_to ?_
  refine wp_p (pc' := 1) (lv' := [(0, .ref 1), (1, .int (nI f)), (2, .int (nI e)), (3, .float 1)]) (st' := [.int (nI e)]) rfl rfl ?_
  refine wp_p (pc' := 2) (lv' := [(0, .ref 1), (1, .int (nI f)), (2, .int (nI e)), (3, .float 1)]) (st' := [.int (nI f), .int (nI e)]) rfl rfl ?_
  refine wp_isub (v := nI (e - f)) (pc' := 3) rfl (pk_sub (a := e) (b := f) (by omega)) rfl ?_
  refine wp_p (pc' := 4) (lv' := [(0, .ref 1), (1, .int (nI f)), (2, .int (nI e)), (3, .float 1)]) (st' := [.float 1, .int (nI (e - f))]) rfl rfl ?_
  refine wp_cvR (As := [.float 1]) (r := [.int (nI (e - f))]) (v := (some (.int 6))) (g := (c0 :: .inl (2, .inl tx) :: t)) (st2 := [.int 6, .int (nI (e - f))]) (pc' := 7) rfl rfl rfl rfl ⟨40, sl_0 _⟩ (by omega) ?_
  refine wn_ic_eq (n := e - f) (m := 6) (pc' := 10) rfl (by first | omega | exact Nat.lt_trans (hlt _) (by decide)) (by first | omega | exact Nat.lt_trans (hlt _) (by decide)) rfl (fun hc1 => ?_) (fun hc1 => ?_)
  · refine wp_p (pc' := 13) (lv' := [(0, .ref 1), (1, .int (nI f)), (2, .int (nI e)), (3, .float 1)]) (st' := [.int 0]) rfl rfl ?_
    refine wp_p (pc' := 15) (lv' := [(4, .int 0), (0, .ref 1), (1, .int (nI f)), (2, .int (nI e)), (3, .float 1)]) (st' := []) rfl rfl ?_
    refine wp_p (pc' := 17) (lv' := [(4, .int 0), (0, .ref 1), (1, .int (nI f)), (2, .int (nI e)), (3, .float 1)]) (st' := [.int 0]) rfl rfl ?_
    refine wp_p (pc' := 18) (lv' := [(4, .int 0), (0, .ref 1), (1, .int (nI f)), (2, .int (nI e)), (3, .float 1)]) (st' := [.float 1, .int 0]) rfl rfl ?_
    refine wp_cvR (As := [.float 1]) (r := [.int 0]) (v := (some (.int 6))) (g := (c0 :: .inl (2, .inl tx) :: t)) (st2 := [.int 6, .int 0]) (pc' := 21) rfl rfl rfl rfl ⟨40, sl_0 _⟩ (by omega) ?_
    refine wp_p (pc' := 24) (lv' := [(4, .int 0), (0, .ref 1), (1, .int (nI f)), (2, .int (nI e)), (3, .float 1)]) (st' := []) rfl rfl ?_
    refine wp_p (pc' := 25) (lv' := [(4, .int 0), (0, .ref 1), (1, .int (nI f)), (2, .int (nI e)), (3, .float 1)]) (st' := [.ref 1]) rfl rfl ?_
    refine wp_p (pc' := 26) (lv' := [(4, .int 0), (0, .ref 1), (1, .int (nI f)), (2, .int (nI e)), (3, .float 1)]) (st' := [.int (nI f), .ref 1]) rfl rfl ?_
    refine wp_p (pc' := 28) (lv' := [(4, .int 0), (0, .ref 1), (1, .int (nI f)), (2, .int (nI e)), (3, .float 1)]) (st' := [.int 0, .int (nI f), .ref 1]) rfl rfl ?_
    refine wp_iadd (v := nI (f + 0)) (pc' := 29) rfl (nI_add f 0) rfl ?_
    refine wp_caload (q := 1) (n := f + 0) (g := tx) (x := nI (cl.getD (f + 0) 0)) (pc' := 30) rfl rfl (by first | omega | exact Nat.lt_trans (hlt _) (by decide)) (by first | omega | exact Nat.lt_trans (hlt _) (by decide)) (htx _ (by omega)) rfl ?_
    refine wp_p (pc' := 31) (lv' := [(4, .int 0), (0, .ref 1), (1, .int (nI f)), (2, .int (nI e)), (3, .float 1)]) (st' := [.float 1, .int (nI (cl.getD (f + 0) 0))]) rfl rfl ?_
    refine wp_p (pc' := 33) (lv' := [(4, .int 0), (0, .ref 1), (1, .int (nI f)), (2, .int (nI e)), (3, .float 1)]) (st' := [.int 0, .float 1, .int (nI (cl.getD (f + 0) 0))]) rfl rfl ?_
    refine wp_cvR (As := [.float 1, .int 0]) (r := [.int (nI (cl.getD (f + 0) 0))]) (v := (some (.int 99))) (g := (c0 :: .inl (2, .inl tx) :: t)) (st2 := [.int 99, .int (nI (cl.getD (f + 0) 0))]) (pc' := 36) rfl rfl rfl rfl ⟨80, sc_0_0 _⟩ (by omega) ?_
    refine wn_ic_eq (n := cl.getD (f + 0) 0) (m := 99) (pc' := 39) rfl (by first | omega | exact Nat.lt_trans (hlt _) (by decide)) (by first | omega | exact Nat.lt_trans (hlt _) (by decide)) rfl (fun hc2 => ?_) (fun hc2 => ?_)
    · refine wp_iinc (v := 1) (lv' := [(4, .int 1), (0, .ref 1), (1, .int (nI f)), (2, .int (nI e)), (3, .float 1)]) (pc' := 44) rfl rfl (by decide) rfl rfl rfl ?_
      refine wp_p (pc' := 15) (lv' := [(4, .int 1), (0, .ref 1), (1, .int (nI f)), (2, .int (nI e)), (3, .float 1)]) (st' := []) rfl rfl ?_
      refine wp_p (pc' := 17) (lv' := [(4, .int 1), (0, .ref 1), (1, .int (nI f)), (2, .int (nI e)), (3, .float 1)]) (st' := [.int 1]) rfl rfl ?_
      refine wp_p (pc' := 18) (lv' := [(4, .int 1), (0, .ref 1), (1, .int (nI f)), (2, .int (nI e)), (3, .float 1)]) (st' := [.float 1, .int 1]) rfl rfl ?_
      refine wp_cvR (As := [.float 1]) (r := [.int 1]) (v := (some (.int 6))) (g := (c0 :: .inl (2, .inl tx) :: t)) (st2 := [.int 6, .int 1]) (pc' := 21) rfl rfl rfl rfl ⟨40, sl_0 _⟩ (by omega) ?_
      refine wp_p (pc' := 24) (lv' := [(4, .int 1), (0, .ref 1), (1, .int (nI f)), (2, .int (nI e)), (3, .float 1)]) (st' := []) rfl rfl ?_
      refine wp_p (pc' := 25) (lv' := [(4, .int 1), (0, .ref 1), (1, .int (nI f)), (2, .int (nI e)), (3, .float 1)]) (st' := [.ref 1]) rfl rfl ?_
      refine wp_p (pc' := 26) (lv' := [(4, .int 1), (0, .ref 1), (1, .int (nI f)), (2, .int (nI e)), (3, .float 1)]) (st' := [.int (nI f), .ref 1]) rfl rfl ?_
      refine wp_p (pc' := 28) (lv' := [(4, .int 1), (0, .ref 1), (1, .int (nI f)), (2, .int (nI e)), (3, .float 1)]) (st' := [.int 1, .int (nI f), .ref 1]) rfl rfl ?_
      refine wp_iadd (v := nI (f + 1)) (pc' := 29) rfl (nI_add f 1) rfl ?_
      refine wp_caload (q := 1) (n := f + 1) (g := tx) (x := nI (cl.getD (f + 1) 0)) (pc' := 30) rfl rfl (by first | omega | exact Nat.lt_trans (hlt _) (by decide)) (by first | omega | exact Nat.lt_trans (hlt _) (by decide)) (htx _ (by omega)) rfl ?_
      refine wp_p (pc' := 31) (lv' := [(4, .int 1), (0, .ref 1), (1, .int (nI f)), (2, .int (nI e)), (3, .float 1)]) (st' := [.float 1, .int (nI (cl.getD (f + 1) 0))]) rfl rfl ?_
      refine wp_p (pc' := 33) (lv' := [(4, .int 1), (0, .ref 1), (1, .int (nI f)), (2, .int (nI e)), (3, .float 1)]) (st' := [.int 1, .float 1, .int (nI (cl.getD (f + 1) 0))]) rfl rfl ?_
      refine wp_cvR (As := [.float 1, .int 1]) (r := [.int (nI (cl.getD (f + 1) 0))]) (v := (some (.int 114))) (g := (c0 :: .inl (2, .inl tx) :: t)) (st2 := [.int 114, .int (nI (cl.getD (f + 1) 0))]) (pc' := 36) rfl rfl rfl rfl ⟨80, sc_0_1 _⟩ (by omega) ?_
      refine wn_ic_eq (n := cl.getD (f + 1) 0) (m := 114) (pc' := 39) rfl (by first | omega | exact Nat.lt_trans (hlt _) (by decide)) (by first | omega | exact Nat.lt_trans (hlt _) (by decide)) rfl (fun hc3 => ?_) (fun hc3 => ?_)
      · refine wp_iinc (v := 2) (lv' := [(4, .int 2), (0, .ref 1), (1, .int (nI f)), (2, .int (nI e)), (3, .float 1)]) (pc' := 44) rfl rfl (by decide) rfl rfl rfl ?_
        refine wp_p (pc' := 15) (lv' := [(4, .int 2), (0, .ref 1), (1, .int (nI f)), (2, .int (nI e)), (3, .float 1)]) (st' := []) rfl rfl ?_
        refine wp_p (pc' := 17) (lv' := [(4, .int 2), (0, .ref 1), (1, .int (nI f)), (2, .int (nI e)), (3, .float 1)]) (st' := [.int 2]) rfl rfl ?_
        refine wp_p (pc' := 18) (lv' := [(4, .int 2), (0, .ref 1), (1, .int (nI f)), (2, .int (nI e)), (3, .float 1)]) (st' := [.float 1, .int 2]) rfl rfl ?_
        refine wp_cvR (As := [.float 1]) (r := [.int 2]) (v := (some (.int 6))) (g := (c0 :: .inl (2, .inl tx) :: t)) (st2 := [.int 6, .int 2]) (pc' := 21) rfl rfl rfl rfl ⟨40, sl_0 _⟩ (by omega) ?_
        refine wp_p (pc' := 24) (lv' := [(4, .int 2), (0, .ref 1), (1, .int (nI f)), (2, .int (nI e)), (3, .float 1)]) (st' := []) rfl rfl ?_
        refine wp_p (pc' := 25) (lv' := [(4, .int 2), (0, .ref 1), (1, .int (nI f)), (2, .int (nI e)), (3, .float 1)]) (st' := [.ref 1]) rfl rfl ?_
        refine wp_p (pc' := 26) (lv' := [(4, .int 2), (0, .ref 1), (1, .int (nI f)), (2, .int (nI e)), (3, .float 1)]) (st' := [.int (nI f), .ref 1]) rfl rfl ?_
        refine wp_p (pc' := 28) (lv' := [(4, .int 2), (0, .ref 1), (1, .int (nI f)), (2, .int (nI e)), (3, .float 1)]) (st' := [.int 2, .int (nI f), .ref 1]) rfl rfl ?_
        refine wp_iadd (v := nI (f + 2)) (pc' := 29) rfl (nI_add f 2) rfl ?_
        refine wp_caload (q := 1) (n := f + 2) (g := tx) (x := nI (cl.getD (f + 2) 0)) (pc' := 30) rfl rfl (by first | omega | exact Nat.lt_trans (hlt _) (by decide)) (by first | omega | exact Nat.lt_trans (hlt _) (by decide)) (htx _ (by omega)) rfl ?_
        refine wp_p (pc' := 31) (lv' := [(4, .int 2), (0, .ref 1), (1, .int (nI f)), (2, .int (nI e)), (3, .float 1)]) (st' := [.float 1, .int (nI (cl.getD (f + 2) 0))]) rfl rfl ?_
        refine wp_p (pc' := 33) (lv' := [(4, .int 2), (0, .ref 1), (1, .int (nI f)), (2, .int (nI e)), (3, .float 1)]) (st' := [.int 2, .float 1, .int (nI (cl.getD (f + 2) 0))]) rfl rfl ?_
        refine wp_cvR (As := [.float 1, .int 2]) (r := [.int (nI (cl.getD (f + 2) 0))]) (v := (some (.int 101))) (g := (c0 :: .inl (2, .inl tx) :: t)) (st2 := [.int 101, .int (nI (cl.getD (f + 2) 0))]) (pc' := 36) rfl rfl rfl rfl ⟨80, sc_0_2 _⟩ (by omega) ?_
        refine wn_ic_eq (n := cl.getD (f + 2) 0) (m := 101) (pc' := 39) rfl (by first | omega | exact Nat.lt_trans (hlt _) (by decide)) (by first | omega | exact Nat.lt_trans (hlt _) (by decide)) rfl (fun hc4 => ?_) (fun hc4 => ?_)
        · refine wp_iinc (v := 3) (lv' := [(4, .int 3), (0, .ref 1), (1, .int (nI f)), (2, .int (nI e)), (3, .float 1)]) (pc' := 44) rfl rfl (by decide) rfl rfl rfl ?_
          refine wp_p (pc' := 15) (lv' := [(4, .int 3), (0, .ref 1), (1, .int (nI f)), (2, .int (nI e)), (3, .float 1)]) (st' := []) rfl rfl ?_
          refine wp_p (pc' := 17) (lv' := [(4, .int 3), (0, .ref 1), (1, .int (nI f)), (2, .int (nI e)), (3, .float 1)]) (st' := [.int 3]) rfl rfl ?_
          refine wp_p (pc' := 18) (lv' := [(4, .int 3), (0, .ref 1), (1, .int (nI f)), (2, .int (nI e)), (3, .float 1)]) (st' := [.float 1, .int 3]) rfl rfl ?_
          refine wp_cvR (As := [.float 1]) (r := [.int 3]) (v := (some (.int 6))) (g := (c0 :: .inl (2, .inl tx) :: t)) (st2 := [.int 6, .int 3]) (pc' := 21) rfl rfl rfl rfl ⟨40, sl_0 _⟩ (by omega) ?_
          refine wp_p (pc' := 24) (lv' := [(4, .int 3), (0, .ref 1), (1, .int (nI f)), (2, .int (nI e)), (3, .float 1)]) (st' := []) rfl rfl ?_
          refine wp_p (pc' := 25) (lv' := [(4, .int 3), (0, .ref 1), (1, .int (nI f)), (2, .int (nI e)), (3, .float 1)]) (st' := [.ref 1]) rfl rfl ?_
          refine wp_p (pc' := 26) (lv' := [(4, .int 3), (0, .ref 1), (1, .int (nI f)), (2, .int (nI e)), (3, .float 1)]) (st' := [.int (nI f), .ref 1]) rfl rfl ?_
          refine wp_p (pc' := 28) (lv' := [(4, .int 3), (0, .ref 1), (1, .int (nI f)), (2, .int (nI e)), (3, .float 1)]) (st' := [.int 3, .int (nI f), .ref 1]) rfl rfl ?_
          refine wp_iadd (v := nI (f + 3)) (pc' := 29) rfl (nI_add f 3) rfl ?_
          refine wp_caload (q := 1) (n := f + 3) (g := tx) (x := nI (cl.getD (f + 3) 0)) (pc' := 30) rfl rfl (by first | omega | exact Nat.lt_trans (hlt _) (by decide)) (by first | omega | exact Nat.lt_trans (hlt _) (by decide)) (htx _ (by omega)) rfl ?_
          refine wp_p (pc' := 31) (lv' := [(4, .int 3), (0, .ref 1), (1, .int (nI f)), (2, .int (nI e)), (3, .float 1)]) (st' := [.float 1, .int (nI (cl.getD (f + 3) 0))]) rfl rfl ?_
          refine wp_p (pc' := 33) (lv' := [(4, .int 3), (0, .ref 1), (1, .int (nI f)), (2, .int (nI e)), (3, .float 1)]) (st' := [.int 3, .float 1, .int (nI (cl.getD (f + 3) 0))]) rfl rfl ?_
          refine wp_cvR (As := [.float 1, .int 3]) (r := [.int (nI (cl.getD (f + 3) 0))]) (v := (some (.int 97))) (g := (c0 :: .inl (2, .inl tx) :: t)) (st2 := [.int 97, .int (nI (cl.getD (f + 3) 0))]) (pc' := 36) rfl rfl rfl rfl ⟨80, sc_0_3 _⟩ (by omega) ?_
          refine wn_ic_eq (n := cl.getD (f + 3) 0) (m := 97) (pc' := 39) rfl (by first | omega | exact Nat.lt_trans (hlt _) (by decide)) (by first | omega | exact Nat.lt_trans (hlt _) (by decide)) rfl (fun hc5 => ?_) (fun hc5 => ?_)
          · refine wp_iinc (v := 4) (lv' := [(4, .int 4), (0, .ref 1), (1, .int (nI f)), (2, .int (nI e)), (3, .float 1)]) (pc' := 44) rfl rfl (by decide) rfl rfl rfl ?_
            refine wp_p (pc' := 15) (lv' := [(4, .int 4), (0, .ref 1), (1, .int (nI f)), (2, .int (nI e)), (3, .float 1)]) (st' := []) rfl rfl ?_
            refine wp_p (pc' := 17) (lv' := [(4, .int 4), (0, .ref 1), (1, .int (nI f)), (2, .int (nI e)), (3, .float 1)]) (st' := [.int 4]) rfl rfl ?_
            refine wp_p (pc' := 18) (lv' := [(4, .int 4), (0, .ref 1), (1, .int (nI f)), (2, .int (nI e)), (3, .float 1)]) (st' := [.float 1, .int 4]) rfl rfl ?_
            refine wp_cvR (As := [.float 1]) (r := [.int 4]) (v := (some (.int 6))) (g := (c0 :: .inl (2, .inl tx) :: t)) (st2 := [.int 6, .int 4]) (pc' := 21) rfl rfl rfl rfl ⟨40, sl_0 _⟩ (by omega) ?_
            refine wp_p (pc' := 24) (lv' := [(4, .int 4), (0, .ref 1), (1, .int (nI f)), (2, .int (nI e)), (3, .float 1)]) (st' := []) rfl rfl ?_
            refine wp_p (pc' := 25) (lv' := [(4, .int 4), (0, .ref 1), (1, .int (nI f)), (2, .int (nI e)), (3, .float 1)]) (st' := [.ref 1]) rfl rfl ?_
            refine wp_p (pc' := 26) (lv' := [(4, .int 4), (0, .ref 1), (1, .int (nI f)), (2, .int (nI e)), (3, .float 1)]) (st' := [.int (nI f), .ref 1]) rfl rfl ?_
            refine wp_p (pc' := 28) (lv' := [(4, .int 4), (0, .ref 1), (1, .int (nI f)), (2, .int (nI e)), (3, .float 1)]) (st' := [.int 4, .int (nI f), .ref 1]) rfl rfl ?_
            refine wp_iadd (v := nI (f + 4)) (pc' := 29) rfl (nI_add f 4) rfl ?_
            refine wp_caload (q := 1) (n := f + 4) (g := tx) (x := nI (cl.getD (f + 4) 0)) (pc' := 30) rfl rfl (by first | omega | exact Nat.lt_trans (hlt _) (by decide)) (by first | omega | exact Nat.lt_trans (hlt _) (by decide)) (htx _ (by omega)) rfl ?_
            refine wp_p (pc' := 31) (lv' := [(4, .int 4), (0, .ref 1), (1, .int (nI f)), (2, .int (nI e)), (3, .float 1)]) (st' := [.float 1, .int (nI (cl.getD (f + 4) 0))]) rfl rfl ?_
            refine wp_p (pc' := 33) (lv' := [(4, .int 4), (0, .ref 1), (1, .int (nI f)), (2, .int (nI e)), (3, .float 1)]) (st' := [.int 4, .float 1, .int (nI (cl.getD (f + 4) 0))]) rfl rfl ?_
            refine wp_cvR (As := [.float 1, .int 4]) (r := [.int (nI (cl.getD (f + 4) 0))]) (v := (some (.int 116))) (g := (c0 :: .inl (2, .inl tx) :: t)) (st2 := [.int 116, .int (nI (cl.getD (f + 4) 0))]) (pc' := 36) rfl rfl rfl rfl ⟨80, sc_0_4 _⟩ (by omega) ?_
            refine wn_ic_eq (n := cl.getD (f + 4) 0) (m := 116) (pc' := 39) rfl (by first | omega | exact Nat.lt_trans (hlt _) (by decide)) (by first | omega | exact Nat.lt_trans (hlt _) (by decide)) rfl (fun hc6 => ?_) (fun hc6 => ?_)
            · refine wp_iinc (v := 5) (lv' := [(4, .int 5), (0, .ref 1), (1, .int (nI f)), (2, .int (nI e)), (3, .float 1)]) (pc' := 44) rfl rfl (by decide) rfl rfl rfl ?_
              refine wp_p (pc' := 15) (lv' := [(4, .int 5), (0, .ref 1), (1, .int (nI f)), (2, .int (nI e)), (3, .float 1)]) (st' := []) rfl rfl ?_
              refine wp_p (pc' := 17) (lv' := [(4, .int 5), (0, .ref 1), (1, .int (nI f)), (2, .int (nI e)), (3, .float 1)]) (st' := [.int 5]) rfl rfl ?_
              refine wp_p (pc' := 18) (lv' := [(4, .int 5), (0, .ref 1), (1, .int (nI f)), (2, .int (nI e)), (3, .float 1)]) (st' := [.float 1, .int 5]) rfl rfl ?_
              refine wp_cvR (As := [.float 1]) (r := [.int 5]) (v := (some (.int 6))) (g := (c0 :: .inl (2, .inl tx) :: t)) (st2 := [.int 6, .int 5]) (pc' := 21) rfl rfl rfl rfl ⟨40, sl_0 _⟩ (by omega) ?_
              refine wp_p (pc' := 24) (lv' := [(4, .int 5), (0, .ref 1), (1, .int (nI f)), (2, .int (nI e)), (3, .float 1)]) (st' := []) rfl rfl ?_
              refine wp_p (pc' := 25) (lv' := [(4, .int 5), (0, .ref 1), (1, .int (nI f)), (2, .int (nI e)), (3, .float 1)]) (st' := [.ref 1]) rfl rfl ?_
              refine wp_p (pc' := 26) (lv' := [(4, .int 5), (0, .ref 1), (1, .int (nI f)), (2, .int (nI e)), (3, .float 1)]) (st' := [.int (nI f), .ref 1]) rfl rfl ?_
              refine wp_p (pc' := 28) (lv' := [(4, .int 5), (0, .ref 1), (1, .int (nI f)), (2, .int (nI e)), (3, .float 1)]) (st' := [.int 5, .int (nI f), .ref 1]) rfl rfl ?_
              refine wp_iadd (v := nI (f + 5)) (pc' := 29) rfl (nI_add f 5) rfl ?_
              refine wp_caload (q := 1) (n := f + 5) (g := tx) (x := nI (cl.getD (f + 5) 0)) (pc' := 30) rfl rfl (by first | omega | exact Nat.lt_trans (hlt _) (by decide)) (by first | omega | exact Nat.lt_trans (hlt _) (by decide)) (htx _ (by omega)) rfl ?_
              refine wp_p (pc' := 31) (lv' := [(4, .int 5), (0, .ref 1), (1, .int (nI f)), (2, .int (nI e)), (3, .float 1)]) (st' := [.float 1, .int (nI (cl.getD (f + 5) 0))]) rfl rfl ?_
              refine wp_p (pc' := 33) (lv' := [(4, .int 5), (0, .ref 1), (1, .int (nI f)), (2, .int (nI e)), (3, .float 1)]) (st' := [.int 5, .float 1, .int (nI (cl.getD (f + 5) 0))]) rfl rfl ?_
              refine wp_cvR (As := [.float 1, .int 5]) (r := [.int (nI (cl.getD (f + 5) 0))]) (v := (some (.int 101))) (g := (c0 :: .inl (2, .inl tx) :: t)) (st2 := [.int 101, .int (nI (cl.getD (f + 5) 0))]) (pc' := 36) rfl rfl rfl rfl ⟨80, sc_0_5 _⟩ (by omega) ?_
              refine wn_ic_eq (n := cl.getD (f + 5) 0) (m := 101) (pc' := 39) rfl (by first | omega | exact Nat.lt_trans (hlt _) (by decide)) (by first | omega | exact Nat.lt_trans (hlt _) (by decide)) rfl (fun hc7 => ?_) (fun hc7 => ?_)
              · refine wp_iinc (v := 6) (lv' := [(4, .int 6), (0, .ref 1), (1, .int (nI f)), (2, .int (nI e)), (3, .float 1)]) (pc' := 44) rfl rfl (by decide) rfl rfl rfl ?_
                refine wp_p (pc' := 15) (lv' := [(4, .int 6), (0, .ref 1), (1, .int (nI f)), (2, .int (nI e)), (3, .float 1)]) (st' := []) rfl rfl ?_
                refine wp_p (pc' := 17) (lv' := [(4, .int 6), (0, .ref 1), (1, .int (nI f)), (2, .int (nI e)), (3, .float 1)]) (st' := [.int 6]) rfl rfl ?_
                refine wp_p (pc' := 18) (lv' := [(4, .int 6), (0, .ref 1), (1, .int (nI f)), (2, .int (nI e)), (3, .float 1)]) (st' := [.float 1, .int 6]) rfl rfl ?_
                refine wp_cvR (As := [.float 1]) (r := [.int 6]) (v := (some (.int 6))) (g := (c0 :: .inl (2, .inl tx) :: t)) (st2 := [.int 6, .int 6]) (pc' := 21) rfl rfl rfl rfl ⟨40, sl_0 _⟩ (by omega) ?_
                refine wp_p (pc' := 47) (lv' := [(4, .int 6), (0, .ref 1), (1, .int (nI f)), (2, .int (nI e)), (3, .float 1)]) (st' := []) rfl rfl ?_
                refine wp_p (pc' := 48) (lv' := [(4, .int 6), (0, .ref 1), (1, .int (nI f)), (2, .int (nI e)), (3, .float 1)]) (st' := [.int 1]) rfl rfl ?_
                exact wp_r rfl rfl ⟨by rw [if_pos ((spw_0 cl f e hf he).mp ⟨by omega, by omega, by omega, by omega, by omega, by omega, by omega⟩)], rfl⟩
              · refine wp_p (pc' := 40) (lv' := [(4, .int 5), (0, .ref 1), (1, .int (nI f)), (2, .int (nI e)), (3, .float 1)]) (st' := [.int 0]) rfl rfl ?_
                exact wp_r rfl rfl ⟨by rw [if_neg (fun q => by have q := (spw_0 cl f e hf he).mpr q; omega)], rfl⟩
            · refine wp_p (pc' := 40) (lv' := [(4, .int 4), (0, .ref 1), (1, .int (nI f)), (2, .int (nI e)), (3, .float 1)]) (st' := [.int 0]) rfl rfl ?_
              exact wp_r rfl rfl ⟨by rw [if_neg (fun q => by have q := (spw_0 cl f e hf he).mpr q; omega)], rfl⟩
          · refine wp_p (pc' := 40) (lv' := [(4, .int 3), (0, .ref 1), (1, .int (nI f)), (2, .int (nI e)), (3, .float 1)]) (st' := [.int 0]) rfl rfl ?_
            exact wp_r rfl rfl ⟨by rw [if_neg (fun q => by have q := (spw_0 cl f e hf he).mpr q; omega)], rfl⟩
        · refine wp_p (pc' := 40) (lv' := [(4, .int 2), (0, .ref 1), (1, .int (nI f)), (2, .int (nI e)), (3, .float 1)]) (st' := [.int 0]) rfl rfl ?_
          exact wp_r rfl rfl ⟨by rw [if_neg (fun q => by have q := (spw_0 cl f e hf he).mpr q; omega)], rfl⟩
      · refine wp_p (pc' := 40) (lv' := [(4, .int 1), (0, .ref 1), (1, .int (nI f)), (2, .int (nI e)), (3, .float 1)]) (st' := [.int 0]) rfl rfl ?_
        exact wp_r rfl rfl ⟨by rw [if_neg (fun q => by have q := (spw_0 cl f e hf he).mpr q; omega)], rfl⟩
    · refine wp_p (pc' := 40) (lv' := [(4, .int 0), (0, .ref 1), (1, .int (nI f)), (2, .int (nI e)), (3, .float 1)]) (st' := [.int 0]) rfl rfl ?_
      exact wp_r rfl rfl ⟨by rw [if_neg (fun q => by have q := (spw_0 cl f e hf he).mpr q; omega)], rfl⟩
  · refine wp_p (pc' := 11) (lv' := [(0, .ref 1), (1, .int (nI f)), (2, .int (nI e)), (3, .float 1)]) (st' := [.int 0]) rfl rfl ?_
    exact wp_r rfl rfl ⟨by rw [if_neg (fun q => by have q := (spw_0 cl f e hf he).mpr q; omega)], rfl⟩
theorem spw_1 (cl : List Nat) (f e : Nat) (hf : f ≤ e) (he : e ≤ cl.length) : (e - f = 5 ∧ cl.getD (f + 0) 0 = 105 ∧ cl.getD (f + 1) 0 = 110 ∧ cl.getD (f + 2) 0 = 100 ∧ cl.getD (f + 3) 0 = 101 ∧ cl.getD (f + 4) 0 = 120) ↔ (cl.drop f).take (e - f) = [105, 110, 100, 101, 120] := by
  constructor
  · intro q
    have e1 : e - f = 5 := q.1
    rw [e1]
    refine (sp_iff [105, 110, 100, 101, 120] cl f (by show f + 5 ≤ _; omega)).mpr (fun j hj => ?_)
    have hj : j < 5 := hj
    rcases (show j = 0 ∨ j = 1 ∨ j = 2 ∨ j = 3 ∨ j = 4 by omega) with rfl | rfl | rfl | rfl | rfl
    · exact q.2.1
    · exact q.2.2.1
    · exact q.2.2.2.1
    · exact q.2.2.2.2.1
    · exact q.2.2.2.2.2
  · intro q
    have e1 : e - f = 5 := sp_len he hf q
    rw [e1] at q
    have q2 := (sp_iff [105, 110, 100, 101, 120] cl f (by show f + 5 ≤ _; omega)).mp q
    exact ⟨e1, q2 0 (by decide), q2 1 (by decide), q2 2 (by decide), q2 3 (by decide), q2 4 (by decide)⟩
set_option maxRecDepth 20000 in
theorem c_spells_1 (c0 : sm_E) (t : sm_H) (tx : List Int32) (cl : List Nat) (f e : Nat) (hlt : ∀ i, cl.getD i 0 < 65536) (h1 : tx.length = 80) (hcl : cl.length ≤ 80) (htx : ∀ i, i < cl.length → tx.getD i 0 = nI (cl.getD i 0)) (hf : f ≤ e) (he : e ≤ cl.length) : sm_run none 10 82 0 (lv_args 0 [.ref 1, .int (nI f), .int (nI e), .float 3]) [] (c0 :: .inl (2, .inl tx) :: t) ((some (.int (if (cl.drop f).take (e - f) = [105, 110, 100, 101, 120] then 1 else 0))), (c0 :: .inl (2, .inl tx) :: t)) := by
  refine wp_to ?_
  refine wp_p (pc' := 1) (lv' := [(0, .ref 1), (1, .int (nI f)), (2, .int (nI e)), (3, .float 3)]) (st' := [.int (nI e)]) rfl rfl ?_
  refine wp_p (pc' := 2) (lv' := [(0, .ref 1), (1, .int (nI f)), (2, .int (nI e)), (3, .float 3)]) (st' := [.int (nI f), .int (nI e)]) rfl rfl ?_
  refine wp_isub (v := nI (e - f)) (pc' := 3) rfl (pk_sub (a := e) (b := f) (by omega)) rfl ?_
  refine wp_p (pc' := 4) (lv' := [(0, .ref 1), (1, .int (nI f)), (2, .int (nI e)), (3, .float 3)]) (st' := [.float 3, .int (nI (e - f))]) rfl rfl ?_
  refine wp_cvR (As := [.float 3]) (r := [.int (nI (e - f))]) (v := (some (.int 5))) (g := (c0 :: .inl (2, .inl tx) :: t)) (st2 := [.int 5, .int (nI (e - f))]) (pc' := 7) rfl rfl rfl rfl ⟨40, sl_1 _⟩ (by omega) ?_
  refine wn_ic_eq (n := e - f) (m := 5) (pc' := 10) rfl (by first | omega | exact Nat.lt_trans (hlt _) (by decide)) (by first | omega | exact Nat.lt_trans (hlt _) (by decide)) rfl (fun hc1 => ?_) (fun hc1 => ?_)
  · refine wp_p (pc' := 13) (lv' := [(0, .ref 1), (1, .int (nI f)), (2, .int (nI e)), (3, .float 3)]) (st' := [.int 0]) rfl rfl ?_
    refine wp_p (pc' := 15) (lv' := [(4, .int 0), (0, .ref 1), (1, .int (nI f)), (2, .int (nI e)), (3, .float 3)]) (st' := []) rfl rfl ?_
    refine wp_p (pc' := 17) (lv' := [(4, .int 0), (0, .ref 1), (1, .int (nI f)), (2, .int (nI e)), (3, .float 3)]) (st' := [.int 0]) rfl rfl ?_
    refine wp_p (pc' := 18) (lv' := [(4, .int 0), (0, .ref 1), (1, .int (nI f)), (2, .int (nI e)), (3, .float 3)]) (st' := [.float 3, .int 0]) rfl rfl ?_
    refine wp_cvR (As := [.float 3]) (r := [.int 0]) (v := (some (.int 5))) (g := (c0 :: .inl (2, .inl tx) :: t)) (st2 := [.int 5, .int 0]) (pc' := 21) rfl rfl rfl rfl ⟨40, sl_1 _⟩ (by omega) ?_
    refine wp_p (pc' := 24) (lv' := [(4, .int 0), (0, .ref 1), (1, .int (nI f)), (2, .int (nI e)), (3, .float 3)]) (st' := []) rfl rfl ?_
    refine wp_p (pc' := 25) (lv' := [(4, .int 0), (0, .ref 1), (1, .int (nI f)), (2, .int (nI e)), (3, .float 3)]) (st' := [.ref 1]) rfl rfl ?_
    refine wp_p (pc' := 26) (lv' := [(4, .int 0), (0, .ref 1), (1, .int (nI f)), (2, .int (nI e)), (3, .float 3)]) (st' := [.int (nI f), .ref 1]) rfl rfl ?_
    refine wp_p (pc' := 28) (lv' := [(4, .int 0), (0, .ref 1), (1, .int (nI f)), (2, .int (nI e)), (3, .float 3)]) (st' := [.int 0, .int (nI f), .ref 1]) rfl rfl ?_
    refine wp_iadd (v := nI (f + 0)) (pc' := 29) rfl (nI_add f 0) rfl ?_
    refine wp_caload (q := 1) (n := f + 0) (g := tx) (x := nI (cl.getD (f + 0) 0)) (pc' := 30) rfl rfl (by first | omega | exact Nat.lt_trans (hlt _) (by decide)) (by first | omega | exact Nat.lt_trans (hlt _) (by decide)) (htx _ (by omega)) rfl ?_
    refine wp_p (pc' := 31) (lv' := [(4, .int 0), (0, .ref 1), (1, .int (nI f)), (2, .int (nI e)), (3, .float 3)]) (st' := [.float 3, .int (nI (cl.getD (f + 0) 0))]) rfl rfl ?_
    refine wp_p (pc' := 33) (lv' := [(4, .int 0), (0, .ref 1), (1, .int (nI f)), (2, .int (nI e)), (3, .float 3)]) (st' := [.int 0, .float 3, .int (nI (cl.getD (f + 0) 0))]) rfl rfl ?_
    refine wp_cvR (As := [.float 3, .int 0]) (r := [.int (nI (cl.getD (f + 0) 0))]) (v := (some (.int 105))) (g := (c0 :: .inl (2, .inl tx) :: t)) (st2 := [.int 105, .int (nI (cl.getD (f + 0) 0))]) (pc' := 36) rfl rfl rfl rfl ⟨80, sc_1_0 _⟩ (by omega) ?_
    refine wn_ic_eq (n := cl.getD (f + 0) 0) (m := 105) (pc' := 39) rfl (by first | omega | exact Nat.lt_trans (hlt _) (by decide)) (by first | omega | exact Nat.lt_trans (hlt _) (by decide)) rfl (fun hc2 => ?_) (fun hc2 => ?_)
    · refine wp_iinc (v := 1) (lv' := [(4, .int 1), (0, .ref 1), (1, .int (nI f)), (2, .int (nI e)), (3, .float 3)]) (pc' := 44) rfl rfl (by decide) rfl rfl rfl ?_
      refine wp_p (pc' := 15) (lv' := [(4, .int 1), (0, .ref 1), (1, .int (nI f)), (2, .int (nI e)), (3, .float 3)]) (st' := []) rfl rfl ?_
      refine wp_p (pc' := 17) (lv' := [(4, .int 1), (0, .ref 1), (1, .int (nI f)), (2, .int (nI e)), (3, .float 3)]) (st' := [.int 1]) rfl rfl ?_
      refine wp_p (pc' := 18) (lv' := [(4, .int 1), (0, .ref 1), (1, .int (nI f)), (2, .int (nI e)), (3, .float 3)]) (st' := [.float 3, .int 1]) rfl rfl ?_
      refine wp_cvR (As := [.float 3]) (r := [.int 1]) (v := (some (.int 5))) (g := (c0 :: .inl (2, .inl tx) :: t)) (st2 := [.int 5, .int 1]) (pc' := 21) rfl rfl rfl rfl ⟨40, sl_1 _⟩ (by omega) ?_
      refine wp_p (pc' := 24) (lv' := [(4, .int 1), (0, .ref 1), (1, .int (nI f)), (2, .int (nI e)), (3, .float 3)]) (st' := []) rfl rfl ?_
      refine wp_p (pc' := 25) (lv' := [(4, .int 1), (0, .ref 1), (1, .int (nI f)), (2, .int (nI e)), (3, .float 3)]) (st' := [.ref 1]) rfl rfl ?_
      refine wp_p (pc' := 26) (lv' := [(4, .int 1), (0, .ref 1), (1, .int (nI f)), (2, .int (nI e)), (3, .float 3)]) (st' := [.int (nI f), .ref 1]) rfl rfl ?_
      refine wp_p (pc' := 28) (lv' := [(4, .int 1), (0, .ref 1), (1, .int (nI f)), (2, .int (nI e)), (3, .float 3)]) (st' := [.int 1, .int (nI f), .ref 1]) rfl rfl ?_
      refine wp_iadd (v := nI (f + 1)) (pc' := 29) rfl (nI_add f 1) rfl ?_
      refine wp_caload (q := 1) (n := f + 1) (g := tx) (x := nI (cl.getD (f + 1) 0)) (pc' := 30) rfl rfl (by first | omega | exact Nat.lt_trans (hlt _) (by decide)) (by first | omega | exact Nat.lt_trans (hlt _) (by decide)) (htx _ (by omega)) rfl ?_
      refine wp_p (pc' := 31) (lv' := [(4, .int 1), (0, .ref 1), (1, .int (nI f)), (2, .int (nI e)), (3, .float 3)]) (st' := [.float 3, .int (nI (cl.getD (f + 1) 0))]) rfl rfl ?_
      refine wp_p (pc' := 33) (lv' := [(4, .int 1), (0, .ref 1), (1, .int (nI f)), (2, .int (nI e)), (3, .float 3)]) (st' := [.int 1, .float 3, .int (nI (cl.getD (f + 1) 0))]) rfl rfl ?_
      refine wp_cvR (As := [.float 3, .int 1]) (r := [.int (nI (cl.getD (f + 1) 0))]) (v := (some (.int 110))) (g := (c0 :: .inl (2, .inl tx) :: t)) (st2 := [.int 110, .int (nI (cl.getD (f + 1) 0))]) (pc' := 36) rfl rfl rfl rfl ⟨80, sc_1_1 _⟩ (by omega) ?_
      refine wn_ic_eq (n := cl.getD (f + 1) 0) (m := 110) (pc' := 39) rfl (by first | omega | exact Nat.lt_trans (hlt _) (by decide)) (by first | omega | exact Nat.lt_trans (hlt _) (by decide)) rfl (fun hc3 => ?_) (fun hc3 => ?_)
      · refine wp_iinc (v := 2) (lv' := [(4, .int 2), (0, .ref 1), (1, .int (nI f)), (2, .int (nI e)), (3, .float 3)]) (pc' := 44) rfl rfl (by decide) rfl rfl rfl ?_
        refine wp_p (pc' := 15) (lv' := [(4, .int 2), (0, .ref 1), (1, .int (nI f)), (2, .int (nI e)), (3, .float 3)]) (st' := []) rfl rfl ?_
        refine wp_p (pc' := 17) (lv' := [(4, .int 2), (0, .ref 1), (1, .int (nI f)), (2, .int (nI e)), (3, .float 3)]) (st' := [.int 2]) rfl rfl ?_
        refine wp_p (pc' := 18) (lv' := [(4, .int 2), (0, .ref 1), (1, .int (nI f)), (2, .int (nI e)), (3, .float 3)]) (st' := [.float 3, .int 2]) rfl rfl ?_
        refine wp_cvR (As := [.float 3]) (r := [.int 2]) (v := (some (.int 5))) (g := (c0 :: .inl (2, .inl tx) :: t)) (st2 := [.int 5, .int 2]) (pc' := 21) rfl rfl rfl rfl ⟨40, sl_1 _⟩ (by omega) ?_
        refine wp_p (pc' := 24) (lv' := [(4, .int 2), (0, .ref 1), (1, .int (nI f)), (2, .int (nI e)), (3, .float 3)]) (st' := []) rfl rfl ?_
        refine wp_p (pc' := 25) (lv' := [(4, .int 2), (0, .ref 1), (1, .int (nI f)), (2, .int (nI e)), (3, .float 3)]) (st' := [.ref 1]) rfl rfl ?_
        refine wp_p (pc' := 26) (lv' := [(4, .int 2), (0, .ref 1), (1, .int (nI f)), (2, .int (nI e)), (3, .float 3)]) (st' := [.int (nI f), .ref 1]) rfl rfl ?_
        refine wp_p (pc' := 28) (lv' := [(4, .int 2), (0, .ref 1), (1, .int (nI f)), (2, .int (nI e)), (3, .float 3)]) (st' := [.int 2, .int (nI f), .ref 1]) rfl rfl ?_
        refine wp_iadd (v := nI (f + 2)) (pc' := 29) rfl (nI_add f 2) rfl ?_
        refine wp_caload (q := 1) (n := f + 2) (g := tx) (x := nI (cl.getD (f + 2) 0)) (pc' := 30) rfl rfl (by first | omega | exact Nat.lt_trans (hlt _) (by decide)) (by first | omega | exact Nat.lt_trans (hlt _) (by decide)) (htx _ (by omega)) rfl ?_
        refine wp_p (pc' := 31) (lv' := [(4, .int 2), (0, .ref 1), (1, .int (nI f)), (2, .int (nI e)), (3, .float 3)]) (st' := [.float 3, .int (nI (cl.getD (f + 2) 0))]) rfl rfl ?_
        refine wp_p (pc' := 33) (lv' := [(4, .int 2), (0, .ref 1), (1, .int (nI f)), (2, .int (nI e)), (3, .float 3)]) (st' := [.int 2, .float 3, .int (nI (cl.getD (f + 2) 0))]) rfl rfl ?_
        refine wp_cvR (As := [.float 3, .int 2]) (r := [.int (nI (cl.getD (f + 2) 0))]) (v := (some (.int 100))) (g := (c0 :: .inl (2, .inl tx) :: t)) (st2 := [.int 100, .int (nI (cl.getD (f + 2) 0))]) (pc' := 36) rfl rfl rfl rfl ⟨80, sc_1_2 _⟩ (by omega) ?_
        refine wn_ic_eq (n := cl.getD (f + 2) 0) (m := 100) (pc' := 39) rfl (by first | omega | exact Nat.lt_trans (hlt _) (by decide)) (by first | omega | exact Nat.lt_trans (hlt _) (by decide)) rfl (fun hc4 => ?_) (fun hc4 => ?_)
        · refine wp_iinc (v := 3) (lv' := [(4, .int 3), (0, .ref 1), (1, .int (nI f)), (2, .int (nI e)), (3, .float 3)]) (pc' := 44) rfl rfl (by decide) rfl rfl rfl ?_
          refine wp_p (pc' := 15) (lv' := [(4, .int 3), (0, .ref 1), (1, .int (nI f)), (2, .int (nI e)), (3, .float 3)]) (st' := []) rfl rfl ?_
          refine wp_p (pc' := 17) (lv' := [(4, .int 3), (0, .ref 1), (1, .int (nI f)), (2, .int (nI e)), (3, .float 3)]) (st' := [.int 3]) rfl rfl ?_
          refine wp_p (pc' := 18) (lv' := [(4, .int 3), (0, .ref 1), (1, .int (nI f)), (2, .int (nI e)), (3, .float 3)]) (st' := [.float 3, .int 3]) rfl rfl ?_
          refine wp_cvR (As := [.float 3]) (r := [.int 3]) (v := (some (.int 5))) (g := (c0 :: .inl (2, .inl tx) :: t)) (st2 := [.int 5, .int 3]) (pc' := 21) rfl rfl rfl rfl ⟨40, sl_1 _⟩ (by omega) ?_
          refine wp_p (pc' := 24) (lv' := [(4, .int 3), (0, .ref 1), (1, .int (nI f)), (2, .int (nI e)), (3, .float 3)]) (st' := []) rfl rfl ?_
          refine wp_p (pc' := 25) (lv' := [(4, .int 3), (0, .ref 1), (1, .int (nI f)), (2, .int (nI e)), (3, .float 3)]) (st' := [.ref 1]) rfl rfl ?_
          refine wp_p (pc' := 26) (lv' := [(4, .int 3), (0, .ref 1), (1, .int (nI f)), (2, .int (nI e)), (3, .float 3)]) (st' := [.int (nI f), .ref 1]) rfl rfl ?_
          refine wp_p (pc' := 28) (lv' := [(4, .int 3), (0, .ref 1), (1, .int (nI f)), (2, .int (nI e)), (3, .float 3)]) (st' := [.int 3, .int (nI f), .ref 1]) rfl rfl ?_
          refine wp_iadd (v := nI (f + 3)) (pc' := 29) rfl (nI_add f 3) rfl ?_
          refine wp_caload (q := 1) (n := f + 3) (g := tx) (x := nI (cl.getD (f + 3) 0)) (pc' := 30) rfl rfl (by first | omega | exact Nat.lt_trans (hlt _) (by decide)) (by first | omega | exact Nat.lt_trans (hlt _) (by decide)) (htx _ (by omega)) rfl ?_
          refine wp_p (pc' := 31) (lv' := [(4, .int 3), (0, .ref 1), (1, .int (nI f)), (2, .int (nI e)), (3, .float 3)]) (st' := [.float 3, .int (nI (cl.getD (f + 3) 0))]) rfl rfl ?_
          refine wp_p (pc' := 33) (lv' := [(4, .int 3), (0, .ref 1), (1, .int (nI f)), (2, .int (nI e)), (3, .float 3)]) (st' := [.int 3, .float 3, .int (nI (cl.getD (f + 3) 0))]) rfl rfl ?_
          refine wp_cvR (As := [.float 3, .int 3]) (r := [.int (nI (cl.getD (f + 3) 0))]) (v := (some (.int 101))) (g := (c0 :: .inl (2, .inl tx) :: t)) (st2 := [.int 101, .int (nI (cl.getD (f + 3) 0))]) (pc' := 36) rfl rfl rfl rfl ⟨80, sc_1_3 _⟩ (by omega) ?_
          refine wn_ic_eq (n := cl.getD (f + 3) 0) (m := 101) (pc' := 39) rfl (by first | omega | exact Nat.lt_trans (hlt _) (by decide)) (by first | omega | exact Nat.lt_trans (hlt _) (by decide)) rfl (fun hc5 => ?_) (fun hc5 => ?_)
          · refine wp_iinc (v := 4) (lv' := [(4, .int 4), (0, .ref 1), (1, .int (nI f)), (2, .int (nI e)), (3, .float 3)]) (pc' := 44) rfl rfl (by decide) rfl rfl rfl ?_
            refine wp_p (pc' := 15) (lv' := [(4, .int 4), (0, .ref 1), (1, .int (nI f)), (2, .int (nI e)), (3, .float 3)]) (st' := []) rfl rfl ?_
            refine wp_p (pc' := 17) (lv' := [(4, .int 4), (0, .ref 1), (1, .int (nI f)), (2, .int (nI e)), (3, .float 3)]) (st' := [.int 4]) rfl rfl ?_
            refine wp_p (pc' := 18) (lv' := [(4, .int 4), (0, .ref 1), (1, .int (nI f)), (2, .int (nI e)), (3, .float 3)]) (st' := [.float 3, .int 4]) rfl rfl ?_
            refine wp_cvR (As := [.float 3]) (r := [.int 4]) (v := (some (.int 5))) (g := (c0 :: .inl (2, .inl tx) :: t)) (st2 := [.int 5, .int 4]) (pc' := 21) rfl rfl rfl rfl ⟨40, sl_1 _⟩ (by omega) ?_
            refine wp_p (pc' := 24) (lv' := [(4, .int 4), (0, .ref 1), (1, .int (nI f)), (2, .int (nI e)), (3, .float 3)]) (st' := []) rfl rfl ?_
            refine wp_p (pc' := 25) (lv' := [(4, .int 4), (0, .ref 1), (1, .int (nI f)), (2, .int (nI e)), (3, .float 3)]) (st' := [.ref 1]) rfl rfl ?_
            refine wp_p (pc' := 26) (lv' := [(4, .int 4), (0, .ref 1), (1, .int (nI f)), (2, .int (nI e)), (3, .float 3)]) (st' := [.int (nI f), .ref 1]) rfl rfl ?_
            refine wp_p (pc' := 28) (lv' := [(4, .int 4), (0, .ref 1), (1, .int (nI f)), (2, .int (nI e)), (3, .float 3)]) (st' := [.int 4, .int (nI f), .ref 1]) rfl rfl ?_
            refine wp_iadd (v := nI (f + 4)) (pc' := 29) rfl (nI_add f 4) rfl ?_
            refine wp_caload (q := 1) (n := f + 4) (g := tx) (x := nI (cl.getD (f + 4) 0)) (pc' := 30) rfl rfl (by first | omega | exact Nat.lt_trans (hlt _) (by decide)) (by first | omega | exact Nat.lt_trans (hlt _) (by decide)) (htx _ (by omega)) rfl ?_
            refine wp_p (pc' := 31) (lv' := [(4, .int 4), (0, .ref 1), (1, .int (nI f)), (2, .int (nI e)), (3, .float 3)]) (st' := [.float 3, .int (nI (cl.getD (f + 4) 0))]) rfl rfl ?_
            refine wp_p (pc' := 33) (lv' := [(4, .int 4), (0, .ref 1), (1, .int (nI f)), (2, .int (nI e)), (3, .float 3)]) (st' := [.int 4, .float 3, .int (nI (cl.getD (f + 4) 0))]) rfl rfl ?_
            refine wp_cvR (As := [.float 3, .int 4]) (r := [.int (nI (cl.getD (f + 4) 0))]) (v := (some (.int 120))) (g := (c0 :: .inl (2, .inl tx) :: t)) (st2 := [.int 120, .int (nI (cl.getD (f + 4) 0))]) (pc' := 36) rfl rfl rfl rfl ⟨80, sc_1_4 _⟩ (by omega) ?_
            refine wn_ic_eq (n := cl.getD (f + 4) 0) (m := 120) (pc' := 39) rfl (by first | omega | exact Nat.lt_trans (hlt _) (by decide)) (by first | omega | exact Nat.lt_trans (hlt _) (by decide)) rfl (fun hc6 => ?_) (fun hc6 => ?_)
            · refine wp_iinc (v := 5) (lv' := [(4, .int 5), (0, .ref 1), (1, .int (nI f)), (2, .int (nI e)), (3, .float 3)]) (pc' := 44) rfl rfl (by decide) rfl rfl rfl ?_
              refine wp_p (pc' := 15) (lv' := [(4, .int 5), (0, .ref 1), (1, .int (nI f)), (2, .int (nI e)), (3, .float 3)]) (st' := []) rfl rfl ?_
              refine wp_p (pc' := 17) (lv' := [(4, .int 5), (0, .ref 1), (1, .int (nI f)), (2, .int (nI e)), (3, .float 3)]) (st' := [.int 5]) rfl rfl ?_
              refine wp_p (pc' := 18) (lv' := [(4, .int 5), (0, .ref 1), (1, .int (nI f)), (2, .int (nI e)), (3, .float 3)]) (st' := [.float 3, .int 5]) rfl rfl ?_
              refine wp_cvR (As := [.float 3]) (r := [.int 5]) (v := (some (.int 5))) (g := (c0 :: .inl (2, .inl tx) :: t)) (st2 := [.int 5, .int 5]) (pc' := 21) rfl rfl rfl rfl ⟨40, sl_1 _⟩ (by omega) ?_
              refine wp_p (pc' := 47) (lv' := [(4, .int 5), (0, .ref 1), (1, .int (nI f)), (2, .int (nI e)), (3, .float 3)]) (st' := []) rfl rfl ?_
              refine wp_p (pc' := 48) (lv' := [(4, .int 5), (0, .ref 1), (1, .int (nI f)), (2, .int (nI e)), (3, .float 3)]) (st' := [.int 1]) rfl rfl ?_
              exact wp_r rfl rfl ⟨by rw [if_pos ((spw_1 cl f e hf he).mp ⟨by omega, by omega, by omega, by omega, by omega, by omega⟩)], rfl⟩
            · refine wp_p (pc' := 40) (lv' := [(4, .int 4), (0, .ref 1), (1, .int (nI f)), (2, .int (nI e)), (3, .float 3)]) (st' := [.int 0]) rfl rfl ?_
              exact wp_r rfl rfl ⟨by rw [if_neg (fun q => by have q := (spw_1 cl f e hf he).mpr q; omega)], rfl⟩
          · refine wp_p (pc' := 40) (lv' := [(4, .int 3), (0, .ref 1), (1, .int (nI f)), (2, .int (nI e)), (3, .float 3)]) (st' := [.int 0]) rfl rfl ?_
            exact wp_r rfl rfl ⟨by rw [if_neg (fun q => by have q := (spw_1 cl f e hf he).mpr q; omega)], rfl⟩
        · refine wp_p (pc' := 40) (lv' := [(4, .int 2), (0, .ref 1), (1, .int (nI f)), (2, .int (nI e)), (3, .float 3)]) (st' := [.int 0]) rfl rfl ?_
          exact wp_r rfl rfl ⟨by rw [if_neg (fun q => by have q := (spw_1 cl f e hf he).mpr q; omega)], rfl⟩
      · refine wp_p (pc' := 40) (lv' := [(4, .int 1), (0, .ref 1), (1, .int (nI f)), (2, .int (nI e)), (3, .float 3)]) (st' := [.int 0]) rfl rfl ?_
        exact wp_r rfl rfl ⟨by rw [if_neg (fun q => by have q := (spw_1 cl f e hf he).mpr q; omega)], rfl⟩
    · refine wp_p (pc' := 40) (lv' := [(4, .int 0), (0, .ref 1), (1, .int (nI f)), (2, .int (nI e)), (3, .float 3)]) (st' := [.int 0]) rfl rfl ?_
      exact wp_r rfl rfl ⟨by rw [if_neg (fun q => by have q := (spw_1 cl f e hf he).mpr q; omega)], rfl⟩
  · refine wp_p (pc' := 11) (lv' := [(0, .ref 1), (1, .int (nI f)), (2, .int (nI e)), (3, .float 3)]) (st' := [.int 0]) rfl rfl ?_
    exact wp_r rfl rfl ⟨by rw [if_neg (fun q => by have q := (spw_1 cl f e hf he).mpr q; omega)], rfl⟩
theorem spw_2 (cl : List Nat) (f e : Nat) (hf : f ≤ e) (he : e ≤ cl.length) : (e - f = 6 ∧ cl.getD (f + 0) 0 = 105 ∧ cl.getD (f + 1) 0 = 110 ∧ cl.getD (f + 2) 0 = 115 ∧ cl.getD (f + 3) 0 = 101 ∧ cl.getD (f + 4) 0 = 114 ∧ cl.getD (f + 5) 0 = 116) ↔ (cl.drop f).take (e - f) = [105, 110, 115, 101, 114, 116] := by
  constructor
  · intro q
    have e1 : e - f = 6 := q.1
    rw [e1]
    refine (sp_iff [105, 110, 115, 101, 114, 116] cl f (by show f + 6 ≤ _; omega)).mpr (fun j hj => ?_)
    have hj : j < 6 := hj
    rcases (show j = 0 ∨ j = 1 ∨ j = 2 ∨ j = 3 ∨ j = 4 ∨ j = 5 by omega) with rfl | rfl | rfl | rfl | rfl | rfl
    · exact q.2.1
    · exact q.2.2.1
    · exact q.2.2.2.1
    · exact q.2.2.2.2.1
    · exact q.2.2.2.2.2.1
    · exact q.2.2.2.2.2.2
  · intro q
    have e1 : e - f = 6 := sp_len he hf q
    rw [e1] at q
    have q2 := (sp_iff [105, 110, 115, 101, 114, 116] cl f (by show f + 6 ≤ _; omega)).mp q
    exact ⟨e1, q2 0 (by decide), q2 1 (by decide), q2 2 (by decide), q2 3 (by decide), q2 4 (by decide), q2 5 (by decide)⟩
set_option maxRecDepth 20000 in
theorem c_spells_2 (c0 : sm_E) (t : sm_H) (tx : List Int32) (cl : List Nat) (f e : Nat) (hlt : ∀ i, cl.getD i 0 < 65536) (h1 : tx.length = 80) (hcl : cl.length ≤ 80) (htx : ∀ i, i < cl.length → tx.getD i 0 = nI (cl.getD i 0)) (hf : f ≤ e) (he : e ≤ cl.length) : sm_run none 10 82 0 (lv_args 0 [.ref 1, .int (nI f), .int (nI e), .float 5]) [] (c0 :: .inl (2, .inl tx) :: t) ((some (.int (if (cl.drop f).take (e - f) = [105, 110, 115, 101, 114, 116] then 1 else 0))), (c0 :: .inl (2, .inl tx) :: t)) := by
  refine wp_to ?_
  refine wp_p (pc' := 1) (lv' := [(0, .ref 1), (1, .int (nI f)), (2, .int (nI e)), (3, .float 5)]) (st' := [.int (nI e)]) rfl rfl ?_
  refine wp_p (pc' := 2) (lv' := [(0, .ref 1), (1, .int (nI f)), (2, .int (nI e)), (3, .float 5)]) (st' := [.int (nI f), .int (nI e)]) rfl rfl ?_
  refine wp_isub (v := nI (e - f)) (pc' := 3) rfl (pk_sub (a := e) (b := f) (by omega)) rfl ?_
  refine wp_p (pc' := 4) (lv' := [(0, .ref 1), (1, .int (nI f)), (2, .int (nI e)), (3, .float 5)]) (st' := [.float 5, .int (nI (e - f))]) rfl rfl ?_
  refine wp_cvR (As := [.float 5]) (r := [.int (nI (e - f))]) (v := (some (.int 6))) (g := (c0 :: .inl (2, .inl tx) :: t)) (st2 := [.int 6, .int (nI (e - f))]) (pc' := 7) rfl rfl rfl rfl ⟨40, sl_2 _⟩ (by omega) ?_
  refine wn_ic_eq (n := e - f) (m := 6) (pc' := 10) rfl (by first | omega | exact Nat.lt_trans (hlt _) (by decide)) (by first | omega | exact Nat.lt_trans (hlt _) (by decide)) rfl (fun hc1 => ?_) (fun hc1 => ?_)
  · refine wp_p (pc' := 13) (lv' := [(0, .ref 1), (1, .int (nI f)), (2, .int (nI e)), (3, .float 5)]) (st' := [.int 0]) rfl rfl ?_
    refine wp_p (pc' := 15) (lv' := [(4, .int 0), (0, .ref 1), (1, .int (nI f)), (2, .int (nI e)), (3, .float 5)]) (st' := []) rfl rfl ?_
    refine wp_p (pc' := 17) (lv' := [(4, .int 0), (0, .ref 1), (1, .int (nI f)), (2, .int (nI e)), (3, .float 5)]) (st' := [.int 0]) rfl rfl ?_
    refine wp_p (pc' := 18) (lv' := [(4, .int 0), (0, .ref 1), (1, .int (nI f)), (2, .int (nI e)), (3, .float 5)]) (st' := [.float 5, .int 0]) rfl rfl ?_
    refine wp_cvR (As := [.float 5]) (r := [.int 0]) (v := (some (.int 6))) (g := (c0 :: .inl (2, .inl tx) :: t)) (st2 := [.int 6, .int 0]) (pc' := 21) rfl rfl rfl rfl ⟨40, sl_2 _⟩ (by omega) ?_
    refine wp_p (pc' := 24) (lv' := [(4, .int 0), (0, .ref 1), (1, .int (nI f)), (2, .int (nI e)), (3, .float 5)]) (st' := []) rfl rfl ?_
    refine wp_p (pc' := 25) (lv' := [(4, .int 0), (0, .ref 1), (1, .int (nI f)), (2, .int (nI e)), (3, .float 5)]) (st' := [.ref 1]) rfl rfl ?_
    refine wp_p (pc' := 26) (lv' := [(4, .int 0), (0, .ref 1), (1, .int (nI f)), (2, .int (nI e)), (3, .float 5)]) (st' := [.int (nI f), .ref 1]) rfl rfl ?_
    refine wp_p (pc' := 28) (lv' := [(4, .int 0), (0, .ref 1), (1, .int (nI f)), (2, .int (nI e)), (3, .float 5)]) (st' := [.int 0, .int (nI f), .ref 1]) rfl rfl ?_
    refine wp_iadd (v := nI (f + 0)) (pc' := 29) rfl (nI_add f 0) rfl ?_
    refine wp_caload (q := 1) (n := f + 0) (g := tx) (x := nI (cl.getD (f + 0) 0)) (pc' := 30) rfl rfl (by first | omega | exact Nat.lt_trans (hlt _) (by decide)) (by first | omega | exact Nat.lt_trans (hlt _) (by decide)) (htx _ (by omega)) rfl ?_
    refine wp_p (pc' := 31) (lv' := [(4, .int 0), (0, .ref 1), (1, .int (nI f)), (2, .int (nI e)), (3, .float 5)]) (st' := [.float 5, .int (nI (cl.getD (f + 0) 0))]) rfl rfl ?_
    refine wp_p (pc' := 33) (lv' := [(4, .int 0), (0, .ref 1), (1, .int (nI f)), (2, .int (nI e)), (3, .float 5)]) (st' := [.int 0, .float 5, .int (nI (cl.getD (f + 0) 0))]) rfl rfl ?_
    refine wp_cvR (As := [.float 5, .int 0]) (r := [.int (nI (cl.getD (f + 0) 0))]) (v := (some (.int 105))) (g := (c0 :: .inl (2, .inl tx) :: t)) (st2 := [.int 105, .int (nI (cl.getD (f + 0) 0))]) (pc' := 36) rfl rfl rfl rfl ⟨80, sc_2_0 _⟩ (by omega) ?_
    refine wn_ic_eq (n := cl.getD (f + 0) 0) (m := 105) (pc' := 39) rfl (by first | omega | exact Nat.lt_trans (hlt _) (by decide)) (by first | omega | exact Nat.lt_trans (hlt _) (by decide)) rfl (fun hc2 => ?_) (fun hc2 => ?_)
    · refine wp_iinc (v := 1) (lv' := [(4, .int 1), (0, .ref 1), (1, .int (nI f)), (2, .int (nI e)), (3, .float 5)]) (pc' := 44) rfl rfl (by decide) rfl rfl rfl ?_
      refine wp_p (pc' := 15) (lv' := [(4, .int 1), (0, .ref 1), (1, .int (nI f)), (2, .int (nI e)), (3, .float 5)]) (st' := []) rfl rfl ?_
      refine wp_p (pc' := 17) (lv' := [(4, .int 1), (0, .ref 1), (1, .int (nI f)), (2, .int (nI e)), (3, .float 5)]) (st' := [.int 1]) rfl rfl ?_
      refine wp_p (pc' := 18) (lv' := [(4, .int 1), (0, .ref 1), (1, .int (nI f)), (2, .int (nI e)), (3, .float 5)]) (st' := [.float 5, .int 1]) rfl rfl ?_
      refine wp_cvR (As := [.float 5]) (r := [.int 1]) (v := (some (.int 6))) (g := (c0 :: .inl (2, .inl tx) :: t)) (st2 := [.int 6, .int 1]) (pc' := 21) rfl rfl rfl rfl ⟨40, sl_2 _⟩ (by omega) ?_
      refine wp_p (pc' := 24) (lv' := [(4, .int 1), (0, .ref 1), (1, .int (nI f)), (2, .int (nI e)), (3, .float 5)]) (st' := []) rfl rfl ?_
      refine wp_p (pc' := 25) (lv' := [(4, .int 1), (0, .ref 1), (1, .int (nI f)), (2, .int (nI e)), (3, .float 5)]) (st' := [.ref 1]) rfl rfl ?_
      refine wp_p (pc' := 26) (lv' := [(4, .int 1), (0, .ref 1), (1, .int (nI f)), (2, .int (nI e)), (3, .float 5)]) (st' := [.int (nI f), .ref 1]) rfl rfl ?_
      refine wp_p (pc' := 28) (lv' := [(4, .int 1), (0, .ref 1), (1, .int (nI f)), (2, .int (nI e)), (3, .float 5)]) (st' := [.int 1, .int (nI f), .ref 1]) rfl rfl ?_
      refine wp_iadd (v := nI (f + 1)) (pc' := 29) rfl (nI_add f 1) rfl ?_
      refine wp_caload (q := 1) (n := f + 1) (g := tx) (x := nI (cl.getD (f + 1) 0)) (pc' := 30) rfl rfl (by first | omega | exact Nat.lt_trans (hlt _) (by decide)) (by first | omega | exact Nat.lt_trans (hlt _) (by decide)) (htx _ (by omega)) rfl ?_
      refine wp_p (pc' := 31) (lv' := [(4, .int 1), (0, .ref 1), (1, .int (nI f)), (2, .int (nI e)), (3, .float 5)]) (st' := [.float 5, .int (nI (cl.getD (f + 1) 0))]) rfl rfl ?_
      refine wp_p (pc' := 33) (lv' := [(4, .int 1), (0, .ref 1), (1, .int (nI f)), (2, .int (nI e)), (3, .float 5)]) (st' := [.int 1, .float 5, .int (nI (cl.getD (f + 1) 0))]) rfl rfl ?_
      refine wp_cvR (As := [.float 5, .int 1]) (r := [.int (nI (cl.getD (f + 1) 0))]) (v := (some (.int 110))) (g := (c0 :: .inl (2, .inl tx) :: t)) (st2 := [.int 110, .int (nI (cl.getD (f + 1) 0))]) (pc' := 36) rfl rfl rfl rfl ⟨80, sc_2_1 _⟩ (by omega) ?_
      refine wn_ic_eq (n := cl.getD (f + 1) 0) (m := 110) (pc' := 39) rfl (by first | omega | exact Nat.lt_trans (hlt _) (by decide)) (by first | omega | exact Nat.lt_trans (hlt _) (by decide)) rfl (fun hc3 => ?_) (fun hc3 => ?_)
      · refine wp_iinc (v := 2) (lv' := [(4, .int 2), (0, .ref 1), (1, .int (nI f)), (2, .int (nI e)), (3, .float 5)]) (pc' := 44) rfl rfl (by decide) rfl rfl rfl ?_
        refine wp_p (pc' := 15) (lv' := [(4, .int 2), (0, .ref 1), (1, .int (nI f)), (2, .int (nI e)), (3, .float 5)]) (st' := []) rfl rfl ?_
        refine wp_p (pc' := 17) (lv' := [(4, .int 2), (0, .ref 1), (1, .int (nI f)), (2, .int (nI e)), (3, .float 5)]) (st' := [.int 2]) rfl rfl ?_
        refine wp_p (pc' := 18) (lv' := [(4, .int 2), (0, .ref 1), (1, .int (nI f)), (2, .int (nI e)), (3, .float 5)]) (st' := [.float 5, .int 2]) rfl rfl ?_
        refine wp_cvR (As := [.float 5]) (r := [.int 2]) (v := (some (.int 6))) (g := (c0 :: .inl (2, .inl tx) :: t)) (st2 := [.int 6, .int 2]) (pc' := 21) rfl rfl rfl rfl ⟨40, sl_2 _⟩ (by omega) ?_
        refine wp_p (pc' := 24) (lv' := [(4, .int 2), (0, .ref 1), (1, .int (nI f)), (2, .int (nI e)), (3, .float 5)]) (st' := []) rfl rfl ?_
        refine wp_p (pc' := 25) (lv' := [(4, .int 2), (0, .ref 1), (1, .int (nI f)), (2, .int (nI e)), (3, .float 5)]) (st' := [.ref 1]) rfl rfl ?_
        refine wp_p (pc' := 26) (lv' := [(4, .int 2), (0, .ref 1), (1, .int (nI f)), (2, .int (nI e)), (3, .float 5)]) (st' := [.int (nI f), .ref 1]) rfl rfl ?_
        refine wp_p (pc' := 28) (lv' := [(4, .int 2), (0, .ref 1), (1, .int (nI f)), (2, .int (nI e)), (3, .float 5)]) (st' := [.int 2, .int (nI f), .ref 1]) rfl rfl ?_
        refine wp_iadd (v := nI (f + 2)) (pc' := 29) rfl (nI_add f 2) rfl ?_
        refine wp_caload (q := 1) (n := f + 2) (g := tx) (x := nI (cl.getD (f + 2) 0)) (pc' := 30) rfl rfl (by first | omega | exact Nat.lt_trans (hlt _) (by decide)) (by first | omega | exact Nat.lt_trans (hlt _) (by decide)) (htx _ (by omega)) rfl ?_
        refine wp_p (pc' := 31) (lv' := [(4, .int 2), (0, .ref 1), (1, .int (nI f)), (2, .int (nI e)), (3, .float 5)]) (st' := [.float 5, .int (nI (cl.getD (f + 2) 0))]) rfl rfl ?_
        refine wp_p (pc' := 33) (lv' := [(4, .int 2), (0, .ref 1), (1, .int (nI f)), (2, .int (nI e)), (3, .float 5)]) (st' := [.int 2, .float 5, .int (nI (cl.getD (f + 2) 0))]) rfl rfl ?_
        refine wp_cvR (As := [.float 5, .int 2]) (r := [.int (nI (cl.getD (f + 2) 0))]) (v := (some (.int 115))) (g := (c0 :: .inl (2, .inl tx) :: t)) (st2 := [.int 115, .int (nI (cl.getD (f + 2) 0))]) (pc' := 36) rfl rfl rfl rfl ⟨80, sc_2_2 _⟩ (by omega) ?_
        refine wn_ic_eq (n := cl.getD (f + 2) 0) (m := 115) (pc' := 39) rfl (by first | omega | exact Nat.lt_trans (hlt _) (by decide)) (by first | omega | exact Nat.lt_trans (hlt _) (by decide)) rfl (fun hc4 => ?_) (fun hc4 => ?_)
        · refine wp_iinc (v := 3) (lv' := [(4, .int 3), (0, .ref 1), (1, .int (nI f)), (2, .int (nI e)), (3, .float 5)]) (pc' := 44) rfl rfl (by decide) rfl rfl rfl ?_
          refine wp_p (pc' := 15) (lv' := [(4, .int 3), (0, .ref 1), (1, .int (nI f)), (2, .int (nI e)), (3, .float 5)]) (st' := []) rfl rfl ?_
          refine wp_p (pc' := 17) (lv' := [(4, .int 3), (0, .ref 1), (1, .int (nI f)), (2, .int (nI e)), (3, .float 5)]) (st' := [.int 3]) rfl rfl ?_
          refine wp_p (pc' := 18) (lv' := [(4, .int 3), (0, .ref 1), (1, .int (nI f)), (2, .int (nI e)), (3, .float 5)]) (st' := [.float 5, .int 3]) rfl rfl ?_
          refine wp_cvR (As := [.float 5]) (r := [.int 3]) (v := (some (.int 6))) (g := (c0 :: .inl (2, .inl tx) :: t)) (st2 := [.int 6, .int 3]) (pc' := 21) rfl rfl rfl rfl ⟨40, sl_2 _⟩ (by omega) ?_
          refine wp_p (pc' := 24) (lv' := [(4, .int 3), (0, .ref 1), (1, .int (nI f)), (2, .int (nI e)), (3, .float 5)]) (st' := []) rfl rfl ?_
          refine wp_p (pc' := 25) (lv' := [(4, .int 3), (0, .ref 1), (1, .int (nI f)), (2, .int (nI e)), (3, .float 5)]) (st' := [.ref 1]) rfl rfl ?_
          refine wp_p (pc' := 26) (lv' := [(4, .int 3), (0, .ref 1), (1, .int (nI f)), (2, .int (nI e)), (3, .float 5)]) (st' := [.int (nI f), .ref 1]) rfl rfl ?_
          refine wp_p (pc' := 28) (lv' := [(4, .int 3), (0, .ref 1), (1, .int (nI f)), (2, .int (nI e)), (3, .float 5)]) (st' := [.int 3, .int (nI f), .ref 1]) rfl rfl ?_
          refine wp_iadd (v := nI (f + 3)) (pc' := 29) rfl (nI_add f 3) rfl ?_
          refine wp_caload (q := 1) (n := f + 3) (g := tx) (x := nI (cl.getD (f + 3) 0)) (pc' := 30) rfl rfl (by first | omega | exact Nat.lt_trans (hlt _) (by decide)) (by first | omega | exact Nat.lt_trans (hlt _) (by decide)) (htx _ (by omega)) rfl ?_
          refine wp_p (pc' := 31) (lv' := [(4, .int 3), (0, .ref 1), (1, .int (nI f)), (2, .int (nI e)), (3, .float 5)]) (st' := [.float 5, .int (nI (cl.getD (f + 3) 0))]) rfl rfl ?_
          refine wp_p (pc' := 33) (lv' := [(4, .int 3), (0, .ref 1), (1, .int (nI f)), (2, .int (nI e)), (3, .float 5)]) (st' := [.int 3, .float 5, .int (nI (cl.getD (f + 3) 0))]) rfl rfl ?_
          refine wp_cvR (As := [.float 5, .int 3]) (r := [.int (nI (cl.getD (f + 3) 0))]) (v := (some (.int 101))) (g := (c0 :: .inl (2, .inl tx) :: t)) (st2 := [.int 101, .int (nI (cl.getD (f + 3) 0))]) (pc' := 36) rfl rfl rfl rfl ⟨80, sc_2_3 _⟩ (by omega) ?_
          refine wn_ic_eq (n := cl.getD (f + 3) 0) (m := 101) (pc' := 39) rfl (by first | omega | exact Nat.lt_trans (hlt _) (by decide)) (by first | omega | exact Nat.lt_trans (hlt _) (by decide)) rfl (fun hc5 => ?_) (fun hc5 => ?_)
          · refine wp_iinc (v := 4) (lv' := [(4, .int 4), (0, .ref 1), (1, .int (nI f)), (2, .int (nI e)), (3, .float 5)]) (pc' := 44) rfl rfl (by decide) rfl rfl rfl ?_
            refine wp_p (pc' := 15) (lv' := [(4, .int 4), (0, .ref 1), (1, .int (nI f)), (2, .int (nI e)), (3, .float 5)]) (st' := []) rfl rfl ?_
            refine wp_p (pc' := 17) (lv' := [(4, .int 4), (0, .ref 1), (1, .int (nI f)), (2, .int (nI e)), (3, .float 5)]) (st' := [.int 4]) rfl rfl ?_
            refine wp_p (pc' := 18) (lv' := [(4, .int 4), (0, .ref 1), (1, .int (nI f)), (2, .int (nI e)), (3, .float 5)]) (st' := [.float 5, .int 4]) rfl rfl ?_
            refine wp_cvR (As := [.float 5]) (r := [.int 4]) (v := (some (.int 6))) (g := (c0 :: .inl (2, .inl tx) :: t)) (st2 := [.int 6, .int 4]) (pc' := 21) rfl rfl rfl rfl ⟨40, sl_2 _⟩ (by omega) ?_
            refine wp_p (pc' := 24) (lv' := [(4, .int 4), (0, .ref 1), (1, .int (nI f)), (2, .int (nI e)), (3, .float 5)]) (st' := []) rfl rfl ?_
            refine wp_p (pc' := 25) (lv' := [(4, .int 4), (0, .ref 1), (1, .int (nI f)), (2, .int (nI e)), (3, .float 5)]) (st' := [.ref 1]) rfl rfl ?_
            refine wp_p (pc' := 26) (lv' := [(4, .int 4), (0, .ref 1), (1, .int (nI f)), (2, .int (nI e)), (3, .float 5)]) (st' := [.int (nI f), .ref 1]) rfl rfl ?_
            refine wp_p (pc' := 28) (lv' := [(4, .int 4), (0, .ref 1), (1, .int (nI f)), (2, .int (nI e)), (3, .float 5)]) (st' := [.int 4, .int (nI f), .ref 1]) rfl rfl ?_
            refine wp_iadd (v := nI (f + 4)) (pc' := 29) rfl (nI_add f 4) rfl ?_
            refine wp_caload (q := 1) (n := f + 4) (g := tx) (x := nI (cl.getD (f + 4) 0)) (pc' := 30) rfl rfl (by first | omega | exact Nat.lt_trans (hlt _) (by decide)) (by first | omega | exact Nat.lt_trans (hlt _) (by decide)) (htx _ (by omega)) rfl ?_
            refine wp_p (pc' := 31) (lv' := [(4, .int 4), (0, .ref 1), (1, .int (nI f)), (2, .int (nI e)), (3, .float 5)]) (st' := [.float 5, .int (nI (cl.getD (f + 4) 0))]) rfl rfl ?_
            refine wp_p (pc' := 33) (lv' := [(4, .int 4), (0, .ref 1), (1, .int (nI f)), (2, .int (nI e)), (3, .float 5)]) (st' := [.int 4, .float 5, .int (nI (cl.getD (f + 4) 0))]) rfl rfl ?_
            refine wp_cvR (As := [.float 5, .int 4]) (r := [.int (nI (cl.getD (f + 4) 0))]) (v := (some (.int 114))) (g := (c0 :: .inl (2, .inl tx) :: t)) (st2 := [.int 114, .int (nI (cl.getD (f + 4) 0))]) (pc' := 36) rfl rfl rfl rfl ⟨80, sc_2_4 _⟩ (by omega) ?_
            refine wn_ic_eq (n := cl.getD (f + 4) 0) (m := 114) (pc' := 39) rfl (by first | omega | exact Nat.lt_trans (hlt _) (by decide)) (by first | omega | exact Nat.lt_trans (hlt _) (by decide)) rfl (fun hc6 => ?_) (fun hc6 => ?_)
            · refine wp_iinc (v := 5) (lv' := [(4, .int 5), (0, .ref 1), (1, .int (nI f)), (2, .int (nI e)), (3, .float 5)]) (pc' := 44) rfl rfl (by decide) rfl rfl rfl ?_
              refine wp_p (pc' := 15) (lv' := [(4, .int 5), (0, .ref 1), (1, .int (nI f)), (2, .int (nI e)), (3, .float 5)]) (st' := []) rfl rfl ?_
              refine wp_p (pc' := 17) (lv' := [(4, .int 5), (0, .ref 1), (1, .int (nI f)), (2, .int (nI e)), (3, .float 5)]) (st' := [.int 5]) rfl rfl ?_
              refine wp_p (pc' := 18) (lv' := [(4, .int 5), (0, .ref 1), (1, .int (nI f)), (2, .int (nI e)), (3, .float 5)]) (st' := [.float 5, .int 5]) rfl rfl ?_
              refine wp_cvR (As := [.float 5]) (r := [.int 5]) (v := (some (.int 6))) (g := (c0 :: .inl (2, .inl tx) :: t)) (st2 := [.int 6, .int 5]) (pc' := 21) rfl rfl rfl rfl ⟨40, sl_2 _⟩ (by omega) ?_
              refine wp_p (pc' := 24) (lv' := [(4, .int 5), (0, .ref 1), (1, .int (nI f)), (2, .int (nI e)), (3, .float 5)]) (st' := []) rfl rfl ?_
              refine wp_p (pc' := 25) (lv' := [(4, .int 5), (0, .ref 1), (1, .int (nI f)), (2, .int (nI e)), (3, .float 5)]) (st' := [.ref 1]) rfl rfl ?_
              refine wp_p (pc' := 26) (lv' := [(4, .int 5), (0, .ref 1), (1, .int (nI f)), (2, .int (nI e)), (3, .float 5)]) (st' := [.int (nI f), .ref 1]) rfl rfl ?_
              refine wp_p (pc' := 28) (lv' := [(4, .int 5), (0, .ref 1), (1, .int (nI f)), (2, .int (nI e)), (3, .float 5)]) (st' := [.int 5, .int (nI f), .ref 1]) rfl rfl ?_
              refine wp_iadd (v := nI (f + 5)) (pc' := 29) rfl (nI_add f 5) rfl ?_
              refine wp_caload (q := 1) (n := f + 5) (g := tx) (x := nI (cl.getD (f + 5) 0)) (pc' := 30) rfl rfl (by first | omega | exact Nat.lt_trans (hlt _) (by decide)) (by first | omega | exact Nat.lt_trans (hlt _) (by decide)) (htx _ (by omega)) rfl ?_
              refine wp_p (pc' := 31) (lv' := [(4, .int 5), (0, .ref 1), (1, .int (nI f)), (2, .int (nI e)), (3, .float 5)]) (st' := [.float 5, .int (nI (cl.getD (f + 5) 0))]) rfl rfl ?_
              refine wp_p (pc' := 33) (lv' := [(4, .int 5), (0, .ref 1), (1, .int (nI f)), (2, .int (nI e)), (3, .float 5)]) (st' := [.int 5, .float 5, .int (nI (cl.getD (f + 5) 0))]) rfl rfl ?_
              refine wp_cvR (As := [.float 5, .int 5]) (r := [.int (nI (cl.getD (f + 5) 0))]) (v := (some (.int 116))) (g := (c0 :: .inl (2, .inl tx) :: t)) (st2 := [.int 116, .int (nI (cl.getD (f + 5) 0))]) (pc' := 36) rfl rfl rfl rfl ⟨80, sc_2_5 _⟩ (by omega) ?_
              refine wn_ic_eq (n := cl.getD (f + 5) 0) (m := 116) (pc' := 39) rfl (by first | omega | exact Nat.lt_trans (hlt _) (by decide)) (by first | omega | exact Nat.lt_trans (hlt _) (by decide)) rfl (fun hc7 => ?_) (fun hc7 => ?_)
              · refine wp_iinc (v := 6) (lv' := [(4, .int 6), (0, .ref 1), (1, .int (nI f)), (2, .int (nI e)), (3, .float 5)]) (pc' := 44) rfl rfl (by decide) rfl rfl rfl ?_
                refine wp_p (pc' := 15) (lv' := [(4, .int 6), (0, .ref 1), (1, .int (nI f)), (2, .int (nI e)), (3, .float 5)]) (st' := []) rfl rfl ?_
                refine wp_p (pc' := 17) (lv' := [(4, .int 6), (0, .ref 1), (1, .int (nI f)), (2, .int (nI e)), (3, .float 5)]) (st' := [.int 6]) rfl rfl ?_
                refine wp_p (pc' := 18) (lv' := [(4, .int 6), (0, .ref 1), (1, .int (nI f)), (2, .int (nI e)), (3, .float 5)]) (st' := [.float 5, .int 6]) rfl rfl ?_
                refine wp_cvR (As := [.float 5]) (r := [.int 6]) (v := (some (.int 6))) (g := (c0 :: .inl (2, .inl tx) :: t)) (st2 := [.int 6, .int 6]) (pc' := 21) rfl rfl rfl rfl ⟨40, sl_2 _⟩ (by omega) ?_
                refine wp_p (pc' := 47) (lv' := [(4, .int 6), (0, .ref 1), (1, .int (nI f)), (2, .int (nI e)), (3, .float 5)]) (st' := []) rfl rfl ?_
                refine wp_p (pc' := 48) (lv' := [(4, .int 6), (0, .ref 1), (1, .int (nI f)), (2, .int (nI e)), (3, .float 5)]) (st' := [.int 1]) rfl rfl ?_
                exact wp_r rfl rfl ⟨by rw [if_pos ((spw_2 cl f e hf he).mp ⟨by omega, by omega, by omega, by omega, by omega, by omega, by omega⟩)], rfl⟩
              · refine wp_p (pc' := 40) (lv' := [(4, .int 5), (0, .ref 1), (1, .int (nI f)), (2, .int (nI e)), (3, .float 5)]) (st' := [.int 0]) rfl rfl ?_
                exact wp_r rfl rfl ⟨by rw [if_neg (fun q => by have q := (spw_2 cl f e hf he).mpr q; omega)], rfl⟩
            · refine wp_p (pc' := 40) (lv' := [(4, .int 4), (0, .ref 1), (1, .int (nI f)), (2, .int (nI e)), (3, .float 5)]) (st' := [.int 0]) rfl rfl ?_
              exact wp_r rfl rfl ⟨by rw [if_neg (fun q => by have q := (spw_2 cl f e hf he).mpr q; omega)], rfl⟩
          · refine wp_p (pc' := 40) (lv' := [(4, .int 3), (0, .ref 1), (1, .int (nI f)), (2, .int (nI e)), (3, .float 5)]) (st' := [.int 0]) rfl rfl ?_
            exact wp_r rfl rfl ⟨by rw [if_neg (fun q => by have q := (spw_2 cl f e hf he).mpr q; omega)], rfl⟩
        · refine wp_p (pc' := 40) (lv' := [(4, .int 2), (0, .ref 1), (1, .int (nI f)), (2, .int (nI e)), (3, .float 5)]) (st' := [.int 0]) rfl rfl ?_
          exact wp_r rfl rfl ⟨by rw [if_neg (fun q => by have q := (spw_2 cl f e hf he).mpr q; omega)], rfl⟩
      · refine wp_p (pc' := 40) (lv' := [(4, .int 1), (0, .ref 1), (1, .int (nI f)), (2, .int (nI e)), (3, .float 5)]) (st' := [.int 0]) rfl rfl ?_
        exact wp_r rfl rfl ⟨by rw [if_neg (fun q => by have q := (spw_2 cl f e hf he).mpr q; omega)], rfl⟩
    · refine wp_p (pc' := 40) (lv' := [(4, .int 0), (0, .ref 1), (1, .int (nI f)), (2, .int (nI e)), (3, .float 5)]) (st' := [.int 0]) rfl rfl ?_
      exact wp_r rfl rfl ⟨by rw [if_neg (fun q => by have q := (spw_2 cl f e hf he).mpr q; omega)], rfl⟩
  · refine wp_p (pc' := 11) (lv' := [(0, .ref 1), (1, .int (nI f)), (2, .int (nI e)), (3, .float 5)]) (st' := [.int 0]) rfl rfl ?_
    exact wp_r rfl rfl ⟨by rw [if_neg (fun q => by have q := (spw_2 cl f e hf he).mpr q; omega)], rfl⟩
theorem spw_3 (cl : List Nat) (f e : Nat) (hf : f ≤ e) (he : e ≤ cl.length) : (e - f = 6 ∧ cl.getD (f + 0) 0 = 117 ∧ cl.getD (f + 1) 0 = 112 ∧ cl.getD (f + 2) 0 = 100 ∧ cl.getD (f + 3) 0 = 97 ∧ cl.getD (f + 4) 0 = 116 ∧ cl.getD (f + 5) 0 = 101) ↔ (cl.drop f).take (e - f) = [117, 112, 100, 97, 116, 101] := by
  constructor
  · intro q
    have e1 : e - f = 6 := q.1
    rw [e1]
    refine (sp_iff [117, 112, 100, 97, 116, 101] cl f (by show f + 6 ≤ _; omega)).mpr (fun j hj => ?_)
    have hj : j < 6 := hj
    rcases (show j = 0 ∨ j = 1 ∨ j = 2 ∨ j = 3 ∨ j = 4 ∨ j = 5 by omega) with rfl | rfl | rfl | rfl | rfl | rfl
    · exact q.2.1
    · exact q.2.2.1
    · exact q.2.2.2.1
    · exact q.2.2.2.2.1
    · exact q.2.2.2.2.2.1
    · exact q.2.2.2.2.2.2
  · intro q
    have e1 : e - f = 6 := sp_len he hf q
    rw [e1] at q
    have q2 := (sp_iff [117, 112, 100, 97, 116, 101] cl f (by show f + 6 ≤ _; omega)).mp q
    exact ⟨e1, q2 0 (by decide), q2 1 (by decide), q2 2 (by decide), q2 3 (by decide), q2 4 (by decide), q2 5 (by decide)⟩
set_option maxRecDepth 20000 in
theorem c_spells_3 (c0 : sm_E) (t : sm_H) (tx : List Int32) (cl : List Nat) (f e : Nat) (hlt : ∀ i, cl.getD i 0 < 65536) (h1 : tx.length = 80) (hcl : cl.length ≤ 80) (htx : ∀ i, i < cl.length → tx.getD i 0 = nI (cl.getD i 0)) (hf : f ≤ e) (he : e ≤ cl.length) : sm_run none 10 82 0 (lv_args 0 [.ref 1, .int (nI f), .int (nI e), .float 7]) [] (c0 :: .inl (2, .inl tx) :: t) ((some (.int (if (cl.drop f).take (e - f) = [117, 112, 100, 97, 116, 101] then 1 else 0))), (c0 :: .inl (2, .inl tx) :: t)) := by
  refine wp_to ?_
  refine wp_p (pc' := 1) (lv' := [(0, .ref 1), (1, .int (nI f)), (2, .int (nI e)), (3, .float 7)]) (st' := [.int (nI e)]) rfl rfl ?_
  refine wp_p (pc' := 2) (lv' := [(0, .ref 1), (1, .int (nI f)), (2, .int (nI e)), (3, .float 7)]) (st' := [.int (nI f), .int (nI e)]) rfl rfl ?_
  refine wp_isub (v := nI (e - f)) (pc' := 3) rfl (pk_sub (a := e) (b := f) (by omega)) rfl ?_
  refine wp_p (pc' := 4) (lv' := [(0, .ref 1), (1, .int (nI f)), (2, .int (nI e)), (3, .float 7)]) (st' := [.float 7, .int (nI (e - f))]) rfl rfl ?_
  refine wp_cvR (As := [.float 7]) (r := [.int (nI (e - f))]) (v := (some (.int 6))) (g := (c0 :: .inl (2, .inl tx) :: t)) (st2 := [.int 6, .int (nI (e - f))]) (pc' := 7) rfl rfl rfl rfl ⟨40, sl_3 _⟩ (by omega) ?_
  refine wn_ic_eq (n := e - f) (m := 6) (pc' := 10) rfl (by first | omega | exact Nat.lt_trans (hlt _) (by decide)) (by first | omega | exact Nat.lt_trans (hlt _) (by decide)) rfl (fun hc1 => ?_) (fun hc1 => ?_)
  · refine wp_p (pc' := 13) (lv' := [(0, .ref 1), (1, .int (nI f)), (2, .int (nI e)), (3, .float 7)]) (st' := [.int 0]) rfl rfl ?_
    refine wp_p (pc' := 15) (lv' := [(4, .int 0), (0, .ref 1), (1, .int (nI f)), (2, .int (nI e)), (3, .float 7)]) (st' := []) rfl rfl ?_
    refine wp_p (pc' := 17) (lv' := [(4, .int 0), (0, .ref 1), (1, .int (nI f)), (2, .int (nI e)), (3, .float 7)]) (st' := [.int 0]) rfl rfl ?_
    refine wp_p (pc' := 18) (lv' := [(4, .int 0), (0, .ref 1), (1, .int (nI f)), (2, .int (nI e)), (3, .float 7)]) (st' := [.float 7, .int 0]) rfl rfl ?_
    refine wp_cvR (As := [.float 7]) (r := [.int 0]) (v := (some (.int 6))) (g := (c0 :: .inl (2, .inl tx) :: t)) (st2 := [.int 6, .int 0]) (pc' := 21) rfl rfl rfl rfl ⟨40, sl_3 _⟩ (by omega) ?_
    refine wp_p (pc' := 24) (lv' := [(4, .int 0), (0, .ref 1), (1, .int (nI f)), (2, .int (nI e)), (3, .float 7)]) (st' := []) rfl rfl ?_
    refine wp_p (pc' := 25) (lv' := [(4, .int 0), (0, .ref 1), (1, .int (nI f)), (2, .int (nI e)), (3, .float 7)]) (st' := [.ref 1]) rfl rfl ?_
    refine wp_p (pc' := 26) (lv' := [(4, .int 0), (0, .ref 1), (1, .int (nI f)), (2, .int (nI e)), (3, .float 7)]) (st' := [.int (nI f), .ref 1]) rfl rfl ?_
    refine wp_p (pc' := 28) (lv' := [(4, .int 0), (0, .ref 1), (1, .int (nI f)), (2, .int (nI e)), (3, .float 7)]) (st' := [.int 0, .int (nI f), .ref 1]) rfl rfl ?_
    refine wp_iadd (v := nI (f + 0)) (pc' := 29) rfl (nI_add f 0) rfl ?_
    refine wp_caload (q := 1) (n := f + 0) (g := tx) (x := nI (cl.getD (f + 0) 0)) (pc' := 30) rfl rfl (by first | omega | exact Nat.lt_trans (hlt _) (by decide)) (by first | omega | exact Nat.lt_trans (hlt _) (by decide)) (htx _ (by omega)) rfl ?_
    refine wp_p (pc' := 31) (lv' := [(4, .int 0), (0, .ref 1), (1, .int (nI f)), (2, .int (nI e)), (3, .float 7)]) (st' := [.float 7, .int (nI (cl.getD (f + 0) 0))]) rfl rfl ?_
    refine wp_p (pc' := 33) (lv' := [(4, .int 0), (0, .ref 1), (1, .int (nI f)), (2, .int (nI e)), (3, .float 7)]) (st' := [.int 0, .float 7, .int (nI (cl.getD (f + 0) 0))]) rfl rfl ?_
    refine wp_cvR (As := [.float 7, .int 0]) (r := [.int (nI (cl.getD (f + 0) 0))]) (v := (some (.int 117))) (g := (c0 :: .inl (2, .inl tx) :: t)) (st2 := [.int 117, .int (nI (cl.getD (f + 0) 0))]) (pc' := 36) rfl rfl rfl rfl ⟨80, sc_3_0 _⟩ (by omega) ?_
    refine wn_ic_eq (n := cl.getD (f + 0) 0) (m := 117) (pc' := 39) rfl (by first | omega | exact Nat.lt_trans (hlt _) (by decide)) (by first | omega | exact Nat.lt_trans (hlt _) (by decide)) rfl (fun hc2 => ?_) (fun hc2 => ?_)
    · refine wp_iinc (v := 1) (lv' := [(4, .int 1), (0, .ref 1), (1, .int (nI f)), (2, .int (nI e)), (3, .float 7)]) (pc' := 44) rfl rfl (by decide) rfl rfl rfl ?_
      refine wp_p (pc' := 15) (lv' := [(4, .int 1), (0, .ref 1), (1, .int (nI f)), (2, .int (nI e)), (3, .float 7)]) (st' := []) rfl rfl ?_
      refine wp_p (pc' := 17) (lv' := [(4, .int 1), (0, .ref 1), (1, .int (nI f)), (2, .int (nI e)), (3, .float 7)]) (st' := [.int 1]) rfl rfl ?_
      refine wp_p (pc' := 18) (lv' := [(4, .int 1), (0, .ref 1), (1, .int (nI f)), (2, .int (nI e)), (3, .float 7)]) (st' := [.float 7, .int 1]) rfl rfl ?_
      refine wp_cvR (As := [.float 7]) (r := [.int 1]) (v := (some (.int 6))) (g := (c0 :: .inl (2, .inl tx) :: t)) (st2 := [.int 6, .int 1]) (pc' := 21) rfl rfl rfl rfl ⟨40, sl_3 _⟩ (by omega) ?_
      refine wp_p (pc' := 24) (lv' := [(4, .int 1), (0, .ref 1), (1, .int (nI f)), (2, .int (nI e)), (3, .float 7)]) (st' := []) rfl rfl ?_
      refine wp_p (pc' := 25) (lv' := [(4, .int 1), (0, .ref 1), (1, .int (nI f)), (2, .int (nI e)), (3, .float 7)]) (st' := [.ref 1]) rfl rfl ?_
      refine wp_p (pc' := 26) (lv' := [(4, .int 1), (0, .ref 1), (1, .int (nI f)), (2, .int (nI e)), (3, .float 7)]) (st' := [.int (nI f), .ref 1]) rfl rfl ?_
      refine wp_p (pc' := 28) (lv' := [(4, .int 1), (0, .ref 1), (1, .int (nI f)), (2, .int (nI e)), (3, .float 7)]) (st' := [.int 1, .int (nI f), .ref 1]) rfl rfl ?_
      refine wp_iadd (v := nI (f + 1)) (pc' := 29) rfl (nI_add f 1) rfl ?_
      refine wp_caload (q := 1) (n := f + 1) (g := tx) (x := nI (cl.getD (f + 1) 0)) (pc' := 30) rfl rfl (by first | omega | exact Nat.lt_trans (hlt _) (by decide)) (by first | omega | exact Nat.lt_trans (hlt _) (by decide)) (htx _ (by omega)) rfl ?_
      refine wp_p (pc' := 31) (lv' := [(4, .int 1), (0, .ref 1), (1, .int (nI f)), (2, .int (nI e)), (3, .float 7)]) (st' := [.float 7, .int (nI (cl.getD (f + 1) 0))]) rfl rfl ?_
      refine wp_p (pc' := 33) (lv' := [(4, .int 1), (0, .ref 1), (1, .int (nI f)), (2, .int (nI e)), (3, .float 7)]) (st' := [.int 1, .float 7, .int (nI (cl.getD (f + 1) 0))]) rfl rfl ?_
      refine wp_cvR (As := [.float 7, .int 1]) (r := [.int (nI (cl.getD (f + 1) 0))]) (v := (some (.int 112))) (g := (c0 :: .inl (2, .inl tx) :: t)) (st2 := [.int 112, .int (nI (cl.getD (f + 1) 0))]) (pc' := 36) rfl rfl rfl rfl ⟨80, sc_3_1 _⟩ (by omega) ?_
      refine wn_ic_eq (n := cl.getD (f + 1) 0) (m := 112) (pc' := 39) rfl (by first | omega | exact Nat.lt_trans (hlt _) (by decide)) (by first | omega | exact Nat.lt_trans (hlt _) (by decide)) rfl (fun hc3 => ?_) (fun hc3 => ?_)
      · refine wp_iinc (v := 2) (lv' := [(4, .int 2), (0, .ref 1), (1, .int (nI f)), (2, .int (nI e)), (3, .float 7)]) (pc' := 44) rfl rfl (by decide) rfl rfl rfl ?_
        refine wp_p (pc' := 15) (lv' := [(4, .int 2), (0, .ref 1), (1, .int (nI f)), (2, .int (nI e)), (3, .float 7)]) (st' := []) rfl rfl ?_
        refine wp_p (pc' := 17) (lv' := [(4, .int 2), (0, .ref 1), (1, .int (nI f)), (2, .int (nI e)), (3, .float 7)]) (st' := [.int 2]) rfl rfl ?_
        refine wp_p (pc' := 18) (lv' := [(4, .int 2), (0, .ref 1), (1, .int (nI f)), (2, .int (nI e)), (3, .float 7)]) (st' := [.float 7, .int 2]) rfl rfl ?_
        refine wp_cvR (As := [.float 7]) (r := [.int 2]) (v := (some (.int 6))) (g := (c0 :: .inl (2, .inl tx) :: t)) (st2 := [.int 6, .int 2]) (pc' := 21) rfl rfl rfl rfl ⟨40, sl_3 _⟩ (by omega) ?_
        refine wp_p (pc' := 24) (lv' := [(4, .int 2), (0, .ref 1), (1, .int (nI f)), (2, .int (nI e)), (3, .float 7)]) (st' := []) rfl rfl ?_
        refine wp_p (pc' := 25) (lv' := [(4, .int 2), (0, .ref 1), (1, .int (nI f)), (2, .int (nI e)), (3, .float 7)]) (st' := [.ref 1]) rfl rfl ?_
        refine wp_p (pc' := 26) (lv' := [(4, .int 2), (0, .ref 1), (1, .int (nI f)), (2, .int (nI e)), (3, .float 7)]) (st' := [.int (nI f), .ref 1]) rfl rfl ?_
        refine wp_p (pc' := 28) (lv' := [(4, .int 2), (0, .ref 1), (1, .int (nI f)), (2, .int (nI e)), (3, .float 7)]) (st' := [.int 2, .int (nI f), .ref 1]) rfl rfl ?_
        refine wp_iadd (v := nI (f + 2)) (pc' := 29) rfl (nI_add f 2) rfl ?_
        refine wp_caload (q := 1) (n := f + 2) (g := tx) (x := nI (cl.getD (f + 2) 0)) (pc' := 30) rfl rfl (by first | omega | exact Nat.lt_trans (hlt _) (by decide)) (by first | omega | exact Nat.lt_trans (hlt _) (by decide)) (htx _ (by omega)) rfl ?_
        refine wp_p (pc' := 31) (lv' := [(4, .int 2), (0, .ref 1), (1, .int (nI f)), (2, .int (nI e)), (3, .float 7)]) (st' := [.float 7, .int (nI (cl.getD (f + 2) 0))]) rfl rfl ?_
        refine wp_p (pc' := 33) (lv' := [(4, .int 2), (0, .ref 1), (1, .int (nI f)), (2, .int (nI e)), (3, .float 7)]) (st' := [.int 2, .float 7, .int (nI (cl.getD (f + 2) 0))]) rfl rfl ?_
        refine wp_cvR (As := [.float 7, .int 2]) (r := [.int (nI (cl.getD (f + 2) 0))]) (v := (some (.int 100))) (g := (c0 :: .inl (2, .inl tx) :: t)) (st2 := [.int 100, .int (nI (cl.getD (f + 2) 0))]) (pc' := 36) rfl rfl rfl rfl ⟨80, sc_3_2 _⟩ (by omega) ?_
        refine wn_ic_eq (n := cl.getD (f + 2) 0) (m := 100) (pc' := 39) rfl (by first | omega | exact Nat.lt_trans (hlt _) (by decide)) (by first | omega | exact Nat.lt_trans (hlt _) (by decide)) rfl (fun hc4 => ?_) (fun hc4 => ?_)
        · refine wp_iinc (v := 3) (lv' := [(4, .int 3), (0, .ref 1), (1, .int (nI f)), (2, .int (nI e)), (3, .float 7)]) (pc' := 44) rfl rfl (by decide) rfl rfl rfl ?_
          refine wp_p (pc' := 15) (lv' := [(4, .int 3), (0, .ref 1), (1, .int (nI f)), (2, .int (nI e)), (3, .float 7)]) (st' := []) rfl rfl ?_
          refine wp_p (pc' := 17) (lv' := [(4, .int 3), (0, .ref 1), (1, .int (nI f)), (2, .int (nI e)), (3, .float 7)]) (st' := [.int 3]) rfl rfl ?_
          refine wp_p (pc' := 18) (lv' := [(4, .int 3), (0, .ref 1), (1, .int (nI f)), (2, .int (nI e)), (3, .float 7)]) (st' := [.float 7, .int 3]) rfl rfl ?_
          refine wp_cvR (As := [.float 7]) (r := [.int 3]) (v := (some (.int 6))) (g := (c0 :: .inl (2, .inl tx) :: t)) (st2 := [.int 6, .int 3]) (pc' := 21) rfl rfl rfl rfl ⟨40, sl_3 _⟩ (by omega) ?_
          refine wp_p (pc' := 24) (lv' := [(4, .int 3), (0, .ref 1), (1, .int (nI f)), (2, .int (nI e)), (3, .float 7)]) (st' := []) rfl rfl ?_
          refine wp_p (pc' := 25) (lv' := [(4, .int 3), (0, .ref 1), (1, .int (nI f)), (2, .int (nI e)), (3, .float 7)]) (st' := [.ref 1]) rfl rfl ?_
          refine wp_p (pc' := 26) (lv' := [(4, .int 3), (0, .ref 1), (1, .int (nI f)), (2, .int (nI e)), (3, .float 7)]) (st' := [.int (nI f), .ref 1]) rfl rfl ?_
          refine wp_p (pc' := 28) (lv' := [(4, .int 3), (0, .ref 1), (1, .int (nI f)), (2, .int (nI e)), (3, .float 7)]) (st' := [.int 3, .int (nI f), .ref 1]) rfl rfl ?_
          refine wp_iadd (v := nI (f + 3)) (pc' := 29) rfl (nI_add f 3) rfl ?_
          refine wp_caload (q := 1) (n := f + 3) (g := tx) (x := nI (cl.getD (f + 3) 0)) (pc' := 30) rfl rfl (by first | omega | exact Nat.lt_trans (hlt _) (by decide)) (by first | omega | exact Nat.lt_trans (hlt _) (by decide)) (htx _ (by omega)) rfl ?_
          refine wp_p (pc' := 31) (lv' := [(4, .int 3), (0, .ref 1), (1, .int (nI f)), (2, .int (nI e)), (3, .float 7)]) (st' := [.float 7, .int (nI (cl.getD (f + 3) 0))]) rfl rfl ?_
          refine wp_p (pc' := 33) (lv' := [(4, .int 3), (0, .ref 1), (1, .int (nI f)), (2, .int (nI e)), (3, .float 7)]) (st' := [.int 3, .float 7, .int (nI (cl.getD (f + 3) 0))]) rfl rfl ?_
          refine wp_cvR (As := [.float 7, .int 3]) (r := [.int (nI (cl.getD (f + 3) 0))]) (v := (some (.int 97))) (g := (c0 :: .inl (2, .inl tx) :: t)) (st2 := [.int 97, .int (nI (cl.getD (f + 3) 0))]) (pc' := 36) rfl rfl rfl rfl ⟨80, sc_3_3 _⟩ (by omega) ?_
          refine wn_ic_eq (n := cl.getD (f + 3) 0) (m := 97) (pc' := 39) rfl (by first | omega | exact Nat.lt_trans (hlt _) (by decide)) (by first | omega | exact Nat.lt_trans (hlt _) (by decide)) rfl (fun hc5 => ?_) (fun hc5 => ?_)
          · refine wp_iinc (v := 4) (lv' := [(4, .int 4), (0, .ref 1), (1, .int (nI f)), (2, .int (nI e)), (3, .float 7)]) (pc' := 44) rfl rfl (by decide) rfl rfl rfl ?_
            refine wp_p (pc' := 15) (lv' := [(4, .int 4), (0, .ref 1), (1, .int (nI f)), (2, .int (nI e)), (3, .float 7)]) (st' := []) rfl rfl ?_
            refine wp_p (pc' := 17) (lv' := [(4, .int 4), (0, .ref 1), (1, .int (nI f)), (2, .int (nI e)), (3, .float 7)]) (st' := [.int 4]) rfl rfl ?_
            refine wp_p (pc' := 18) (lv' := [(4, .int 4), (0, .ref 1), (1, .int (nI f)), (2, .int (nI e)), (3, .float 7)]) (st' := [.float 7, .int 4]) rfl rfl ?_
            refine wp_cvR (As := [.float 7]) (r := [.int 4]) (v := (some (.int 6))) (g := (c0 :: .inl (2, .inl tx) :: t)) (st2 := [.int 6, .int 4]) (pc' := 21) rfl rfl rfl rfl ⟨40, sl_3 _⟩ (by omega) ?_
            refine wp_p (pc' := 24) (lv' := [(4, .int 4), (0, .ref 1), (1, .int (nI f)), (2, .int (nI e)), (3, .float 7)]) (st' := []) rfl rfl ?_
            refine wp_p (pc' := 25) (lv' := [(4, .int 4), (0, .ref 1), (1, .int (nI f)), (2, .int (nI e)), (3, .float 7)]) (st' := [.ref 1]) rfl rfl ?_
            refine wp_p (pc' := 26) (lv' := [(4, .int 4), (0, .ref 1), (1, .int (nI f)), (2, .int (nI e)), (3, .float 7)]) (st' := [.int (nI f), .ref 1]) rfl rfl ?_
            refine wp_p (pc' := 28) (lv' := [(4, .int 4), (0, .ref 1), (1, .int (nI f)), (2, .int (nI e)), (3, .float 7)]) (st' := [.int 4, .int (nI f), .ref 1]) rfl rfl ?_
            refine wp_iadd (v := nI (f + 4)) (pc' := 29) rfl (nI_add f 4) rfl ?_
            refine wp_caload (q := 1) (n := f + 4) (g := tx) (x := nI (cl.getD (f + 4) 0)) (pc' := 30) rfl rfl (by first | omega | exact Nat.lt_trans (hlt _) (by decide)) (by first | omega | exact Nat.lt_trans (hlt _) (by decide)) (htx _ (by omega)) rfl ?_
            refine wp_p (pc' := 31) (lv' := [(4, .int 4), (0, .ref 1), (1, .int (nI f)), (2, .int (nI e)), (3, .float 7)]) (st' := [.float 7, .int (nI (cl.getD (f + 4) 0))]) rfl rfl ?_
            refine wp_p (pc' := 33) (lv' := [(4, .int 4), (0, .ref 1), (1, .int (nI f)), (2, .int (nI e)), (3, .float 7)]) (st' := [.int 4, .float 7, .int (nI (cl.getD (f + 4) 0))]) rfl rfl ?_
            refine wp_cvR (As := [.float 7, .int 4]) (r := [.int (nI (cl.getD (f + 4) 0))]) (v := (some (.int 116))) (g := (c0 :: .inl (2, .inl tx) :: t)) (st2 := [.int 116, .int (nI (cl.getD (f + 4) 0))]) (pc' := 36) rfl rfl rfl rfl ⟨80, sc_3_4 _⟩ (by omega) ?_
            refine wn_ic_eq (n := cl.getD (f + 4) 0) (m := 116) (pc' := 39) rfl (by first | omega | exact Nat.lt_trans (hlt _) (by decide)) (by first | omega | exact Nat.lt_trans (hlt _) (by decide)) rfl (fun hc6 => ?_) (fun hc6 => ?_)
            · refine wp_iinc (v := 5) (lv' := [(4, .int 5), (0, .ref 1), (1, .int (nI f)), (2, .int (nI e)), (3, .float 7)]) (pc' := 44) rfl rfl (by decide) rfl rfl rfl ?_
              refine wp_p (pc' := 15) (lv' := [(4, .int 5), (0, .ref 1), (1, .int (nI f)), (2, .int (nI e)), (3, .float 7)]) (st' := []) rfl rfl ?_
              refine wp_p (pc' := 17) (lv' := [(4, .int 5), (0, .ref 1), (1, .int (nI f)), (2, .int (nI e)), (3, .float 7)]) (st' := [.int 5]) rfl rfl ?_
              refine wp_p (pc' := 18) (lv' := [(4, .int 5), (0, .ref 1), (1, .int (nI f)), (2, .int (nI e)), (3, .float 7)]) (st' := [.float 7, .int 5]) rfl rfl ?_
              refine wp_cvR (As := [.float 7]) (r := [.int 5]) (v := (some (.int 6))) (g := (c0 :: .inl (2, .inl tx) :: t)) (st2 := [.int 6, .int 5]) (pc' := 21) rfl rfl rfl rfl ⟨40, sl_3 _⟩ (by omega) ?_
              refine wp_p (pc' := 24) (lv' := [(4, .int 5), (0, .ref 1), (1, .int (nI f)), (2, .int (nI e)), (3, .float 7)]) (st' := []) rfl rfl ?_
              refine wp_p (pc' := 25) (lv' := [(4, .int 5), (0, .ref 1), (1, .int (nI f)), (2, .int (nI e)), (3, .float 7)]) (st' := [.ref 1]) rfl rfl ?_
              refine wp_p (pc' := 26) (lv' := [(4, .int 5), (0, .ref 1), (1, .int (nI f)), (2, .int (nI e)), (3, .float 7)]) (st' := [.int (nI f), .ref 1]) rfl rfl ?_
              refine wp_p (pc' := 28) (lv' := [(4, .int 5), (0, .ref 1), (1, .int (nI f)), (2, .int (nI e)), (3, .float 7)]) (st' := [.int 5, .int (nI f), .ref 1]) rfl rfl ?_
              refine wp_iadd (v := nI (f + 5)) (pc' := 29) rfl (nI_add f 5) rfl ?_
              refine wp_caload (q := 1) (n := f + 5) (g := tx) (x := nI (cl.getD (f + 5) 0)) (pc' := 30) rfl rfl (by first | omega | exact Nat.lt_trans (hlt _) (by decide)) (by first | omega | exact Nat.lt_trans (hlt _) (by decide)) (htx _ (by omega)) rfl ?_
              refine wp_p (pc' := 31) (lv' := [(4, .int 5), (0, .ref 1), (1, .int (nI f)), (2, .int (nI e)), (3, .float 7)]) (st' := [.float 7, .int (nI (cl.getD (f + 5) 0))]) rfl rfl ?_
              refine wp_p (pc' := 33) (lv' := [(4, .int 5), (0, .ref 1), (1, .int (nI f)), (2, .int (nI e)), (3, .float 7)]) (st' := [.int 5, .float 7, .int (nI (cl.getD (f + 5) 0))]) rfl rfl ?_
              refine wp_cvR (As := [.float 7, .int 5]) (r := [.int (nI (cl.getD (f + 5) 0))]) (v := (some (.int 101))) (g := (c0 :: .inl (2, .inl tx) :: t)) (st2 := [.int 101, .int (nI (cl.getD (f + 5) 0))]) (pc' := 36) rfl rfl rfl rfl ⟨80, sc_3_5 _⟩ (by omega) ?_
              refine wn_ic_eq (n := cl.getD (f + 5) 0) (m := 101) (pc' := 39) rfl (by first | omega | exact Nat.lt_trans (hlt _) (by decide)) (by first | omega | exact Nat.lt_trans (hlt _) (by decide)) rfl (fun hc7 => ?_) (fun hc7 => ?_)
              · refine wp_iinc (v := 6) (lv' := [(4, .int 6), (0, .ref 1), (1, .int (nI f)), (2, .int (nI e)), (3, .float 7)]) (pc' := 44) rfl rfl (by decide) rfl rfl rfl ?_
                refine wp_p (pc' := 15) (lv' := [(4, .int 6), (0, .ref 1), (1, .int (nI f)), (2, .int (nI e)), (3, .float 7)]) (st' := []) rfl rfl ?_
                refine wp_p (pc' := 17) (lv' := [(4, .int 6), (0, .ref 1), (1, .int (nI f)), (2, .int (nI e)), (3, .float 7)]) (st' := [.int 6]) rfl rfl ?_
                refine wp_p (pc' := 18) (lv' := [(4, .int 6), (0, .ref 1), (1, .int (nI f)), (2, .int (nI e)), (3, .float 7)]) (st' := [.float 7, .int 6]) rfl rfl ?_
                refine wp_cvR (As := [.float 7]) (r := [.int 6]) (v := (some (.int 6))) (g := (c0 :: .inl (2, .inl tx) :: t)) (st2 := [.int 6, .int 6]) (pc' := 21) rfl rfl rfl rfl ⟨40, sl_3 _⟩ (by omega) ?_
                refine wp_p (pc' := 47) (lv' := [(4, .int 6), (0, .ref 1), (1, .int (nI f)), (2, .int (nI e)), (3, .float 7)]) (st' := []) rfl rfl ?_
                refine wp_p (pc' := 48) (lv' := [(4, .int 6), (0, .ref 1), (1, .int (nI f)), (2, .int (nI e)), (3, .float 7)]) (st' := [.int 1]) rfl rfl ?_
                exact wp_r rfl rfl ⟨by rw [if_pos ((spw_3 cl f e hf he).mp ⟨by omega, by omega, by omega, by omega, by omega, by omega, by omega⟩)], rfl⟩
              · refine wp_p (pc' := 40) (lv' := [(4, .int 5), (0, .ref 1), (1, .int (nI f)), (2, .int (nI e)), (3, .float 7)]) (st' := [.int 0]) rfl rfl ?_
                exact wp_r rfl rfl ⟨by rw [if_neg (fun q => by have q := (spw_3 cl f e hf he).mpr q; omega)], rfl⟩
            · refine wp_p (pc' := 40) (lv' := [(4, .int 4), (0, .ref 1), (1, .int (nI f)), (2, .int (nI e)), (3, .float 7)]) (st' := [.int 0]) rfl rfl ?_
              exact wp_r rfl rfl ⟨by rw [if_neg (fun q => by have q := (spw_3 cl f e hf he).mpr q; omega)], rfl⟩
          · refine wp_p (pc' := 40) (lv' := [(4, .int 3), (0, .ref 1), (1, .int (nI f)), (2, .int (nI e)), (3, .float 7)]) (st' := [.int 0]) rfl rfl ?_
            exact wp_r rfl rfl ⟨by rw [if_neg (fun q => by have q := (spw_3 cl f e hf he).mpr q; omega)], rfl⟩
        · refine wp_p (pc' := 40) (lv' := [(4, .int 2), (0, .ref 1), (1, .int (nI f)), (2, .int (nI e)), (3, .float 7)]) (st' := [.int 0]) rfl rfl ?_
          exact wp_r rfl rfl ⟨by rw [if_neg (fun q => by have q := (spw_3 cl f e hf he).mpr q; omega)], rfl⟩
      · refine wp_p (pc' := 40) (lv' := [(4, .int 1), (0, .ref 1), (1, .int (nI f)), (2, .int (nI e)), (3, .float 7)]) (st' := [.int 0]) rfl rfl ?_
        exact wp_r rfl rfl ⟨by rw [if_neg (fun q => by have q := (spw_3 cl f e hf he).mpr q; omega)], rfl⟩
    · refine wp_p (pc' := 40) (lv' := [(4, .int 0), (0, .ref 1), (1, .int (nI f)), (2, .int (nI e)), (3, .float 7)]) (st' := [.int 0]) rfl rfl ?_
      exact wp_r rfl rfl ⟨by rw [if_neg (fun q => by have q := (spw_3 cl f e hf he).mpr q; omega)], rfl⟩
  · refine wp_p (pc' := 11) (lv' := [(0, .ref 1), (1, .int (nI f)), (2, .int (nI e)), (3, .float 7)]) (st' := [.int 0]) rfl rfl ?_
    exact wp_r rfl rfl ⟨by rw [if_neg (fun q => by have q := (spw_3 cl f e hf he).mpr q; omega)], rfl⟩
theorem spw_4 (cl : List Nat) (f e : Nat) (hf : f ≤ e) (he : e ≤ cl.length) : (e - f = 6 ∧ cl.getD (f + 0) 0 = 100 ∧ cl.getD (f + 1) 0 = 101 ∧ cl.getD (f + 2) 0 = 108 ∧ cl.getD (f + 3) 0 = 101 ∧ cl.getD (f + 4) 0 = 116 ∧ cl.getD (f + 5) 0 = 101) ↔ (cl.drop f).take (e - f) = [100, 101, 108, 101, 116, 101] := by
  constructor
  · intro q
    have e1 : e - f = 6 := q.1
    rw [e1]
    refine (sp_iff [100, 101, 108, 101, 116, 101] cl f (by show f + 6 ≤ _; omega)).mpr (fun j hj => ?_)
    have hj : j < 6 := hj
    rcases (show j = 0 ∨ j = 1 ∨ j = 2 ∨ j = 3 ∨ j = 4 ∨ j = 5 by omega) with rfl | rfl | rfl | rfl | rfl | rfl
    · exact q.2.1
    · exact q.2.2.1
    · exact q.2.2.2.1
    · exact q.2.2.2.2.1
    · exact q.2.2.2.2.2.1
    · exact q.2.2.2.2.2.2
  · intro q
    have e1 : e - f = 6 := sp_len he hf q
    rw [e1] at q
    have q2 := (sp_iff [100, 101, 108, 101, 116, 101] cl f (by show f + 6 ≤ _; omega)).mp q
    exact ⟨e1, q2 0 (by decide), q2 1 (by decide), q2 2 (by decide), q2 3 (by decide), q2 4 (by decide), q2 5 (by decide)⟩
set_option maxRecDepth 20000 in
theorem c_spells_4 (c0 : sm_E) (t : sm_H) (tx : List Int32) (cl : List Nat) (f e : Nat) (hlt : ∀ i, cl.getD i 0 < 65536) (h1 : tx.length = 80) (hcl : cl.length ≤ 80) (htx : ∀ i, i < cl.length → tx.getD i 0 = nI (cl.getD i 0)) (hf : f ≤ e) (he : e ≤ cl.length) : sm_run none 10 82 0 (lv_args 0 [.ref 1, .int (nI f), .int (nI e), .float 9]) [] (c0 :: .inl (2, .inl tx) :: t) ((some (.int (if (cl.drop f).take (e - f) = [100, 101, 108, 101, 116, 101] then 1 else 0))), (c0 :: .inl (2, .inl tx) :: t)) := by
  refine wp_to ?_
  refine wp_p (pc' := 1) (lv' := [(0, .ref 1), (1, .int (nI f)), (2, .int (nI e)), (3, .float 9)]) (st' := [.int (nI e)]) rfl rfl ?_
  refine wp_p (pc' := 2) (lv' := [(0, .ref 1), (1, .int (nI f)), (2, .int (nI e)), (3, .float 9)]) (st' := [.int (nI f), .int (nI e)]) rfl rfl ?_
  refine wp_isub (v := nI (e - f)) (pc' := 3) rfl (pk_sub (a := e) (b := f) (by omega)) rfl ?_
  refine wp_p (pc' := 4) (lv' := [(0, .ref 1), (1, .int (nI f)), (2, .int (nI e)), (3, .float 9)]) (st' := [.float 9, .int (nI (e - f))]) rfl rfl ?_
  refine wp_cvR (As := [.float 9]) (r := [.int (nI (e - f))]) (v := (some (.int 6))) (g := (c0 :: .inl (2, .inl tx) :: t)) (st2 := [.int 6, .int (nI (e - f))]) (pc' := 7) rfl rfl rfl rfl ⟨40, sl_4 _⟩ (by omega) ?_
  refine wn_ic_eq (n := e - f) (m := 6) (pc' := 10) rfl (by first | omega | exact Nat.lt_trans (hlt _) (by decide)) (by first | omega | exact Nat.lt_trans (hlt _) (by decide)) rfl (fun hc1 => ?_) (fun hc1 => ?_)
  · refine wp_p (pc' := 13) (lv' := [(0, .ref 1), (1, .int (nI f)), (2, .int (nI e)), (3, .float 9)]) (st' := [.int 0]) rfl rfl ?_
    refine wp_p (pc' := 15) (lv' := [(4, .int 0), (0, .ref 1), (1, .int (nI f)), (2, .int (nI e)), (3, .float 9)]) (st' := []) rfl rfl ?_
    refine wp_p (pc' := 17) (lv' := [(4, .int 0), (0, .ref 1), (1, .int (nI f)), (2, .int (nI e)), (3, .float 9)]) (st' := [.int 0]) rfl rfl ?_
    refine wp_p (pc' := 18) (lv' := [(4, .int 0), (0, .ref 1), (1, .int (nI f)), (2, .int (nI e)), (3, .float 9)]) (st' := [.float 9, .int 0]) rfl rfl ?_
    refine wp_cvR (As := [.float 9]) (r := [.int 0]) (v := (some (.int 6))) (g := (c0 :: .inl (2, .inl tx) :: t)) (st2 := [.int 6, .int 0]) (pc' := 21) rfl rfl rfl rfl ⟨40, sl_4 _⟩ (by omega) ?_
    refine wp_p (pc' := 24) (lv' := [(4, .int 0), (0, .ref 1), (1, .int (nI f)), (2, .int (nI e)), (3, .float 9)]) (st' := []) rfl rfl ?_
    refine wp_p (pc' := 25) (lv' := [(4, .int 0), (0, .ref 1), (1, .int (nI f)), (2, .int (nI e)), (3, .float 9)]) (st' := [.ref 1]) rfl rfl ?_
    refine wp_p (pc' := 26) (lv' := [(4, .int 0), (0, .ref 1), (1, .int (nI f)), (2, .int (nI e)), (3, .float 9)]) (st' := [.int (nI f), .ref 1]) rfl rfl ?_
    refine wp_p (pc' := 28) (lv' := [(4, .int 0), (0, .ref 1), (1, .int (nI f)), (2, .int (nI e)), (3, .float 9)]) (st' := [.int 0, .int (nI f), .ref 1]) rfl rfl ?_
    refine wp_iadd (v := nI (f + 0)) (pc' := 29) rfl (nI_add f 0) rfl ?_
    refine wp_caload (q := 1) (n := f + 0) (g := tx) (x := nI (cl.getD (f + 0) 0)) (pc' := 30) rfl rfl (by first | omega | exact Nat.lt_trans (hlt _) (by decide)) (by first | omega | exact Nat.lt_trans (hlt _) (by decide)) (htx _ (by omega)) rfl ?_
    refine wp_p (pc' := 31) (lv' := [(4, .int 0), (0, .ref 1), (1, .int (nI f)), (2, .int (nI e)), (3, .float 9)]) (st' := [.float 9, .int (nI (cl.getD (f + 0) 0))]) rfl rfl ?_
    refine wp_p (pc' := 33) (lv' := [(4, .int 0), (0, .ref 1), (1, .int (nI f)), (2, .int (nI e)), (3, .float 9)]) (st' := [.int 0, .float 9, .int (nI (cl.getD (f + 0) 0))]) rfl rfl ?_
    refine wp_cvR (As := [.float 9, .int 0]) (r := [.int (nI (cl.getD (f + 0) 0))]) (v := (some (.int 100))) (g := (c0 :: .inl (2, .inl tx) :: t)) (st2 := [.int 100, .int (nI (cl.getD (f + 0) 0))]) (pc' := 36) rfl rfl rfl rfl ⟨80, sc_4_0 _⟩ (by omega) ?_
    refine wn_ic_eq (n := cl.getD (f + 0) 0) (m := 100) (pc' := 39) rfl (by first | omega | exact Nat.lt_trans (hlt _) (by decide)) (by first | omega | exact Nat.lt_trans (hlt _) (by decide)) rfl (fun hc2 => ?_) (fun hc2 => ?_)
    · refine wp_iinc (v := 1) (lv' := [(4, .int 1), (0, .ref 1), (1, .int (nI f)), (2, .int (nI e)), (3, .float 9)]) (pc' := 44) rfl rfl (by decide) rfl rfl rfl ?_
      refine wp_p (pc' := 15) (lv' := [(4, .int 1), (0, .ref 1), (1, .int (nI f)), (2, .int (nI e)), (3, .float 9)]) (st' := []) rfl rfl ?_
      refine wp_p (pc' := 17) (lv' := [(4, .int 1), (0, .ref 1), (1, .int (nI f)), (2, .int (nI e)), (3, .float 9)]) (st' := [.int 1]) rfl rfl ?_
      refine wp_p (pc' := 18) (lv' := [(4, .int 1), (0, .ref 1), (1, .int (nI f)), (2, .int (nI e)), (3, .float 9)]) (st' := [.float 9, .int 1]) rfl rfl ?_
      refine wp_cvR (As := [.float 9]) (r := [.int 1]) (v := (some (.int 6))) (g := (c0 :: .inl (2, .inl tx) :: t)) (st2 := [.int 6, .int 1]) (pc' := 21) rfl rfl rfl rfl ⟨40, sl_4 _⟩ (by omega) ?_
      refine wp_p (pc' := 24) (lv' := [(4, .int 1), (0, .ref 1), (1, .int (nI f)), (2, .int (nI e)), (3, .float 9)]) (st' := []) rfl rfl ?_
      refine wp_p (pc' := 25) (lv' := [(4, .int 1), (0, .ref 1), (1, .int (nI f)), (2, .int (nI e)), (3, .float 9)]) (st' := [.ref 1]) rfl rfl ?_
      refine wp_p (pc' := 26) (lv' := [(4, .int 1), (0, .ref 1), (1, .int (nI f)), (2, .int (nI e)), (3, .float 9)]) (st' := [.int (nI f), .ref 1]) rfl rfl ?_
      refine wp_p (pc' := 28) (lv' := [(4, .int 1), (0, .ref 1), (1, .int (nI f)), (2, .int (nI e)), (3, .float 9)]) (st' := [.int 1, .int (nI f), .ref 1]) rfl rfl ?_
      refine wp_iadd (v := nI (f + 1)) (pc' := 29) rfl (nI_add f 1) rfl ?_
      refine wp_caload (q := 1) (n := f + 1) (g := tx) (x := nI (cl.getD (f + 1) 0)) (pc' := 30) rfl rfl (by first | omega | exact Nat.lt_trans (hlt _) (by decide)) (by first | omega | exact Nat.lt_trans (hlt _) (by decide)) (htx _ (by omega)) rfl ?_
      refine wp_p (pc' := 31) (lv' := [(4, .int 1), (0, .ref 1), (1, .int (nI f)), (2, .int (nI e)), (3, .float 9)]) (st' := [.float 9, .int (nI (cl.getD (f + 1) 0))]) rfl rfl ?_
      refine wp_p (pc' := 33) (lv' := [(4, .int 1), (0, .ref 1), (1, .int (nI f)), (2, .int (nI e)), (3, .float 9)]) (st' := [.int 1, .float 9, .int (nI (cl.getD (f + 1) 0))]) rfl rfl ?_
      refine wp_cvR (As := [.float 9, .int 1]) (r := [.int (nI (cl.getD (f + 1) 0))]) (v := (some (.int 101))) (g := (c0 :: .inl (2, .inl tx) :: t)) (st2 := [.int 101, .int (nI (cl.getD (f + 1) 0))]) (pc' := 36) rfl rfl rfl rfl ⟨80, sc_4_1 _⟩ (by omega) ?_
      refine wn_ic_eq (n := cl.getD (f + 1) 0) (m := 101) (pc' := 39) rfl (by first | omega | exact Nat.lt_trans (hlt _) (by decide)) (by first | omega | exact Nat.lt_trans (hlt _) (by decide)) rfl (fun hc3 => ?_) (fun hc3 => ?_)
      · refine wp_iinc (v := 2) (lv' := [(4, .int 2), (0, .ref 1), (1, .int (nI f)), (2, .int (nI e)), (3, .float 9)]) (pc' := 44) rfl rfl (by decide) rfl rfl rfl ?_
        refine wp_p (pc' := 15) (lv' := [(4, .int 2), (0, .ref 1), (1, .int (nI f)), (2, .int (nI e)), (3, .float 9)]) (st' := []) rfl rfl ?_
        refine wp_p (pc' := 17) (lv' := [(4, .int 2), (0, .ref 1), (1, .int (nI f)), (2, .int (nI e)), (3, .float 9)]) (st' := [.int 2]) rfl rfl ?_
        refine wp_p (pc' := 18) (lv' := [(4, .int 2), (0, .ref 1), (1, .int (nI f)), (2, .int (nI e)), (3, .float 9)]) (st' := [.float 9, .int 2]) rfl rfl ?_
        refine wp_cvR (As := [.float 9]) (r := [.int 2]) (v := (some (.int 6))) (g := (c0 :: .inl (2, .inl tx) :: t)) (st2 := [.int 6, .int 2]) (pc' := 21) rfl rfl rfl rfl ⟨40, sl_4 _⟩ (by omega) ?_
        refine wp_p (pc' := 24) (lv' := [(4, .int 2), (0, .ref 1), (1, .int (nI f)), (2, .int (nI e)), (3, .float 9)]) (st' := []) rfl rfl ?_
        refine wp_p (pc' := 25) (lv' := [(4, .int 2), (0, .ref 1), (1, .int (nI f)), (2, .int (nI e)), (3, .float 9)]) (st' := [.ref 1]) rfl rfl ?_
        refine wp_p (pc' := 26) (lv' := [(4, .int 2), (0, .ref 1), (1, .int (nI f)), (2, .int (nI e)), (3, .float 9)]) (st' := [.int (nI f), .ref 1]) rfl rfl ?_
        refine wp_p (pc' := 28) (lv' := [(4, .int 2), (0, .ref 1), (1, .int (nI f)), (2, .int (nI e)), (3, .float 9)]) (st' := [.int 2, .int (nI f), .ref 1]) rfl rfl ?_
        refine wp_iadd (v := nI (f + 2)) (pc' := 29) rfl (nI_add f 2) rfl ?_
        refine wp_caload (q := 1) (n := f + 2) (g := tx) (x := nI (cl.getD (f + 2) 0)) (pc' := 30) rfl rfl (by first | omega | exact Nat.lt_trans (hlt _) (by decide)) (by first | omega | exact Nat.lt_trans (hlt _) (by decide)) (htx _ (by omega)) rfl ?_
        refine wp_p (pc' := 31) (lv' := [(4, .int 2), (0, .ref 1), (1, .int (nI f)), (2, .int (nI e)), (3, .float 9)]) (st' := [.float 9, .int (nI (cl.getD (f + 2) 0))]) rfl rfl ?_
        refine wp_p (pc' := 33) (lv' := [(4, .int 2), (0, .ref 1), (1, .int (nI f)), (2, .int (nI e)), (3, .float 9)]) (st' := [.int 2, .float 9, .int (nI (cl.getD (f + 2) 0))]) rfl rfl ?_
        refine wp_cvR (As := [.float 9, .int 2]) (r := [.int (nI (cl.getD (f + 2) 0))]) (v := (some (.int 108))) (g := (c0 :: .inl (2, .inl tx) :: t)) (st2 := [.int 108, .int (nI (cl.getD (f + 2) 0))]) (pc' := 36) rfl rfl rfl rfl ⟨80, sc_4_2 _⟩ (by omega) ?_
        refine wn_ic_eq (n := cl.getD (f + 2) 0) (m := 108) (pc' := 39) rfl (by first | omega | exact Nat.lt_trans (hlt _) (by decide)) (by first | omega | exact Nat.lt_trans (hlt _) (by decide)) rfl (fun hc4 => ?_) (fun hc4 => ?_)
        · refine wp_iinc (v := 3) (lv' := [(4, .int 3), (0, .ref 1), (1, .int (nI f)), (2, .int (nI e)), (3, .float 9)]) (pc' := 44) rfl rfl (by decide) rfl rfl rfl ?_
          refine wp_p (pc' := 15) (lv' := [(4, .int 3), (0, .ref 1), (1, .int (nI f)), (2, .int (nI e)), (3, .float 9)]) (st' := []) rfl rfl ?_
          refine wp_p (pc' := 17) (lv' := [(4, .int 3), (0, .ref 1), (1, .int (nI f)), (2, .int (nI e)), (3, .float 9)]) (st' := [.int 3]) rfl rfl ?_
          refine wp_p (pc' := 18) (lv' := [(4, .int 3), (0, .ref 1), (1, .int (nI f)), (2, .int (nI e)), (3, .float 9)]) (st' := [.float 9, .int 3]) rfl rfl ?_
          refine wp_cvR (As := [.float 9]) (r := [.int 3]) (v := (some (.int 6))) (g := (c0 :: .inl (2, .inl tx) :: t)) (st2 := [.int 6, .int 3]) (pc' := 21) rfl rfl rfl rfl ⟨40, sl_4 _⟩ (by omega) ?_
          refine wp_p (pc' := 24) (lv' := [(4, .int 3), (0, .ref 1), (1, .int (nI f)), (2, .int (nI e)), (3, .float 9)]) (st' := []) rfl rfl ?_
          refine wp_p (pc' := 25) (lv' := [(4, .int 3), (0, .ref 1), (1, .int (nI f)), (2, .int (nI e)), (3, .float 9)]) (st' := [.ref 1]) rfl rfl ?_
          refine wp_p (pc' := 26) (lv' := [(4, .int 3), (0, .ref 1), (1, .int (nI f)), (2, .int (nI e)), (3, .float 9)]) (st' := [.int (nI f), .ref 1]) rfl rfl ?_
          refine wp_p (pc' := 28) (lv' := [(4, .int 3), (0, .ref 1), (1, .int (nI f)), (2, .int (nI e)), (3, .float 9)]) (st' := [.int 3, .int (nI f), .ref 1]) rfl rfl ?_
          refine wp_iadd (v := nI (f + 3)) (pc' := 29) rfl (nI_add f 3) rfl ?_
          refine wp_caload (q := 1) (n := f + 3) (g := tx) (x := nI (cl.getD (f + 3) 0)) (pc' := 30) rfl rfl (by first | omega | exact Nat.lt_trans (hlt _) (by decide)) (by first | omega | exact Nat.lt_trans (hlt _) (by decide)) (htx _ (by omega)) rfl ?_
          refine wp_p (pc' := 31) (lv' := [(4, .int 3), (0, .ref 1), (1, .int (nI f)), (2, .int (nI e)), (3, .float 9)]) (st' := [.float 9, .int (nI (cl.getD (f + 3) 0))]) rfl rfl ?_
          refine wp_p (pc' := 33) (lv' := [(4, .int 3), (0, .ref 1), (1, .int (nI f)), (2, .int (nI e)), (3, .float 9)]) (st' := [.int 3, .float 9, .int (nI (cl.getD (f + 3) 0))]) rfl rfl ?_
          refine wp_cvR (As := [.float 9, .int 3]) (r := [.int (nI (cl.getD (f + 3) 0))]) (v := (some (.int 101))) (g := (c0 :: .inl (2, .inl tx) :: t)) (st2 := [.int 101, .int (nI (cl.getD (f + 3) 0))]) (pc' := 36) rfl rfl rfl rfl ⟨80, sc_4_3 _⟩ (by omega) ?_
          refine wn_ic_eq (n := cl.getD (f + 3) 0) (m := 101) (pc' := 39) rfl (by first | omega | exact Nat.lt_trans (hlt _) (by decide)) (by first | omega | exact Nat.lt_trans (hlt _) (by decide)) rfl (fun hc5 => ?_) (fun hc5 => ?_)
          · refine wp_iinc (v := 4) (lv' := [(4, .int 4), (0, .ref 1), (1, .int (nI f)), (2, .int (nI e)), (3, .float 9)]) (pc' := 44) rfl rfl (by decide) rfl rfl rfl ?_
            refine wp_p (pc' := 15) (lv' := [(4, .int 4), (0, .ref 1), (1, .int (nI f)), (2, .int (nI e)), (3, .float 9)]) (st' := []) rfl rfl ?_
            refine wp_p (pc' := 17) (lv' := [(4, .int 4), (0, .ref 1), (1, .int (nI f)), (2, .int (nI e)), (3, .float 9)]) (st' := [.int 4]) rfl rfl ?_
            refine wp_p (pc' := 18) (lv' := [(4, .int 4), (0, .ref 1), (1, .int (nI f)), (2, .int (nI e)), (3, .float 9)]) (st' := [.float 9, .int 4]) rfl rfl ?_
            refine wp_cvR (As := [.float 9]) (r := [.int 4]) (v := (some (.int 6))) (g := (c0 :: .inl (2, .inl tx) :: t)) (st2 := [.int 6, .int 4]) (pc' := 21) rfl rfl rfl rfl ⟨40, sl_4 _⟩ (by omega) ?_
            refine wp_p (pc' := 24) (lv' := [(4, .int 4), (0, .ref 1), (1, .int (nI f)), (2, .int (nI e)), (3, .float 9)]) (st' := []) rfl rfl ?_
            refine wp_p (pc' := 25) (lv' := [(4, .int 4), (0, .ref 1), (1, .int (nI f)), (2, .int (nI e)), (3, .float 9)]) (st' := [.ref 1]) rfl rfl ?_
            refine wp_p (pc' := 26) (lv' := [(4, .int 4), (0, .ref 1), (1, .int (nI f)), (2, .int (nI e)), (3, .float 9)]) (st' := [.int (nI f), .ref 1]) rfl rfl ?_
            refine wp_p (pc' := 28) (lv' := [(4, .int 4), (0, .ref 1), (1, .int (nI f)), (2, .int (nI e)), (3, .float 9)]) (st' := [.int 4, .int (nI f), .ref 1]) rfl rfl ?_
            refine wp_iadd (v := nI (f + 4)) (pc' := 29) rfl (nI_add f 4) rfl ?_
            refine wp_caload (q := 1) (n := f + 4) (g := tx) (x := nI (cl.getD (f + 4) 0)) (pc' := 30) rfl rfl (by first | omega | exact Nat.lt_trans (hlt _) (by decide)) (by first | omega | exact Nat.lt_trans (hlt _) (by decide)) (htx _ (by omega)) rfl ?_
            refine wp_p (pc' := 31) (lv' := [(4, .int 4), (0, .ref 1), (1, .int (nI f)), (2, .int (nI e)), (3, .float 9)]) (st' := [.float 9, .int (nI (cl.getD (f + 4) 0))]) rfl rfl ?_
            refine wp_p (pc' := 33) (lv' := [(4, .int 4), (0, .ref 1), (1, .int (nI f)), (2, .int (nI e)), (3, .float 9)]) (st' := [.int 4, .float 9, .int (nI (cl.getD (f + 4) 0))]) rfl rfl ?_
            refine wp_cvR (As := [.float 9, .int 4]) (r := [.int (nI (cl.getD (f + 4) 0))]) (v := (some (.int 116))) (g := (c0 :: .inl (2, .inl tx) :: t)) (st2 := [.int 116, .int (nI (cl.getD (f + 4) 0))]) (pc' := 36) rfl rfl rfl rfl ⟨80, sc_4_4 _⟩ (by omega) ?_
            refine wn_ic_eq (n := cl.getD (f + 4) 0) (m := 116) (pc' := 39) rfl (by first | omega | exact Nat.lt_trans (hlt _) (by decide)) (by first | omega | exact Nat.lt_trans (hlt _) (by decide)) rfl (fun hc6 => ?_) (fun hc6 => ?_)
            · refine wp_iinc (v := 5) (lv' := [(4, .int 5), (0, .ref 1), (1, .int (nI f)), (2, .int (nI e)), (3, .float 9)]) (pc' := 44) rfl rfl (by decide) rfl rfl rfl ?_
              refine wp_p (pc' := 15) (lv' := [(4, .int 5), (0, .ref 1), (1, .int (nI f)), (2, .int (nI e)), (3, .float 9)]) (st' := []) rfl rfl ?_
              refine wp_p (pc' := 17) (lv' := [(4, .int 5), (0, .ref 1), (1, .int (nI f)), (2, .int (nI e)), (3, .float 9)]) (st' := [.int 5]) rfl rfl ?_
              refine wp_p (pc' := 18) (lv' := [(4, .int 5), (0, .ref 1), (1, .int (nI f)), (2, .int (nI e)), (3, .float 9)]) (st' := [.float 9, .int 5]) rfl rfl ?_
              refine wp_cvR (As := [.float 9]) (r := [.int 5]) (v := (some (.int 6))) (g := (c0 :: .inl (2, .inl tx) :: t)) (st2 := [.int 6, .int 5]) (pc' := 21) rfl rfl rfl rfl ⟨40, sl_4 _⟩ (by omega) ?_
              refine wp_p (pc' := 24) (lv' := [(4, .int 5), (0, .ref 1), (1, .int (nI f)), (2, .int (nI e)), (3, .float 9)]) (st' := []) rfl rfl ?_
              refine wp_p (pc' := 25) (lv' := [(4, .int 5), (0, .ref 1), (1, .int (nI f)), (2, .int (nI e)), (3, .float 9)]) (st' := [.ref 1]) rfl rfl ?_
              refine wp_p (pc' := 26) (lv' := [(4, .int 5), (0, .ref 1), (1, .int (nI f)), (2, .int (nI e)), (3, .float 9)]) (st' := [.int (nI f), .ref 1]) rfl rfl ?_
              refine wp_p (pc' := 28) (lv' := [(4, .int 5), (0, .ref 1), (1, .int (nI f)), (2, .int (nI e)), (3, .float 9)]) (st' := [.int 5, .int (nI f), .ref 1]) rfl rfl ?_
              refine wp_iadd (v := nI (f + 5)) (pc' := 29) rfl (nI_add f 5) rfl ?_
              refine wp_caload (q := 1) (n := f + 5) (g := tx) (x := nI (cl.getD (f + 5) 0)) (pc' := 30) rfl rfl (by first | omega | exact Nat.lt_trans (hlt _) (by decide)) (by first | omega | exact Nat.lt_trans (hlt _) (by decide)) (htx _ (by omega)) rfl ?_
              refine wp_p (pc' := 31) (lv' := [(4, .int 5), (0, .ref 1), (1, .int (nI f)), (2, .int (nI e)), (3, .float 9)]) (st' := [.float 9, .int (nI (cl.getD (f + 5) 0))]) rfl rfl ?_
              refine wp_p (pc' := 33) (lv' := [(4, .int 5), (0, .ref 1), (1, .int (nI f)), (2, .int (nI e)), (3, .float 9)]) (st' := [.int 5, .float 9, .int (nI (cl.getD (f + 5) 0))]) rfl rfl ?_
              refine wp_cvR (As := [.float 9, .int 5]) (r := [.int (nI (cl.getD (f + 5) 0))]) (v := (some (.int 101))) (g := (c0 :: .inl (2, .inl tx) :: t)) (st2 := [.int 101, .int (nI (cl.getD (f + 5) 0))]) (pc' := 36) rfl rfl rfl rfl ⟨80, sc_4_5 _⟩ (by omega) ?_
              refine wn_ic_eq (n := cl.getD (f + 5) 0) (m := 101) (pc' := 39) rfl (by first | omega | exact Nat.lt_trans (hlt _) (by decide)) (by first | omega | exact Nat.lt_trans (hlt _) (by decide)) rfl (fun hc7 => ?_) (fun hc7 => ?_)
              · refine wp_iinc (v := 6) (lv' := [(4, .int 6), (0, .ref 1), (1, .int (nI f)), (2, .int (nI e)), (3, .float 9)]) (pc' := 44) rfl rfl (by decide) rfl rfl rfl ?_
                refine wp_p (pc' := 15) (lv' := [(4, .int 6), (0, .ref 1), (1, .int (nI f)), (2, .int (nI e)), (3, .float 9)]) (st' := []) rfl rfl ?_
                refine wp_p (pc' := 17) (lv' := [(4, .int 6), (0, .ref 1), (1, .int (nI f)), (2, .int (nI e)), (3, .float 9)]) (st' := [.int 6]) rfl rfl ?_
                refine wp_p (pc' := 18) (lv' := [(4, .int 6), (0, .ref 1), (1, .int (nI f)), (2, .int (nI e)), (3, .float 9)]) (st' := [.float 9, .int 6]) rfl rfl ?_
                refine wp_cvR (As := [.float 9]) (r := [.int 6]) (v := (some (.int 6))) (g := (c0 :: .inl (2, .inl tx) :: t)) (st2 := [.int 6, .int 6]) (pc' := 21) rfl rfl rfl rfl ⟨40, sl_4 _⟩ (by omega) ?_
                refine wp_p (pc' := 47) (lv' := [(4, .int 6), (0, .ref 1), (1, .int (nI f)), (2, .int (nI e)), (3, .float 9)]) (st' := []) rfl rfl ?_
                refine wp_p (pc' := 48) (lv' := [(4, .int 6), (0, .ref 1), (1, .int (nI f)), (2, .int (nI e)), (3, .float 9)]) (st' := [.int 1]) rfl rfl ?_
                exact wp_r rfl rfl ⟨by rw [if_pos ((spw_4 cl f e hf he).mp ⟨by omega, by omega, by omega, by omega, by omega, by omega, by omega⟩)], rfl⟩
              · refine wp_p (pc' := 40) (lv' := [(4, .int 5), (0, .ref 1), (1, .int (nI f)), (2, .int (nI e)), (3, .float 9)]) (st' := [.int 0]) rfl rfl ?_
                exact wp_r rfl rfl ⟨by rw [if_neg (fun q => by have q := (spw_4 cl f e hf he).mpr q; omega)], rfl⟩
            · refine wp_p (pc' := 40) (lv' := [(4, .int 4), (0, .ref 1), (1, .int (nI f)), (2, .int (nI e)), (3, .float 9)]) (st' := [.int 0]) rfl rfl ?_
              exact wp_r rfl rfl ⟨by rw [if_neg (fun q => by have q := (spw_4 cl f e hf he).mpr q; omega)], rfl⟩
          · refine wp_p (pc' := 40) (lv' := [(4, .int 3), (0, .ref 1), (1, .int (nI f)), (2, .int (nI e)), (3, .float 9)]) (st' := [.int 0]) rfl rfl ?_
            exact wp_r rfl rfl ⟨by rw [if_neg (fun q => by have q := (spw_4 cl f e hf he).mpr q; omega)], rfl⟩
        · refine wp_p (pc' := 40) (lv' := [(4, .int 2), (0, .ref 1), (1, .int (nI f)), (2, .int (nI e)), (3, .float 9)]) (st' := [.int 0]) rfl rfl ?_
          exact wp_r rfl rfl ⟨by rw [if_neg (fun q => by have q := (spw_4 cl f e hf he).mpr q; omega)], rfl⟩
      · refine wp_p (pc' := 40) (lv' := [(4, .int 1), (0, .ref 1), (1, .int (nI f)), (2, .int (nI e)), (3, .float 9)]) (st' := [.int 0]) rfl rfl ?_
        exact wp_r rfl rfl ⟨by rw [if_neg (fun q => by have q := (spw_4 cl f e hf he).mpr q; omega)], rfl⟩
    · refine wp_p (pc' := 40) (lv' := [(4, .int 0), (0, .ref 1), (1, .int (nI f)), (2, .int (nI e)), (3, .float 9)]) (st' := [.int 0]) rfl rfl ?_
      exact wp_r rfl rfl ⟨by rw [if_neg (fun q => by have q := (spw_4 cl f e hf he).mpr q; omega)], rfl⟩
  · refine wp_p (pc' := 11) (lv' := [(0, .ref 1), (1, .int (nI f)), (2, .int (nI e)), (3, .float 9)]) (st' := [.int 0]) rfl rfl ?_
    exact wp_r rfl rfl ⟨by rw [if_neg (fun q => by have q := (spw_4 cl f e hf he).mpr q; omega)], rfl⟩
theorem spw_5 (cl : List Nat) (f e : Nat) (hf : f ≤ e) (he : e ≤ cl.length) : (e - f = 6 ∧ cl.getD (f + 0) 0 = 115 ∧ cl.getD (f + 1) 0 = 101 ∧ cl.getD (f + 2) 0 = 108 ∧ cl.getD (f + 3) 0 = 101 ∧ cl.getD (f + 4) 0 = 99 ∧ cl.getD (f + 5) 0 = 116) ↔ (cl.drop f).take (e - f) = [115, 101, 108, 101, 99, 116] := by
  constructor
  · intro q
    have e1 : e - f = 6 := q.1
    rw [e1]
    refine (sp_iff [115, 101, 108, 101, 99, 116] cl f (by show f + 6 ≤ _; omega)).mpr (fun j hj => ?_)
    have hj : j < 6 := hj
    rcases (show j = 0 ∨ j = 1 ∨ j = 2 ∨ j = 3 ∨ j = 4 ∨ j = 5 by omega) with rfl | rfl | rfl | rfl | rfl | rfl
    · exact q.2.1
    · exact q.2.2.1
    · exact q.2.2.2.1
    · exact q.2.2.2.2.1
    · exact q.2.2.2.2.2.1
    · exact q.2.2.2.2.2.2
  · intro q
    have e1 : e - f = 6 := sp_len he hf q
    rw [e1] at q
    have q2 := (sp_iff [115, 101, 108, 101, 99, 116] cl f (by show f + 6 ≤ _; omega)).mp q
    exact ⟨e1, q2 0 (by decide), q2 1 (by decide), q2 2 (by decide), q2 3 (by decide), q2 4 (by decide), q2 5 (by decide)⟩
set_option maxRecDepth 20000 in
theorem c_spells_5 (c0 : sm_E) (t : sm_H) (tx : List Int32) (cl : List Nat) (f e : Nat) (hlt : ∀ i, cl.getD i 0 < 65536) (h1 : tx.length = 80) (hcl : cl.length ≤ 80) (htx : ∀ i, i < cl.length → tx.getD i 0 = nI (cl.getD i 0)) (hf : f ≤ e) (he : e ≤ cl.length) : sm_run none 10 82 0 (lv_args 0 [.ref 1, .int (nI f), .int (nI e), .float 11]) [] (c0 :: .inl (2, .inl tx) :: t) ((some (.int (if (cl.drop f).take (e - f) = [115, 101, 108, 101, 99, 116] then 1 else 0))), (c0 :: .inl (2, .inl tx) :: t)) := by
  refine wp_to ?_
  refine wp_p (pc' := 1) (lv' := [(0, .ref 1), (1, .int (nI f)), (2, .int (nI e)), (3, .float 11)]) (st' := [.int (nI e)]) rfl rfl ?_
  refine wp_p (pc' := 2) (lv' := [(0, .ref 1), (1, .int (nI f)), (2, .int (nI e)), (3, .float 11)]) (st' := [.int (nI f), .int (nI e)]) rfl rfl ?_
  refine wp_isub (v := nI (e - f)) (pc' := 3) rfl (pk_sub (a := e) (b := f) (by omega)) rfl ?_
  refine wp_p (pc' := 4) (lv' := [(0, .ref 1), (1, .int (nI f)), (2, .int (nI e)), (3, .float 11)]) (st' := [.float 11, .int (nI (e - f))]) rfl rfl ?_
  refine wp_cvR (As := [.float 11]) (r := [.int (nI (e - f))]) (v := (some (.int 6))) (g := (c0 :: .inl (2, .inl tx) :: t)) (st2 := [.int 6, .int (nI (e - f))]) (pc' := 7) rfl rfl rfl rfl ⟨40, sl_5 _⟩ (by omega) ?_
  refine wn_ic_eq (n := e - f) (m := 6) (pc' := 10) rfl (by first | omega | exact Nat.lt_trans (hlt _) (by decide)) (by first | omega | exact Nat.lt_trans (hlt _) (by decide)) rfl (fun hc1 => ?_) (fun hc1 => ?_)
  · refine wp_p (pc' := 13) (lv' := [(0, .ref 1), (1, .int (nI f)), (2, .int (nI e)), (3, .float 11)]) (st' := [.int 0]) rfl rfl ?_
    refine wp_p (pc' := 15) (lv' := [(4, .int 0), (0, .ref 1), (1, .int (nI f)), (2, .int (nI e)), (3, .float 11)]) (st' := []) rfl rfl ?_
    refine wp_p (pc' := 17) (lv' := [(4, .int 0), (0, .ref 1), (1, .int (nI f)), (2, .int (nI e)), (3, .float 11)]) (st' := [.int 0]) rfl rfl ?_
    refine wp_p (pc' := 18) (lv' := [(4, .int 0), (0, .ref 1), (1, .int (nI f)), (2, .int (nI e)), (3, .float 11)]) (st' := [.float 11, .int 0]) rfl rfl ?_
    refine wp_cvR (As := [.float 11]) (r := [.int 0]) (v := (some (.int 6))) (g := (c0 :: .inl (2, .inl tx) :: t)) (st2 := [.int 6, .int 0]) (pc' := 21) rfl rfl rfl rfl ⟨40, sl_5 _⟩ (by omega) ?_
    refine wp_p (pc' := 24) (lv' := [(4, .int 0), (0, .ref 1), (1, .int (nI f)), (2, .int (nI e)), (3, .float 11)]) (st' := []) rfl rfl ?_
    refine wp_p (pc' := 25) (lv' := [(4, .int 0), (0, .ref 1), (1, .int (nI f)), (2, .int (nI e)), (3, .float 11)]) (st' := [.ref 1]) rfl rfl ?_
    refine wp_p (pc' := 26) (lv' := [(4, .int 0), (0, .ref 1), (1, .int (nI f)), (2, .int (nI e)), (3, .float 11)]) (st' := [.int (nI f), .ref 1]) rfl rfl ?_
    refine wp_p (pc' := 28) (lv' := [(4, .int 0), (0, .ref 1), (1, .int (nI f)), (2, .int (nI e)), (3, .float 11)]) (st' := [.int 0, .int (nI f), .ref 1]) rfl rfl ?_
    refine wp_iadd (v := nI (f + 0)) (pc' := 29) rfl (nI_add f 0) rfl ?_
    refine wp_caload (q := 1) (n := f + 0) (g := tx) (x := nI (cl.getD (f + 0) 0)) (pc' := 30) rfl rfl (by first | omega | exact Nat.lt_trans (hlt _) (by decide)) (by first | omega | exact Nat.lt_trans (hlt _) (by decide)) (htx _ (by omega)) rfl ?_
    refine wp_p (pc' := 31) (lv' := [(4, .int 0), (0, .ref 1), (1, .int (nI f)), (2, .int (nI e)), (3, .float 11)]) (st' := [.float 11, .int (nI (cl.getD (f + 0) 0))]) rfl rfl ?_
    refine wp_p (pc' := 33) (lv' := [(4, .int 0), (0, .ref 1), (1, .int (nI f)), (2, .int (nI e)), (3, .float 11)]) (st' := [.int 0, .float 11, .int (nI (cl.getD (f + 0) 0))]) rfl rfl ?_
    refine wp_cvR (As := [.float 11, .int 0]) (r := [.int (nI (cl.getD (f + 0) 0))]) (v := (some (.int 115))) (g := (c0 :: .inl (2, .inl tx) :: t)) (st2 := [.int 115, .int (nI (cl.getD (f + 0) 0))]) (pc' := 36) rfl rfl rfl rfl ⟨80, sc_5_0 _⟩ (by omega) ?_
    refine wn_ic_eq (n := cl.getD (f + 0) 0) (m := 115) (pc' := 39) rfl (by first | omega | exact Nat.lt_trans (hlt _) (by decide)) (by first | omega | exact Nat.lt_trans (hlt _) (by decide)) rfl (fun hc2 => ?_) (fun hc2 => ?_)
    · refine wp_iinc (v := 1) (lv' := [(4, .int 1), (0, .ref 1), (1, .int (nI f)), (2, .int (nI e)), (3, .float 11)]) (pc' := 44) rfl rfl (by decide) rfl rfl rfl ?_
      refine wp_p (pc' := 15) (lv' := [(4, .int 1), (0, .ref 1), (1, .int (nI f)), (2, .int (nI e)), (3, .float 11)]) (st' := []) rfl rfl ?_
      refine wp_p (pc' := 17) (lv' := [(4, .int 1), (0, .ref 1), (1, .int (nI f)), (2, .int (nI e)), (3, .float 11)]) (st' := [.int 1]) rfl rfl ?_
      refine wp_p (pc' := 18) (lv' := [(4, .int 1), (0, .ref 1), (1, .int (nI f)), (2, .int (nI e)), (3, .float 11)]) (st' := [.float 11, .int 1]) rfl rfl ?_
      refine wp_cvR (As := [.float 11]) (r := [.int 1]) (v := (some (.int 6))) (g := (c0 :: .inl (2, .inl tx) :: t)) (st2 := [.int 6, .int 1]) (pc' := 21) rfl rfl rfl rfl ⟨40, sl_5 _⟩ (by omega) ?_
      refine wp_p (pc' := 24) (lv' := [(4, .int 1), (0, .ref 1), (1, .int (nI f)), (2, .int (nI e)), (3, .float 11)]) (st' := []) rfl rfl ?_
      refine wp_p (pc' := 25) (lv' := [(4, .int 1), (0, .ref 1), (1, .int (nI f)), (2, .int (nI e)), (3, .float 11)]) (st' := [.ref 1]) rfl rfl ?_
      refine wp_p (pc' := 26) (lv' := [(4, .int 1), (0, .ref 1), (1, .int (nI f)), (2, .int (nI e)), (3, .float 11)]) (st' := [.int (nI f), .ref 1]) rfl rfl ?_
      refine wp_p (pc' := 28) (lv' := [(4, .int 1), (0, .ref 1), (1, .int (nI f)), (2, .int (nI e)), (3, .float 11)]) (st' := [.int 1, .int (nI f), .ref 1]) rfl rfl ?_
      refine wp_iadd (v := nI (f + 1)) (pc' := 29) rfl (nI_add f 1) rfl ?_
      refine wp_caload (q := 1) (n := f + 1) (g := tx) (x := nI (cl.getD (f + 1) 0)) (pc' := 30) rfl rfl (by first | omega | exact Nat.lt_trans (hlt _) (by decide)) (by first | omega | exact Nat.lt_trans (hlt _) (by decide)) (htx _ (by omega)) rfl ?_
      refine wp_p (pc' := 31) (lv' := [(4, .int 1), (0, .ref 1), (1, .int (nI f)), (2, .int (nI e)), (3, .float 11)]) (st' := [.float 11, .int (nI (cl.getD (f + 1) 0))]) rfl rfl ?_
      refine wp_p (pc' := 33) (lv' := [(4, .int 1), (0, .ref 1), (1, .int (nI f)), (2, .int (nI e)), (3, .float 11)]) (st' := [.int 1, .float 11, .int (nI (cl.getD (f + 1) 0))]) rfl rfl ?_
      refine wp_cvR (As := [.float 11, .int 1]) (r := [.int (nI (cl.getD (f + 1) 0))]) (v := (some (.int 101))) (g := (c0 :: .inl (2, .inl tx) :: t)) (st2 := [.int 101, .int (nI (cl.getD (f + 1) 0))]) (pc' := 36) rfl rfl rfl rfl ⟨80, sc_5_1 _⟩ (by omega) ?_
      refine wn_ic_eq (n := cl.getD (f + 1) 0) (m := 101) (pc' := 39) rfl (by first | omega | exact Nat.lt_trans (hlt _) (by decide)) (by first | omega | exact Nat.lt_trans (hlt _) (by decide)) rfl (fun hc3 => ?_) (fun hc3 => ?_)
      · refine wp_iinc (v := 2) (lv' := [(4, .int 2), (0, .ref 1), (1, .int (nI f)), (2, .int (nI e)), (3, .float 11)]) (pc' := 44) rfl rfl (by decide) rfl rfl rfl ?_
        refine wp_p (pc' := 15) (lv' := [(4, .int 2), (0, .ref 1), (1, .int (nI f)), (2, .int (nI e)), (3, .float 11)]) (st' := []) rfl rfl ?_
        refine wp_p (pc' := 17) (lv' := [(4, .int 2), (0, .ref 1), (1, .int (nI f)), (2, .int (nI e)), (3, .float 11)]) (st' := [.int 2]) rfl rfl ?_
        refine wp_p (pc' := 18) (lv' := [(4, .int 2), (0, .ref 1), (1, .int (nI f)), (2, .int (nI e)), (3, .float 11)]) (st' := [.float 11, .int 2]) rfl rfl ?_
        refine wp_cvR (As := [.float 11]) (r := [.int 2]) (v := (some (.int 6))) (g := (c0 :: .inl (2, .inl tx) :: t)) (st2 := [.int 6, .int 2]) (pc' := 21) rfl rfl rfl rfl ⟨40, sl_5 _⟩ (by omega) ?_
        refine wp_p (pc' := 24) (lv' := [(4, .int 2), (0, .ref 1), (1, .int (nI f)), (2, .int (nI e)), (3, .float 11)]) (st' := []) rfl rfl ?_
        refine wp_p (pc' := 25) (lv' := [(4, .int 2), (0, .ref 1), (1, .int (nI f)), (2, .int (nI e)), (3, .float 11)]) (st' := [.ref 1]) rfl rfl ?_
        refine wp_p (pc' := 26) (lv' := [(4, .int 2), (0, .ref 1), (1, .int (nI f)), (2, .int (nI e)), (3, .float 11)]) (st' := [.int (nI f), .ref 1]) rfl rfl ?_
        refine wp_p (pc' := 28) (lv' := [(4, .int 2), (0, .ref 1), (1, .int (nI f)), (2, .int (nI e)), (3, .float 11)]) (st' := [.int 2, .int (nI f), .ref 1]) rfl rfl ?_
        refine wp_iadd (v := nI (f + 2)) (pc' := 29) rfl (nI_add f 2) rfl ?_
        refine wp_caload (q := 1) (n := f + 2) (g := tx) (x := nI (cl.getD (f + 2) 0)) (pc' := 30) rfl rfl (by first | omega | exact Nat.lt_trans (hlt _) (by decide)) (by first | omega | exact Nat.lt_trans (hlt _) (by decide)) (htx _ (by omega)) rfl ?_
        refine wp_p (pc' := 31) (lv' := [(4, .int 2), (0, .ref 1), (1, .int (nI f)), (2, .int (nI e)), (3, .float 11)]) (st' := [.float 11, .int (nI (cl.getD (f + 2) 0))]) rfl rfl ?_
        refine wp_p (pc' := 33) (lv' := [(4, .int 2), (0, .ref 1), (1, .int (nI f)), (2, .int (nI e)), (3, .float 11)]) (st' := [.int 2, .float 11, .int (nI (cl.getD (f + 2) 0))]) rfl rfl ?_
        refine wp_cvR (As := [.float 11, .int 2]) (r := [.int (nI (cl.getD (f + 2) 0))]) (v := (some (.int 108))) (g := (c0 :: .inl (2, .inl tx) :: t)) (st2 := [.int 108, .int (nI (cl.getD (f + 2) 0))]) (pc' := 36) rfl rfl rfl rfl ⟨80, sc_5_2 _⟩ (by omega) ?_
        refine wn_ic_eq (n := cl.getD (f + 2) 0) (m := 108) (pc' := 39) rfl (by first | omega | exact Nat.lt_trans (hlt _) (by decide)) (by first | omega | exact Nat.lt_trans (hlt _) (by decide)) rfl (fun hc4 => ?_) (fun hc4 => ?_)
        · refine wp_iinc (v := 3) (lv' := [(4, .int 3), (0, .ref 1), (1, .int (nI f)), (2, .int (nI e)), (3, .float 11)]) (pc' := 44) rfl rfl (by decide) rfl rfl rfl ?_
          refine wp_p (pc' := 15) (lv' := [(4, .int 3), (0, .ref 1), (1, .int (nI f)), (2, .int (nI e)), (3, .float 11)]) (st' := []) rfl rfl ?_
          refine wp_p (pc' := 17) (lv' := [(4, .int 3), (0, .ref 1), (1, .int (nI f)), (2, .int (nI e)), (3, .float 11)]) (st' := [.int 3]) rfl rfl ?_
          refine wp_p (pc' := 18) (lv' := [(4, .int 3), (0, .ref 1), (1, .int (nI f)), (2, .int (nI e)), (3, .float 11)]) (st' := [.float 11, .int 3]) rfl rfl ?_
          refine wp_cvR (As := [.float 11]) (r := [.int 3]) (v := (some (.int 6))) (g := (c0 :: .inl (2, .inl tx) :: t)) (st2 := [.int 6, .int 3]) (pc' := 21) rfl rfl rfl rfl ⟨40, sl_5 _⟩ (by omega) ?_
          refine wp_p (pc' := 24) (lv' := [(4, .int 3), (0, .ref 1), (1, .int (nI f)), (2, .int (nI e)), (3, .float 11)]) (st' := []) rfl rfl ?_
          refine wp_p (pc' := 25) (lv' := [(4, .int 3), (0, .ref 1), (1, .int (nI f)), (2, .int (nI e)), (3, .float 11)]) (st' := [.ref 1]) rfl rfl ?_
          refine wp_p (pc' := 26) (lv' := [(4, .int 3), (0, .ref 1), (1, .int (nI f)), (2, .int (nI e)), (3, .float 11)]) (st' := [.int (nI f), .ref 1]) rfl rfl ?_
          refine wp_p (pc' := 28) (lv' := [(4, .int 3), (0, .ref 1), (1, .int (nI f)), (2, .int (nI e)), (3, .float 11)]) (st' := [.int 3, .int (nI f), .ref 1]) rfl rfl ?_
          refine wp_iadd (v := nI (f + 3)) (pc' := 29) rfl (nI_add f 3) rfl ?_
          refine wp_caload (q := 1) (n := f + 3) (g := tx) (x := nI (cl.getD (f + 3) 0)) (pc' := 30) rfl rfl (by first | omega | exact Nat.lt_trans (hlt _) (by decide)) (by first | omega | exact Nat.lt_trans (hlt _) (by decide)) (htx _ (by omega)) rfl ?_
          refine wp_p (pc' := 31) (lv' := [(4, .int 3), (0, .ref 1), (1, .int (nI f)), (2, .int (nI e)), (3, .float 11)]) (st' := [.float 11, .int (nI (cl.getD (f + 3) 0))]) rfl rfl ?_
          refine wp_p (pc' := 33) (lv' := [(4, .int 3), (0, .ref 1), (1, .int (nI f)), (2, .int (nI e)), (3, .float 11)]) (st' := [.int 3, .float 11, .int (nI (cl.getD (f + 3) 0))]) rfl rfl ?_
          refine wp_cvR (As := [.float 11, .int 3]) (r := [.int (nI (cl.getD (f + 3) 0))]) (v := (some (.int 101))) (g := (c0 :: .inl (2, .inl tx) :: t)) (st2 := [.int 101, .int (nI (cl.getD (f + 3) 0))]) (pc' := 36) rfl rfl rfl rfl ⟨80, sc_5_3 _⟩ (by omega) ?_
          refine wn_ic_eq (n := cl.getD (f + 3) 0) (m := 101) (pc' := 39) rfl (by first | omega | exact Nat.lt_trans (hlt _) (by decide)) (by first | omega | exact Nat.lt_trans (hlt _) (by decide)) rfl (fun hc5 => ?_) (fun hc5 => ?_)
          · refine wp_iinc (v := 4) (lv' := [(4, .int 4), (0, .ref 1), (1, .int (nI f)), (2, .int (nI e)), (3, .float 11)]) (pc' := 44) rfl rfl (by decide) rfl rfl rfl ?_
            refine wp_p (pc' := 15) (lv' := [(4, .int 4), (0, .ref 1), (1, .int (nI f)), (2, .int (nI e)), (3, .float 11)]) (st' := []) rfl rfl ?_
            refine wp_p (pc' := 17) (lv' := [(4, .int 4), (0, .ref 1), (1, .int (nI f)), (2, .int (nI e)), (3, .float 11)]) (st' := [.int 4]) rfl rfl ?_
            refine wp_p (pc' := 18) (lv' := [(4, .int 4), (0, .ref 1), (1, .int (nI f)), (2, .int (nI e)), (3, .float 11)]) (st' := [.float 11, .int 4]) rfl rfl ?_
            refine wp_cvR (As := [.float 11]) (r := [.int 4]) (v := (some (.int 6))) (g := (c0 :: .inl (2, .inl tx) :: t)) (st2 := [.int 6, .int 4]) (pc' := 21) rfl rfl rfl rfl ⟨40, sl_5 _⟩ (by omega) ?_
            refine wp_p (pc' := 24) (lv' := [(4, .int 4), (0, .ref 1), (1, .int (nI f)), (2, .int (nI e)), (3, .float 11)]) (st' := []) rfl rfl ?_
            refine wp_p (pc' := 25) (lv' := [(4, .int 4), (0, .ref 1), (1, .int (nI f)), (2, .int (nI e)), (3, .float 11)]) (st' := [.ref 1]) rfl rfl ?_
            refine wp_p (pc' := 26) (lv' := [(4, .int 4), (0, .ref 1), (1, .int (nI f)), (2, .int (nI e)), (3, .float 11)]) (st' := [.int (nI f), .ref 1]) rfl rfl ?_
            refine wp_p (pc' := 28) (lv' := [(4, .int 4), (0, .ref 1), (1, .int (nI f)), (2, .int (nI e)), (3, .float 11)]) (st' := [.int 4, .int (nI f), .ref 1]) rfl rfl ?_
            refine wp_iadd (v := nI (f + 4)) (pc' := 29) rfl (nI_add f 4) rfl ?_
            refine wp_caload (q := 1) (n := f + 4) (g := tx) (x := nI (cl.getD (f + 4) 0)) (pc' := 30) rfl rfl (by first | omega | exact Nat.lt_trans (hlt _) (by decide)) (by first | omega | exact Nat.lt_trans (hlt _) (by decide)) (htx _ (by omega)) rfl ?_
            refine wp_p (pc' := 31) (lv' := [(4, .int 4), (0, .ref 1), (1, .int (nI f)), (2, .int (nI e)), (3, .float 11)]) (st' := [.float 11, .int (nI (cl.getD (f + 4) 0))]) rfl rfl ?_
            refine wp_p (pc' := 33) (lv' := [(4, .int 4), (0, .ref 1), (1, .int (nI f)), (2, .int (nI e)), (3, .float 11)]) (st' := [.int 4, .float 11, .int (nI (cl.getD (f + 4) 0))]) rfl rfl ?_
            refine wp_cvR (As := [.float 11, .int 4]) (r := [.int (nI (cl.getD (f + 4) 0))]) (v := (some (.int 99))) (g := (c0 :: .inl (2, .inl tx) :: t)) (st2 := [.int 99, .int (nI (cl.getD (f + 4) 0))]) (pc' := 36) rfl rfl rfl rfl ⟨80, sc_5_4 _⟩ (by omega) ?_
            refine wn_ic_eq (n := cl.getD (f + 4) 0) (m := 99) (pc' := 39) rfl (by first | omega | exact Nat.lt_trans (hlt _) (by decide)) (by first | omega | exact Nat.lt_trans (hlt _) (by decide)) rfl (fun hc6 => ?_) (fun hc6 => ?_)
            · refine wp_iinc (v := 5) (lv' := [(4, .int 5), (0, .ref 1), (1, .int (nI f)), (2, .int (nI e)), (3, .float 11)]) (pc' := 44) rfl rfl (by decide) rfl rfl rfl ?_
              refine wp_p (pc' := 15) (lv' := [(4, .int 5), (0, .ref 1), (1, .int (nI f)), (2, .int (nI e)), (3, .float 11)]) (st' := []) rfl rfl ?_
              refine wp_p (pc' := 17) (lv' := [(4, .int 5), (0, .ref 1), (1, .int (nI f)), (2, .int (nI e)), (3, .float 11)]) (st' := [.int 5]) rfl rfl ?_
              refine wp_p (pc' := 18) (lv' := [(4, .int 5), (0, .ref 1), (1, .int (nI f)), (2, .int (nI e)), (3, .float 11)]) (st' := [.float 11, .int 5]) rfl rfl ?_
              refine wp_cvR (As := [.float 11]) (r := [.int 5]) (v := (some (.int 6))) (g := (c0 :: .inl (2, .inl tx) :: t)) (st2 := [.int 6, .int 5]) (pc' := 21) rfl rfl rfl rfl ⟨40, sl_5 _⟩ (by omega) ?_
              refine wp_p (pc' := 24) (lv' := [(4, .int 5), (0, .ref 1), (1, .int (nI f)), (2, .int (nI e)), (3, .float 11)]) (st' := []) rfl rfl ?_
              refine wp_p (pc' := 25) (lv' := [(4, .int 5), (0, .ref 1), (1, .int (nI f)), (2, .int (nI e)), (3, .float 11)]) (st' := [.ref 1]) rfl rfl ?_
              refine wp_p (pc' := 26) (lv' := [(4, .int 5), (0, .ref 1), (1, .int (nI f)), (2, .int (nI e)), (3, .float 11)]) (st' := [.int (nI f), .ref 1]) rfl rfl ?_
              refine wp_p (pc' := 28) (lv' := [(4, .int 5), (0, .ref 1), (1, .int (nI f)), (2, .int (nI e)), (3, .float 11)]) (st' := [.int 5, .int (nI f), .ref 1]) rfl rfl ?_
              refine wp_iadd (v := nI (f + 5)) (pc' := 29) rfl (nI_add f 5) rfl ?_
              refine wp_caload (q := 1) (n := f + 5) (g := tx) (x := nI (cl.getD (f + 5) 0)) (pc' := 30) rfl rfl (by first | omega | exact Nat.lt_trans (hlt _) (by decide)) (by first | omega | exact Nat.lt_trans (hlt _) (by decide)) (htx _ (by omega)) rfl ?_
              refine wp_p (pc' := 31) (lv' := [(4, .int 5), (0, .ref 1), (1, .int (nI f)), (2, .int (nI e)), (3, .float 11)]) (st' := [.float 11, .int (nI (cl.getD (f + 5) 0))]) rfl rfl ?_
              refine wp_p (pc' := 33) (lv' := [(4, .int 5), (0, .ref 1), (1, .int (nI f)), (2, .int (nI e)), (3, .float 11)]) (st' := [.int 5, .float 11, .int (nI (cl.getD (f + 5) 0))]) rfl rfl ?_
              refine wp_cvR (As := [.float 11, .int 5]) (r := [.int (nI (cl.getD (f + 5) 0))]) (v := (some (.int 116))) (g := (c0 :: .inl (2, .inl tx) :: t)) (st2 := [.int 116, .int (nI (cl.getD (f + 5) 0))]) (pc' := 36) rfl rfl rfl rfl ⟨80, sc_5_5 _⟩ (by omega) ?_
              refine wn_ic_eq (n := cl.getD (f + 5) 0) (m := 116) (pc' := 39) rfl (by first | omega | exact Nat.lt_trans (hlt _) (by decide)) (by first | omega | exact Nat.lt_trans (hlt _) (by decide)) rfl (fun hc7 => ?_) (fun hc7 => ?_)
              · refine wp_iinc (v := 6) (lv' := [(4, .int 6), (0, .ref 1), (1, .int (nI f)), (2, .int (nI e)), (3, .float 11)]) (pc' := 44) rfl rfl (by decide) rfl rfl rfl ?_
                refine wp_p (pc' := 15) (lv' := [(4, .int 6), (0, .ref 1), (1, .int (nI f)), (2, .int (nI e)), (3, .float 11)]) (st' := []) rfl rfl ?_
                refine wp_p (pc' := 17) (lv' := [(4, .int 6), (0, .ref 1), (1, .int (nI f)), (2, .int (nI e)), (3, .float 11)]) (st' := [.int 6]) rfl rfl ?_
                refine wp_p (pc' := 18) (lv' := [(4, .int 6), (0, .ref 1), (1, .int (nI f)), (2, .int (nI e)), (3, .float 11)]) (st' := [.float 11, .int 6]) rfl rfl ?_
                refine wp_cvR (As := [.float 11]) (r := [.int 6]) (v := (some (.int 6))) (g := (c0 :: .inl (2, .inl tx) :: t)) (st2 := [.int 6, .int 6]) (pc' := 21) rfl rfl rfl rfl ⟨40, sl_5 _⟩ (by omega) ?_
                refine wp_p (pc' := 47) (lv' := [(4, .int 6), (0, .ref 1), (1, .int (nI f)), (2, .int (nI e)), (3, .float 11)]) (st' := []) rfl rfl ?_
                refine wp_p (pc' := 48) (lv' := [(4, .int 6), (0, .ref 1), (1, .int (nI f)), (2, .int (nI e)), (3, .float 11)]) (st' := [.int 1]) rfl rfl ?_
                exact wp_r rfl rfl ⟨by rw [if_pos ((spw_5 cl f e hf he).mp ⟨by omega, by omega, by omega, by omega, by omega, by omega, by omega⟩)], rfl⟩
              · refine wp_p (pc' := 40) (lv' := [(4, .int 5), (0, .ref 1), (1, .int (nI f)), (2, .int (nI e)), (3, .float 11)]) (st' := [.int 0]) rfl rfl ?_
                exact wp_r rfl rfl ⟨by rw [if_neg (fun q => by have q := (spw_5 cl f e hf he).mpr q; omega)], rfl⟩
            · refine wp_p (pc' := 40) (lv' := [(4, .int 4), (0, .ref 1), (1, .int (nI f)), (2, .int (nI e)), (3, .float 11)]) (st' := [.int 0]) rfl rfl ?_
              exact wp_r rfl rfl ⟨by rw [if_neg (fun q => by have q := (spw_5 cl f e hf he).mpr q; omega)], rfl⟩
          · refine wp_p (pc' := 40) (lv' := [(4, .int 3), (0, .ref 1), (1, .int (nI f)), (2, .int (nI e)), (3, .float 11)]) (st' := [.int 0]) rfl rfl ?_
            exact wp_r rfl rfl ⟨by rw [if_neg (fun q => by have q := (spw_5 cl f e hf he).mpr q; omega)], rfl⟩
        · refine wp_p (pc' := 40) (lv' := [(4, .int 2), (0, .ref 1), (1, .int (nI f)), (2, .int (nI e)), (3, .float 11)]) (st' := [.int 0]) rfl rfl ?_
          exact wp_r rfl rfl ⟨by rw [if_neg (fun q => by have q := (spw_5 cl f e hf he).mpr q; omega)], rfl⟩
      · refine wp_p (pc' := 40) (lv' := [(4, .int 1), (0, .ref 1), (1, .int (nI f)), (2, .int (nI e)), (3, .float 11)]) (st' := [.int 0]) rfl rfl ?_
        exact wp_r rfl rfl ⟨by rw [if_neg (fun q => by have q := (spw_5 cl f e hf he).mpr q; omega)], rfl⟩
    · refine wp_p (pc' := 40) (lv' := [(4, .int 0), (0, .ref 1), (1, .int (nI f)), (2, .int (nI e)), (3, .float 11)]) (st' := [.int 0]) rfl rfl ?_
      exact wp_r rfl rfl ⟨by rw [if_neg (fun q => by have q := (spw_5 cl f e hf he).mpr q; omega)], rfl⟩
  · refine wp_p (pc' := 11) (lv' := [(0, .ref 1), (1, .int (nI f)), (2, .int (nI e)), (3, .float 11)]) (st' := [.int 0]) rfl rfl ?_
    exact wp_r rfl rfl ⟨by rw [if_neg (fun q => by have q := (spw_5 cl f e hf he).mpr q; omega)], rfl⟩
theorem spw_6 (cl : List Nat) (f e : Nat) (hf : f ≤ e) (he : e ≤ cl.length) : (e - f = 4 ∧ cl.getD (f + 0) 0 = 102 ∧ cl.getD (f + 1) 0 = 114 ∧ cl.getD (f + 2) 0 = 111 ∧ cl.getD (f + 3) 0 = 109) ↔ (cl.drop f).take (e - f) = [102, 114, 111, 109] := by
  constructor
  · intro q
    have e1 : e - f = 4 := q.1
    rw [e1]
    refine (sp_iff [102, 114, 111, 109] cl f (by show f + 4 ≤ _; omega)).mpr (fun j hj => ?_)
    have hj : j < 4 := hj
    rcases (show j = 0 ∨ j = 1 ∨ j = 2 ∨ j = 3 by omega) with rfl | rfl | rfl | rfl
    · exact q.2.1
    · exact q.2.2.1
    · exact q.2.2.2.1
    · exact q.2.2.2.2
  · intro q
    have e1 : e - f = 4 := sp_len he hf q
    rw [e1] at q
    have q2 := (sp_iff [102, 114, 111, 109] cl f (by show f + 4 ≤ _; omega)).mp q
    exact ⟨e1, q2 0 (by decide), q2 1 (by decide), q2 2 (by decide), q2 3 (by decide)⟩
set_option maxRecDepth 20000 in
theorem c_spells_6 (c0 : sm_E) (t : sm_H) (tx : List Int32) (cl : List Nat) (f e : Nat) (hlt : ∀ i, cl.getD i 0 < 65536) (h1 : tx.length = 80) (hcl : cl.length ≤ 80) (htx : ∀ i, i < cl.length → tx.getD i 0 = nI (cl.getD i 0)) (hf : f ≤ e) (he : e ≤ cl.length) : sm_run none 10 82 0 (lv_args 0 [.ref 1, .int (nI f), .int (nI e), .float 13]) [] (c0 :: .inl (2, .inl tx) :: t) ((some (.int (if (cl.drop f).take (e - f) = [102, 114, 111, 109] then 1 else 0))), (c0 :: .inl (2, .inl tx) :: t)) := by
  refine wp_to ?_
  refine wp_p (pc' := 1) (lv' := [(0, .ref 1), (1, .int (nI f)), (2, .int (nI e)), (3, .float 13)]) (st' := [.int (nI e)]) rfl rfl ?_
  refine wp_p (pc' := 2) (lv' := [(0, .ref 1), (1, .int (nI f)), (2, .int (nI e)), (3, .float 13)]) (st' := [.int (nI f), .int (nI e)]) rfl rfl ?_
  refine wp_isub (v := nI (e - f)) (pc' := 3) rfl (pk_sub (a := e) (b := f) (by omega)) rfl ?_
  refine wp_p (pc' := 4) (lv' := [(0, .ref 1), (1, .int (nI f)), (2, .int (nI e)), (3, .float 13)]) (st' := [.float 13, .int (nI (e - f))]) rfl rfl ?_
  refine wp_cvR (As := [.float 13]) (r := [.int (nI (e - f))]) (v := (some (.int 4))) (g := (c0 :: .inl (2, .inl tx) :: t)) (st2 := [.int 4, .int (nI (e - f))]) (pc' := 7) rfl rfl rfl rfl ⟨40, sl_6 _⟩ (by omega) ?_
  refine wn_ic_eq (n := e - f) (m := 4) (pc' := 10) rfl (by first | omega | exact Nat.lt_trans (hlt _) (by decide)) (by first | omega | exact Nat.lt_trans (hlt _) (by decide)) rfl (fun hc1 => ?_) (fun hc1 => ?_)
  · refine wp_p (pc' := 13) (lv' := [(0, .ref 1), (1, .int (nI f)), (2, .int (nI e)), (3, .float 13)]) (st' := [.int 0]) rfl rfl ?_
    refine wp_p (pc' := 15) (lv' := [(4, .int 0), (0, .ref 1), (1, .int (nI f)), (2, .int (nI e)), (3, .float 13)]) (st' := []) rfl rfl ?_
    refine wp_p (pc' := 17) (lv' := [(4, .int 0), (0, .ref 1), (1, .int (nI f)), (2, .int (nI e)), (3, .float 13)]) (st' := [.int 0]) rfl rfl ?_
    refine wp_p (pc' := 18) (lv' := [(4, .int 0), (0, .ref 1), (1, .int (nI f)), (2, .int (nI e)), (3, .float 13)]) (st' := [.float 13, .int 0]) rfl rfl ?_
    refine wp_cvR (As := [.float 13]) (r := [.int 0]) (v := (some (.int 4))) (g := (c0 :: .inl (2, .inl tx) :: t)) (st2 := [.int 4, .int 0]) (pc' := 21) rfl rfl rfl rfl ⟨40, sl_6 _⟩ (by omega) ?_
    refine wp_p (pc' := 24) (lv' := [(4, .int 0), (0, .ref 1), (1, .int (nI f)), (2, .int (nI e)), (3, .float 13)]) (st' := []) rfl rfl ?_
    refine wp_p (pc' := 25) (lv' := [(4, .int 0), (0, .ref 1), (1, .int (nI f)), (2, .int (nI e)), (3, .float 13)]) (st' := [.ref 1]) rfl rfl ?_
    refine wp_p (pc' := 26) (lv' := [(4, .int 0), (0, .ref 1), (1, .int (nI f)), (2, .int (nI e)), (3, .float 13)]) (st' := [.int (nI f), .ref 1]) rfl rfl ?_
    refine wp_p (pc' := 28) (lv' := [(4, .int 0), (0, .ref 1), (1, .int (nI f)), (2, .int (nI e)), (3, .float 13)]) (st' := [.int 0, .int (nI f), .ref 1]) rfl rfl ?_
    refine wp_iadd (v := nI (f + 0)) (pc' := 29) rfl (nI_add f 0) rfl ?_
    refine wp_caload (q := 1) (n := f + 0) (g := tx) (x := nI (cl.getD (f + 0) 0)) (pc' := 30) rfl rfl (by first | omega | exact Nat.lt_trans (hlt _) (by decide)) (by first | omega | exact Nat.lt_trans (hlt _) (by decide)) (htx _ (by omega)) rfl ?_
    refine wp_p (pc' := 31) (lv' := [(4, .int 0), (0, .ref 1), (1, .int (nI f)), (2, .int (nI e)), (3, .float 13)]) (st' := [.float 13, .int (nI (cl.getD (f + 0) 0))]) rfl rfl ?_
    refine wp_p (pc' := 33) (lv' := [(4, .int 0), (0, .ref 1), (1, .int (nI f)), (2, .int (nI e)), (3, .float 13)]) (st' := [.int 0, .float 13, .int (nI (cl.getD (f + 0) 0))]) rfl rfl ?_
    refine wp_cvR (As := [.float 13, .int 0]) (r := [.int (nI (cl.getD (f + 0) 0))]) (v := (some (.int 102))) (g := (c0 :: .inl (2, .inl tx) :: t)) (st2 := [.int 102, .int (nI (cl.getD (f + 0) 0))]) (pc' := 36) rfl rfl rfl rfl ⟨80, sc_6_0 _⟩ (by omega) ?_
    refine wn_ic_eq (n := cl.getD (f + 0) 0) (m := 102) (pc' := 39) rfl (by first | omega | exact Nat.lt_trans (hlt _) (by decide)) (by first | omega | exact Nat.lt_trans (hlt _) (by decide)) rfl (fun hc2 => ?_) (fun hc2 => ?_)
    · refine wp_iinc (v := 1) (lv' := [(4, .int 1), (0, .ref 1), (1, .int (nI f)), (2, .int (nI e)), (3, .float 13)]) (pc' := 44) rfl rfl (by decide) rfl rfl rfl ?_
      refine wp_p (pc' := 15) (lv' := [(4, .int 1), (0, .ref 1), (1, .int (nI f)), (2, .int (nI e)), (3, .float 13)]) (st' := []) rfl rfl ?_
      refine wp_p (pc' := 17) (lv' := [(4, .int 1), (0, .ref 1), (1, .int (nI f)), (2, .int (nI e)), (3, .float 13)]) (st' := [.int 1]) rfl rfl ?_
      refine wp_p (pc' := 18) (lv' := [(4, .int 1), (0, .ref 1), (1, .int (nI f)), (2, .int (nI e)), (3, .float 13)]) (st' := [.float 13, .int 1]) rfl rfl ?_
      refine wp_cvR (As := [.float 13]) (r := [.int 1]) (v := (some (.int 4))) (g := (c0 :: .inl (2, .inl tx) :: t)) (st2 := [.int 4, .int 1]) (pc' := 21) rfl rfl rfl rfl ⟨40, sl_6 _⟩ (by omega) ?_
      refine wp_p (pc' := 24) (lv' := [(4, .int 1), (0, .ref 1), (1, .int (nI f)), (2, .int (nI e)), (3, .float 13)]) (st' := []) rfl rfl ?_
      refine wp_p (pc' := 25) (lv' := [(4, .int 1), (0, .ref 1), (1, .int (nI f)), (2, .int (nI e)), (3, .float 13)]) (st' := [.ref 1]) rfl rfl ?_
      refine wp_p (pc' := 26) (lv' := [(4, .int 1), (0, .ref 1), (1, .int (nI f)), (2, .int (nI e)), (3, .float 13)]) (st' := [.int (nI f), .ref 1]) rfl rfl ?_
      refine wp_p (pc' := 28) (lv' := [(4, .int 1), (0, .ref 1), (1, .int (nI f)), (2, .int (nI e)), (3, .float 13)]) (st' := [.int 1, .int (nI f), .ref 1]) rfl rfl ?_
      refine wp_iadd (v := nI (f + 1)) (pc' := 29) rfl (nI_add f 1) rfl ?_
      refine wp_caload (q := 1) (n := f + 1) (g := tx) (x := nI (cl.getD (f + 1) 0)) (pc' := 30) rfl rfl (by first | omega | exact Nat.lt_trans (hlt _) (by decide)) (by first | omega | exact Nat.lt_trans (hlt _) (by decide)) (htx _ (by omega)) rfl ?_
      refine wp_p (pc' := 31) (lv' := [(4, .int 1), (0, .ref 1), (1, .int (nI f)), (2, .int (nI e)), (3, .float 13)]) (st' := [.float 13, .int (nI (cl.getD (f + 1) 0))]) rfl rfl ?_
      refine wp_p (pc' := 33) (lv' := [(4, .int 1), (0, .ref 1), (1, .int (nI f)), (2, .int (nI e)), (3, .float 13)]) (st' := [.int 1, .float 13, .int (nI (cl.getD (f + 1) 0))]) rfl rfl ?_
      refine wp_cvR (As := [.float 13, .int 1]) (r := [.int (nI (cl.getD (f + 1) 0))]) (v := (some (.int 114))) (g := (c0 :: .inl (2, .inl tx) :: t)) (st2 := [.int 114, .int (nI (cl.getD (f + 1) 0))]) (pc' := 36) rfl rfl rfl rfl ⟨80, sc_6_1 _⟩ (by omega) ?_
      refine wn_ic_eq (n := cl.getD (f + 1) 0) (m := 114) (pc' := 39) rfl (by first | omega | exact Nat.lt_trans (hlt _) (by decide)) (by first | omega | exact Nat.lt_trans (hlt _) (by decide)) rfl (fun hc3 => ?_) (fun hc3 => ?_)
      · refine wp_iinc (v := 2) (lv' := [(4, .int 2), (0, .ref 1), (1, .int (nI f)), (2, .int (nI e)), (3, .float 13)]) (pc' := 44) rfl rfl (by decide) rfl rfl rfl ?_
        refine wp_p (pc' := 15) (lv' := [(4, .int 2), (0, .ref 1), (1, .int (nI f)), (2, .int (nI e)), (3, .float 13)]) (st' := []) rfl rfl ?_
        refine wp_p (pc' := 17) (lv' := [(4, .int 2), (0, .ref 1), (1, .int (nI f)), (2, .int (nI e)), (3, .float 13)]) (st' := [.int 2]) rfl rfl ?_
        refine wp_p (pc' := 18) (lv' := [(4, .int 2), (0, .ref 1), (1, .int (nI f)), (2, .int (nI e)), (3, .float 13)]) (st' := [.float 13, .int 2]) rfl rfl ?_
        refine wp_cvR (As := [.float 13]) (r := [.int 2]) (v := (some (.int 4))) (g := (c0 :: .inl (2, .inl tx) :: t)) (st2 := [.int 4, .int 2]) (pc' := 21) rfl rfl rfl rfl ⟨40, sl_6 _⟩ (by omega) ?_
        refine wp_p (pc' := 24) (lv' := [(4, .int 2), (0, .ref 1), (1, .int (nI f)), (2, .int (nI e)), (3, .float 13)]) (st' := []) rfl rfl ?_
        refine wp_p (pc' := 25) (lv' := [(4, .int 2), (0, .ref 1), (1, .int (nI f)), (2, .int (nI e)), (3, .float 13)]) (st' := [.ref 1]) rfl rfl ?_
        refine wp_p (pc' := 26) (lv' := [(4, .int 2), (0, .ref 1), (1, .int (nI f)), (2, .int (nI e)), (3, .float 13)]) (st' := [.int (nI f), .ref 1]) rfl rfl ?_
        refine wp_p (pc' := 28) (lv' := [(4, .int 2), (0, .ref 1), (1, .int (nI f)), (2, .int (nI e)), (3, .float 13)]) (st' := [.int 2, .int (nI f), .ref 1]) rfl rfl ?_
        refine wp_iadd (v := nI (f + 2)) (pc' := 29) rfl (nI_add f 2) rfl ?_
        refine wp_caload (q := 1) (n := f + 2) (g := tx) (x := nI (cl.getD (f + 2) 0)) (pc' := 30) rfl rfl (by first | omega | exact Nat.lt_trans (hlt _) (by decide)) (by first | omega | exact Nat.lt_trans (hlt _) (by decide)) (htx _ (by omega)) rfl ?_
        refine wp_p (pc' := 31) (lv' := [(4, .int 2), (0, .ref 1), (1, .int (nI f)), (2, .int (nI e)), (3, .float 13)]) (st' := [.float 13, .int (nI (cl.getD (f + 2) 0))]) rfl rfl ?_
        refine wp_p (pc' := 33) (lv' := [(4, .int 2), (0, .ref 1), (1, .int (nI f)), (2, .int (nI e)), (3, .float 13)]) (st' := [.int 2, .float 13, .int (nI (cl.getD (f + 2) 0))]) rfl rfl ?_
        refine wp_cvR (As := [.float 13, .int 2]) (r := [.int (nI (cl.getD (f + 2) 0))]) (v := (some (.int 111))) (g := (c0 :: .inl (2, .inl tx) :: t)) (st2 := [.int 111, .int (nI (cl.getD (f + 2) 0))]) (pc' := 36) rfl rfl rfl rfl ⟨80, sc_6_2 _⟩ (by omega) ?_
        refine wn_ic_eq (n := cl.getD (f + 2) 0) (m := 111) (pc' := 39) rfl (by first | omega | exact Nat.lt_trans (hlt _) (by decide)) (by first | omega | exact Nat.lt_trans (hlt _) (by decide)) rfl (fun hc4 => ?_) (fun hc4 => ?_)
        · refine wp_iinc (v := 3) (lv' := [(4, .int 3), (0, .ref 1), (1, .int (nI f)), (2, .int (nI e)), (3, .float 13)]) (pc' := 44) rfl rfl (by decide) rfl rfl rfl ?_
          refine wp_p (pc' := 15) (lv' := [(4, .int 3), (0, .ref 1), (1, .int (nI f)), (2, .int (nI e)), (3, .float 13)]) (st' := []) rfl rfl ?_
          refine wp_p (pc' := 17) (lv' := [(4, .int 3), (0, .ref 1), (1, .int (nI f)), (2, .int (nI e)), (3, .float 13)]) (st' := [.int 3]) rfl rfl ?_
          refine wp_p (pc' := 18) (lv' := [(4, .int 3), (0, .ref 1), (1, .int (nI f)), (2, .int (nI e)), (3, .float 13)]) (st' := [.float 13, .int 3]) rfl rfl ?_
          refine wp_cvR (As := [.float 13]) (r := [.int 3]) (v := (some (.int 4))) (g := (c0 :: .inl (2, .inl tx) :: t)) (st2 := [.int 4, .int 3]) (pc' := 21) rfl rfl rfl rfl ⟨40, sl_6 _⟩ (by omega) ?_
          refine wp_p (pc' := 24) (lv' := [(4, .int 3), (0, .ref 1), (1, .int (nI f)), (2, .int (nI e)), (3, .float 13)]) (st' := []) rfl rfl ?_
          refine wp_p (pc' := 25) (lv' := [(4, .int 3), (0, .ref 1), (1, .int (nI f)), (2, .int (nI e)), (3, .float 13)]) (st' := [.ref 1]) rfl rfl ?_
          refine wp_p (pc' := 26) (lv' := [(4, .int 3), (0, .ref 1), (1, .int (nI f)), (2, .int (nI e)), (3, .float 13)]) (st' := [.int (nI f), .ref 1]) rfl rfl ?_
          refine wp_p (pc' := 28) (lv' := [(4, .int 3), (0, .ref 1), (1, .int (nI f)), (2, .int (nI e)), (3, .float 13)]) (st' := [.int 3, .int (nI f), .ref 1]) rfl rfl ?_
          refine wp_iadd (v := nI (f + 3)) (pc' := 29) rfl (nI_add f 3) rfl ?_
          refine wp_caload (q := 1) (n := f + 3) (g := tx) (x := nI (cl.getD (f + 3) 0)) (pc' := 30) rfl rfl (by first | omega | exact Nat.lt_trans (hlt _) (by decide)) (by first | omega | exact Nat.lt_trans (hlt _) (by decide)) (htx _ (by omega)) rfl ?_
          refine wp_p (pc' := 31) (lv' := [(4, .int 3), (0, .ref 1), (1, .int (nI f)), (2, .int (nI e)), (3, .float 13)]) (st' := [.float 13, .int (nI (cl.getD (f + 3) 0))]) rfl rfl ?_
          refine wp_p (pc' := 33) (lv' := [(4, .int 3), (0, .ref 1), (1, .int (nI f)), (2, .int (nI e)), (3, .float 13)]) (st' := [.int 3, .float 13, .int (nI (cl.getD (f + 3) 0))]) rfl rfl ?_
          refine wp_cvR (As := [.float 13, .int 3]) (r := [.int (nI (cl.getD (f + 3) 0))]) (v := (some (.int 109))) (g := (c0 :: .inl (2, .inl tx) :: t)) (st2 := [.int 109, .int (nI (cl.getD (f + 3) 0))]) (pc' := 36) rfl rfl rfl rfl ⟨80, sc_6_3 _⟩ (by omega) ?_
          refine wn_ic_eq (n := cl.getD (f + 3) 0) (m := 109) (pc' := 39) rfl (by first | omega | exact Nat.lt_trans (hlt _) (by decide)) (by first | omega | exact Nat.lt_trans (hlt _) (by decide)) rfl (fun hc5 => ?_) (fun hc5 => ?_)
          · refine wp_iinc (v := 4) (lv' := [(4, .int 4), (0, .ref 1), (1, .int (nI f)), (2, .int (nI e)), (3, .float 13)]) (pc' := 44) rfl rfl (by decide) rfl rfl rfl ?_
            refine wp_p (pc' := 15) (lv' := [(4, .int 4), (0, .ref 1), (1, .int (nI f)), (2, .int (nI e)), (3, .float 13)]) (st' := []) rfl rfl ?_
            refine wp_p (pc' := 17) (lv' := [(4, .int 4), (0, .ref 1), (1, .int (nI f)), (2, .int (nI e)), (3, .float 13)]) (st' := [.int 4]) rfl rfl ?_
            refine wp_p (pc' := 18) (lv' := [(4, .int 4), (0, .ref 1), (1, .int (nI f)), (2, .int (nI e)), (3, .float 13)]) (st' := [.float 13, .int 4]) rfl rfl ?_
            refine wp_cvR (As := [.float 13]) (r := [.int 4]) (v := (some (.int 4))) (g := (c0 :: .inl (2, .inl tx) :: t)) (st2 := [.int 4, .int 4]) (pc' := 21) rfl rfl rfl rfl ⟨40, sl_6 _⟩ (by omega) ?_
            refine wp_p (pc' := 47) (lv' := [(4, .int 4), (0, .ref 1), (1, .int (nI f)), (2, .int (nI e)), (3, .float 13)]) (st' := []) rfl rfl ?_
            refine wp_p (pc' := 48) (lv' := [(4, .int 4), (0, .ref 1), (1, .int (nI f)), (2, .int (nI e)), (3, .float 13)]) (st' := [.int 1]) rfl rfl ?_
            exact wp_r rfl rfl ⟨by rw [if_pos ((spw_6 cl f e hf he).mp ⟨by omega, by omega, by omega, by omega, by omega⟩)], rfl⟩
          · refine wp_p (pc' := 40) (lv' := [(4, .int 3), (0, .ref 1), (1, .int (nI f)), (2, .int (nI e)), (3, .float 13)]) (st' := [.int 0]) rfl rfl ?_
            exact wp_r rfl rfl ⟨by rw [if_neg (fun q => by have q := (spw_6 cl f e hf he).mpr q; omega)], rfl⟩
        · refine wp_p (pc' := 40) (lv' := [(4, .int 2), (0, .ref 1), (1, .int (nI f)), (2, .int (nI e)), (3, .float 13)]) (st' := [.int 0]) rfl rfl ?_
          exact wp_r rfl rfl ⟨by rw [if_neg (fun q => by have q := (spw_6 cl f e hf he).mpr q; omega)], rfl⟩
      · refine wp_p (pc' := 40) (lv' := [(4, .int 1), (0, .ref 1), (1, .int (nI f)), (2, .int (nI e)), (3, .float 13)]) (st' := [.int 0]) rfl rfl ?_
        exact wp_r rfl rfl ⟨by rw [if_neg (fun q => by have q := (spw_6 cl f e hf he).mpr q; omega)], rfl⟩
    · refine wp_p (pc' := 40) (lv' := [(4, .int 0), (0, .ref 1), (1, .int (nI f)), (2, .int (nI e)), (3, .float 13)]) (st' := [.int 0]) rfl rfl ?_
      exact wp_r rfl rfl ⟨by rw [if_neg (fun q => by have q := (spw_6 cl f e hf he).mpr q; omega)], rfl⟩
  · refine wp_p (pc' := 11) (lv' := [(0, .ref 1), (1, .int (nI f)), (2, .int (nI e)), (3, .float 13)]) (st' := [.int 0]) rfl rfl ?_
    exact wp_r rfl rfl ⟨by rw [if_neg (fun q => by have q := (spw_6 cl f e hf he).mpr q; omega)], rfl⟩
theorem spw_7 (cl : List Nat) (f e : Nat) (hf : f ≤ e) (he : e ≤ cl.length) : (e - f = 5 ∧ cl.getD (f + 0) 0 = 119 ∧ cl.getD (f + 1) 0 = 104 ∧ cl.getD (f + 2) 0 = 101 ∧ cl.getD (f + 3) 0 = 114 ∧ cl.getD (f + 4) 0 = 101) ↔ (cl.drop f).take (e - f) = [119, 104, 101, 114, 101] := by
  constructor
  · intro q
    have e1 : e - f = 5 := q.1
    rw [e1]
    refine (sp_iff [119, 104, 101, 114, 101] cl f (by show f + 5 ≤ _; omega)).mpr (fun j hj => ?_)
    have hj : j < 5 := hj
    rcases (show j = 0 ∨ j = 1 ∨ j = 2 ∨ j = 3 ∨ j = 4 by omega) with rfl | rfl | rfl | rfl | rfl
    · exact q.2.1
    · exact q.2.2.1
    · exact q.2.2.2.1
    · exact q.2.2.2.2.1
    · exact q.2.2.2.2.2
  · intro q
    have e1 : e - f = 5 := sp_len he hf q
    rw [e1] at q
    have q2 := (sp_iff [119, 104, 101, 114, 101] cl f (by show f + 5 ≤ _; omega)).mp q
    exact ⟨e1, q2 0 (by decide), q2 1 (by decide), q2 2 (by decide), q2 3 (by decide), q2 4 (by decide)⟩
set_option maxRecDepth 20000 in
theorem c_spells_7 (c0 : sm_E) (t : sm_H) (tx : List Int32) (cl : List Nat) (f e : Nat) (hlt : ∀ i, cl.getD i 0 < 65536) (h1 : tx.length = 80) (hcl : cl.length ≤ 80) (htx : ∀ i, i < cl.length → tx.getD i 0 = nI (cl.getD i 0)) (hf : f ≤ e) (he : e ≤ cl.length) : sm_run none 10 82 0 (lv_args 0 [.ref 1, .int (nI f), .int (nI e), .float 15]) [] (c0 :: .inl (2, .inl tx) :: t) ((some (.int (if (cl.drop f).take (e - f) = [119, 104, 101, 114, 101] then 1 else 0))), (c0 :: .inl (2, .inl tx) :: t)) := by
  refine wp_to ?_
  refine wp_p (pc' := 1) (lv' := [(0, .ref 1), (1, .int (nI f)), (2, .int (nI e)), (3, .float 15)]) (st' := [.int (nI e)]) rfl rfl ?_
  refine wp_p (pc' := 2) (lv' := [(0, .ref 1), (1, .int (nI f)), (2, .int (nI e)), (3, .float 15)]) (st' := [.int (nI f), .int (nI e)]) rfl rfl ?_
  refine wp_isub (v := nI (e - f)) (pc' := 3) rfl (pk_sub (a := e) (b := f) (by omega)) rfl ?_
  refine wp_p (pc' := 4) (lv' := [(0, .ref 1), (1, .int (nI f)), (2, .int (nI e)), (3, .float 15)]) (st' := [.float 15, .int (nI (e - f))]) rfl rfl ?_
  refine wp_cvR (As := [.float 15]) (r := [.int (nI (e - f))]) (v := (some (.int 5))) (g := (c0 :: .inl (2, .inl tx) :: t)) (st2 := [.int 5, .int (nI (e - f))]) (pc' := 7) rfl rfl rfl rfl ⟨40, sl_7 _⟩ (by omega) ?_
  refine wn_ic_eq (n := e - f) (m := 5) (pc' := 10) rfl (by first | omega | exact Nat.lt_trans (hlt _) (by decide)) (by first | omega | exact Nat.lt_trans (hlt _) (by decide)) rfl (fun hc1 => ?_) (fun hc1 => ?_)
  · refine wp_p (pc' := 13) (lv' := [(0, .ref 1), (1, .int (nI f)), (2, .int (nI e)), (3, .float 15)]) (st' := [.int 0]) rfl rfl ?_
    refine wp_p (pc' := 15) (lv' := [(4, .int 0), (0, .ref 1), (1, .int (nI f)), (2, .int (nI e)), (3, .float 15)]) (st' := []) rfl rfl ?_
    refine wp_p (pc' := 17) (lv' := [(4, .int 0), (0, .ref 1), (1, .int (nI f)), (2, .int (nI e)), (3, .float 15)]) (st' := [.int 0]) rfl rfl ?_
    refine wp_p (pc' := 18) (lv' := [(4, .int 0), (0, .ref 1), (1, .int (nI f)), (2, .int (nI e)), (3, .float 15)]) (st' := [.float 15, .int 0]) rfl rfl ?_
    refine wp_cvR (As := [.float 15]) (r := [.int 0]) (v := (some (.int 5))) (g := (c0 :: .inl (2, .inl tx) :: t)) (st2 := [.int 5, .int 0]) (pc' := 21) rfl rfl rfl rfl ⟨40, sl_7 _⟩ (by omega) ?_
    refine wp_p (pc' := 24) (lv' := [(4, .int 0), (0, .ref 1), (1, .int (nI f)), (2, .int (nI e)), (3, .float 15)]) (st' := []) rfl rfl ?_
    refine wp_p (pc' := 25) (lv' := [(4, .int 0), (0, .ref 1), (1, .int (nI f)), (2, .int (nI e)), (3, .float 15)]) (st' := [.ref 1]) rfl rfl ?_
    refine wp_p (pc' := 26) (lv' := [(4, .int 0), (0, .ref 1), (1, .int (nI f)), (2, .int (nI e)), (3, .float 15)]) (st' := [.int (nI f), .ref 1]) rfl rfl ?_
    refine wp_p (pc' := 28) (lv' := [(4, .int 0), (0, .ref 1), (1, .int (nI f)), (2, .int (nI e)), (3, .float 15)]) (st' := [.int 0, .int (nI f), .ref 1]) rfl rfl ?_
    refine wp_iadd (v := nI (f + 0)) (pc' := 29) rfl (nI_add f 0) rfl ?_
    refine wp_caload (q := 1) (n := f + 0) (g := tx) (x := nI (cl.getD (f + 0) 0)) (pc' := 30) rfl rfl (by first | omega | exact Nat.lt_trans (hlt _) (by decide)) (by first | omega | exact Nat.lt_trans (hlt _) (by decide)) (htx _ (by omega)) rfl ?_
    refine wp_p (pc' := 31) (lv' := [(4, .int 0), (0, .ref 1), (1, .int (nI f)), (2, .int (nI e)), (3, .float 15)]) (st' := [.float 15, .int (nI (cl.getD (f + 0) 0))]) rfl rfl ?_
    refine wp_p (pc' := 33) (lv' := [(4, .int 0), (0, .ref 1), (1, .int (nI f)), (2, .int (nI e)), (3, .float 15)]) (st' := [.int 0, .float 15, .int (nI (cl.getD (f + 0) 0))]) rfl rfl ?_
    refine wp_cvR (As := [.float 15, .int 0]) (r := [.int (nI (cl.getD (f + 0) 0))]) (v := (some (.int 119))) (g := (c0 :: .inl (2, .inl tx) :: t)) (st2 := [.int 119, .int (nI (cl.getD (f + 0) 0))]) (pc' := 36) rfl rfl rfl rfl ⟨80, sc_7_0 _⟩ (by omega) ?_
    refine wn_ic_eq (n := cl.getD (f + 0) 0) (m := 119) (pc' := 39) rfl (by first | omega | exact Nat.lt_trans (hlt _) (by decide)) (by first | omega | exact Nat.lt_trans (hlt _) (by decide)) rfl (fun hc2 => ?_) (fun hc2 => ?_)
    · refine wp_iinc (v := 1) (lv' := [(4, .int 1), (0, .ref 1), (1, .int (nI f)), (2, .int (nI e)), (3, .float 15)]) (pc' := 44) rfl rfl (by decide) rfl rfl rfl ?_
      refine wp_p (pc' := 15) (lv' := [(4, .int 1), (0, .ref 1), (1, .int (nI f)), (2, .int (nI e)), (3, .float 15)]) (st' := []) rfl rfl ?_
      refine wp_p (pc' := 17) (lv' := [(4, .int 1), (0, .ref 1), (1, .int (nI f)), (2, .int (nI e)), (3, .float 15)]) (st' := [.int 1]) rfl rfl ?_
      refine wp_p (pc' := 18) (lv' := [(4, .int 1), (0, .ref 1), (1, .int (nI f)), (2, .int (nI e)), (3, .float 15)]) (st' := [.float 15, .int 1]) rfl rfl ?_
      refine wp_cvR (As := [.float 15]) (r := [.int 1]) (v := (some (.int 5))) (g := (c0 :: .inl (2, .inl tx) :: t)) (st2 := [.int 5, .int 1]) (pc' := 21) rfl rfl rfl rfl ⟨40, sl_7 _⟩ (by omega) ?_
      refine wp_p (pc' := 24) (lv' := [(4, .int 1), (0, .ref 1), (1, .int (nI f)), (2, .int (nI e)), (3, .float 15)]) (st' := []) rfl rfl ?_
      refine wp_p (pc' := 25) (lv' := [(4, .int 1), (0, .ref 1), (1, .int (nI f)), (2, .int (nI e)), (3, .float 15)]) (st' := [.ref 1]) rfl rfl ?_
      refine wp_p (pc' := 26) (lv' := [(4, .int 1), (0, .ref 1), (1, .int (nI f)), (2, .int (nI e)), (3, .float 15)]) (st' := [.int (nI f), .ref 1]) rfl rfl ?_
      refine wp_p (pc' := 28) (lv' := [(4, .int 1), (0, .ref 1), (1, .int (nI f)), (2, .int (nI e)), (3, .float 15)]) (st' := [.int 1, .int (nI f), .ref 1]) rfl rfl ?_
      refine wp_iadd (v := nI (f + 1)) (pc' := 29) rfl (nI_add f 1) rfl ?_
      refine wp_caload (q := 1) (n := f + 1) (g := tx) (x := nI (cl.getD (f + 1) 0)) (pc' := 30) rfl rfl (by first | omega | exact Nat.lt_trans (hlt _) (by decide)) (by first | omega | exact Nat.lt_trans (hlt _) (by decide)) (htx _ (by omega)) rfl ?_
      refine wp_p (pc' := 31) (lv' := [(4, .int 1), (0, .ref 1), (1, .int (nI f)), (2, .int (nI e)), (3, .float 15)]) (st' := [.float 15, .int (nI (cl.getD (f + 1) 0))]) rfl rfl ?_
      refine wp_p (pc' := 33) (lv' := [(4, .int 1), (0, .ref 1), (1, .int (nI f)), (2, .int (nI e)), (3, .float 15)]) (st' := [.int 1, .float 15, .int (nI (cl.getD (f + 1) 0))]) rfl rfl ?_
      refine wp_cvR (As := [.float 15, .int 1]) (r := [.int (nI (cl.getD (f + 1) 0))]) (v := (some (.int 104))) (g := (c0 :: .inl (2, .inl tx) :: t)) (st2 := [.int 104, .int (nI (cl.getD (f + 1) 0))]) (pc' := 36) rfl rfl rfl rfl ⟨80, sc_7_1 _⟩ (by omega) ?_
      refine wn_ic_eq (n := cl.getD (f + 1) 0) (m := 104) (pc' := 39) rfl (by first | omega | exact Nat.lt_trans (hlt _) (by decide)) (by first | omega | exact Nat.lt_trans (hlt _) (by decide)) rfl (fun hc3 => ?_) (fun hc3 => ?_)
      · refine wp_iinc (v := 2) (lv' := [(4, .int 2), (0, .ref 1), (1, .int (nI f)), (2, .int (nI e)), (3, .float 15)]) (pc' := 44) rfl rfl (by decide) rfl rfl rfl ?_
        refine wp_p (pc' := 15) (lv' := [(4, .int 2), (0, .ref 1), (1, .int (nI f)), (2, .int (nI e)), (3, .float 15)]) (st' := []) rfl rfl ?_
        refine wp_p (pc' := 17) (lv' := [(4, .int 2), (0, .ref 1), (1, .int (nI f)), (2, .int (nI e)), (3, .float 15)]) (st' := [.int 2]) rfl rfl ?_
        refine wp_p (pc' := 18) (lv' := [(4, .int 2), (0, .ref 1), (1, .int (nI f)), (2, .int (nI e)), (3, .float 15)]) (st' := [.float 15, .int 2]) rfl rfl ?_
        refine wp_cvR (As := [.float 15]) (r := [.int 2]) (v := (some (.int 5))) (g := (c0 :: .inl (2, .inl tx) :: t)) (st2 := [.int 5, .int 2]) (pc' := 21) rfl rfl rfl rfl ⟨40, sl_7 _⟩ (by omega) ?_
        refine wp_p (pc' := 24) (lv' := [(4, .int 2), (0, .ref 1), (1, .int (nI f)), (2, .int (nI e)), (3, .float 15)]) (st' := []) rfl rfl ?_
        refine wp_p (pc' := 25) (lv' := [(4, .int 2), (0, .ref 1), (1, .int (nI f)), (2, .int (nI e)), (3, .float 15)]) (st' := [.ref 1]) rfl rfl ?_
        refine wp_p (pc' := 26) (lv' := [(4, .int 2), (0, .ref 1), (1, .int (nI f)), (2, .int (nI e)), (3, .float 15)]) (st' := [.int (nI f), .ref 1]) rfl rfl ?_
        refine wp_p (pc' := 28) (lv' := [(4, .int 2), (0, .ref 1), (1, .int (nI f)), (2, .int (nI e)), (3, .float 15)]) (st' := [.int 2, .int (nI f), .ref 1]) rfl rfl ?_
        refine wp_iadd (v := nI (f + 2)) (pc' := 29) rfl (nI_add f 2) rfl ?_
        refine wp_caload (q := 1) (n := f + 2) (g := tx) (x := nI (cl.getD (f + 2) 0)) (pc' := 30) rfl rfl (by first | omega | exact Nat.lt_trans (hlt _) (by decide)) (by first | omega | exact Nat.lt_trans (hlt _) (by decide)) (htx _ (by omega)) rfl ?_
        refine wp_p (pc' := 31) (lv' := [(4, .int 2), (0, .ref 1), (1, .int (nI f)), (2, .int (nI e)), (3, .float 15)]) (st' := [.float 15, .int (nI (cl.getD (f + 2) 0))]) rfl rfl ?_
        refine wp_p (pc' := 33) (lv' := [(4, .int 2), (0, .ref 1), (1, .int (nI f)), (2, .int (nI e)), (3, .float 15)]) (st' := [.int 2, .float 15, .int (nI (cl.getD (f + 2) 0))]) rfl rfl ?_
        refine wp_cvR (As := [.float 15, .int 2]) (r := [.int (nI (cl.getD (f + 2) 0))]) (v := (some (.int 101))) (g := (c0 :: .inl (2, .inl tx) :: t)) (st2 := [.int 101, .int (nI (cl.getD (f + 2) 0))]) (pc' := 36) rfl rfl rfl rfl ⟨80, sc_7_2 _⟩ (by omega) ?_
        refine wn_ic_eq (n := cl.getD (f + 2) 0) (m := 101) (pc' := 39) rfl (by first | omega | exact Nat.lt_trans (hlt _) (by decide)) (by first | omega | exact Nat.lt_trans (hlt _) (by decide)) rfl (fun hc4 => ?_) (fun hc4 => ?_)
        · refine wp_iinc (v := 3) (lv' := [(4, .int 3), (0, .ref 1), (1, .int (nI f)), (2, .int (nI e)), (3, .float 15)]) (pc' := 44) rfl rfl (by decide) rfl rfl rfl ?_
          refine wp_p (pc' := 15) (lv' := [(4, .int 3), (0, .ref 1), (1, .int (nI f)), (2, .int (nI e)), (3, .float 15)]) (st' := []) rfl rfl ?_
          refine wp_p (pc' := 17) (lv' := [(4, .int 3), (0, .ref 1), (1, .int (nI f)), (2, .int (nI e)), (3, .float 15)]) (st' := [.int 3]) rfl rfl ?_
          refine wp_p (pc' := 18) (lv' := [(4, .int 3), (0, .ref 1), (1, .int (nI f)), (2, .int (nI e)), (3, .float 15)]) (st' := [.float 15, .int 3]) rfl rfl ?_
          refine wp_cvR (As := [.float 15]) (r := [.int 3]) (v := (some (.int 5))) (g := (c0 :: .inl (2, .inl tx) :: t)) (st2 := [.int 5, .int 3]) (pc' := 21) rfl rfl rfl rfl ⟨40, sl_7 _⟩ (by omega) ?_
          refine wp_p (pc' := 24) (lv' := [(4, .int 3), (0, .ref 1), (1, .int (nI f)), (2, .int (nI e)), (3, .float 15)]) (st' := []) rfl rfl ?_
          refine wp_p (pc' := 25) (lv' := [(4, .int 3), (0, .ref 1), (1, .int (nI f)), (2, .int (nI e)), (3, .float 15)]) (st' := [.ref 1]) rfl rfl ?_
          refine wp_p (pc' := 26) (lv' := [(4, .int 3), (0, .ref 1), (1, .int (nI f)), (2, .int (nI e)), (3, .float 15)]) (st' := [.int (nI f), .ref 1]) rfl rfl ?_
          refine wp_p (pc' := 28) (lv' := [(4, .int 3), (0, .ref 1), (1, .int (nI f)), (2, .int (nI e)), (3, .float 15)]) (st' := [.int 3, .int (nI f), .ref 1]) rfl rfl ?_
          refine wp_iadd (v := nI (f + 3)) (pc' := 29) rfl (nI_add f 3) rfl ?_
          refine wp_caload (q := 1) (n := f + 3) (g := tx) (x := nI (cl.getD (f + 3) 0)) (pc' := 30) rfl rfl (by first | omega | exact Nat.lt_trans (hlt _) (by decide)) (by first | omega | exact Nat.lt_trans (hlt _) (by decide)) (htx _ (by omega)) rfl ?_
          refine wp_p (pc' := 31) (lv' := [(4, .int 3), (0, .ref 1), (1, .int (nI f)), (2, .int (nI e)), (3, .float 15)]) (st' := [.float 15, .int (nI (cl.getD (f + 3) 0))]) rfl rfl ?_
          refine wp_p (pc' := 33) (lv' := [(4, .int 3), (0, .ref 1), (1, .int (nI f)), (2, .int (nI e)), (3, .float 15)]) (st' := [.int 3, .float 15, .int (nI (cl.getD (f + 3) 0))]) rfl rfl ?_
          refine wp_cvR (As := [.float 15, .int 3]) (r := [.int (nI (cl.getD (f + 3) 0))]) (v := (some (.int 114))) (g := (c0 :: .inl (2, .inl tx) :: t)) (st2 := [.int 114, .int (nI (cl.getD (f + 3) 0))]) (pc' := 36) rfl rfl rfl rfl ⟨80, sc_7_3 _⟩ (by omega) ?_
          refine wn_ic_eq (n := cl.getD (f + 3) 0) (m := 114) (pc' := 39) rfl (by first | omega | exact Nat.lt_trans (hlt _) (by decide)) (by first | omega | exact Nat.lt_trans (hlt _) (by decide)) rfl (fun hc5 => ?_) (fun hc5 => ?_)
          · refine wp_iinc (v := 4) (lv' := [(4, .int 4), (0, .ref 1), (1, .int (nI f)), (2, .int (nI e)), (3, .float 15)]) (pc' := 44) rfl rfl (by decide) rfl rfl rfl ?_
            refine wp_p (pc' := 15) (lv' := [(4, .int 4), (0, .ref 1), (1, .int (nI f)), (2, .int (nI e)), (3, .float 15)]) (st' := []) rfl rfl ?_
            refine wp_p (pc' := 17) (lv' := [(4, .int 4), (0, .ref 1), (1, .int (nI f)), (2, .int (nI e)), (3, .float 15)]) (st' := [.int 4]) rfl rfl ?_
            refine wp_p (pc' := 18) (lv' := [(4, .int 4), (0, .ref 1), (1, .int (nI f)), (2, .int (nI e)), (3, .float 15)]) (st' := [.float 15, .int 4]) rfl rfl ?_
            refine wp_cvR (As := [.float 15]) (r := [.int 4]) (v := (some (.int 5))) (g := (c0 :: .inl (2, .inl tx) :: t)) (st2 := [.int 5, .int 4]) (pc' := 21) rfl rfl rfl rfl ⟨40, sl_7 _⟩ (by omega) ?_
            refine wp_p (pc' := 24) (lv' := [(4, .int 4), (0, .ref 1), (1, .int (nI f)), (2, .int (nI e)), (3, .float 15)]) (st' := []) rfl rfl ?_
            refine wp_p (pc' := 25) (lv' := [(4, .int 4), (0, .ref 1), (1, .int (nI f)), (2, .int (nI e)), (3, .float 15)]) (st' := [.ref 1]) rfl rfl ?_
            refine wp_p (pc' := 26) (lv' := [(4, .int 4), (0, .ref 1), (1, .int (nI f)), (2, .int (nI e)), (3, .float 15)]) (st' := [.int (nI f), .ref 1]) rfl rfl ?_
            refine wp_p (pc' := 28) (lv' := [(4, .int 4), (0, .ref 1), (1, .int (nI f)), (2, .int (nI e)), (3, .float 15)]) (st' := [.int 4, .int (nI f), .ref 1]) rfl rfl ?_
            refine wp_iadd (v := nI (f + 4)) (pc' := 29) rfl (nI_add f 4) rfl ?_
            refine wp_caload (q := 1) (n := f + 4) (g := tx) (x := nI (cl.getD (f + 4) 0)) (pc' := 30) rfl rfl (by first | omega | exact Nat.lt_trans (hlt _) (by decide)) (by first | omega | exact Nat.lt_trans (hlt _) (by decide)) (htx _ (by omega)) rfl ?_
            refine wp_p (pc' := 31) (lv' := [(4, .int 4), (0, .ref 1), (1, .int (nI f)), (2, .int (nI e)), (3, .float 15)]) (st' := [.float 15, .int (nI (cl.getD (f + 4) 0))]) rfl rfl ?_
            refine wp_p (pc' := 33) (lv' := [(4, .int 4), (0, .ref 1), (1, .int (nI f)), (2, .int (nI e)), (3, .float 15)]) (st' := [.int 4, .float 15, .int (nI (cl.getD (f + 4) 0))]) rfl rfl ?_
            refine wp_cvR (As := [.float 15, .int 4]) (r := [.int (nI (cl.getD (f + 4) 0))]) (v := (some (.int 101))) (g := (c0 :: .inl (2, .inl tx) :: t)) (st2 := [.int 101, .int (nI (cl.getD (f + 4) 0))]) (pc' := 36) rfl rfl rfl rfl ⟨80, sc_7_4 _⟩ (by omega) ?_
            refine wn_ic_eq (n := cl.getD (f + 4) 0) (m := 101) (pc' := 39) rfl (by first | omega | exact Nat.lt_trans (hlt _) (by decide)) (by first | omega | exact Nat.lt_trans (hlt _) (by decide)) rfl (fun hc6 => ?_) (fun hc6 => ?_)
            · refine wp_iinc (v := 5) (lv' := [(4, .int 5), (0, .ref 1), (1, .int (nI f)), (2, .int (nI e)), (3, .float 15)]) (pc' := 44) rfl rfl (by decide) rfl rfl rfl ?_
              refine wp_p (pc' := 15) (lv' := [(4, .int 5), (0, .ref 1), (1, .int (nI f)), (2, .int (nI e)), (3, .float 15)]) (st' := []) rfl rfl ?_
              refine wp_p (pc' := 17) (lv' := [(4, .int 5), (0, .ref 1), (1, .int (nI f)), (2, .int (nI e)), (3, .float 15)]) (st' := [.int 5]) rfl rfl ?_
              refine wp_p (pc' := 18) (lv' := [(4, .int 5), (0, .ref 1), (1, .int (nI f)), (2, .int (nI e)), (3, .float 15)]) (st' := [.float 15, .int 5]) rfl rfl ?_
              refine wp_cvR (As := [.float 15]) (r := [.int 5]) (v := (some (.int 5))) (g := (c0 :: .inl (2, .inl tx) :: t)) (st2 := [.int 5, .int 5]) (pc' := 21) rfl rfl rfl rfl ⟨40, sl_7 _⟩ (by omega) ?_
              refine wp_p (pc' := 47) (lv' := [(4, .int 5), (0, .ref 1), (1, .int (nI f)), (2, .int (nI e)), (3, .float 15)]) (st' := []) rfl rfl ?_
              refine wp_p (pc' := 48) (lv' := [(4, .int 5), (0, .ref 1), (1, .int (nI f)), (2, .int (nI e)), (3, .float 15)]) (st' := [.int 1]) rfl rfl ?_
              exact wp_r rfl rfl ⟨by rw [if_pos ((spw_7 cl f e hf he).mp ⟨by omega, by omega, by omega, by omega, by omega, by omega⟩)], rfl⟩
            · refine wp_p (pc' := 40) (lv' := [(4, .int 4), (0, .ref 1), (1, .int (nI f)), (2, .int (nI e)), (3, .float 15)]) (st' := [.int 0]) rfl rfl ?_
              exact wp_r rfl rfl ⟨by rw [if_neg (fun q => by have q := (spw_7 cl f e hf he).mpr q; omega)], rfl⟩
          · refine wp_p (pc' := 40) (lv' := [(4, .int 3), (0, .ref 1), (1, .int (nI f)), (2, .int (nI e)), (3, .float 15)]) (st' := [.int 0]) rfl rfl ?_
            exact wp_r rfl rfl ⟨by rw [if_neg (fun q => by have q := (spw_7 cl f e hf he).mpr q; omega)], rfl⟩
        · refine wp_p (pc' := 40) (lv' := [(4, .int 2), (0, .ref 1), (1, .int (nI f)), (2, .int (nI e)), (3, .float 15)]) (st' := [.int 0]) rfl rfl ?_
          exact wp_r rfl rfl ⟨by rw [if_neg (fun q => by have q := (spw_7 cl f e hf he).mpr q; omega)], rfl⟩
      · refine wp_p (pc' := 40) (lv' := [(4, .int 1), (0, .ref 1), (1, .int (nI f)), (2, .int (nI e)), (3, .float 15)]) (st' := [.int 0]) rfl rfl ?_
        exact wp_r rfl rfl ⟨by rw [if_neg (fun q => by have q := (spw_7 cl f e hf he).mpr q; omega)], rfl⟩
    · refine wp_p (pc' := 40) (lv' := [(4, .int 0), (0, .ref 1), (1, .int (nI f)), (2, .int (nI e)), (3, .float 15)]) (st' := [.int 0]) rfl rfl ?_
      exact wp_r rfl rfl ⟨by rw [if_neg (fun q => by have q := (spw_7 cl f e hf he).mpr q; omega)], rfl⟩
  · refine wp_p (pc' := 11) (lv' := [(0, .ref 1), (1, .int (nI f)), (2, .int (nI e)), (3, .float 15)]) (st' := [.int 0]) rfl rfl ?_
    exact wp_r rfl rfl ⟨by rw [if_neg (fun q => by have q := (spw_7 cl f e hf he).mpr q; omega)], rfl⟩
theorem spw_8 (cl : List Nat) (f e : Nat) (hf : f ≤ e) (he : e ≤ cl.length) : (e - f = 5 ∧ cl.getD (f + 0) 0 = 111 ∧ cl.getD (f + 1) 0 = 114 ∧ cl.getD (f + 2) 0 = 100 ∧ cl.getD (f + 3) 0 = 101 ∧ cl.getD (f + 4) 0 = 114) ↔ (cl.drop f).take (e - f) = [111, 114, 100, 101, 114] := by
  constructor
  · intro q
    have e1 : e - f = 5 := q.1
    rw [e1]
    refine (sp_iff [111, 114, 100, 101, 114] cl f (by show f + 5 ≤ _; omega)).mpr (fun j hj => ?_)
    have hj : j < 5 := hj
    rcases (show j = 0 ∨ j = 1 ∨ j = 2 ∨ j = 3 ∨ j = 4 by omega) with rfl | rfl | rfl | rfl | rfl
    · exact q.2.1
    · exact q.2.2.1
    · exact q.2.2.2.1
    · exact q.2.2.2.2.1
    · exact q.2.2.2.2.2
  · intro q
    have e1 : e - f = 5 := sp_len he hf q
    rw [e1] at q
    have q2 := (sp_iff [111, 114, 100, 101, 114] cl f (by show f + 5 ≤ _; omega)).mp q
    exact ⟨e1, q2 0 (by decide), q2 1 (by decide), q2 2 (by decide), q2 3 (by decide), q2 4 (by decide)⟩
set_option maxRecDepth 20000 in
theorem c_spells_8 (c0 : sm_E) (t : sm_H) (tx : List Int32) (cl : List Nat) (f e : Nat) (hlt : ∀ i, cl.getD i 0 < 65536) (h1 : tx.length = 80) (hcl : cl.length ≤ 80) (htx : ∀ i, i < cl.length → tx.getD i 0 = nI (cl.getD i 0)) (hf : f ≤ e) (he : e ≤ cl.length) : sm_run none 10 82 0 (lv_args 0 [.ref 1, .int (nI f), .int (nI e), .float 17]) [] (c0 :: .inl (2, .inl tx) :: t) ((some (.int (if (cl.drop f).take (e - f) = [111, 114, 100, 101, 114] then 1 else 0))), (c0 :: .inl (2, .inl tx) :: t)) := by
  refine wp_to ?_
  refine wp_p (pc' := 1) (lv' := [(0, .ref 1), (1, .int (nI f)), (2, .int (nI e)), (3, .float 17)]) (st' := [.int (nI e)]) rfl rfl ?_
  refine wp_p (pc' := 2) (lv' := [(0, .ref 1), (1, .int (nI f)), (2, .int (nI e)), (3, .float 17)]) (st' := [.int (nI f), .int (nI e)]) rfl rfl ?_
  refine wp_isub (v := nI (e - f)) (pc' := 3) rfl (pk_sub (a := e) (b := f) (by omega)) rfl ?_
  refine wp_p (pc' := 4) (lv' := [(0, .ref 1), (1, .int (nI f)), (2, .int (nI e)), (3, .float 17)]) (st' := [.float 17, .int (nI (e - f))]) rfl rfl ?_
  refine wp_cvR (As := [.float 17]) (r := [.int (nI (e - f))]) (v := (some (.int 5))) (g := (c0 :: .inl (2, .inl tx) :: t)) (st2 := [.int 5, .int (nI (e - f))]) (pc' := 7) rfl rfl rfl rfl ⟨40, sl_8 _⟩ (by omega) ?_
  refine wn_ic_eq (n := e - f) (m := 5) (pc' := 10) rfl (by first | omega | exact Nat.lt_trans (hlt _) (by decide)) (by first | omega | exact Nat.lt_trans (hlt _) (by decide)) rfl (fun hc1 => ?_) (fun hc1 => ?_)
  · refine wp_p (pc' := 13) (lv' := [(0, .ref 1), (1, .int (nI f)), (2, .int (nI e)), (3, .float 17)]) (st' := [.int 0]) rfl rfl ?_
    refine wp_p (pc' := 15) (lv' := [(4, .int 0), (0, .ref 1), (1, .int (nI f)), (2, .int (nI e)), (3, .float 17)]) (st' := []) rfl rfl ?_
    refine wp_p (pc' := 17) (lv' := [(4, .int 0), (0, .ref 1), (1, .int (nI f)), (2, .int (nI e)), (3, .float 17)]) (st' := [.int 0]) rfl rfl ?_
    refine wp_p (pc' := 18) (lv' := [(4, .int 0), (0, .ref 1), (1, .int (nI f)), (2, .int (nI e)), (3, .float 17)]) (st' := [.float 17, .int 0]) rfl rfl ?_
    refine wp_cvR (As := [.float 17]) (r := [.int 0]) (v := (some (.int 5))) (g := (c0 :: .inl (2, .inl tx) :: t)) (st2 := [.int 5, .int 0]) (pc' := 21) rfl rfl rfl rfl ⟨40, sl_8 _⟩ (by omega) ?_
    refine wp_p (pc' := 24) (lv' := [(4, .int 0), (0, .ref 1), (1, .int (nI f)), (2, .int (nI e)), (3, .float 17)]) (st' := []) rfl rfl ?_
    refine wp_p (pc' := 25) (lv' := [(4, .int 0), (0, .ref 1), (1, .int (nI f)), (2, .int (nI e)), (3, .float 17)]) (st' := [.ref 1]) rfl rfl ?_
    refine wp_p (pc' := 26) (lv' := [(4, .int 0), (0, .ref 1), (1, .int (nI f)), (2, .int (nI e)), (3, .float 17)]) (st' := [.int (nI f), .ref 1]) rfl rfl ?_
    refine wp_p (pc' := 28) (lv' := [(4, .int 0), (0, .ref 1), (1, .int (nI f)), (2, .int (nI e)), (3, .float 17)]) (st' := [.int 0, .int (nI f), .ref 1]) rfl rfl ?_
    refine wp_iadd (v := nI (f + 0)) (pc' := 29) rfl (nI_add f 0) rfl ?_
    refine wp_caload (q := 1) (n := f + 0) (g := tx) (x := nI (cl.getD (f + 0) 0)) (pc' := 30) rfl rfl (by first | omega | exact Nat.lt_trans (hlt _) (by decide)) (by first | omega | exact Nat.lt_trans (hlt _) (by decide)) (htx _ (by omega)) rfl ?_
    refine wp_p (pc' := 31) (lv' := [(4, .int 0), (0, .ref 1), (1, .int (nI f)), (2, .int (nI e)), (3, .float 17)]) (st' := [.float 17, .int (nI (cl.getD (f + 0) 0))]) rfl rfl ?_
    refine wp_p (pc' := 33) (lv' := [(4, .int 0), (0, .ref 1), (1, .int (nI f)), (2, .int (nI e)), (3, .float 17)]) (st' := [.int 0, .float 17, .int (nI (cl.getD (f + 0) 0))]) rfl rfl ?_
    refine wp_cvR (As := [.float 17, .int 0]) (r := [.int (nI (cl.getD (f + 0) 0))]) (v := (some (.int 111))) (g := (c0 :: .inl (2, .inl tx) :: t)) (st2 := [.int 111, .int (nI (cl.getD (f + 0) 0))]) (pc' := 36) rfl rfl rfl rfl ⟨80, sc_8_0 _⟩ (by omega) ?_
    refine wn_ic_eq (n := cl.getD (f + 0) 0) (m := 111) (pc' := 39) rfl (by first | omega | exact Nat.lt_trans (hlt _) (by decide)) (by first | omega | exact Nat.lt_trans (hlt _) (by decide)) rfl (fun hc2 => ?_) (fun hc2 => ?_)
    · refine wp_iinc (v := 1) (lv' := [(4, .int 1), (0, .ref 1), (1, .int (nI f)), (2, .int (nI e)), (3, .float 17)]) (pc' := 44) rfl rfl (by decide) rfl rfl rfl ?_
      refine wp_p (pc' := 15) (lv' := [(4, .int 1), (0, .ref 1), (1, .int (nI f)), (2, .int (nI e)), (3, .float 17)]) (st' := []) rfl rfl ?_
      refine wp_p (pc' := 17) (lv' := [(4, .int 1), (0, .ref 1), (1, .int (nI f)), (2, .int (nI e)), (3, .float 17)]) (st' := [.int 1]) rfl rfl ?_
      refine wp_p (pc' := 18) (lv' := [(4, .int 1), (0, .ref 1), (1, .int (nI f)), (2, .int (nI e)), (3, .float 17)]) (st' := [.float 17, .int 1]) rfl rfl ?_
      refine wp_cvR (As := [.float 17]) (r := [.int 1]) (v := (some (.int 5))) (g := (c0 :: .inl (2, .inl tx) :: t)) (st2 := [.int 5, .int 1]) (pc' := 21) rfl rfl rfl rfl ⟨40, sl_8 _⟩ (by omega) ?_
      refine wp_p (pc' := 24) (lv' := [(4, .int 1), (0, .ref 1), (1, .int (nI f)), (2, .int (nI e)), (3, .float 17)]) (st' := []) rfl rfl ?_
      refine wp_p (pc' := 25) (lv' := [(4, .int 1), (0, .ref 1), (1, .int (nI f)), (2, .int (nI e)), (3, .float 17)]) (st' := [.ref 1]) rfl rfl ?_
      refine wp_p (pc' := 26) (lv' := [(4, .int 1), (0, .ref 1), (1, .int (nI f)), (2, .int (nI e)), (3, .float 17)]) (st' := [.int (nI f), .ref 1]) rfl rfl ?_
      refine wp_p (pc' := 28) (lv' := [(4, .int 1), (0, .ref 1), (1, .int (nI f)), (2, .int (nI e)), (3, .float 17)]) (st' := [.int 1, .int (nI f), .ref 1]) rfl rfl ?_
      refine wp_iadd (v := nI (f + 1)) (pc' := 29) rfl (nI_add f 1) rfl ?_
      refine wp_caload (q := 1) (n := f + 1) (g := tx) (x := nI (cl.getD (f + 1) 0)) (pc' := 30) rfl rfl (by first | omega | exact Nat.lt_trans (hlt _) (by decide)) (by first | omega | exact Nat.lt_trans (hlt _) (by decide)) (htx _ (by omega)) rfl ?_
      refine wp_p (pc' := 31) (lv' := [(4, .int 1), (0, .ref 1), (1, .int (nI f)), (2, .int (nI e)), (3, .float 17)]) (st' := [.float 17, .int (nI (cl.getD (f + 1) 0))]) rfl rfl ?_
      refine wp_p (pc' := 33) (lv' := [(4, .int 1), (0, .ref 1), (1, .int (nI f)), (2, .int (nI e)), (3, .float 17)]) (st' := [.int 1, .float 17, .int (nI (cl.getD (f + 1) 0))]) rfl rfl ?_
      refine wp_cvR (As := [.float 17, .int 1]) (r := [.int (nI (cl.getD (f + 1) 0))]) (v := (some (.int 114))) (g := (c0 :: .inl (2, .inl tx) :: t)) (st2 := [.int 114, .int (nI (cl.getD (f + 1) 0))]) (pc' := 36) rfl rfl rfl rfl ⟨80, sc_8_1 _⟩ (by omega) ?_
      refine wn_ic_eq (n := cl.getD (f + 1) 0) (m := 114) (pc' := 39) rfl (by first | omega | exact Nat.lt_trans (hlt _) (by decide)) (by first | omega | exact Nat.lt_trans (hlt _) (by decide)) rfl (fun hc3 => ?_) (fun hc3 => ?_)
      · refine wp_iinc (v := 2) (lv' := [(4, .int 2), (0, .ref 1), (1, .int (nI f)), (2, .int (nI e)), (3, .float 17)]) (pc' := 44) rfl rfl (by decide) rfl rfl rfl ?_
        refine wp_p (pc' := 15) (lv' := [(4, .int 2), (0, .ref 1), (1, .int (nI f)), (2, .int (nI e)), (3, .float 17)]) (st' := []) rfl rfl ?_
        refine wp_p (pc' := 17) (lv' := [(4, .int 2), (0, .ref 1), (1, .int (nI f)), (2, .int (nI e)), (3, .float 17)]) (st' := [.int 2]) rfl rfl ?_
        refine wp_p (pc' := 18) (lv' := [(4, .int 2), (0, .ref 1), (1, .int (nI f)), (2, .int (nI e)), (3, .float 17)]) (st' := [.float 17, .int 2]) rfl rfl ?_
        refine wp_cvR (As := [.float 17]) (r := [.int 2]) (v := (some (.int 5))) (g := (c0 :: .inl (2, .inl tx) :: t)) (st2 := [.int 5, .int 2]) (pc' := 21) rfl rfl rfl rfl ⟨40, sl_8 _⟩ (by omega) ?_
        refine wp_p (pc' := 24) (lv' := [(4, .int 2), (0, .ref 1), (1, .int (nI f)), (2, .int (nI e)), (3, .float 17)]) (st' := []) rfl rfl ?_
        refine wp_p (pc' := 25) (lv' := [(4, .int 2), (0, .ref 1), (1, .int (nI f)), (2, .int (nI e)), (3, .float 17)]) (st' := [.ref 1]) rfl rfl ?_
        refine wp_p (pc' := 26) (lv' := [(4, .int 2), (0, .ref 1), (1, .int (nI f)), (2, .int (nI e)), (3, .float 17)]) (st' := [.int (nI f), .ref 1]) rfl rfl ?_
        refine wp_p (pc' := 28) (lv' := [(4, .int 2), (0, .ref 1), (1, .int (nI f)), (2, .int (nI e)), (3, .float 17)]) (st' := [.int 2, .int (nI f), .ref 1]) rfl rfl ?_
        refine wp_iadd (v := nI (f + 2)) (pc' := 29) rfl (nI_add f 2) rfl ?_
        refine wp_caload (q := 1) (n := f + 2) (g := tx) (x := nI (cl.getD (f + 2) 0)) (pc' := 30) rfl rfl (by first | omega | exact Nat.lt_trans (hlt _) (by decide)) (by first | omega | exact Nat.lt_trans (hlt _) (by decide)) (htx _ (by omega)) rfl ?_
        refine wp_p (pc' := 31) (lv' := [(4, .int 2), (0, .ref 1), (1, .int (nI f)), (2, .int (nI e)), (3, .float 17)]) (st' := [.float 17, .int (nI (cl.getD (f + 2) 0))]) rfl rfl ?_
        refine wp_p (pc' := 33) (lv' := [(4, .int 2), (0, .ref 1), (1, .int (nI f)), (2, .int (nI e)), (3, .float 17)]) (st' := [.int 2, .float 17, .int (nI (cl.getD (f + 2) 0))]) rfl rfl ?_
        refine wp_cvR (As := [.float 17, .int 2]) (r := [.int (nI (cl.getD (f + 2) 0))]) (v := (some (.int 100))) (g := (c0 :: .inl (2, .inl tx) :: t)) (st2 := [.int 100, .int (nI (cl.getD (f + 2) 0))]) (pc' := 36) rfl rfl rfl rfl ⟨80, sc_8_2 _⟩ (by omega) ?_
        refine wn_ic_eq (n := cl.getD (f + 2) 0) (m := 100) (pc' := 39) rfl (by first | omega | exact Nat.lt_trans (hlt _) (by decide)) (by first | omega | exact Nat.lt_trans (hlt _) (by decide)) rfl (fun hc4 => ?_) (fun hc4 => ?_)
        · refine wp_iinc (v := 3) (lv' := [(4, .int 3), (0, .ref 1), (1, .int (nI f)), (2, .int (nI e)), (3, .float 17)]) (pc' := 44) rfl rfl (by decide) rfl rfl rfl ?_
          refine wp_p (pc' := 15) (lv' := [(4, .int 3), (0, .ref 1), (1, .int (nI f)), (2, .int (nI e)), (3, .float 17)]) (st' := []) rfl rfl ?_
          refine wp_p (pc' := 17) (lv' := [(4, .int 3), (0, .ref 1), (1, .int (nI f)), (2, .int (nI e)), (3, .float 17)]) (st' := [.int 3]) rfl rfl ?_
          refine wp_p (pc' := 18) (lv' := [(4, .int 3), (0, .ref 1), (1, .int (nI f)), (2, .int (nI e)), (3, .float 17)]) (st' := [.float 17, .int 3]) rfl rfl ?_
          refine wp_cvR (As := [.float 17]) (r := [.int 3]) (v := (some (.int 5))) (g := (c0 :: .inl (2, .inl tx) :: t)) (st2 := [.int 5, .int 3]) (pc' := 21) rfl rfl rfl rfl ⟨40, sl_8 _⟩ (by omega) ?_
          refine wp_p (pc' := 24) (lv' := [(4, .int 3), (0, .ref 1), (1, .int (nI f)), (2, .int (nI e)), (3, .float 17)]) (st' := []) rfl rfl ?_
          refine wp_p (pc' := 25) (lv' := [(4, .int 3), (0, .ref 1), (1, .int (nI f)), (2, .int (nI e)), (3, .float 17)]) (st' := [.ref 1]) rfl rfl ?_
          refine wp_p (pc' := 26) (lv' := [(4, .int 3), (0, .ref 1), (1, .int (nI f)), (2, .int (nI e)), (3, .float 17)]) (st' := [.int (nI f), .ref 1]) rfl rfl ?_
          refine wp_p (pc' := 28) (lv' := [(4, .int 3), (0, .ref 1), (1, .int (nI f)), (2, .int (nI e)), (3, .float 17)]) (st' := [.int 3, .int (nI f), .ref 1]) rfl rfl ?_
          refine wp_iadd (v := nI (f + 3)) (pc' := 29) rfl (nI_add f 3) rfl ?_
          refine wp_caload (q := 1) (n := f + 3) (g := tx) (x := nI (cl.getD (f + 3) 0)) (pc' := 30) rfl rfl (by first | omega | exact Nat.lt_trans (hlt _) (by decide)) (by first | omega | exact Nat.lt_trans (hlt _) (by decide)) (htx _ (by omega)) rfl ?_
          refine wp_p (pc' := 31) (lv' := [(4, .int 3), (0, .ref 1), (1, .int (nI f)), (2, .int (nI e)), (3, .float 17)]) (st' := [.float 17, .int (nI (cl.getD (f + 3) 0))]) rfl rfl ?_
          refine wp_p (pc' := 33) (lv' := [(4, .int 3), (0, .ref 1), (1, .int (nI f)), (2, .int (nI e)), (3, .float 17)]) (st' := [.int 3, .float 17, .int (nI (cl.getD (f + 3) 0))]) rfl rfl ?_
          refine wp_cvR (As := [.float 17, .int 3]) (r := [.int (nI (cl.getD (f + 3) 0))]) (v := (some (.int 101))) (g := (c0 :: .inl (2, .inl tx) :: t)) (st2 := [.int 101, .int (nI (cl.getD (f + 3) 0))]) (pc' := 36) rfl rfl rfl rfl ⟨80, sc_8_3 _⟩ (by omega) ?_
          refine wn_ic_eq (n := cl.getD (f + 3) 0) (m := 101) (pc' := 39) rfl (by first | omega | exact Nat.lt_trans (hlt _) (by decide)) (by first | omega | exact Nat.lt_trans (hlt _) (by decide)) rfl (fun hc5 => ?_) (fun hc5 => ?_)
          · refine wp_iinc (v := 4) (lv' := [(4, .int 4), (0, .ref 1), (1, .int (nI f)), (2, .int (nI e)), (3, .float 17)]) (pc' := 44) rfl rfl (by decide) rfl rfl rfl ?_
            refine wp_p (pc' := 15) (lv' := [(4, .int 4), (0, .ref 1), (1, .int (nI f)), (2, .int (nI e)), (3, .float 17)]) (st' := []) rfl rfl ?_
            refine wp_p (pc' := 17) (lv' := [(4, .int 4), (0, .ref 1), (1, .int (nI f)), (2, .int (nI e)), (3, .float 17)]) (st' := [.int 4]) rfl rfl ?_
            refine wp_p (pc' := 18) (lv' := [(4, .int 4), (0, .ref 1), (1, .int (nI f)), (2, .int (nI e)), (3, .float 17)]) (st' := [.float 17, .int 4]) rfl rfl ?_
            refine wp_cvR (As := [.float 17]) (r := [.int 4]) (v := (some (.int 5))) (g := (c0 :: .inl (2, .inl tx) :: t)) (st2 := [.int 5, .int 4]) (pc' := 21) rfl rfl rfl rfl ⟨40, sl_8 _⟩ (by omega) ?_
            refine wp_p (pc' := 24) (lv' := [(4, .int 4), (0, .ref 1), (1, .int (nI f)), (2, .int (nI e)), (3, .float 17)]) (st' := []) rfl rfl ?_
            refine wp_p (pc' := 25) (lv' := [(4, .int 4), (0, .ref 1), (1, .int (nI f)), (2, .int (nI e)), (3, .float 17)]) (st' := [.ref 1]) rfl rfl ?_
            refine wp_p (pc' := 26) (lv' := [(4, .int 4), (0, .ref 1), (1, .int (nI f)), (2, .int (nI e)), (3, .float 17)]) (st' := [.int (nI f), .ref 1]) rfl rfl ?_
            refine wp_p (pc' := 28) (lv' := [(4, .int 4), (0, .ref 1), (1, .int (nI f)), (2, .int (nI e)), (3, .float 17)]) (st' := [.int 4, .int (nI f), .ref 1]) rfl rfl ?_
            refine wp_iadd (v := nI (f + 4)) (pc' := 29) rfl (nI_add f 4) rfl ?_
            refine wp_caload (q := 1) (n := f + 4) (g := tx) (x := nI (cl.getD (f + 4) 0)) (pc' := 30) rfl rfl (by first | omega | exact Nat.lt_trans (hlt _) (by decide)) (by first | omega | exact Nat.lt_trans (hlt _) (by decide)) (htx _ (by omega)) rfl ?_
            refine wp_p (pc' := 31) (lv' := [(4, .int 4), (0, .ref 1), (1, .int (nI f)), (2, .int (nI e)), (3, .float 17)]) (st' := [.float 17, .int (nI (cl.getD (f + 4) 0))]) rfl rfl ?_
            refine wp_p (pc' := 33) (lv' := [(4, .int 4), (0, .ref 1), (1, .int (nI f)), (2, .int (nI e)), (3, .float 17)]) (st' := [.int 4, .float 17, .int (nI (cl.getD (f + 4) 0))]) rfl rfl ?_
            refine wp_cvR (As := [.float 17, .int 4]) (r := [.int (nI (cl.getD (f + 4) 0))]) (v := (some (.int 114))) (g := (c0 :: .inl (2, .inl tx) :: t)) (st2 := [.int 114, .int (nI (cl.getD (f + 4) 0))]) (pc' := 36) rfl rfl rfl rfl ⟨80, sc_8_4 _⟩ (by omega) ?_
            refine wn_ic_eq (n := cl.getD (f + 4) 0) (m := 114) (pc' := 39) rfl (by first | omega | exact Nat.lt_trans (hlt _) (by decide)) (by first | omega | exact Nat.lt_trans (hlt _) (by decide)) rfl (fun hc6 => ?_) (fun hc6 => ?_)
            · refine wp_iinc (v := 5) (lv' := [(4, .int 5), (0, .ref 1), (1, .int (nI f)), (2, .int (nI e)), (3, .float 17)]) (pc' := 44) rfl rfl (by decide) rfl rfl rfl ?_
              refine wp_p (pc' := 15) (lv' := [(4, .int 5), (0, .ref 1), (1, .int (nI f)), (2, .int (nI e)), (3, .float 17)]) (st' := []) rfl rfl ?_
              refine wp_p (pc' := 17) (lv' := [(4, .int 5), (0, .ref 1), (1, .int (nI f)), (2, .int (nI e)), (3, .float 17)]) (st' := [.int 5]) rfl rfl ?_
              refine wp_p (pc' := 18) (lv' := [(4, .int 5), (0, .ref 1), (1, .int (nI f)), (2, .int (nI e)), (3, .float 17)]) (st' := [.float 17, .int 5]) rfl rfl ?_
              refine wp_cvR (As := [.float 17]) (r := [.int 5]) (v := (some (.int 5))) (g := (c0 :: .inl (2, .inl tx) :: t)) (st2 := [.int 5, .int 5]) (pc' := 21) rfl rfl rfl rfl ⟨40, sl_8 _⟩ (by omega) ?_
              refine wp_p (pc' := 47) (lv' := [(4, .int 5), (0, .ref 1), (1, .int (nI f)), (2, .int (nI e)), (3, .float 17)]) (st' := []) rfl rfl ?_
              refine wp_p (pc' := 48) (lv' := [(4, .int 5), (0, .ref 1), (1, .int (nI f)), (2, .int (nI e)), (3, .float 17)]) (st' := [.int 1]) rfl rfl ?_
              exact wp_r rfl rfl ⟨by rw [if_pos ((spw_8 cl f e hf he).mp ⟨by omega, by omega, by omega, by omega, by omega, by omega⟩)], rfl⟩
            · refine wp_p (pc' := 40) (lv' := [(4, .int 4), (0, .ref 1), (1, .int (nI f)), (2, .int (nI e)), (3, .float 17)]) (st' := [.int 0]) rfl rfl ?_
              exact wp_r rfl rfl ⟨by rw [if_neg (fun q => by have q := (spw_8 cl f e hf he).mpr q; omega)], rfl⟩
          · refine wp_p (pc' := 40) (lv' := [(4, .int 3), (0, .ref 1), (1, .int (nI f)), (2, .int (nI e)), (3, .float 17)]) (st' := [.int 0]) rfl rfl ?_
            exact wp_r rfl rfl ⟨by rw [if_neg (fun q => by have q := (spw_8 cl f e hf he).mpr q; omega)], rfl⟩
        · refine wp_p (pc' := 40) (lv' := [(4, .int 2), (0, .ref 1), (1, .int (nI f)), (2, .int (nI e)), (3, .float 17)]) (st' := [.int 0]) rfl rfl ?_
          exact wp_r rfl rfl ⟨by rw [if_neg (fun q => by have q := (spw_8 cl f e hf he).mpr q; omega)], rfl⟩
      · refine wp_p (pc' := 40) (lv' := [(4, .int 1), (0, .ref 1), (1, .int (nI f)), (2, .int (nI e)), (3, .float 17)]) (st' := [.int 0]) rfl rfl ?_
        exact wp_r rfl rfl ⟨by rw [if_neg (fun q => by have q := (spw_8 cl f e hf he).mpr q; omega)], rfl⟩
    · refine wp_p (pc' := 40) (lv' := [(4, .int 0), (0, .ref 1), (1, .int (nI f)), (2, .int (nI e)), (3, .float 17)]) (st' := [.int 0]) rfl rfl ?_
      exact wp_r rfl rfl ⟨by rw [if_neg (fun q => by have q := (spw_8 cl f e hf he).mpr q; omega)], rfl⟩
  · refine wp_p (pc' := 11) (lv' := [(0, .ref 1), (1, .int (nI f)), (2, .int (nI e)), (3, .float 17)]) (st' := [.int 0]) rfl rfl ?_
    exact wp_r rfl rfl ⟨by rw [if_neg (fun q => by have q := (spw_8 cl f e hf he).mpr q; omega)], rfl⟩
theorem spw_9 (cl : List Nat) (f e : Nat) (hf : f ≤ e) (he : e ≤ cl.length) : (e - f = 4 ∧ cl.getD (f + 0) 0 = 100 ∧ cl.getD (f + 1) 0 = 101 ∧ cl.getD (f + 2) 0 = 115 ∧ cl.getD (f + 3) 0 = 99) ↔ (cl.drop f).take (e - f) = [100, 101, 115, 99] := by
  constructor
  · intro q
    have e1 : e - f = 4 := q.1
    rw [e1]
    refine (sp_iff [100, 101, 115, 99] cl f (by show f + 4 ≤ _; omega)).mpr (fun j hj => ?_)
    have hj : j < 4 := hj
    rcases (show j = 0 ∨ j = 1 ∨ j = 2 ∨ j = 3 by omega) with rfl | rfl | rfl | rfl
    · exact q.2.1
    · exact q.2.2.1
    · exact q.2.2.2.1
    · exact q.2.2.2.2
  · intro q
    have e1 : e - f = 4 := sp_len he hf q
    rw [e1] at q
    have q2 := (sp_iff [100, 101, 115, 99] cl f (by show f + 4 ≤ _; omega)).mp q
    exact ⟨e1, q2 0 (by decide), q2 1 (by decide), q2 2 (by decide), q2 3 (by decide)⟩
set_option maxRecDepth 20000 in
theorem c_spells_9 (c0 : sm_E) (t : sm_H) (tx : List Int32) (cl : List Nat) (f e : Nat) (hlt : ∀ i, cl.getD i 0 < 65536) (h1 : tx.length = 80) (hcl : cl.length ≤ 80) (htx : ∀ i, i < cl.length → tx.getD i 0 = nI (cl.getD i 0)) (hf : f ≤ e) (he : e ≤ cl.length) : sm_run none 10 82 0 (lv_args 0 [.ref 1, .int (nI f), .int (nI e), .float 19]) [] (c0 :: .inl (2, .inl tx) :: t) ((some (.int (if (cl.drop f).take (e - f) = [100, 101, 115, 99] then 1 else 0))), (c0 :: .inl (2, .inl tx) :: t)) := by
  refine wp_to ?_
  refine wp_p (pc' := 1) (lv' := [(0, .ref 1), (1, .int (nI f)), (2, .int (nI e)), (3, .float 19)]) (st' := [.int (nI e)]) rfl rfl ?_
  refine wp_p (pc' := 2) (lv' := [(0, .ref 1), (1, .int (nI f)), (2, .int (nI e)), (3, .float 19)]) (st' := [.int (nI f), .int (nI e)]) rfl rfl ?_
  refine wp_isub (v := nI (e - f)) (pc' := 3) rfl (pk_sub (a := e) (b := f) (by omega)) rfl ?_
  refine wp_p (pc' := 4) (lv' := [(0, .ref 1), (1, .int (nI f)), (2, .int (nI e)), (3, .float 19)]) (st' := [.float 19, .int (nI (e - f))]) rfl rfl ?_
  refine wp_cvR (As := [.float 19]) (r := [.int (nI (e - f))]) (v := (some (.int 4))) (g := (c0 :: .inl (2, .inl tx) :: t)) (st2 := [.int 4, .int (nI (e - f))]) (pc' := 7) rfl rfl rfl rfl ⟨40, sl_9 _⟩ (by omega) ?_
  refine wn_ic_eq (n := e - f) (m := 4) (pc' := 10) rfl (by first | omega | exact Nat.lt_trans (hlt _) (by decide)) (by first | omega | exact Nat.lt_trans (hlt _) (by decide)) rfl (fun hc1 => ?_) (fun hc1 => ?_)
  · refine wp_p (pc' := 13) (lv' := [(0, .ref 1), (1, .int (nI f)), (2, .int (nI e)), (3, .float 19)]) (st' := [.int 0]) rfl rfl ?_
    refine wp_p (pc' := 15) (lv' := [(4, .int 0), (0, .ref 1), (1, .int (nI f)), (2, .int (nI e)), (3, .float 19)]) (st' := []) rfl rfl ?_
    refine wp_p (pc' := 17) (lv' := [(4, .int 0), (0, .ref 1), (1, .int (nI f)), (2, .int (nI e)), (3, .float 19)]) (st' := [.int 0]) rfl rfl ?_
    refine wp_p (pc' := 18) (lv' := [(4, .int 0), (0, .ref 1), (1, .int (nI f)), (2, .int (nI e)), (3, .float 19)]) (st' := [.float 19, .int 0]) rfl rfl ?_
    refine wp_cvR (As := [.float 19]) (r := [.int 0]) (v := (some (.int 4))) (g := (c0 :: .inl (2, .inl tx) :: t)) (st2 := [.int 4, .int 0]) (pc' := 21) rfl rfl rfl rfl ⟨40, sl_9 _⟩ (by omega) ?_
    refine wp_p (pc' := 24) (lv' := [(4, .int 0), (0, .ref 1), (1, .int (nI f)), (2, .int (nI e)), (3, .float 19)]) (st' := []) rfl rfl ?_
    refine wp_p (pc' := 25) (lv' := [(4, .int 0), (0, .ref 1), (1, .int (nI f)), (2, .int (nI e)), (3, .float 19)]) (st' := [.ref 1]) rfl rfl ?_
    refine wp_p (pc' := 26) (lv' := [(4, .int 0), (0, .ref 1), (1, .int (nI f)), (2, .int (nI e)), (3, .float 19)]) (st' := [.int (nI f), .ref 1]) rfl rfl ?_
    refine wp_p (pc' := 28) (lv' := [(4, .int 0), (0, .ref 1), (1, .int (nI f)), (2, .int (nI e)), (3, .float 19)]) (st' := [.int 0, .int (nI f), .ref 1]) rfl rfl ?_
    refine wp_iadd (v := nI (f + 0)) (pc' := 29) rfl (nI_add f 0) rfl ?_
    refine wp_caload (q := 1) (n := f + 0) (g := tx) (x := nI (cl.getD (f + 0) 0)) (pc' := 30) rfl rfl (by first | omega | exact Nat.lt_trans (hlt _) (by decide)) (by first | omega | exact Nat.lt_trans (hlt _) (by decide)) (htx _ (by omega)) rfl ?_
    refine wp_p (pc' := 31) (lv' := [(4, .int 0), (0, .ref 1), (1, .int (nI f)), (2, .int (nI e)), (3, .float 19)]) (st' := [.float 19, .int (nI (cl.getD (f + 0) 0))]) rfl rfl ?_
    refine wp_p (pc' := 33) (lv' := [(4, .int 0), (0, .ref 1), (1, .int (nI f)), (2, .int (nI e)), (3, .float 19)]) (st' := [.int 0, .float 19, .int (nI (cl.getD (f + 0) 0))]) rfl rfl ?_
    refine wp_cvR (As := [.float 19, .int 0]) (r := [.int (nI (cl.getD (f + 0) 0))]) (v := (some (.int 100))) (g := (c0 :: .inl (2, .inl tx) :: t)) (st2 := [.int 100, .int (nI (cl.getD (f + 0) 0))]) (pc' := 36) rfl rfl rfl rfl ⟨80, sc_9_0 _⟩ (by omega) ?_
    refine wn_ic_eq (n := cl.getD (f + 0) 0) (m := 100) (pc' := 39) rfl (by first | omega | exact Nat.lt_trans (hlt _) (by decide)) (by first | omega | exact Nat.lt_trans (hlt _) (by decide)) rfl (fun hc2 => ?_) (fun hc2 => ?_)
    · refine wp_iinc (v := 1) (lv' := [(4, .int 1), (0, .ref 1), (1, .int (nI f)), (2, .int (nI e)), (3, .float 19)]) (pc' := 44) rfl rfl (by decide) rfl rfl rfl ?_
      refine wp_p (pc' := 15) (lv' := [(4, .int 1), (0, .ref 1), (1, .int (nI f)), (2, .int (nI e)), (3, .float 19)]) (st' := []) rfl rfl ?_
      refine wp_p (pc' := 17) (lv' := [(4, .int 1), (0, .ref 1), (1, .int (nI f)), (2, .int (nI e)), (3, .float 19)]) (st' := [.int 1]) rfl rfl ?_
      refine wp_p (pc' := 18) (lv' := [(4, .int 1), (0, .ref 1), (1, .int (nI f)), (2, .int (nI e)), (3, .float 19)]) (st' := [.float 19, .int 1]) rfl rfl ?_
      refine wp_cvR (As := [.float 19]) (r := [.int 1]) (v := (some (.int 4))) (g := (c0 :: .inl (2, .inl tx) :: t)) (st2 := [.int 4, .int 1]) (pc' := 21) rfl rfl rfl rfl ⟨40, sl_9 _⟩ (by omega) ?_
      refine wp_p (pc' := 24) (lv' := [(4, .int 1), (0, .ref 1), (1, .int (nI f)), (2, .int (nI e)), (3, .float 19)]) (st' := []) rfl rfl ?_
      refine wp_p (pc' := 25) (lv' := [(4, .int 1), (0, .ref 1), (1, .int (nI f)), (2, .int (nI e)), (3, .float 19)]) (st' := [.ref 1]) rfl rfl ?_
      refine wp_p (pc' := 26) (lv' := [(4, .int 1), (0, .ref 1), (1, .int (nI f)), (2, .int (nI e)), (3, .float 19)]) (st' := [.int (nI f), .ref 1]) rfl rfl ?_
      refine wp_p (pc' := 28) (lv' := [(4, .int 1), (0, .ref 1), (1, .int (nI f)), (2, .int (nI e)), (3, .float 19)]) (st' := [.int 1, .int (nI f), .ref 1]) rfl rfl ?_
      refine wp_iadd (v := nI (f + 1)) (pc' := 29) rfl (nI_add f 1) rfl ?_
      refine wp_caload (q := 1) (n := f + 1) (g := tx) (x := nI (cl.getD (f + 1) 0)) (pc' := 30) rfl rfl (by first | omega | exact Nat.lt_trans (hlt _) (by decide)) (by first | omega | exact Nat.lt_trans (hlt _) (by decide)) (htx _ (by omega)) rfl ?_
      refine wp_p (pc' := 31) (lv' := [(4, .int 1), (0, .ref 1), (1, .int (nI f)), (2, .int (nI e)), (3, .float 19)]) (st' := [.float 19, .int (nI (cl.getD (f + 1) 0))]) rfl rfl ?_
      refine wp_p (pc' := 33) (lv' := [(4, .int 1), (0, .ref 1), (1, .int (nI f)), (2, .int (nI e)), (3, .float 19)]) (st' := [.int 1, .float 19, .int (nI (cl.getD (f + 1) 0))]) rfl rfl ?_
      refine wp_cvR (As := [.float 19, .int 1]) (r := [.int (nI (cl.getD (f + 1) 0))]) (v := (some (.int 101))) (g := (c0 :: .inl (2, .inl tx) :: t)) (st2 := [.int 101, .int (nI (cl.getD (f + 1) 0))]) (pc' := 36) rfl rfl rfl rfl ⟨80, sc_9_1 _⟩ (by omega) ?_
      refine wn_ic_eq (n := cl.getD (f + 1) 0) (m := 101) (pc' := 39) rfl (by first | omega | exact Nat.lt_trans (hlt _) (by decide)) (by first | omega | exact Nat.lt_trans (hlt _) (by decide)) rfl (fun hc3 => ?_) (fun hc3 => ?_)
      · refine wp_iinc (v := 2) (lv' := [(4, .int 2), (0, .ref 1), (1, .int (nI f)), (2, .int (nI e)), (3, .float 19)]) (pc' := 44) rfl rfl (by decide) rfl rfl rfl ?_
        refine wp_p (pc' := 15) (lv' := [(4, .int 2), (0, .ref 1), (1, .int (nI f)), (2, .int (nI e)), (3, .float 19)]) (st' := []) rfl rfl ?_
        refine wp_p (pc' := 17) (lv' := [(4, .int 2), (0, .ref 1), (1, .int (nI f)), (2, .int (nI e)), (3, .float 19)]) (st' := [.int 2]) rfl rfl ?_
        refine wp_p (pc' := 18) (lv' := [(4, .int 2), (0, .ref 1), (1, .int (nI f)), (2, .int (nI e)), (3, .float 19)]) (st' := [.float 19, .int 2]) rfl rfl ?_
        refine wp_cvR (As := [.float 19]) (r := [.int 2]) (v := (some (.int 4))) (g := (c0 :: .inl (2, .inl tx) :: t)) (st2 := [.int 4, .int 2]) (pc' := 21) rfl rfl rfl rfl ⟨40, sl_9 _⟩ (by omega) ?_
        refine wp_p (pc' := 24) (lv' := [(4, .int 2), (0, .ref 1), (1, .int (nI f)), (2, .int (nI e)), (3, .float 19)]) (st' := []) rfl rfl ?_
        refine wp_p (pc' := 25) (lv' := [(4, .int 2), (0, .ref 1), (1, .int (nI f)), (2, .int (nI e)), (3, .float 19)]) (st' := [.ref 1]) rfl rfl ?_
        refine wp_p (pc' := 26) (lv' := [(4, .int 2), (0, .ref 1), (1, .int (nI f)), (2, .int (nI e)), (3, .float 19)]) (st' := [.int (nI f), .ref 1]) rfl rfl ?_
        refine wp_p (pc' := 28) (lv' := [(4, .int 2), (0, .ref 1), (1, .int (nI f)), (2, .int (nI e)), (3, .float 19)]) (st' := [.int 2, .int (nI f), .ref 1]) rfl rfl ?_
        refine wp_iadd (v := nI (f + 2)) (pc' := 29) rfl (nI_add f 2) rfl ?_
        refine wp_caload (q := 1) (n := f + 2) (g := tx) (x := nI (cl.getD (f + 2) 0)) (pc' := 30) rfl rfl (by first | omega | exact Nat.lt_trans (hlt _) (by decide)) (by first | omega | exact Nat.lt_trans (hlt _) (by decide)) (htx _ (by omega)) rfl ?_
        refine wp_p (pc' := 31) (lv' := [(4, .int 2), (0, .ref 1), (1, .int (nI f)), (2, .int (nI e)), (3, .float 19)]) (st' := [.float 19, .int (nI (cl.getD (f + 2) 0))]) rfl rfl ?_
        refine wp_p (pc' := 33) (lv' := [(4, .int 2), (0, .ref 1), (1, .int (nI f)), (2, .int (nI e)), (3, .float 19)]) (st' := [.int 2, .float 19, .int (nI (cl.getD (f + 2) 0))]) rfl rfl ?_
        refine wp_cvR (As := [.float 19, .int 2]) (r := [.int (nI (cl.getD (f + 2) 0))]) (v := (some (.int 115))) (g := (c0 :: .inl (2, .inl tx) :: t)) (st2 := [.int 115, .int (nI (cl.getD (f + 2) 0))]) (pc' := 36) rfl rfl rfl rfl ⟨80, sc_9_2 _⟩ (by omega) ?_
        refine wn_ic_eq (n := cl.getD (f + 2) 0) (m := 115) (pc' := 39) rfl (by first | omega | exact Nat.lt_trans (hlt _) (by decide)) (by first | omega | exact Nat.lt_trans (hlt _) (by decide)) rfl (fun hc4 => ?_) (fun hc4 => ?_)
        · refine wp_iinc (v := 3) (lv' := [(4, .int 3), (0, .ref 1), (1, .int (nI f)), (2, .int (nI e)), (3, .float 19)]) (pc' := 44) rfl rfl (by decide) rfl rfl rfl ?_
          refine wp_p (pc' := 15) (lv' := [(4, .int 3), (0, .ref 1), (1, .int (nI f)), (2, .int (nI e)), (3, .float 19)]) (st' := []) rfl rfl ?_
          refine wp_p (pc' := 17) (lv' := [(4, .int 3), (0, .ref 1), (1, .int (nI f)), (2, .int (nI e)), (3, .float 19)]) (st' := [.int 3]) rfl rfl ?_
          refine wp_p (pc' := 18) (lv' := [(4, .int 3), (0, .ref 1), (1, .int (nI f)), (2, .int (nI e)), (3, .float 19)]) (st' := [.float 19, .int 3]) rfl rfl ?_
          refine wp_cvR (As := [.float 19]) (r := [.int 3]) (v := (some (.int 4))) (g := (c0 :: .inl (2, .inl tx) :: t)) (st2 := [.int 4, .int 3]) (pc' := 21) rfl rfl rfl rfl ⟨40, sl_9 _⟩ (by omega) ?_
          refine wp_p (pc' := 24) (lv' := [(4, .int 3), (0, .ref 1), (1, .int (nI f)), (2, .int (nI e)), (3, .float 19)]) (st' := []) rfl rfl ?_
          refine wp_p (pc' := 25) (lv' := [(4, .int 3), (0, .ref 1), (1, .int (nI f)), (2, .int (nI e)), (3, .float 19)]) (st' := [.ref 1]) rfl rfl ?_
          refine wp_p (pc' := 26) (lv' := [(4, .int 3), (0, .ref 1), (1, .int (nI f)), (2, .int (nI e)), (3, .float 19)]) (st' := [.int (nI f), .ref 1]) rfl rfl ?_
          refine wp_p (pc' := 28) (lv' := [(4, .int 3), (0, .ref 1), (1, .int (nI f)), (2, .int (nI e)), (3, .float 19)]) (st' := [.int 3, .int (nI f), .ref 1]) rfl rfl ?_
          refine wp_iadd (v := nI (f + 3)) (pc' := 29) rfl (nI_add f 3) rfl ?_
          refine wp_caload (q := 1) (n := f + 3) (g := tx) (x := nI (cl.getD (f + 3) 0)) (pc' := 30) rfl rfl (by first | omega | exact Nat.lt_trans (hlt _) (by decide)) (by first | omega | exact Nat.lt_trans (hlt _) (by decide)) (htx _ (by omega)) rfl ?_
          refine wp_p (pc' := 31) (lv' := [(4, .int 3), (0, .ref 1), (1, .int (nI f)), (2, .int (nI e)), (3, .float 19)]) (st' := [.float 19, .int (nI (cl.getD (f + 3) 0))]) rfl rfl ?_
          refine wp_p (pc' := 33) (lv' := [(4, .int 3), (0, .ref 1), (1, .int (nI f)), (2, .int (nI e)), (3, .float 19)]) (st' := [.int 3, .float 19, .int (nI (cl.getD (f + 3) 0))]) rfl rfl ?_
          refine wp_cvR (As := [.float 19, .int 3]) (r := [.int (nI (cl.getD (f + 3) 0))]) (v := (some (.int 99))) (g := (c0 :: .inl (2, .inl tx) :: t)) (st2 := [.int 99, .int (nI (cl.getD (f + 3) 0))]) (pc' := 36) rfl rfl rfl rfl ⟨80, sc_9_3 _⟩ (by omega) ?_
          refine wn_ic_eq (n := cl.getD (f + 3) 0) (m := 99) (pc' := 39) rfl (by first | omega | exact Nat.lt_trans (hlt _) (by decide)) (by first | omega | exact Nat.lt_trans (hlt _) (by decide)) rfl (fun hc5 => ?_) (fun hc5 => ?_)
          · refine wp_iinc (v := 4) (lv' := [(4, .int 4), (0, .ref 1), (1, .int (nI f)), (2, .int (nI e)), (3, .float 19)]) (pc' := 44) rfl rfl (by decide) rfl rfl rfl ?_
            refine wp_p (pc' := 15) (lv' := [(4, .int 4), (0, .ref 1), (1, .int (nI f)), (2, .int (nI e)), (3, .float 19)]) (st' := []) rfl rfl ?_
            refine wp_p (pc' := 17) (lv' := [(4, .int 4), (0, .ref 1), (1, .int (nI f)), (2, .int (nI e)), (3, .float 19)]) (st' := [.int 4]) rfl rfl ?_
            refine wp_p (pc' := 18) (lv' := [(4, .int 4), (0, .ref 1), (1, .int (nI f)), (2, .int (nI e)), (3, .float 19)]) (st' := [.float 19, .int 4]) rfl rfl ?_
            refine wp_cvR (As := [.float 19]) (r := [.int 4]) (v := (some (.int 4))) (g := (c0 :: .inl (2, .inl tx) :: t)) (st2 := [.int 4, .int 4]) (pc' := 21) rfl rfl rfl rfl ⟨40, sl_9 _⟩ (by omega) ?_
            refine wp_p (pc' := 47) (lv' := [(4, .int 4), (0, .ref 1), (1, .int (nI f)), (2, .int (nI e)), (3, .float 19)]) (st' := []) rfl rfl ?_
            refine wp_p (pc' := 48) (lv' := [(4, .int 4), (0, .ref 1), (1, .int (nI f)), (2, .int (nI e)), (3, .float 19)]) (st' := [.int 1]) rfl rfl ?_
            exact wp_r rfl rfl ⟨by rw [if_pos ((spw_9 cl f e hf he).mp ⟨by omega, by omega, by omega, by omega, by omega⟩)], rfl⟩
          · refine wp_p (pc' := 40) (lv' := [(4, .int 3), (0, .ref 1), (1, .int (nI f)), (2, .int (nI e)), (3, .float 19)]) (st' := [.int 0]) rfl rfl ?_
            exact wp_r rfl rfl ⟨by rw [if_neg (fun q => by have q := (spw_9 cl f e hf he).mpr q; omega)], rfl⟩
        · refine wp_p (pc' := 40) (lv' := [(4, .int 2), (0, .ref 1), (1, .int (nI f)), (2, .int (nI e)), (3, .float 19)]) (st' := [.int 0]) rfl rfl ?_
          exact wp_r rfl rfl ⟨by rw [if_neg (fun q => by have q := (spw_9 cl f e hf he).mpr q; omega)], rfl⟩
      · refine wp_p (pc' := 40) (lv' := [(4, .int 1), (0, .ref 1), (1, .int (nI f)), (2, .int (nI e)), (3, .float 19)]) (st' := [.int 0]) rfl rfl ?_
        exact wp_r rfl rfl ⟨by rw [if_neg (fun q => by have q := (spw_9 cl f e hf he).mpr q; omega)], rfl⟩
    · refine wp_p (pc' := 40) (lv' := [(4, .int 0), (0, .ref 1), (1, .int (nI f)), (2, .int (nI e)), (3, .float 19)]) (st' := [.int 0]) rfl rfl ?_
      exact wp_r rfl rfl ⟨by rw [if_neg (fun q => by have q := (spw_9 cl f e hf he).mpr q; omega)], rfl⟩
  · refine wp_p (pc' := 11) (lv' := [(0, .ref 1), (1, .int (nI f)), (2, .int (nI e)), (3, .float 19)]) (st' := [.int 0]) rfl rfl ?_
    exact wp_r rfl rfl ⟨by rw [if_neg (fun q => by have q := (spw_9 cl f e hf he).mpr q; omega)], rfl⟩
theorem spw_10 (cl : List Nat) (f e : Nat) (hf : f ≤ e) (he : e ≤ cl.length) : (e - f = 5 ∧ cl.getD (f + 0) 0 = 108 ∧ cl.getD (f + 1) 0 = 105 ∧ cl.getD (f + 2) 0 = 109 ∧ cl.getD (f + 3) 0 = 105 ∧ cl.getD (f + 4) 0 = 116) ↔ (cl.drop f).take (e - f) = [108, 105, 109, 105, 116] := by
  constructor
  · intro q
    have e1 : e - f = 5 := q.1
    rw [e1]
    refine (sp_iff [108, 105, 109, 105, 116] cl f (by show f + 5 ≤ _; omega)).mpr (fun j hj => ?_)
    have hj : j < 5 := hj
    rcases (show j = 0 ∨ j = 1 ∨ j = 2 ∨ j = 3 ∨ j = 4 by omega) with rfl | rfl | rfl | rfl | rfl
    · exact q.2.1
    · exact q.2.2.1
    · exact q.2.2.2.1
    · exact q.2.2.2.2.1
    · exact q.2.2.2.2.2
  · intro q
    have e1 : e - f = 5 := sp_len he hf q
    rw [e1] at q
    have q2 := (sp_iff [108, 105, 109, 105, 116] cl f (by show f + 5 ≤ _; omega)).mp q
    exact ⟨e1, q2 0 (by decide), q2 1 (by decide), q2 2 (by decide), q2 3 (by decide), q2 4 (by decide)⟩
set_option maxRecDepth 20000 in
theorem c_spells_10 (c0 : sm_E) (t : sm_H) (tx : List Int32) (cl : List Nat) (f e : Nat) (hlt : ∀ i, cl.getD i 0 < 65536) (h1 : tx.length = 80) (hcl : cl.length ≤ 80) (htx : ∀ i, i < cl.length → tx.getD i 0 = nI (cl.getD i 0)) (hf : f ≤ e) (he : e ≤ cl.length) : sm_run none 10 82 0 (lv_args 0 [.ref 1, .int (nI f), .int (nI e), .float 21]) [] (c0 :: .inl (2, .inl tx) :: t) ((some (.int (if (cl.drop f).take (e - f) = [108, 105, 109, 105, 116] then 1 else 0))), (c0 :: .inl (2, .inl tx) :: t)) := by
  refine wp_to ?_
  refine wp_p (pc' := 1) (lv' := [(0, .ref 1), (1, .int (nI f)), (2, .int (nI e)), (3, .float 21)]) (st' := [.int (nI e)]) rfl rfl ?_
  refine wp_p (pc' := 2) (lv' := [(0, .ref 1), (1, .int (nI f)), (2, .int (nI e)), (3, .float 21)]) (st' := [.int (nI f), .int (nI e)]) rfl rfl ?_
  refine wp_isub (v := nI (e - f)) (pc' := 3) rfl (pk_sub (a := e) (b := f) (by omega)) rfl ?_
  refine wp_p (pc' := 4) (lv' := [(0, .ref 1), (1, .int (nI f)), (2, .int (nI e)), (3, .float 21)]) (st' := [.float 21, .int (nI (e - f))]) rfl rfl ?_
  refine wp_cvR (As := [.float 21]) (r := [.int (nI (e - f))]) (v := (some (.int 5))) (g := (c0 :: .inl (2, .inl tx) :: t)) (st2 := [.int 5, .int (nI (e - f))]) (pc' := 7) rfl rfl rfl rfl ⟨40, sl_10 _⟩ (by omega) ?_
  refine wn_ic_eq (n := e - f) (m := 5) (pc' := 10) rfl (by first | omega | exact Nat.lt_trans (hlt _) (by decide)) (by first | omega | exact Nat.lt_trans (hlt _) (by decide)) rfl (fun hc1 => ?_) (fun hc1 => ?_)
  · refine wp_p (pc' := 13) (lv' := [(0, .ref 1), (1, .int (nI f)), (2, .int (nI e)), (3, .float 21)]) (st' := [.int 0]) rfl rfl ?_
    refine wp_p (pc' := 15) (lv' := [(4, .int 0), (0, .ref 1), (1, .int (nI f)), (2, .int (nI e)), (3, .float 21)]) (st' := []) rfl rfl ?_
    refine wp_p (pc' := 17) (lv' := [(4, .int 0), (0, .ref 1), (1, .int (nI f)), (2, .int (nI e)), (3, .float 21)]) (st' := [.int 0]) rfl rfl ?_
    refine wp_p (pc' := 18) (lv' := [(4, .int 0), (0, .ref 1), (1, .int (nI f)), (2, .int (nI e)), (3, .float 21)]) (st' := [.float 21, .int 0]) rfl rfl ?_
    refine wp_cvR (As := [.float 21]) (r := [.int 0]) (v := (some (.int 5))) (g := (c0 :: .inl (2, .inl tx) :: t)) (st2 := [.int 5, .int 0]) (pc' := 21) rfl rfl rfl rfl ⟨40, sl_10 _⟩ (by omega) ?_
    refine wp_p (pc' := 24) (lv' := [(4, .int 0), (0, .ref 1), (1, .int (nI f)), (2, .int (nI e)), (3, .float 21)]) (st' := []) rfl rfl ?_
    refine wp_p (pc' := 25) (lv' := [(4, .int 0), (0, .ref 1), (1, .int (nI f)), (2, .int (nI e)), (3, .float 21)]) (st' := [.ref 1]) rfl rfl ?_
    refine wp_p (pc' := 26) (lv' := [(4, .int 0), (0, .ref 1), (1, .int (nI f)), (2, .int (nI e)), (3, .float 21)]) (st' := [.int (nI f), .ref 1]) rfl rfl ?_
    refine wp_p (pc' := 28) (lv' := [(4, .int 0), (0, .ref 1), (1, .int (nI f)), (2, .int (nI e)), (3, .float 21)]) (st' := [.int 0, .int (nI f), .ref 1]) rfl rfl ?_
    refine wp_iadd (v := nI (f + 0)) (pc' := 29) rfl (nI_add f 0) rfl ?_
    refine wp_caload (q := 1) (n := f + 0) (g := tx) (x := nI (cl.getD (f + 0) 0)) (pc' := 30) rfl rfl (by first | omega | exact Nat.lt_trans (hlt _) (by decide)) (by first | omega | exact Nat.lt_trans (hlt _) (by decide)) (htx _ (by omega)) rfl ?_
    refine wp_p (pc' := 31) (lv' := [(4, .int 0), (0, .ref 1), (1, .int (nI f)), (2, .int (nI e)), (3, .float 21)]) (st' := [.float 21, .int (nI (cl.getD (f + 0) 0))]) rfl rfl ?_
    refine wp_p (pc' := 33) (lv' := [(4, .int 0), (0, .ref 1), (1, .int (nI f)), (2, .int (nI e)), (3, .float 21)]) (st' := [.int 0, .float 21, .int (nI (cl.getD (f + 0) 0))]) rfl rfl ?_
    refine wp_cvR (As := [.float 21, .int 0]) (r := [.int (nI (cl.getD (f + 0) 0))]) (v := (some (.int 108))) (g := (c0 :: .inl (2, .inl tx) :: t)) (st2 := [.int 108, .int (nI (cl.getD (f + 0) 0))]) (pc' := 36) rfl rfl rfl rfl ⟨80, sc_10_0 _⟩ (by omega) ?_
    refine wn_ic_eq (n := cl.getD (f + 0) 0) (m := 108) (pc' := 39) rfl (by first | omega | exact Nat.lt_trans (hlt _) (by decide)) (by first | omega | exact Nat.lt_trans (hlt _) (by decide)) rfl (fun hc2 => ?_) (fun hc2 => ?_)
    · refine wp_iinc (v := 1) (lv' := [(4, .int 1), (0, .ref 1), (1, .int (nI f)), (2, .int (nI e)), (3, .float 21)]) (pc' := 44) rfl rfl (by decide) rfl rfl rfl ?_
      refine wp_p (pc' := 15) (lv' := [(4, .int 1), (0, .ref 1), (1, .int (nI f)), (2, .int (nI e)), (3, .float 21)]) (st' := []) rfl rfl ?_
      refine wp_p (pc' := 17) (lv' := [(4, .int 1), (0, .ref 1), (1, .int (nI f)), (2, .int (nI e)), (3, .float 21)]) (st' := [.int 1]) rfl rfl ?_
      refine wp_p (pc' := 18) (lv' := [(4, .int 1), (0, .ref 1), (1, .int (nI f)), (2, .int (nI e)), (3, .float 21)]) (st' := [.float 21, .int 1]) rfl rfl ?_
      refine wp_cvR (As := [.float 21]) (r := [.int 1]) (v := (some (.int 5))) (g := (c0 :: .inl (2, .inl tx) :: t)) (st2 := [.int 5, .int 1]) (pc' := 21) rfl rfl rfl rfl ⟨40, sl_10 _⟩ (by omega) ?_
      refine wp_p (pc' := 24) (lv' := [(4, .int 1), (0, .ref 1), (1, .int (nI f)), (2, .int (nI e)), (3, .float 21)]) (st' := []) rfl rfl ?_
      refine wp_p (pc' := 25) (lv' := [(4, .int 1), (0, .ref 1), (1, .int (nI f)), (2, .int (nI e)), (3, .float 21)]) (st' := [.ref 1]) rfl rfl ?_
      refine wp_p (pc' := 26) (lv' := [(4, .int 1), (0, .ref 1), (1, .int (nI f)), (2, .int (nI e)), (3, .float 21)]) (st' := [.int (nI f), .ref 1]) rfl rfl ?_
      refine wp_p (pc' := 28) (lv' := [(4, .int 1), (0, .ref 1), (1, .int (nI f)), (2, .int (nI e)), (3, .float 21)]) (st' := [.int 1, .int (nI f), .ref 1]) rfl rfl ?_
      refine wp_iadd (v := nI (f + 1)) (pc' := 29) rfl (nI_add f 1) rfl ?_
      refine wp_caload (q := 1) (n := f + 1) (g := tx) (x := nI (cl.getD (f + 1) 0)) (pc' := 30) rfl rfl (by first | omega | exact Nat.lt_trans (hlt _) (by decide)) (by first | omega | exact Nat.lt_trans (hlt _) (by decide)) (htx _ (by omega)) rfl ?_
      refine wp_p (pc' := 31) (lv' := [(4, .int 1), (0, .ref 1), (1, .int (nI f)), (2, .int (nI e)), (3, .float 21)]) (st' := [.float 21, .int (nI (cl.getD (f + 1) 0))]) rfl rfl ?_
      refine wp_p (pc' := 33) (lv' := [(4, .int 1), (0, .ref 1), (1, .int (nI f)), (2, .int (nI e)), (3, .float 21)]) (st' := [.int 1, .float 21, .int (nI (cl.getD (f + 1) 0))]) rfl rfl ?_
      refine wp_cvR (As := [.float 21, .int 1]) (r := [.int (nI (cl.getD (f + 1) 0))]) (v := (some (.int 105))) (g := (c0 :: .inl (2, .inl tx) :: t)) (st2 := [.int 105, .int (nI (cl.getD (f + 1) 0))]) (pc' := 36) rfl rfl rfl rfl ⟨80, sc_10_1 _⟩ (by omega) ?_
      refine wn_ic_eq (n := cl.getD (f + 1) 0) (m := 105) (pc' := 39) rfl (by first | omega | exact Nat.lt_trans (hlt _) (by decide)) (by first | omega | exact Nat.lt_trans (hlt _) (by decide)) rfl (fun hc3 => ?_) (fun hc3 => ?_)
      · refine wp_iinc (v := 2) (lv' := [(4, .int 2), (0, .ref 1), (1, .int (nI f)), (2, .int (nI e)), (3, .float 21)]) (pc' := 44) rfl rfl (by decide) rfl rfl rfl ?_
        refine wp_p (pc' := 15) (lv' := [(4, .int 2), (0, .ref 1), (1, .int (nI f)), (2, .int (nI e)), (3, .float 21)]) (st' := []) rfl rfl ?_
        refine wp_p (pc' := 17) (lv' := [(4, .int 2), (0, .ref 1), (1, .int (nI f)), (2, .int (nI e)), (3, .float 21)]) (st' := [.int 2]) rfl rfl ?_
        refine wp_p (pc' := 18) (lv' := [(4, .int 2), (0, .ref 1), (1, .int (nI f)), (2, .int (nI e)), (3, .float 21)]) (st' := [.float 21, .int 2]) rfl rfl ?_
        refine wp_cvR (As := [.float 21]) (r := [.int 2]) (v := (some (.int 5))) (g := (c0 :: .inl (2, .inl tx) :: t)) (st2 := [.int 5, .int 2]) (pc' := 21) rfl rfl rfl rfl ⟨40, sl_10 _⟩ (by omega) ?_
        refine wp_p (pc' := 24) (lv' := [(4, .int 2), (0, .ref 1), (1, .int (nI f)), (2, .int (nI e)), (3, .float 21)]) (st' := []) rfl rfl ?_
        refine wp_p (pc' := 25) (lv' := [(4, .int 2), (0, .ref 1), (1, .int (nI f)), (2, .int (nI e)), (3, .float 21)]) (st' := [.ref 1]) rfl rfl ?_
        refine wp_p (pc' := 26) (lv' := [(4, .int 2), (0, .ref 1), (1, .int (nI f)), (2, .int (nI e)), (3, .float 21)]) (st' := [.int (nI f), .ref 1]) rfl rfl ?_
        refine wp_p (pc' := 28) (lv' := [(4, .int 2), (0, .ref 1), (1, .int (nI f)), (2, .int (nI e)), (3, .float 21)]) (st' := [.int 2, .int (nI f), .ref 1]) rfl rfl ?_
        refine wp_iadd (v := nI (f + 2)) (pc' := 29) rfl (nI_add f 2) rfl ?_
        refine wp_caload (q := 1) (n := f + 2) (g := tx) (x := nI (cl.getD (f + 2) 0)) (pc' := 30) rfl rfl (by first | omega | exact Nat.lt_trans (hlt _) (by decide)) (by first | omega | exact Nat.lt_trans (hlt _) (by decide)) (htx _ (by omega)) rfl ?_
        refine wp_p (pc' := 31) (lv' := [(4, .int 2), (0, .ref 1), (1, .int (nI f)), (2, .int (nI e)), (3, .float 21)]) (st' := [.float 21, .int (nI (cl.getD (f + 2) 0))]) rfl rfl ?_
        refine wp_p (pc' := 33) (lv' := [(4, .int 2), (0, .ref 1), (1, .int (nI f)), (2, .int (nI e)), (3, .float 21)]) (st' := [.int 2, .float 21, .int (nI (cl.getD (f + 2) 0))]) rfl rfl ?_
        refine wp_cvR (As := [.float 21, .int 2]) (r := [.int (nI (cl.getD (f + 2) 0))]) (v := (some (.int 109))) (g := (c0 :: .inl (2, .inl tx) :: t)) (st2 := [.int 109, .int (nI (cl.getD (f + 2) 0))]) (pc' := 36) rfl rfl rfl rfl ⟨80, sc_10_2 _⟩ (by omega) ?_
        refine wn_ic_eq (n := cl.getD (f + 2) 0) (m := 109) (pc' := 39) rfl (by first | omega | exact Nat.lt_trans (hlt _) (by decide)) (by first | omega | exact Nat.lt_trans (hlt _) (by decide)) rfl (fun hc4 => ?_) (fun hc4 => ?_)
        · refine wp_iinc (v := 3) (lv' := [(4, .int 3), (0, .ref 1), (1, .int (nI f)), (2, .int (nI e)), (3, .float 21)]) (pc' := 44) rfl rfl (by decide) rfl rfl rfl ?_
          refine wp_p (pc' := 15) (lv' := [(4, .int 3), (0, .ref 1), (1, .int (nI f)), (2, .int (nI e)), (3, .float 21)]) (st' := []) rfl rfl ?_
          refine wp_p (pc' := 17) (lv' := [(4, .int 3), (0, .ref 1), (1, .int (nI f)), (2, .int (nI e)), (3, .float 21)]) (st' := [.int 3]) rfl rfl ?_
          refine wp_p (pc' := 18) (lv' := [(4, .int 3), (0, .ref 1), (1, .int (nI f)), (2, .int (nI e)), (3, .float 21)]) (st' := [.float 21, .int 3]) rfl rfl ?_
          refine wp_cvR (As := [.float 21]) (r := [.int 3]) (v := (some (.int 5))) (g := (c0 :: .inl (2, .inl tx) :: t)) (st2 := [.int 5, .int 3]) (pc' := 21) rfl rfl rfl rfl ⟨40, sl_10 _⟩ (by omega) ?_
          refine wp_p (pc' := 24) (lv' := [(4, .int 3), (0, .ref 1), (1, .int (nI f)), (2, .int (nI e)), (3, .float 21)]) (st' := []) rfl rfl ?_
          refine wp_p (pc' := 25) (lv' := [(4, .int 3), (0, .ref 1), (1, .int (nI f)), (2, .int (nI e)), (3, .float 21)]) (st' := [.ref 1]) rfl rfl ?_
          refine wp_p (pc' := 26) (lv' := [(4, .int 3), (0, .ref 1), (1, .int (nI f)), (2, .int (nI e)), (3, .float 21)]) (st' := [.int (nI f), .ref 1]) rfl rfl ?_
          refine wp_p (pc' := 28) (lv' := [(4, .int 3), (0, .ref 1), (1, .int (nI f)), (2, .int (nI e)), (3, .float 21)]) (st' := [.int 3, .int (nI f), .ref 1]) rfl rfl ?_
          refine wp_iadd (v := nI (f + 3)) (pc' := 29) rfl (nI_add f 3) rfl ?_
          refine wp_caload (q := 1) (n := f + 3) (g := tx) (x := nI (cl.getD (f + 3) 0)) (pc' := 30) rfl rfl (by first | omega | exact Nat.lt_trans (hlt _) (by decide)) (by first | omega | exact Nat.lt_trans (hlt _) (by decide)) (htx _ (by omega)) rfl ?_
          refine wp_p (pc' := 31) (lv' := [(4, .int 3), (0, .ref 1), (1, .int (nI f)), (2, .int (nI e)), (3, .float 21)]) (st' := [.float 21, .int (nI (cl.getD (f + 3) 0))]) rfl rfl ?_
          refine wp_p (pc' := 33) (lv' := [(4, .int 3), (0, .ref 1), (1, .int (nI f)), (2, .int (nI e)), (3, .float 21)]) (st' := [.int 3, .float 21, .int (nI (cl.getD (f + 3) 0))]) rfl rfl ?_
          refine wp_cvR (As := [.float 21, .int 3]) (r := [.int (nI (cl.getD (f + 3) 0))]) (v := (some (.int 105))) (g := (c0 :: .inl (2, .inl tx) :: t)) (st2 := [.int 105, .int (nI (cl.getD (f + 3) 0))]) (pc' := 36) rfl rfl rfl rfl ⟨80, sc_10_3 _⟩ (by omega) ?_
          refine wn_ic_eq (n := cl.getD (f + 3) 0) (m := 105) (pc' := 39) rfl (by first | omega | exact Nat.lt_trans (hlt _) (by decide)) (by first | omega | exact Nat.lt_trans (hlt _) (by decide)) rfl (fun hc5 => ?_) (fun hc5 => ?_)
          · refine wp_iinc (v := 4) (lv' := [(4, .int 4), (0, .ref 1), (1, .int (nI f)), (2, .int (nI e)), (3, .float 21)]) (pc' := 44) rfl rfl (by decide) rfl rfl rfl ?_
            refine wp_p (pc' := 15) (lv' := [(4, .int 4), (0, .ref 1), (1, .int (nI f)), (2, .int (nI e)), (3, .float 21)]) (st' := []) rfl rfl ?_
            refine wp_p (pc' := 17) (lv' := [(4, .int 4), (0, .ref 1), (1, .int (nI f)), (2, .int (nI e)), (3, .float 21)]) (st' := [.int 4]) rfl rfl ?_
            refine wp_p (pc' := 18) (lv' := [(4, .int 4), (0, .ref 1), (1, .int (nI f)), (2, .int (nI e)), (3, .float 21)]) (st' := [.float 21, .int 4]) rfl rfl ?_
            refine wp_cvR (As := [.float 21]) (r := [.int 4]) (v := (some (.int 5))) (g := (c0 :: .inl (2, .inl tx) :: t)) (st2 := [.int 5, .int 4]) (pc' := 21) rfl rfl rfl rfl ⟨40, sl_10 _⟩ (by omega) ?_
            refine wp_p (pc' := 24) (lv' := [(4, .int 4), (0, .ref 1), (1, .int (nI f)), (2, .int (nI e)), (3, .float 21)]) (st' := []) rfl rfl ?_
            refine wp_p (pc' := 25) (lv' := [(4, .int 4), (0, .ref 1), (1, .int (nI f)), (2, .int (nI e)), (3, .float 21)]) (st' := [.ref 1]) rfl rfl ?_
            refine wp_p (pc' := 26) (lv' := [(4, .int 4), (0, .ref 1), (1, .int (nI f)), (2, .int (nI e)), (3, .float 21)]) (st' := [.int (nI f), .ref 1]) rfl rfl ?_
            refine wp_p (pc' := 28) (lv' := [(4, .int 4), (0, .ref 1), (1, .int (nI f)), (2, .int (nI e)), (3, .float 21)]) (st' := [.int 4, .int (nI f), .ref 1]) rfl rfl ?_
            refine wp_iadd (v := nI (f + 4)) (pc' := 29) rfl (nI_add f 4) rfl ?_
            refine wp_caload (q := 1) (n := f + 4) (g := tx) (x := nI (cl.getD (f + 4) 0)) (pc' := 30) rfl rfl (by first | omega | exact Nat.lt_trans (hlt _) (by decide)) (by first | omega | exact Nat.lt_trans (hlt _) (by decide)) (htx _ (by omega)) rfl ?_
            refine wp_p (pc' := 31) (lv' := [(4, .int 4), (0, .ref 1), (1, .int (nI f)), (2, .int (nI e)), (3, .float 21)]) (st' := [.float 21, .int (nI (cl.getD (f + 4) 0))]) rfl rfl ?_
            refine wp_p (pc' := 33) (lv' := [(4, .int 4), (0, .ref 1), (1, .int (nI f)), (2, .int (nI e)), (3, .float 21)]) (st' := [.int 4, .float 21, .int (nI (cl.getD (f + 4) 0))]) rfl rfl ?_
            refine wp_cvR (As := [.float 21, .int 4]) (r := [.int (nI (cl.getD (f + 4) 0))]) (v := (some (.int 116))) (g := (c0 :: .inl (2, .inl tx) :: t)) (st2 := [.int 116, .int (nI (cl.getD (f + 4) 0))]) (pc' := 36) rfl rfl rfl rfl ⟨80, sc_10_4 _⟩ (by omega) ?_
            refine wn_ic_eq (n := cl.getD (f + 4) 0) (m := 116) (pc' := 39) rfl (by first | omega | exact Nat.lt_trans (hlt _) (by decide)) (by first | omega | exact Nat.lt_trans (hlt _) (by decide)) rfl (fun hc6 => ?_) (fun hc6 => ?_)
            · refine wp_iinc (v := 5) (lv' := [(4, .int 5), (0, .ref 1), (1, .int (nI f)), (2, .int (nI e)), (3, .float 21)]) (pc' := 44) rfl rfl (by decide) rfl rfl rfl ?_
              refine wp_p (pc' := 15) (lv' := [(4, .int 5), (0, .ref 1), (1, .int (nI f)), (2, .int (nI e)), (3, .float 21)]) (st' := []) rfl rfl ?_
              refine wp_p (pc' := 17) (lv' := [(4, .int 5), (0, .ref 1), (1, .int (nI f)), (2, .int (nI e)), (3, .float 21)]) (st' := [.int 5]) rfl rfl ?_
              refine wp_p (pc' := 18) (lv' := [(4, .int 5), (0, .ref 1), (1, .int (nI f)), (2, .int (nI e)), (3, .float 21)]) (st' := [.float 21, .int 5]) rfl rfl ?_
              refine wp_cvR (As := [.float 21]) (r := [.int 5]) (v := (some (.int 5))) (g := (c0 :: .inl (2, .inl tx) :: t)) (st2 := [.int 5, .int 5]) (pc' := 21) rfl rfl rfl rfl ⟨40, sl_10 _⟩ (by omega) ?_
              refine wp_p (pc' := 47) (lv' := [(4, .int 5), (0, .ref 1), (1, .int (nI f)), (2, .int (nI e)), (3, .float 21)]) (st' := []) rfl rfl ?_
              refine wp_p (pc' := 48) (lv' := [(4, .int 5), (0, .ref 1), (1, .int (nI f)), (2, .int (nI e)), (3, .float 21)]) (st' := [.int 1]) rfl rfl ?_
              exact wp_r rfl rfl ⟨by rw [if_pos ((spw_10 cl f e hf he).mp ⟨by omega, by omega, by omega, by omega, by omega, by omega⟩)], rfl⟩
            · refine wp_p (pc' := 40) (lv' := [(4, .int 4), (0, .ref 1), (1, .int (nI f)), (2, .int (nI e)), (3, .float 21)]) (st' := [.int 0]) rfl rfl ?_
              exact wp_r rfl rfl ⟨by rw [if_neg (fun q => by have q := (spw_10 cl f e hf he).mpr q; omega)], rfl⟩
          · refine wp_p (pc' := 40) (lv' := [(4, .int 3), (0, .ref 1), (1, .int (nI f)), (2, .int (nI e)), (3, .float 21)]) (st' := [.int 0]) rfl rfl ?_
            exact wp_r rfl rfl ⟨by rw [if_neg (fun q => by have q := (spw_10 cl f e hf he).mpr q; omega)], rfl⟩
        · refine wp_p (pc' := 40) (lv' := [(4, .int 2), (0, .ref 1), (1, .int (nI f)), (2, .int (nI e)), (3, .float 21)]) (st' := [.int 0]) rfl rfl ?_
          exact wp_r rfl rfl ⟨by rw [if_neg (fun q => by have q := (spw_10 cl f e hf he).mpr q; omega)], rfl⟩
      · refine wp_p (pc' := 40) (lv' := [(4, .int 1), (0, .ref 1), (1, .int (nI f)), (2, .int (nI e)), (3, .float 21)]) (st' := [.int 0]) rfl rfl ?_
        exact wp_r rfl rfl ⟨by rw [if_neg (fun q => by have q := (spw_10 cl f e hf he).mpr q; omega)], rfl⟩
    · refine wp_p (pc' := 40) (lv' := [(4, .int 0), (0, .ref 1), (1, .int (nI f)), (2, .int (nI e)), (3, .float 21)]) (st' := [.int 0]) rfl rfl ?_
      exact wp_r rfl rfl ⟨by rw [if_neg (fun q => by have q := (spw_10 cl f e hf he).mpr q; omega)], rfl⟩
  · refine wp_p (pc' := 11) (lv' := [(0, .ref 1), (1, .int (nI f)), (2, .int (nI e)), (3, .float 21)]) (st' := [.int 0]) rfl rfl ?_
    exact wp_r rfl rfl ⟨by rw [if_neg (fun q => by have q := (spw_10 cl f e hf he).mpr q; omega)], rfl⟩
theorem spw_11 (cl : List Nat) (f e : Nat) (hf : f ≤ e) (he : e ≤ cl.length) : (e - f = 4 ∧ cl.getD (f + 0) 0 = 110 ∧ cl.getD (f + 1) 0 = 117 ∧ cl.getD (f + 2) 0 = 108 ∧ cl.getD (f + 3) 0 = 108) ↔ (cl.drop f).take (e - f) = [110, 117, 108, 108] := by
  constructor
  · intro q
    have e1 : e - f = 4 := q.1
    rw [e1]
    refine (sp_iff [110, 117, 108, 108] cl f (by show f + 4 ≤ _; omega)).mpr (fun j hj => ?_)
    have hj : j < 4 := hj
    rcases (show j = 0 ∨ j = 1 ∨ j = 2 ∨ j = 3 by omega) with rfl | rfl | rfl | rfl
    · exact q.2.1
    · exact q.2.2.1
    · exact q.2.2.2.1
    · exact q.2.2.2.2
  · intro q
    have e1 : e - f = 4 := sp_len he hf q
    rw [e1] at q
    have q2 := (sp_iff [110, 117, 108, 108] cl f (by show f + 4 ≤ _; omega)).mp q
    exact ⟨e1, q2 0 (by decide), q2 1 (by decide), q2 2 (by decide), q2 3 (by decide)⟩
set_option maxRecDepth 20000 in
theorem c_spells_11 (c0 : sm_E) (t : sm_H) (tx : List Int32) (cl : List Nat) (f e : Nat) (hlt : ∀ i, cl.getD i 0 < 65536) (h1 : tx.length = 80) (hcl : cl.length ≤ 80) (htx : ∀ i, i < cl.length → tx.getD i 0 = nI (cl.getD i 0)) (hf : f ≤ e) (he : e ≤ cl.length) : sm_run none 10 82 0 (lv_args 0 [.ref 1, .int (nI f), .int (nI e), .float 23]) [] (c0 :: .inl (2, .inl tx) :: t) ((some (.int (if (cl.drop f).take (e - f) = [110, 117, 108, 108] then 1 else 0))), (c0 :: .inl (2, .inl tx) :: t)) := by
  refine wp_to ?_
  refine wp_p (pc' := 1) (lv' := [(0, .ref 1), (1, .int (nI f)), (2, .int (nI e)), (3, .float 23)]) (st' := [.int (nI e)]) rfl rfl ?_
  refine wp_p (pc' := 2) (lv' := [(0, .ref 1), (1, .int (nI f)), (2, .int (nI e)), (3, .float 23)]) (st' := [.int (nI f), .int (nI e)]) rfl rfl ?_
  refine wp_isub (v := nI (e - f)) (pc' := 3) rfl (pk_sub (a := e) (b := f) (by omega)) rfl ?_
  refine wp_p (pc' := 4) (lv' := [(0, .ref 1), (1, .int (nI f)), (2, .int (nI e)), (3, .float 23)]) (st' := [.float 23, .int (nI (e - f))]) rfl rfl ?_
  refine wp_cvR (As := [.float 23]) (r := [.int (nI (e - f))]) (v := (some (.int 4))) (g := (c0 :: .inl (2, .inl tx) :: t)) (st2 := [.int 4, .int (nI (e - f))]) (pc' := 7) rfl rfl rfl rfl ⟨40, sl_11 _⟩ (by omega) ?_
  refine wn_ic_eq (n := e - f) (m := 4) (pc' := 10) rfl (by first | omega | exact Nat.lt_trans (hlt _) (by decide)) (by first | omega | exact Nat.lt_trans (hlt _) (by decide)) rfl (fun hc1 => ?_) (fun hc1 => ?_)
  · refine wp_p (pc' := 13) (lv' := [(0, .ref 1), (1, .int (nI f)), (2, .int (nI e)), (3, .float 23)]) (st' := [.int 0]) rfl rfl ?_
    refine wp_p (pc' := 15) (lv' := [(4, .int 0), (0, .ref 1), (1, .int (nI f)), (2, .int (nI e)), (3, .float 23)]) (st' := []) rfl rfl ?_
    refine wp_p (pc' := 17) (lv' := [(4, .int 0), (0, .ref 1), (1, .int (nI f)), (2, .int (nI e)), (3, .float 23)]) (st' := [.int 0]) rfl rfl ?_
    refine wp_p (pc' := 18) (lv' := [(4, .int 0), (0, .ref 1), (1, .int (nI f)), (2, .int (nI e)), (3, .float 23)]) (st' := [.float 23, .int 0]) rfl rfl ?_
    refine wp_cvR (As := [.float 23]) (r := [.int 0]) (v := (some (.int 4))) (g := (c0 :: .inl (2, .inl tx) :: t)) (st2 := [.int 4, .int 0]) (pc' := 21) rfl rfl rfl rfl ⟨40, sl_11 _⟩ (by omega) ?_
    refine wp_p (pc' := 24) (lv' := [(4, .int 0), (0, .ref 1), (1, .int (nI f)), (2, .int (nI e)), (3, .float 23)]) (st' := []) rfl rfl ?_
    refine wp_p (pc' := 25) (lv' := [(4, .int 0), (0, .ref 1), (1, .int (nI f)), (2, .int (nI e)), (3, .float 23)]) (st' := [.ref 1]) rfl rfl ?_
    refine wp_p (pc' := 26) (lv' := [(4, .int 0), (0, .ref 1), (1, .int (nI f)), (2, .int (nI e)), (3, .float 23)]) (st' := [.int (nI f), .ref 1]) rfl rfl ?_
    refine wp_p (pc' := 28) (lv' := [(4, .int 0), (0, .ref 1), (1, .int (nI f)), (2, .int (nI e)), (3, .float 23)]) (st' := [.int 0, .int (nI f), .ref 1]) rfl rfl ?_
    refine wp_iadd (v := nI (f + 0)) (pc' := 29) rfl (nI_add f 0) rfl ?_
    refine wp_caload (q := 1) (n := f + 0) (g := tx) (x := nI (cl.getD (f + 0) 0)) (pc' := 30) rfl rfl (by first | omega | exact Nat.lt_trans (hlt _) (by decide)) (by first | omega | exact Nat.lt_trans (hlt _) (by decide)) (htx _ (by omega)) rfl ?_
    refine wp_p (pc' := 31) (lv' := [(4, .int 0), (0, .ref 1), (1, .int (nI f)), (2, .int (nI e)), (3, .float 23)]) (st' := [.float 23, .int (nI (cl.getD (f + 0) 0))]) rfl rfl ?_
    refine wp_p (pc' := 33) (lv' := [(4, .int 0), (0, .ref 1), (1, .int (nI f)), (2, .int (nI e)), (3, .float 23)]) (st' := [.int 0, .float 23, .int (nI (cl.getD (f + 0) 0))]) rfl rfl ?_
    refine wp_cvR (As := [.float 23, .int 0]) (r := [.int (nI (cl.getD (f + 0) 0))]) (v := (some (.int 110))) (g := (c0 :: .inl (2, .inl tx) :: t)) (st2 := [.int 110, .int (nI (cl.getD (f + 0) 0))]) (pc' := 36) rfl rfl rfl rfl ⟨80, sc_11_0 _⟩ (by omega) ?_
    refine wn_ic_eq (n := cl.getD (f + 0) 0) (m := 110) (pc' := 39) rfl (by first | omega | exact Nat.lt_trans (hlt _) (by decide)) (by first | omega | exact Nat.lt_trans (hlt _) (by decide)) rfl (fun hc2 => ?_) (fun hc2 => ?_)
    · refine wp_iinc (v := 1) (lv' := [(4, .int 1), (0, .ref 1), (1, .int (nI f)), (2, .int (nI e)), (3, .float 23)]) (pc' := 44) rfl rfl (by decide) rfl rfl rfl ?_
      refine wp_p (pc' := 15) (lv' := [(4, .int 1), (0, .ref 1), (1, .int (nI f)), (2, .int (nI e)), (3, .float 23)]) (st' := []) rfl rfl ?_
      refine wp_p (pc' := 17) (lv' := [(4, .int 1), (0, .ref 1), (1, .int (nI f)), (2, .int (nI e)), (3, .float 23)]) (st' := [.int 1]) rfl rfl ?_
      refine wp_p (pc' := 18) (lv' := [(4, .int 1), (0, .ref 1), (1, .int (nI f)), (2, .int (nI e)), (3, .float 23)]) (st' := [.float 23, .int 1]) rfl rfl ?_
      refine wp_cvR (As := [.float 23]) (r := [.int 1]) (v := (some (.int 4))) (g := (c0 :: .inl (2, .inl tx) :: t)) (st2 := [.int 4, .int 1]) (pc' := 21) rfl rfl rfl rfl ⟨40, sl_11 _⟩ (by omega) ?_
      refine wp_p (pc' := 24) (lv' := [(4, .int 1), (0, .ref 1), (1, .int (nI f)), (2, .int (nI e)), (3, .float 23)]) (st' := []) rfl rfl ?_
      refine wp_p (pc' := 25) (lv' := [(4, .int 1), (0, .ref 1), (1, .int (nI f)), (2, .int (nI e)), (3, .float 23)]) (st' := [.ref 1]) rfl rfl ?_
      refine wp_p (pc' := 26) (lv' := [(4, .int 1), (0, .ref 1), (1, .int (nI f)), (2, .int (nI e)), (3, .float 23)]) (st' := [.int (nI f), .ref 1]) rfl rfl ?_
      refine wp_p (pc' := 28) (lv' := [(4, .int 1), (0, .ref 1), (1, .int (nI f)), (2, .int (nI e)), (3, .float 23)]) (st' := [.int 1, .int (nI f), .ref 1]) rfl rfl ?_
      refine wp_iadd (v := nI (f + 1)) (pc' := 29) rfl (nI_add f 1) rfl ?_
      refine wp_caload (q := 1) (n := f + 1) (g := tx) (x := nI (cl.getD (f + 1) 0)) (pc' := 30) rfl rfl (by first | omega | exact Nat.lt_trans (hlt _) (by decide)) (by first | omega | exact Nat.lt_trans (hlt _) (by decide)) (htx _ (by omega)) rfl ?_
      refine wp_p (pc' := 31) (lv' := [(4, .int 1), (0, .ref 1), (1, .int (nI f)), (2, .int (nI e)), (3, .float 23)]) (st' := [.float 23, .int (nI (cl.getD (f + 1) 0))]) rfl rfl ?_
      refine wp_p (pc' := 33) (lv' := [(4, .int 1), (0, .ref 1), (1, .int (nI f)), (2, .int (nI e)), (3, .float 23)]) (st' := [.int 1, .float 23, .int (nI (cl.getD (f + 1) 0))]) rfl rfl ?_
      refine wp_cvR (As := [.float 23, .int 1]) (r := [.int (nI (cl.getD (f + 1) 0))]) (v := (some (.int 117))) (g := (c0 :: .inl (2, .inl tx) :: t)) (st2 := [.int 117, .int (nI (cl.getD (f + 1) 0))]) (pc' := 36) rfl rfl rfl rfl ⟨80, sc_11_1 _⟩ (by omega) ?_
      refine wn_ic_eq (n := cl.getD (f + 1) 0) (m := 117) (pc' := 39) rfl (by first | omega | exact Nat.lt_trans (hlt _) (by decide)) (by first | omega | exact Nat.lt_trans (hlt _) (by decide)) rfl (fun hc3 => ?_) (fun hc3 => ?_)
      · refine wp_iinc (v := 2) (lv' := [(4, .int 2), (0, .ref 1), (1, .int (nI f)), (2, .int (nI e)), (3, .float 23)]) (pc' := 44) rfl rfl (by decide) rfl rfl rfl ?_
        refine wp_p (pc' := 15) (lv' := [(4, .int 2), (0, .ref 1), (1, .int (nI f)), (2, .int (nI e)), (3, .float 23)]) (st' := []) rfl rfl ?_
        refine wp_p (pc' := 17) (lv' := [(4, .int 2), (0, .ref 1), (1, .int (nI f)), (2, .int (nI e)), (3, .float 23)]) (st' := [.int 2]) rfl rfl ?_
        refine wp_p (pc' := 18) (lv' := [(4, .int 2), (0, .ref 1), (1, .int (nI f)), (2, .int (nI e)), (3, .float 23)]) (st' := [.float 23, .int 2]) rfl rfl ?_
        refine wp_cvR (As := [.float 23]) (r := [.int 2]) (v := (some (.int 4))) (g := (c0 :: .inl (2, .inl tx) :: t)) (st2 := [.int 4, .int 2]) (pc' := 21) rfl rfl rfl rfl ⟨40, sl_11 _⟩ (by omega) ?_
        refine wp_p (pc' := 24) (lv' := [(4, .int 2), (0, .ref 1), (1, .int (nI f)), (2, .int (nI e)), (3, .float 23)]) (st' := []) rfl rfl ?_
        refine wp_p (pc' := 25) (lv' := [(4, .int 2), (0, .ref 1), (1, .int (nI f)), (2, .int (nI e)), (3, .float 23)]) (st' := [.ref 1]) rfl rfl ?_
        refine wp_p (pc' := 26) (lv' := [(4, .int 2), (0, .ref 1), (1, .int (nI f)), (2, .int (nI e)), (3, .float 23)]) (st' := [.int (nI f), .ref 1]) rfl rfl ?_
        refine wp_p (pc' := 28) (lv' := [(4, .int 2), (0, .ref 1), (1, .int (nI f)), (2, .int (nI e)), (3, .float 23)]) (st' := [.int 2, .int (nI f), .ref 1]) rfl rfl ?_
        refine wp_iadd (v := nI (f + 2)) (pc' := 29) rfl (nI_add f 2) rfl ?_
        refine wp_caload (q := 1) (n := f + 2) (g := tx) (x := nI (cl.getD (f + 2) 0)) (pc' := 30) rfl rfl (by first | omega | exact Nat.lt_trans (hlt _) (by decide)) (by first | omega | exact Nat.lt_trans (hlt _) (by decide)) (htx _ (by omega)) rfl ?_
        refine wp_p (pc' := 31) (lv' := [(4, .int 2), (0, .ref 1), (1, .int (nI f)), (2, .int (nI e)), (3, .float 23)]) (st' := [.float 23, .int (nI (cl.getD (f + 2) 0))]) rfl rfl ?_
        refine wp_p (pc' := 33) (lv' := [(4, .int 2), (0, .ref 1), (1, .int (nI f)), (2, .int (nI e)), (3, .float 23)]) (st' := [.int 2, .float 23, .int (nI (cl.getD (f + 2) 0))]) rfl rfl ?_
        refine wp_cvR (As := [.float 23, .int 2]) (r := [.int (nI (cl.getD (f + 2) 0))]) (v := (some (.int 108))) (g := (c0 :: .inl (2, .inl tx) :: t)) (st2 := [.int 108, .int (nI (cl.getD (f + 2) 0))]) (pc' := 36) rfl rfl rfl rfl ⟨80, sc_11_2 _⟩ (by omega) ?_
        refine wn_ic_eq (n := cl.getD (f + 2) 0) (m := 108) (pc' := 39) rfl (by first | omega | exact Nat.lt_trans (hlt _) (by decide)) (by first | omega | exact Nat.lt_trans (hlt _) (by decide)) rfl (fun hc4 => ?_) (fun hc4 => ?_)
        · refine wp_iinc (v := 3) (lv' := [(4, .int 3), (0, .ref 1), (1, .int (nI f)), (2, .int (nI e)), (3, .float 23)]) (pc' := 44) rfl rfl (by decide) rfl rfl rfl ?_
          refine wp_p (pc' := 15) (lv' := [(4, .int 3), (0, .ref 1), (1, .int (nI f)), (2, .int (nI e)), (3, .float 23)]) (st' := []) rfl rfl ?_
          refine wp_p (pc' := 17) (lv' := [(4, .int 3), (0, .ref 1), (1, .int (nI f)), (2, .int (nI e)), (3, .float 23)]) (st' := [.int 3]) rfl rfl ?_
          refine wp_p (pc' := 18) (lv' := [(4, .int 3), (0, .ref 1), (1, .int (nI f)), (2, .int (nI e)), (3, .float 23)]) (st' := [.float 23, .int 3]) rfl rfl ?_
          refine wp_cvR (As := [.float 23]) (r := [.int 3]) (v := (some (.int 4))) (g := (c0 :: .inl (2, .inl tx) :: t)) (st2 := [.int 4, .int 3]) (pc' := 21) rfl rfl rfl rfl ⟨40, sl_11 _⟩ (by omega) ?_
          refine wp_p (pc' := 24) (lv' := [(4, .int 3), (0, .ref 1), (1, .int (nI f)), (2, .int (nI e)), (3, .float 23)]) (st' := []) rfl rfl ?_
          refine wp_p (pc' := 25) (lv' := [(4, .int 3), (0, .ref 1), (1, .int (nI f)), (2, .int (nI e)), (3, .float 23)]) (st' := [.ref 1]) rfl rfl ?_
          refine wp_p (pc' := 26) (lv' := [(4, .int 3), (0, .ref 1), (1, .int (nI f)), (2, .int (nI e)), (3, .float 23)]) (st' := [.int (nI f), .ref 1]) rfl rfl ?_
          refine wp_p (pc' := 28) (lv' := [(4, .int 3), (0, .ref 1), (1, .int (nI f)), (2, .int (nI e)), (3, .float 23)]) (st' := [.int 3, .int (nI f), .ref 1]) rfl rfl ?_
          refine wp_iadd (v := nI (f + 3)) (pc' := 29) rfl (nI_add f 3) rfl ?_
          refine wp_caload (q := 1) (n := f + 3) (g := tx) (x := nI (cl.getD (f + 3) 0)) (pc' := 30) rfl rfl (by first | omega | exact Nat.lt_trans (hlt _) (by decide)) (by first | omega | exact Nat.lt_trans (hlt _) (by decide)) (htx _ (by omega)) rfl ?_
          refine wp_p (pc' := 31) (lv' := [(4, .int 3), (0, .ref 1), (1, .int (nI f)), (2, .int (nI e)), (3, .float 23)]) (st' := [.float 23, .int (nI (cl.getD (f + 3) 0))]) rfl rfl ?_
          refine wp_p (pc' := 33) (lv' := [(4, .int 3), (0, .ref 1), (1, .int (nI f)), (2, .int (nI e)), (3, .float 23)]) (st' := [.int 3, .float 23, .int (nI (cl.getD (f + 3) 0))]) rfl rfl ?_
          refine wp_cvR (As := [.float 23, .int 3]) (r := [.int (nI (cl.getD (f + 3) 0))]) (v := (some (.int 108))) (g := (c0 :: .inl (2, .inl tx) :: t)) (st2 := [.int 108, .int (nI (cl.getD (f + 3) 0))]) (pc' := 36) rfl rfl rfl rfl ⟨80, sc_11_3 _⟩ (by omega) ?_
          refine wn_ic_eq (n := cl.getD (f + 3) 0) (m := 108) (pc' := 39) rfl (by first | omega | exact Nat.lt_trans (hlt _) (by decide)) (by first | omega | exact Nat.lt_trans (hlt _) (by decide)) rfl (fun hc5 => ?_) (fun hc5 => ?_)
          · refine wp_iinc (v := 4) (lv' := [(4, .int 4), (0, .ref 1), (1, .int (nI f)), (2, .int (nI e)), (3, .float 23)]) (pc' := 44) rfl rfl (by decide) rfl rfl rfl ?_
            refine wp_p (pc' := 15) (lv' := [(4, .int 4), (0, .ref 1), (1, .int (nI f)), (2, .int (nI e)), (3, .float 23)]) (st' := []) rfl rfl ?_
            refine wp_p (pc' := 17) (lv' := [(4, .int 4), (0, .ref 1), (1, .int (nI f)), (2, .int (nI e)), (3, .float 23)]) (st' := [.int 4]) rfl rfl ?_
            refine wp_p (pc' := 18) (lv' := [(4, .int 4), (0, .ref 1), (1, .int (nI f)), (2, .int (nI e)), (3, .float 23)]) (st' := [.float 23, .int 4]) rfl rfl ?_
            refine wp_cvR (As := [.float 23]) (r := [.int 4]) (v := (some (.int 4))) (g := (c0 :: .inl (2, .inl tx) :: t)) (st2 := [.int 4, .int 4]) (pc' := 21) rfl rfl rfl rfl ⟨40, sl_11 _⟩ (by omega) ?_
            refine wp_p (pc' := 47) (lv' := [(4, .int 4), (0, .ref 1), (1, .int (nI f)), (2, .int (nI e)), (3, .float 23)]) (st' := []) rfl rfl ?_
            refine wp_p (pc' := 48) (lv' := [(4, .int 4), (0, .ref 1), (1, .int (nI f)), (2, .int (nI e)), (3, .float 23)]) (st' := [.int 1]) rfl rfl ?_
            exact wp_r rfl rfl ⟨by rw [if_pos ((spw_11 cl f e hf he).mp ⟨by omega, by omega, by omega, by omega, by omega⟩)], rfl⟩
          · refine wp_p (pc' := 40) (lv' := [(4, .int 3), (0, .ref 1), (1, .int (nI f)), (2, .int (nI e)), (3, .float 23)]) (st' := [.int 0]) rfl rfl ?_
            exact wp_r rfl rfl ⟨by rw [if_neg (fun q => by have q := (spw_11 cl f e hf he).mpr q; omega)], rfl⟩
        · refine wp_p (pc' := 40) (lv' := [(4, .int 2), (0, .ref 1), (1, .int (nI f)), (2, .int (nI e)), (3, .float 23)]) (st' := [.int 0]) rfl rfl ?_
          exact wp_r rfl rfl ⟨by rw [if_neg (fun q => by have q := (spw_11 cl f e hf he).mpr q; omega)], rfl⟩
      · refine wp_p (pc' := 40) (lv' := [(4, .int 1), (0, .ref 1), (1, .int (nI f)), (2, .int (nI e)), (3, .float 23)]) (st' := [.int 0]) rfl rfl ?_
        exact wp_r rfl rfl ⟨by rw [if_neg (fun q => by have q := (spw_11 cl f e hf he).mpr q; omega)], rfl⟩
    · refine wp_p (pc' := 40) (lv' := [(4, .int 0), (0, .ref 1), (1, .int (nI f)), (2, .int (nI e)), (3, .float 23)]) (st' := [.int 0]) rfl rfl ?_
      exact wp_r rfl rfl ⟨by rw [if_neg (fun q => by have q := (spw_11 cl f e hf he).mpr q; omega)], rfl⟩
  · refine wp_p (pc' := 11) (lv' := [(0, .ref 1), (1, .int (nI f)), (2, .int (nI e)), (3, .float 23)]) (st' := [.int 0]) rfl rfl ?_
    exact wp_r rfl rfl ⟨by rw [if_neg (fun q => by have q := (spw_11 cl f e hf he).mpr q; omega)], rfl⟩
theorem spw_12 (cl : List Nat) (f e : Nat) (hf : f ≤ e) (he : e ≤ cl.length) : (e - f = 2 ∧ cl.getD (f + 0) 0 = 111 ∧ cl.getD (f + 1) 0 = 114) ↔ (cl.drop f).take (e - f) = [111, 114] := by
  constructor
  · intro q
    have e1 : e - f = 2 := q.1
    rw [e1]
    refine (sp_iff [111, 114] cl f (by show f + 2 ≤ _; omega)).mpr (fun j hj => ?_)
    have hj : j < 2 := hj
    rcases (show j = 0 ∨ j = 1 by omega) with rfl | rfl
    · exact q.2.1
    · exact q.2.2
  · intro q
    have e1 : e - f = 2 := sp_len he hf q
    rw [e1] at q
    have q2 := (sp_iff [111, 114] cl f (by show f + 2 ≤ _; omega)).mp q
    exact ⟨e1, q2 0 (by decide), q2 1 (by decide)⟩
set_option maxRecDepth 20000 in
theorem c_spells_12 (c0 : sm_E) (t : sm_H) (tx : List Int32) (cl : List Nat) (f e : Nat) (hlt : ∀ i, cl.getD i 0 < 65536) (h1 : tx.length = 80) (hcl : cl.length ≤ 80) (htx : ∀ i, i < cl.length → tx.getD i 0 = nI (cl.getD i 0)) (hf : f ≤ e) (he : e ≤ cl.length) : sm_run none 10 82 0 (lv_args 0 [.ref 1, .int (nI f), .int (nI e), .float 25]) [] (c0 :: .inl (2, .inl tx) :: t) ((some (.int (if (cl.drop f).take (e - f) = [111, 114] then 1 else 0))), (c0 :: .inl (2, .inl tx) :: t)) := by
  refine wp_to ?_
  refine wp_p (pc' := 1) (lv' := [(0, .ref 1), (1, .int (nI f)), (2, .int (nI e)), (3, .float 25)]) (st' := [.int (nI e)]) rfl rfl ?_
  refine wp_p (pc' := 2) (lv' := [(0, .ref 1), (1, .int (nI f)), (2, .int (nI e)), (3, .float 25)]) (st' := [.int (nI f), .int (nI e)]) rfl rfl ?_
  refine wp_isub (v := nI (e - f)) (pc' := 3) rfl (pk_sub (a := e) (b := f) (by omega)) rfl ?_
  refine wp_p (pc' := 4) (lv' := [(0, .ref 1), (1, .int (nI f)), (2, .int (nI e)), (3, .float 25)]) (st' := [.float 25, .int (nI (e - f))]) rfl rfl ?_
  refine wp_cvR (As := [.float 25]) (r := [.int (nI (e - f))]) (v := (some (.int 2))) (g := (c0 :: .inl (2, .inl tx) :: t)) (st2 := [.int 2, .int (nI (e - f))]) (pc' := 7) rfl rfl rfl rfl ⟨40, sl_12 _⟩ (by omega) ?_
  refine wn_ic_eq (n := e - f) (m := 2) (pc' := 10) rfl (by first | omega | exact Nat.lt_trans (hlt _) (by decide)) (by first | omega | exact Nat.lt_trans (hlt _) (by decide)) rfl (fun hc1 => ?_) (fun hc1 => ?_)
  · refine wp_p (pc' := 13) (lv' := [(0, .ref 1), (1, .int (nI f)), (2, .int (nI e)), (3, .float 25)]) (st' := [.int 0]) rfl rfl ?_
    refine wp_p (pc' := 15) (lv' := [(4, .int 0), (0, .ref 1), (1, .int (nI f)), (2, .int (nI e)), (3, .float 25)]) (st' := []) rfl rfl ?_
    refine wp_p (pc' := 17) (lv' := [(4, .int 0), (0, .ref 1), (1, .int (nI f)), (2, .int (nI e)), (3, .float 25)]) (st' := [.int 0]) rfl rfl ?_
    refine wp_p (pc' := 18) (lv' := [(4, .int 0), (0, .ref 1), (1, .int (nI f)), (2, .int (nI e)), (3, .float 25)]) (st' := [.float 25, .int 0]) rfl rfl ?_
    refine wp_cvR (As := [.float 25]) (r := [.int 0]) (v := (some (.int 2))) (g := (c0 :: .inl (2, .inl tx) :: t)) (st2 := [.int 2, .int 0]) (pc' := 21) rfl rfl rfl rfl ⟨40, sl_12 _⟩ (by omega) ?_
    refine wp_p (pc' := 24) (lv' := [(4, .int 0), (0, .ref 1), (1, .int (nI f)), (2, .int (nI e)), (3, .float 25)]) (st' := []) rfl rfl ?_
    refine wp_p (pc' := 25) (lv' := [(4, .int 0), (0, .ref 1), (1, .int (nI f)), (2, .int (nI e)), (3, .float 25)]) (st' := [.ref 1]) rfl rfl ?_
    refine wp_p (pc' := 26) (lv' := [(4, .int 0), (0, .ref 1), (1, .int (nI f)), (2, .int (nI e)), (3, .float 25)]) (st' := [.int (nI f), .ref 1]) rfl rfl ?_
    refine wp_p (pc' := 28) (lv' := [(4, .int 0), (0, .ref 1), (1, .int (nI f)), (2, .int (nI e)), (3, .float 25)]) (st' := [.int 0, .int (nI f), .ref 1]) rfl rfl ?_
    refine wp_iadd (v := nI (f + 0)) (pc' := 29) rfl (nI_add f 0) rfl ?_
    refine wp_caload (q := 1) (n := f + 0) (g := tx) (x := nI (cl.getD (f + 0) 0)) (pc' := 30) rfl rfl (by first | omega | exact Nat.lt_trans (hlt _) (by decide)) (by first | omega | exact Nat.lt_trans (hlt _) (by decide)) (htx _ (by omega)) rfl ?_
    refine wp_p (pc' := 31) (lv' := [(4, .int 0), (0, .ref 1), (1, .int (nI f)), (2, .int (nI e)), (3, .float 25)]) (st' := [.float 25, .int (nI (cl.getD (f + 0) 0))]) rfl rfl ?_
    refine wp_p (pc' := 33) (lv' := [(4, .int 0), (0, .ref 1), (1, .int (nI f)), (2, .int (nI e)), (3, .float 25)]) (st' := [.int 0, .float 25, .int (nI (cl.getD (f + 0) 0))]) rfl rfl ?_
    refine wp_cvR (As := [.float 25, .int 0]) (r := [.int (nI (cl.getD (f + 0) 0))]) (v := (some (.int 111))) (g := (c0 :: .inl (2, .inl tx) :: t)) (st2 := [.int 111, .int (nI (cl.getD (f + 0) 0))]) (pc' := 36) rfl rfl rfl rfl ⟨80, sc_12_0 _⟩ (by omega) ?_
    refine wn_ic_eq (n := cl.getD (f + 0) 0) (m := 111) (pc' := 39) rfl (by first | omega | exact Nat.lt_trans (hlt _) (by decide)) (by first | omega | exact Nat.lt_trans (hlt _) (by decide)) rfl (fun hc2 => ?_) (fun hc2 => ?_)
    · refine wp_iinc (v := 1) (lv' := [(4, .int 1), (0, .ref 1), (1, .int (nI f)), (2, .int (nI e)), (3, .float 25)]) (pc' := 44) rfl rfl (by decide) rfl rfl rfl ?_
      refine wp_p (pc' := 15) (lv' := [(4, .int 1), (0, .ref 1), (1, .int (nI f)), (2, .int (nI e)), (3, .float 25)]) (st' := []) rfl rfl ?_
      refine wp_p (pc' := 17) (lv' := [(4, .int 1), (0, .ref 1), (1, .int (nI f)), (2, .int (nI e)), (3, .float 25)]) (st' := [.int 1]) rfl rfl ?_
      refine wp_p (pc' := 18) (lv' := [(4, .int 1), (0, .ref 1), (1, .int (nI f)), (2, .int (nI e)), (3, .float 25)]) (st' := [.float 25, .int 1]) rfl rfl ?_
      refine wp_cvR (As := [.float 25]) (r := [.int 1]) (v := (some (.int 2))) (g := (c0 :: .inl (2, .inl tx) :: t)) (st2 := [.int 2, .int 1]) (pc' := 21) rfl rfl rfl rfl ⟨40, sl_12 _⟩ (by omega) ?_
      refine wp_p (pc' := 24) (lv' := [(4, .int 1), (0, .ref 1), (1, .int (nI f)), (2, .int (nI e)), (3, .float 25)]) (st' := []) rfl rfl ?_
      refine wp_p (pc' := 25) (lv' := [(4, .int 1), (0, .ref 1), (1, .int (nI f)), (2, .int (nI e)), (3, .float 25)]) (st' := [.ref 1]) rfl rfl ?_
      refine wp_p (pc' := 26) (lv' := [(4, .int 1), (0, .ref 1), (1, .int (nI f)), (2, .int (nI e)), (3, .float 25)]) (st' := [.int (nI f), .ref 1]) rfl rfl ?_
      refine wp_p (pc' := 28) (lv' := [(4, .int 1), (0, .ref 1), (1, .int (nI f)), (2, .int (nI e)), (3, .float 25)]) (st' := [.int 1, .int (nI f), .ref 1]) rfl rfl ?_
      refine wp_iadd (v := nI (f + 1)) (pc' := 29) rfl (nI_add f 1) rfl ?_
      refine wp_caload (q := 1) (n := f + 1) (g := tx) (x := nI (cl.getD (f + 1) 0)) (pc' := 30) rfl rfl (by first | omega | exact Nat.lt_trans (hlt _) (by decide)) (by first | omega | exact Nat.lt_trans (hlt _) (by decide)) (htx _ (by omega)) rfl ?_
      refine wp_p (pc' := 31) (lv' := [(4, .int 1), (0, .ref 1), (1, .int (nI f)), (2, .int (nI e)), (3, .float 25)]) (st' := [.float 25, .int (nI (cl.getD (f + 1) 0))]) rfl rfl ?_
      refine wp_p (pc' := 33) (lv' := [(4, .int 1), (0, .ref 1), (1, .int (nI f)), (2, .int (nI e)), (3, .float 25)]) (st' := [.int 1, .float 25, .int (nI (cl.getD (f + 1) 0))]) rfl rfl ?_
      refine wp_cvR (As := [.float 25, .int 1]) (r := [.int (nI (cl.getD (f + 1) 0))]) (v := (some (.int 114))) (g := (c0 :: .inl (2, .inl tx) :: t)) (st2 := [.int 114, .int (nI (cl.getD (f + 1) 0))]) (pc' := 36) rfl rfl rfl rfl ⟨80, sc_12_1 _⟩ (by omega) ?_
      refine wn_ic_eq (n := cl.getD (f + 1) 0) (m := 114) (pc' := 39) rfl (by first | omega | exact Nat.lt_trans (hlt _) (by decide)) (by first | omega | exact Nat.lt_trans (hlt _) (by decide)) rfl (fun hc3 => ?_) (fun hc3 => ?_)
      · refine wp_iinc (v := 2) (lv' := [(4, .int 2), (0, .ref 1), (1, .int (nI f)), (2, .int (nI e)), (3, .float 25)]) (pc' := 44) rfl rfl (by decide) rfl rfl rfl ?_
        refine wp_p (pc' := 15) (lv' := [(4, .int 2), (0, .ref 1), (1, .int (nI f)), (2, .int (nI e)), (3, .float 25)]) (st' := []) rfl rfl ?_
        refine wp_p (pc' := 17) (lv' := [(4, .int 2), (0, .ref 1), (1, .int (nI f)), (2, .int (nI e)), (3, .float 25)]) (st' := [.int 2]) rfl rfl ?_
        refine wp_p (pc' := 18) (lv' := [(4, .int 2), (0, .ref 1), (1, .int (nI f)), (2, .int (nI e)), (3, .float 25)]) (st' := [.float 25, .int 2]) rfl rfl ?_
        refine wp_cvR (As := [.float 25]) (r := [.int 2]) (v := (some (.int 2))) (g := (c0 :: .inl (2, .inl tx) :: t)) (st2 := [.int 2, .int 2]) (pc' := 21) rfl rfl rfl rfl ⟨40, sl_12 _⟩ (by omega) ?_
        refine wp_p (pc' := 47) (lv' := [(4, .int 2), (0, .ref 1), (1, .int (nI f)), (2, .int (nI e)), (3, .float 25)]) (st' := []) rfl rfl ?_
        refine wp_p (pc' := 48) (lv' := [(4, .int 2), (0, .ref 1), (1, .int (nI f)), (2, .int (nI e)), (3, .float 25)]) (st' := [.int 1]) rfl rfl ?_
        exact wp_r rfl rfl ⟨by rw [if_pos ((spw_12 cl f e hf he).mp ⟨by omega, by omega, by omega⟩)], rfl⟩
      · refine wp_p (pc' := 40) (lv' := [(4, .int 1), (0, .ref 1), (1, .int (nI f)), (2, .int (nI e)), (3, .float 25)]) (st' := [.int 0]) rfl rfl ?_
        exact wp_r rfl rfl ⟨by rw [if_neg (fun q => by have q := (spw_12 cl f e hf he).mpr q; omega)], rfl⟩
    · refine wp_p (pc' := 40) (lv' := [(4, .int 0), (0, .ref 1), (1, .int (nI f)), (2, .int (nI e)), (3, .float 25)]) (st' := [.int 0]) rfl rfl ?_
      exact wp_r rfl rfl ⟨by rw [if_neg (fun q => by have q := (spw_12 cl f e hf he).mpr q; omega)], rfl⟩
  · refine wp_p (pc' := 11) (lv' := [(0, .ref 1), (1, .int (nI f)), (2, .int (nI e)), (3, .float 25)]) (st' := [.int 0]) rfl rfl ?_
    exact wp_r rfl rfl ⟨by rw [if_neg (fun q => by have q := (spw_12 cl f e hf he).mpr q; omega)], rfl⟩
theorem spw_13 (cl : List Nat) (f e : Nat) (hf : f ≤ e) (he : e ≤ cl.length) : (e - f = 3 ∧ cl.getD (f + 0) 0 = 97 ∧ cl.getD (f + 1) 0 = 110 ∧ cl.getD (f + 2) 0 = 100) ↔ (cl.drop f).take (e - f) = [97, 110, 100] := by
  constructor
  · intro q
    have e1 : e - f = 3 := q.1
    rw [e1]
    refine (sp_iff [97, 110, 100] cl f (by show f + 3 ≤ _; omega)).mpr (fun j hj => ?_)
    have hj : j < 3 := hj
    rcases (show j = 0 ∨ j = 1 ∨ j = 2 by omega) with rfl | rfl | rfl
    · exact q.2.1
    · exact q.2.2.1
    · exact q.2.2.2
  · intro q
    have e1 : e - f = 3 := sp_len he hf q
    rw [e1] at q
    have q2 := (sp_iff [97, 110, 100] cl f (by show f + 3 ≤ _; omega)).mp q
    exact ⟨e1, q2 0 (by decide), q2 1 (by decide), q2 2 (by decide)⟩
set_option maxRecDepth 20000 in
theorem c_spells_13 (c0 : sm_E) (t : sm_H) (tx : List Int32) (cl : List Nat) (f e : Nat) (hlt : ∀ i, cl.getD i 0 < 65536) (h1 : tx.length = 80) (hcl : cl.length ≤ 80) (htx : ∀ i, i < cl.length → tx.getD i 0 = nI (cl.getD i 0)) (hf : f ≤ e) (he : e ≤ cl.length) : sm_run none 10 82 0 (lv_args 0 [.ref 1, .int (nI f), .int (nI e), .float 27]) [] (c0 :: .inl (2, .inl tx) :: t) ((some (.int (if (cl.drop f).take (e - f) = [97, 110, 100] then 1 else 0))), (c0 :: .inl (2, .inl tx) :: t)) := by
  refine wp_to ?_
  refine wp_p (pc' := 1) (lv' := [(0, .ref 1), (1, .int (nI f)), (2, .int (nI e)), (3, .float 27)]) (st' := [.int (nI e)]) rfl rfl ?_
  refine wp_p (pc' := 2) (lv' := [(0, .ref 1), (1, .int (nI f)), (2, .int (nI e)), (3, .float 27)]) (st' := [.int (nI f), .int (nI e)]) rfl rfl ?_
  refine wp_isub (v := nI (e - f)) (pc' := 3) rfl (pk_sub (a := e) (b := f) (by omega)) rfl ?_
  refine wp_p (pc' := 4) (lv' := [(0, .ref 1), (1, .int (nI f)), (2, .int (nI e)), (3, .float 27)]) (st' := [.float 27, .int (nI (e - f))]) rfl rfl ?_
  refine wp_cvR (As := [.float 27]) (r := [.int (nI (e - f))]) (v := (some (.int 3))) (g := (c0 :: .inl (2, .inl tx) :: t)) (st2 := [.int 3, .int (nI (e - f))]) (pc' := 7) rfl rfl rfl rfl ⟨40, sl_13 _⟩ (by omega) ?_
  refine wn_ic_eq (n := e - f) (m := 3) (pc' := 10) rfl (by first | omega | exact Nat.lt_trans (hlt _) (by decide)) (by first | omega | exact Nat.lt_trans (hlt _) (by decide)) rfl (fun hc1 => ?_) (fun hc1 => ?_)
  · refine wp_p (pc' := 13) (lv' := [(0, .ref 1), (1, .int (nI f)), (2, .int (nI e)), (3, .float 27)]) (st' := [.int 0]) rfl rfl ?_
    refine wp_p (pc' := 15) (lv' := [(4, .int 0), (0, .ref 1), (1, .int (nI f)), (2, .int (nI e)), (3, .float 27)]) (st' := []) rfl rfl ?_
    refine wp_p (pc' := 17) (lv' := [(4, .int 0), (0, .ref 1), (1, .int (nI f)), (2, .int (nI e)), (3, .float 27)]) (st' := [.int 0]) rfl rfl ?_
    refine wp_p (pc' := 18) (lv' := [(4, .int 0), (0, .ref 1), (1, .int (nI f)), (2, .int (nI e)), (3, .float 27)]) (st' := [.float 27, .int 0]) rfl rfl ?_
    refine wp_cvR (As := [.float 27]) (r := [.int 0]) (v := (some (.int 3))) (g := (c0 :: .inl (2, .inl tx) :: t)) (st2 := [.int 3, .int 0]) (pc' := 21) rfl rfl rfl rfl ⟨40, sl_13 _⟩ (by omega) ?_
    refine wp_p (pc' := 24) (lv' := [(4, .int 0), (0, .ref 1), (1, .int (nI f)), (2, .int (nI e)), (3, .float 27)]) (st' := []) rfl rfl ?_
    refine wp_p (pc' := 25) (lv' := [(4, .int 0), (0, .ref 1), (1, .int (nI f)), (2, .int (nI e)), (3, .float 27)]) (st' := [.ref 1]) rfl rfl ?_
    refine wp_p (pc' := 26) (lv' := [(4, .int 0), (0, .ref 1), (1, .int (nI f)), (2, .int (nI e)), (3, .float 27)]) (st' := [.int (nI f), .ref 1]) rfl rfl ?_
    refine wp_p (pc' := 28) (lv' := [(4, .int 0), (0, .ref 1), (1, .int (nI f)), (2, .int (nI e)), (3, .float 27)]) (st' := [.int 0, .int (nI f), .ref 1]) rfl rfl ?_
    refine wp_iadd (v := nI (f + 0)) (pc' := 29) rfl (nI_add f 0) rfl ?_
    refine wp_caload (q := 1) (n := f + 0) (g := tx) (x := nI (cl.getD (f + 0) 0)) (pc' := 30) rfl rfl (by first | omega | exact Nat.lt_trans (hlt _) (by decide)) (by first | omega | exact Nat.lt_trans (hlt _) (by decide)) (htx _ (by omega)) rfl ?_
    refine wp_p (pc' := 31) (lv' := [(4, .int 0), (0, .ref 1), (1, .int (nI f)), (2, .int (nI e)), (3, .float 27)]) (st' := [.float 27, .int (nI (cl.getD (f + 0) 0))]) rfl rfl ?_
    refine wp_p (pc' := 33) (lv' := [(4, .int 0), (0, .ref 1), (1, .int (nI f)), (2, .int (nI e)), (3, .float 27)]) (st' := [.int 0, .float 27, .int (nI (cl.getD (f + 0) 0))]) rfl rfl ?_
    refine wp_cvR (As := [.float 27, .int 0]) (r := [.int (nI (cl.getD (f + 0) 0))]) (v := (some (.int 97))) (g := (c0 :: .inl (2, .inl tx) :: t)) (st2 := [.int 97, .int (nI (cl.getD (f + 0) 0))]) (pc' := 36) rfl rfl rfl rfl ⟨80, sc_13_0 _⟩ (by omega) ?_
    refine wn_ic_eq (n := cl.getD (f + 0) 0) (m := 97) (pc' := 39) rfl (by first | omega | exact Nat.lt_trans (hlt _) (by decide)) (by first | omega | exact Nat.lt_trans (hlt _) (by decide)) rfl (fun hc2 => ?_) (fun hc2 => ?_)
    · refine wp_iinc (v := 1) (lv' := [(4, .int 1), (0, .ref 1), (1, .int (nI f)), (2, .int (nI e)), (3, .float 27)]) (pc' := 44) rfl rfl (by decide) rfl rfl rfl ?_
      refine wp_p (pc' := 15) (lv' := [(4, .int 1), (0, .ref 1), (1, .int (nI f)), (2, .int (nI e)), (3, .float 27)]) (st' := []) rfl rfl ?_
      refine wp_p (pc' := 17) (lv' := [(4, .int 1), (0, .ref 1), (1, .int (nI f)), (2, .int (nI e)), (3, .float 27)]) (st' := [.int 1]) rfl rfl ?_
      refine wp_p (pc' := 18) (lv' := [(4, .int 1), (0, .ref 1), (1, .int (nI f)), (2, .int (nI e)), (3, .float 27)]) (st' := [.float 27, .int 1]) rfl rfl ?_
      refine wp_cvR (As := [.float 27]) (r := [.int 1]) (v := (some (.int 3))) (g := (c0 :: .inl (2, .inl tx) :: t)) (st2 := [.int 3, .int 1]) (pc' := 21) rfl rfl rfl rfl ⟨40, sl_13 _⟩ (by omega) ?_
      refine wp_p (pc' := 24) (lv' := [(4, .int 1), (0, .ref 1), (1, .int (nI f)), (2, .int (nI e)), (3, .float 27)]) (st' := []) rfl rfl ?_
      refine wp_p (pc' := 25) (lv' := [(4, .int 1), (0, .ref 1), (1, .int (nI f)), (2, .int (nI e)), (3, .float 27)]) (st' := [.ref 1]) rfl rfl ?_
      refine wp_p (pc' := 26) (lv' := [(4, .int 1), (0, .ref 1), (1, .int (nI f)), (2, .int (nI e)), (3, .float 27)]) (st' := [.int (nI f), .ref 1]) rfl rfl ?_
      refine wp_p (pc' := 28) (lv' := [(4, .int 1), (0, .ref 1), (1, .int (nI f)), (2, .int (nI e)), (3, .float 27)]) (st' := [.int 1, .int (nI f), .ref 1]) rfl rfl ?_
      refine wp_iadd (v := nI (f + 1)) (pc' := 29) rfl (nI_add f 1) rfl ?_
      refine wp_caload (q := 1) (n := f + 1) (g := tx) (x := nI (cl.getD (f + 1) 0)) (pc' := 30) rfl rfl (by first | omega | exact Nat.lt_trans (hlt _) (by decide)) (by first | omega | exact Nat.lt_trans (hlt _) (by decide)) (htx _ (by omega)) rfl ?_
      refine wp_p (pc' := 31) (lv' := [(4, .int 1), (0, .ref 1), (1, .int (nI f)), (2, .int (nI e)), (3, .float 27)]) (st' := [.float 27, .int (nI (cl.getD (f + 1) 0))]) rfl rfl ?_
      refine wp_p (pc' := 33) (lv' := [(4, .int 1), (0, .ref 1), (1, .int (nI f)), (2, .int (nI e)), (3, .float 27)]) (st' := [.int 1, .float 27, .int (nI (cl.getD (f + 1) 0))]) rfl rfl ?_
      refine wp_cvR (As := [.float 27, .int 1]) (r := [.int (nI (cl.getD (f + 1) 0))]) (v := (some (.int 110))) (g := (c0 :: .inl (2, .inl tx) :: t)) (st2 := [.int 110, .int (nI (cl.getD (f + 1) 0))]) (pc' := 36) rfl rfl rfl rfl ⟨80, sc_13_1 _⟩ (by omega) ?_
      refine wn_ic_eq (n := cl.getD (f + 1) 0) (m := 110) (pc' := 39) rfl (by first | omega | exact Nat.lt_trans (hlt _) (by decide)) (by first | omega | exact Nat.lt_trans (hlt _) (by decide)) rfl (fun hc3 => ?_) (fun hc3 => ?_)
      · refine wp_iinc (v := 2) (lv' := [(4, .int 2), (0, .ref 1), (1, .int (nI f)), (2, .int (nI e)), (3, .float 27)]) (pc' := 44) rfl rfl (by decide) rfl rfl rfl ?_
        refine wp_p (pc' := 15) (lv' := [(4, .int 2), (0, .ref 1), (1, .int (nI f)), (2, .int (nI e)), (3, .float 27)]) (st' := []) rfl rfl ?_
        refine wp_p (pc' := 17) (lv' := [(4, .int 2), (0, .ref 1), (1, .int (nI f)), (2, .int (nI e)), (3, .float 27)]) (st' := [.int 2]) rfl rfl ?_
        refine wp_p (pc' := 18) (lv' := [(4, .int 2), (0, .ref 1), (1, .int (nI f)), (2, .int (nI e)), (3, .float 27)]) (st' := [.float 27, .int 2]) rfl rfl ?_
        refine wp_cvR (As := [.float 27]) (r := [.int 2]) (v := (some (.int 3))) (g := (c0 :: .inl (2, .inl tx) :: t)) (st2 := [.int 3, .int 2]) (pc' := 21) rfl rfl rfl rfl ⟨40, sl_13 _⟩ (by omega) ?_
        refine wp_p (pc' := 24) (lv' := [(4, .int 2), (0, .ref 1), (1, .int (nI f)), (2, .int (nI e)), (3, .float 27)]) (st' := []) rfl rfl ?_
        refine wp_p (pc' := 25) (lv' := [(4, .int 2), (0, .ref 1), (1, .int (nI f)), (2, .int (nI e)), (3, .float 27)]) (st' := [.ref 1]) rfl rfl ?_
        refine wp_p (pc' := 26) (lv' := [(4, .int 2), (0, .ref 1), (1, .int (nI f)), (2, .int (nI e)), (3, .float 27)]) (st' := [.int (nI f), .ref 1]) rfl rfl ?_
        refine wp_p (pc' := 28) (lv' := [(4, .int 2), (0, .ref 1), (1, .int (nI f)), (2, .int (nI e)), (3, .float 27)]) (st' := [.int 2, .int (nI f), .ref 1]) rfl rfl ?_
        refine wp_iadd (v := nI (f + 2)) (pc' := 29) rfl (nI_add f 2) rfl ?_
        refine wp_caload (q := 1) (n := f + 2) (g := tx) (x := nI (cl.getD (f + 2) 0)) (pc' := 30) rfl rfl (by first | omega | exact Nat.lt_trans (hlt _) (by decide)) (by first | omega | exact Nat.lt_trans (hlt _) (by decide)) (htx _ (by omega)) rfl ?_
        refine wp_p (pc' := 31) (lv' := [(4, .int 2), (0, .ref 1), (1, .int (nI f)), (2, .int (nI e)), (3, .float 27)]) (st' := [.float 27, .int (nI (cl.getD (f + 2) 0))]) rfl rfl ?_
        refine wp_p (pc' := 33) (lv' := [(4, .int 2), (0, .ref 1), (1, .int (nI f)), (2, .int (nI e)), (3, .float 27)]) (st' := [.int 2, .float 27, .int (nI (cl.getD (f + 2) 0))]) rfl rfl ?_
        refine wp_cvR (As := [.float 27, .int 2]) (r := [.int (nI (cl.getD (f + 2) 0))]) (v := (some (.int 100))) (g := (c0 :: .inl (2, .inl tx) :: t)) (st2 := [.int 100, .int (nI (cl.getD (f + 2) 0))]) (pc' := 36) rfl rfl rfl rfl ⟨80, sc_13_2 _⟩ (by omega) ?_
        refine wn_ic_eq (n := cl.getD (f + 2) 0) (m := 100) (pc' := 39) rfl (by first | omega | exact Nat.lt_trans (hlt _) (by decide)) (by first | omega | exact Nat.lt_trans (hlt _) (by decide)) rfl (fun hc4 => ?_) (fun hc4 => ?_)
        · refine wp_iinc (v := 3) (lv' := [(4, .int 3), (0, .ref 1), (1, .int (nI f)), (2, .int (nI e)), (3, .float 27)]) (pc' := 44) rfl rfl (by decide) rfl rfl rfl ?_
          refine wp_p (pc' := 15) (lv' := [(4, .int 3), (0, .ref 1), (1, .int (nI f)), (2, .int (nI e)), (3, .float 27)]) (st' := []) rfl rfl ?_
          refine wp_p (pc' := 17) (lv' := [(4, .int 3), (0, .ref 1), (1, .int (nI f)), (2, .int (nI e)), (3, .float 27)]) (st' := [.int 3]) rfl rfl ?_
          refine wp_p (pc' := 18) (lv' := [(4, .int 3), (0, .ref 1), (1, .int (nI f)), (2, .int (nI e)), (3, .float 27)]) (st' := [.float 27, .int 3]) rfl rfl ?_
          refine wp_cvR (As := [.float 27]) (r := [.int 3]) (v := (some (.int 3))) (g := (c0 :: .inl (2, .inl tx) :: t)) (st2 := [.int 3, .int 3]) (pc' := 21) rfl rfl rfl rfl ⟨40, sl_13 _⟩ (by omega) ?_
          refine wp_p (pc' := 47) (lv' := [(4, .int 3), (0, .ref 1), (1, .int (nI f)), (2, .int (nI e)), (3, .float 27)]) (st' := []) rfl rfl ?_
          refine wp_p (pc' := 48) (lv' := [(4, .int 3), (0, .ref 1), (1, .int (nI f)), (2, .int (nI e)), (3, .float 27)]) (st' := [.int 1]) rfl rfl ?_
          exact wp_r rfl rfl ⟨by rw [if_pos ((spw_13 cl f e hf he).mp ⟨by omega, by omega, by omega, by omega⟩)], rfl⟩
        · refine wp_p (pc' := 40) (lv' := [(4, .int 2), (0, .ref 1), (1, .int (nI f)), (2, .int (nI e)), (3, .float 27)]) (st' := [.int 0]) rfl rfl ?_
          exact wp_r rfl rfl ⟨by rw [if_neg (fun q => by have q := (spw_13 cl f e hf he).mpr q; omega)], rfl⟩
      · refine wp_p (pc' := 40) (lv' := [(4, .int 1), (0, .ref 1), (1, .int (nI f)), (2, .int (nI e)), (3, .float 27)]) (st' := [.int 0]) rfl rfl ?_
        exact wp_r rfl rfl ⟨by rw [if_neg (fun q => by have q := (spw_13 cl f e hf he).mpr q; omega)], rfl⟩
    · refine wp_p (pc' := 40) (lv' := [(4, .int 0), (0, .ref 1), (1, .int (nI f)), (2, .int (nI e)), (3, .float 27)]) (st' := [.int 0]) rfl rfl ?_
      exact wp_r rfl rfl ⟨by rw [if_neg (fun q => by have q := (spw_13 cl f e hf he).mpr q; omega)], rfl⟩
  · refine wp_p (pc' := 11) (lv' := [(0, .ref 1), (1, .int (nI f)), (2, .int (nI e)), (3, .float 27)]) (st' := [.int 0]) rfl rfl ?_
    exact wp_r rfl rfl ⟨by rw [if_neg (fun q => by have q := (spw_13 cl f e hf he).mpr q; omega)], rfl⟩
theorem spw_14 (cl : List Nat) (f e : Nat) (hf : f ≤ e) (he : e ≤ cl.length) : (e - f = 3 ∧ cl.getD (f + 0) 0 = 110 ∧ cl.getD (f + 1) 0 = 111 ∧ cl.getD (f + 2) 0 = 116) ↔ (cl.drop f).take (e - f) = [110, 111, 116] := by
  constructor
  · intro q
    have e1 : e - f = 3 := q.1
    rw [e1]
    refine (sp_iff [110, 111, 116] cl f (by show f + 3 ≤ _; omega)).mpr (fun j hj => ?_)
    have hj : j < 3 := hj
    rcases (show j = 0 ∨ j = 1 ∨ j = 2 by omega) with rfl | rfl | rfl
    · exact q.2.1
    · exact q.2.2.1
    · exact q.2.2.2
  · intro q
    have e1 : e - f = 3 := sp_len he hf q
    rw [e1] at q
    have q2 := (sp_iff [110, 111, 116] cl f (by show f + 3 ≤ _; omega)).mp q
    exact ⟨e1, q2 0 (by decide), q2 1 (by decide), q2 2 (by decide)⟩
set_option maxRecDepth 20000 in
theorem c_spells_14 (c0 : sm_E) (t : sm_H) (tx : List Int32) (cl : List Nat) (f e : Nat) (hlt : ∀ i, cl.getD i 0 < 65536) (h1 : tx.length = 80) (hcl : cl.length ≤ 80) (htx : ∀ i, i < cl.length → tx.getD i 0 = nI (cl.getD i 0)) (hf : f ≤ e) (he : e ≤ cl.length) : sm_run none 10 82 0 (lv_args 0 [.ref 1, .int (nI f), .int (nI e), .float 29]) [] (c0 :: .inl (2, .inl tx) :: t) ((some (.int (if (cl.drop f).take (e - f) = [110, 111, 116] then 1 else 0))), (c0 :: .inl (2, .inl tx) :: t)) := by
  refine wp_to ?_
  refine wp_p (pc' := 1) (lv' := [(0, .ref 1), (1, .int (nI f)), (2, .int (nI e)), (3, .float 29)]) (st' := [.int (nI e)]) rfl rfl ?_
  refine wp_p (pc' := 2) (lv' := [(0, .ref 1), (1, .int (nI f)), (2, .int (nI e)), (3, .float 29)]) (st' := [.int (nI f), .int (nI e)]) rfl rfl ?_
  refine wp_isub (v := nI (e - f)) (pc' := 3) rfl (pk_sub (a := e) (b := f) (by omega)) rfl ?_
  refine wp_p (pc' := 4) (lv' := [(0, .ref 1), (1, .int (nI f)), (2, .int (nI e)), (3, .float 29)]) (st' := [.float 29, .int (nI (e - f))]) rfl rfl ?_
  refine wp_cvR (As := [.float 29]) (r := [.int (nI (e - f))]) (v := (some (.int 3))) (g := (c0 :: .inl (2, .inl tx) :: t)) (st2 := [.int 3, .int (nI (e - f))]) (pc' := 7) rfl rfl rfl rfl ⟨40, sl_14 _⟩ (by omega) ?_
  refine wn_ic_eq (n := e - f) (m := 3) (pc' := 10) rfl (by first | omega | exact Nat.lt_trans (hlt _) (by decide)) (by first | omega | exact Nat.lt_trans (hlt _) (by decide)) rfl (fun hc1 => ?_) (fun hc1 => ?_)
  · refine wp_p (pc' := 13) (lv' := [(0, .ref 1), (1, .int (nI f)), (2, .int (nI e)), (3, .float 29)]) (st' := [.int 0]) rfl rfl ?_
    refine wp_p (pc' := 15) (lv' := [(4, .int 0), (0, .ref 1), (1, .int (nI f)), (2, .int (nI e)), (3, .float 29)]) (st' := []) rfl rfl ?_
    refine wp_p (pc' := 17) (lv' := [(4, .int 0), (0, .ref 1), (1, .int (nI f)), (2, .int (nI e)), (3, .float 29)]) (st' := [.int 0]) rfl rfl ?_
    refine wp_p (pc' := 18) (lv' := [(4, .int 0), (0, .ref 1), (1, .int (nI f)), (2, .int (nI e)), (3, .float 29)]) (st' := [.float 29, .int 0]) rfl rfl ?_
    refine wp_cvR (As := [.float 29]) (r := [.int 0]) (v := (some (.int 3))) (g := (c0 :: .inl (2, .inl tx) :: t)) (st2 := [.int 3, .int 0]) (pc' := 21) rfl rfl rfl rfl ⟨40, sl_14 _⟩ (by omega) ?_
    refine wp_p (pc' := 24) (lv' := [(4, .int 0), (0, .ref 1), (1, .int (nI f)), (2, .int (nI e)), (3, .float 29)]) (st' := []) rfl rfl ?_
    refine wp_p (pc' := 25) (lv' := [(4, .int 0), (0, .ref 1), (1, .int (nI f)), (2, .int (nI e)), (3, .float 29)]) (st' := [.ref 1]) rfl rfl ?_
    refine wp_p (pc' := 26) (lv' := [(4, .int 0), (0, .ref 1), (1, .int (nI f)), (2, .int (nI e)), (3, .float 29)]) (st' := [.int (nI f), .ref 1]) rfl rfl ?_
    refine wp_p (pc' := 28) (lv' := [(4, .int 0), (0, .ref 1), (1, .int (nI f)), (2, .int (nI e)), (3, .float 29)]) (st' := [.int 0, .int (nI f), .ref 1]) rfl rfl ?_
    refine wp_iadd (v := nI (f + 0)) (pc' := 29) rfl (nI_add f 0) rfl ?_
    refine wp_caload (q := 1) (n := f + 0) (g := tx) (x := nI (cl.getD (f + 0) 0)) (pc' := 30) rfl rfl (by first | omega | exact Nat.lt_trans (hlt _) (by decide)) (by first | omega | exact Nat.lt_trans (hlt _) (by decide)) (htx _ (by omega)) rfl ?_
    refine wp_p (pc' := 31) (lv' := [(4, .int 0), (0, .ref 1), (1, .int (nI f)), (2, .int (nI e)), (3, .float 29)]) (st' := [.float 29, .int (nI (cl.getD (f + 0) 0))]) rfl rfl ?_
    refine wp_p (pc' := 33) (lv' := [(4, .int 0), (0, .ref 1), (1, .int (nI f)), (2, .int (nI e)), (3, .float 29)]) (st' := [.int 0, .float 29, .int (nI (cl.getD (f + 0) 0))]) rfl rfl ?_
    refine wp_cvR (As := [.float 29, .int 0]) (r := [.int (nI (cl.getD (f + 0) 0))]) (v := (some (.int 110))) (g := (c0 :: .inl (2, .inl tx) :: t)) (st2 := [.int 110, .int (nI (cl.getD (f + 0) 0))]) (pc' := 36) rfl rfl rfl rfl ⟨80, sc_14_0 _⟩ (by omega) ?_
    refine wn_ic_eq (n := cl.getD (f + 0) 0) (m := 110) (pc' := 39) rfl (by first | omega | exact Nat.lt_trans (hlt _) (by decide)) (by first | omega | exact Nat.lt_trans (hlt _) (by decide)) rfl (fun hc2 => ?_) (fun hc2 => ?_)
    · refine wp_iinc (v := 1) (lv' := [(4, .int 1), (0, .ref 1), (1, .int (nI f)), (2, .int (nI e)), (3, .float 29)]) (pc' := 44) rfl rfl (by decide) rfl rfl rfl ?_
      refine wp_p (pc' := 15) (lv' := [(4, .int 1), (0, .ref 1), (1, .int (nI f)), (2, .int (nI e)), (3, .float 29)]) (st' := []) rfl rfl ?_
      refine wp_p (pc' := 17) (lv' := [(4, .int 1), (0, .ref 1), (1, .int (nI f)), (2, .int (nI e)), (3, .float 29)]) (st' := [.int 1]) rfl rfl ?_
      refine wp_p (pc' := 18) (lv' := [(4, .int 1), (0, .ref 1), (1, .int (nI f)), (2, .int (nI e)), (3, .float 29)]) (st' := [.float 29, .int 1]) rfl rfl ?_
      refine wp_cvR (As := [.float 29]) (r := [.int 1]) (v := (some (.int 3))) (g := (c0 :: .inl (2, .inl tx) :: t)) (st2 := [.int 3, .int 1]) (pc' := 21) rfl rfl rfl rfl ⟨40, sl_14 _⟩ (by omega) ?_
      refine wp_p (pc' := 24) (lv' := [(4, .int 1), (0, .ref 1), (1, .int (nI f)), (2, .int (nI e)), (3, .float 29)]) (st' := []) rfl rfl ?_
      refine wp_p (pc' := 25) (lv' := [(4, .int 1), (0, .ref 1), (1, .int (nI f)), (2, .int (nI e)), (3, .float 29)]) (st' := [.ref 1]) rfl rfl ?_
      refine wp_p (pc' := 26) (lv' := [(4, .int 1), (0, .ref 1), (1, .int (nI f)), (2, .int (nI e)), (3, .float 29)]) (st' := [.int (nI f), .ref 1]) rfl rfl ?_
      refine wp_p (pc' := 28) (lv' := [(4, .int 1), (0, .ref 1), (1, .int (nI f)), (2, .int (nI e)), (3, .float 29)]) (st' := [.int 1, .int (nI f), .ref 1]) rfl rfl ?_
      refine wp_iadd (v := nI (f + 1)) (pc' := 29) rfl (nI_add f 1) rfl ?_
      refine wp_caload (q := 1) (n := f + 1) (g := tx) (x := nI (cl.getD (f + 1) 0)) (pc' := 30) rfl rfl (by first | omega | exact Nat.lt_trans (hlt _) (by decide)) (by first | omega | exact Nat.lt_trans (hlt _) (by decide)) (htx _ (by omega)) rfl ?_
      refine wp_p (pc' := 31) (lv' := [(4, .int 1), (0, .ref 1), (1, .int (nI f)), (2, .int (nI e)), (3, .float 29)]) (st' := [.float 29, .int (nI (cl.getD (f + 1) 0))]) rfl rfl ?_
      refine wp_p (pc' := 33) (lv' := [(4, .int 1), (0, .ref 1), (1, .int (nI f)), (2, .int (nI e)), (3, .float 29)]) (st' := [.int 1, .float 29, .int (nI (cl.getD (f + 1) 0))]) rfl rfl ?_
      refine wp_cvR (As := [.float 29, .int 1]) (r := [.int (nI (cl.getD (f + 1) 0))]) (v := (some (.int 111))) (g := (c0 :: .inl (2, .inl tx) :: t)) (st2 := [.int 111, .int (nI (cl.getD (f + 1) 0))]) (pc' := 36) rfl rfl rfl rfl ⟨80, sc_14_1 _⟩ (by omega) ?_
      refine wn_ic_eq (n := cl.getD (f + 1) 0) (m := 111) (pc' := 39) rfl (by first | omega | exact Nat.lt_trans (hlt _) (by decide)) (by first | omega | exact Nat.lt_trans (hlt _) (by decide)) rfl (fun hc3 => ?_) (fun hc3 => ?_)
      · refine wp_iinc (v := 2) (lv' := [(4, .int 2), (0, .ref 1), (1, .int (nI f)), (2, .int (nI e)), (3, .float 29)]) (pc' := 44) rfl rfl (by decide) rfl rfl rfl ?_
        refine wp_p (pc' := 15) (lv' := [(4, .int 2), (0, .ref 1), (1, .int (nI f)), (2, .int (nI e)), (3, .float 29)]) (st' := []) rfl rfl ?_
        refine wp_p (pc' := 17) (lv' := [(4, .int 2), (0, .ref 1), (1, .int (nI f)), (2, .int (nI e)), (3, .float 29)]) (st' := [.int 2]) rfl rfl ?_
        refine wp_p (pc' := 18) (lv' := [(4, .int 2), (0, .ref 1), (1, .int (nI f)), (2, .int (nI e)), (3, .float 29)]) (st' := [.float 29, .int 2]) rfl rfl ?_
        refine wp_cvR (As := [.float 29]) (r := [.int 2]) (v := (some (.int 3))) (g := (c0 :: .inl (2, .inl tx) :: t)) (st2 := [.int 3, .int 2]) (pc' := 21) rfl rfl rfl rfl ⟨40, sl_14 _⟩ (by omega) ?_
        refine wp_p (pc' := 24) (lv' := [(4, .int 2), (0, .ref 1), (1, .int (nI f)), (2, .int (nI e)), (3, .float 29)]) (st' := []) rfl rfl ?_
        refine wp_p (pc' := 25) (lv' := [(4, .int 2), (0, .ref 1), (1, .int (nI f)), (2, .int (nI e)), (3, .float 29)]) (st' := [.ref 1]) rfl rfl ?_
        refine wp_p (pc' := 26) (lv' := [(4, .int 2), (0, .ref 1), (1, .int (nI f)), (2, .int (nI e)), (3, .float 29)]) (st' := [.int (nI f), .ref 1]) rfl rfl ?_
        refine wp_p (pc' := 28) (lv' := [(4, .int 2), (0, .ref 1), (1, .int (nI f)), (2, .int (nI e)), (3, .float 29)]) (st' := [.int 2, .int (nI f), .ref 1]) rfl rfl ?_
        refine wp_iadd (v := nI (f + 2)) (pc' := 29) rfl (nI_add f 2) rfl ?_
        refine wp_caload (q := 1) (n := f + 2) (g := tx) (x := nI (cl.getD (f + 2) 0)) (pc' := 30) rfl rfl (by first | omega | exact Nat.lt_trans (hlt _) (by decide)) (by first | omega | exact Nat.lt_trans (hlt _) (by decide)) (htx _ (by omega)) rfl ?_
        refine wp_p (pc' := 31) (lv' := [(4, .int 2), (0, .ref 1), (1, .int (nI f)), (2, .int (nI e)), (3, .float 29)]) (st' := [.float 29, .int (nI (cl.getD (f + 2) 0))]) rfl rfl ?_
        refine wp_p (pc' := 33) (lv' := [(4, .int 2), (0, .ref 1), (1, .int (nI f)), (2, .int (nI e)), (3, .float 29)]) (st' := [.int 2, .float 29, .int (nI (cl.getD (f + 2) 0))]) rfl rfl ?_
        refine wp_cvR (As := [.float 29, .int 2]) (r := [.int (nI (cl.getD (f + 2) 0))]) (v := (some (.int 116))) (g := (c0 :: .inl (2, .inl tx) :: t)) (st2 := [.int 116, .int (nI (cl.getD (f + 2) 0))]) (pc' := 36) rfl rfl rfl rfl ⟨80, sc_14_2 _⟩ (by omega) ?_
        refine wn_ic_eq (n := cl.getD (f + 2) 0) (m := 116) (pc' := 39) rfl (by first | omega | exact Nat.lt_trans (hlt _) (by decide)) (by first | omega | exact Nat.lt_trans (hlt _) (by decide)) rfl (fun hc4 => ?_) (fun hc4 => ?_)
        · refine wp_iinc (v := 3) (lv' := [(4, .int 3), (0, .ref 1), (1, .int (nI f)), (2, .int (nI e)), (3, .float 29)]) (pc' := 44) rfl rfl (by decide) rfl rfl rfl ?_
          refine wp_p (pc' := 15) (lv' := [(4, .int 3), (0, .ref 1), (1, .int (nI f)), (2, .int (nI e)), (3, .float 29)]) (st' := []) rfl rfl ?_
          refine wp_p (pc' := 17) (lv' := [(4, .int 3), (0, .ref 1), (1, .int (nI f)), (2, .int (nI e)), (3, .float 29)]) (st' := [.int 3]) rfl rfl ?_
          refine wp_p (pc' := 18) (lv' := [(4, .int 3), (0, .ref 1), (1, .int (nI f)), (2, .int (nI e)), (3, .float 29)]) (st' := [.float 29, .int 3]) rfl rfl ?_
          refine wp_cvR (As := [.float 29]) (r := [.int 3]) (v := (some (.int 3))) (g := (c0 :: .inl (2, .inl tx) :: t)) (st2 := [.int 3, .int 3]) (pc' := 21) rfl rfl rfl rfl ⟨40, sl_14 _⟩ (by omega) ?_
          refine wp_p (pc' := 47) (lv' := [(4, .int 3), (0, .ref 1), (1, .int (nI f)), (2, .int (nI e)), (3, .float 29)]) (st' := []) rfl rfl ?_
          refine wp_p (pc' := 48) (lv' := [(4, .int 3), (0, .ref 1), (1, .int (nI f)), (2, .int (nI e)), (3, .float 29)]) (st' := [.int 1]) rfl rfl ?_
          exact wp_r rfl rfl ⟨by rw [if_pos ((spw_14 cl f e hf he).mp ⟨by omega, by omega, by omega, by omega⟩)], rfl⟩
        · refine wp_p (pc' := 40) (lv' := [(4, .int 2), (0, .ref 1), (1, .int (nI f)), (2, .int (nI e)), (3, .float 29)]) (st' := [.int 0]) rfl rfl ?_
          exact wp_r rfl rfl ⟨by rw [if_neg (fun q => by have q := (spw_14 cl f e hf he).mpr q; omega)], rfl⟩
      · refine wp_p (pc' := 40) (lv' := [(4, .int 1), (0, .ref 1), (1, .int (nI f)), (2, .int (nI e)), (3, .float 29)]) (st' := [.int 0]) rfl rfl ?_
        exact wp_r rfl rfl ⟨by rw [if_neg (fun q => by have q := (spw_14 cl f e hf he).mpr q; omega)], rfl⟩
    · refine wp_p (pc' := 40) (lv' := [(4, .int 0), (0, .ref 1), (1, .int (nI f)), (2, .int (nI e)), (3, .float 29)]) (st' := [.int 0]) rfl rfl ?_
      exact wp_r rfl rfl ⟨by rw [if_neg (fun q => by have q := (spw_14 cl f e hf he).mpr q; omega)], rfl⟩
  · refine wp_p (pc' := 11) (lv' := [(0, .ref 1), (1, .int (nI f)), (2, .int (nI e)), (3, .float 29)]) (st' := [.int 0]) rfl rfl ?_
    exact wp_r rfl rfl ⟨by rw [if_neg (fun q => by have q := (spw_14 cl f e hf he).mpr q; omega)], rfl⟩
