set_option maxRecDepth 100000 in
theorem mCd_0 : Cond.code (mY 0) (mB 0) (mL 0) (mRt 0) ∈ tables_1 := List.mem_append_left _ (List.mem_of_getElem? (i := 64) rfl)
set_option maxRecDepth 100000 in
theorem mCd_1 : Cond.code (mY 1) (mB 1) (mL 1) (mRt 1) ∈ tables_1 := List.mem_append_right _ (List.mem_append_left _ (List.mem_of_getElem? (i := 124) rfl))
set_option maxRecDepth 100000 in
theorem mCd_2 : Cond.code (mY 2) (mB 2) (mL 2) (mRt 2) ∈ tables_1 := List.mem_append_right _ (List.mem_append_left _ (List.mem_of_getElem? (i := 128) rfl))
set_option maxRecDepth 100000 in
theorem mCd_3 : Cond.code (mY 3) (mB 3) (mL 3) (mRt 3) ∈ tables_1 := List.mem_append_right _ (List.mem_append_left _ (List.mem_of_getElem? (i := 136) rfl))
set_option maxRecDepth 100000 in
theorem mCd_4 : Cond.code (mY 4) (mB 4) (mL 4) (mRt 4) ∈ tables_1 := List.mem_append_right _ (List.mem_append_left _ (List.mem_of_getElem? (i := 152) rfl))
set_option maxRecDepth 100000 in
theorem mCd_5 : Cond.code (mY 5) (mB 5) (mL 5) (mRt 5) ∈ tables_1 := List.mem_append_right _ (List.mem_append_left _ (List.mem_of_getElem? (i := 165) rfl))
set_option maxRecDepth 100000 in
theorem mCd_6 : Cond.code (mY 6) (mB 6) (mL 6) (mRt 6) ∈ tables_1 := List.mem_append_right _ (List.mem_append_left _ (List.mem_of_getElem? (i := 148) rfl))
set_option maxRecDepth 100000 in
theorem mCd_7 : Cond.code (mY 7) (mB 7) (mL 7) (mRt 7) ∈ tables_1 := List.mem_append_left _ (List.mem_of_getElem? (i := 122) rfl)
set_option maxRecDepth 100000 in
theorem mCd_8 : Cond.code (mY 8) (mB 8) (mL 8) (mRt 8) ∈ tables_1 := List.mem_append_right _ (List.mem_append_right _ (List.mem_append_left _ (List.mem_of_getElem? (i := 5) rfl)))
set_option maxRecDepth 100000 in
theorem mCd_9 : Cond.code (mY 9) (mB 9) (mL 9) (mRt 9) ∈ tables_1 := List.mem_append_right _ (List.mem_append_right _ (List.mem_append_left _ (List.mem_of_getElem? (i := 10) rfl)))
set_option maxRecDepth 100000 in
theorem mCd_10 : Cond.code (mY 10) (mB 10) (mL 10) (mRt 10) ∈ tables_1 := List.mem_append_right _ (List.mem_append_right _ (List.mem_append_left _ (List.mem_of_getElem? (i := 14) rfl)))
set_option maxRecDepth 100000 in
theorem mCd_11 : Cond.code (mY 11) (mB 11) (mL 11) (mRt 11) ∈ tables_1 := List.mem_append_right _ (List.mem_append_right _ (List.mem_append_left _ (List.mem_of_getElem? (i := 18) rfl)))
set_option maxRecDepth 100000 in
theorem mCd_12 : Cond.code (mY 12) (mB 12) (mL 12) (mRt 12) ∈ tables_1 := List.mem_append_right _ (List.mem_append_right _ (List.mem_append_left _ (List.mem_of_getElem? (i := 24) rfl)))
set_option maxRecDepth 100000 in
theorem mCd_13 : Cond.code (mY 13) (mB 13) (mL 13) (mRt 13) ∈ tables_1 := List.mem_append_right _ (List.mem_append_right _ (List.mem_append_left _ (List.mem_of_getElem? (i := 29) rfl)))
set_option maxRecDepth 100000 in
theorem mCd_14 : Cond.code (mY 14) (mB 14) (mL 14) (mRt 14) ∈ tables_1 := List.mem_append_right _ (List.mem_append_right _ (List.mem_append_left _ (List.mem_of_getElem? (i := 41) rfl)))
set_option maxRecDepth 100000 in
theorem mCd_15 : Cond.code (mY 15) (mB 15) (mL 15) (mRt 15) ∈ tables_1 := List.mem_append_left _ (List.mem_of_getElem? (i := 198) rfl)
set_option maxRecDepth 100000 in
theorem mCd_16 : Cond.code (mY 16) (mB 16) (mL 16) (mRt 16) ∈ tables_1 := List.mem_append_right _ (List.mem_append_right _ (List.mem_append_left _ (List.mem_of_getElem? (i := 47) rfl)))
set_option maxRecDepth 100000 in
theorem mCd_17 : Cond.code (mY 17) (mB 17) (mL 17) (mRt 17) ∈ tables_1 := List.mem_append_left _ (List.mem_of_getElem? (i := 27) rfl)
set_option maxRecDepth 100000 in
theorem mCd_18 : Cond.code (mY 18) (mB 18) (mL 18) (mRt 18) ∈ tables_1 := List.mem_append_right _ (List.mem_append_left _ (List.mem_of_getElem? (i := 91) rfl))
set_option maxRecDepth 100000 in
theorem mCd_19 : Cond.code (mY 19) (mB 19) (mL 19) (mRt 19) ∈ tables_1 := List.mem_append_right _ (List.mem_append_left _ (List.mem_of_getElem? (i := 95) rfl))
set_option maxRecDepth 100000 in
theorem mCd_20 : Cond.code (mY 20) (mB 20) (mL 20) (mRt 20) ∈ tables_1 := List.mem_append_right _ (List.mem_append_left _ (List.mem_of_getElem? (i := 173) rfl))
set_option maxRecDepth 100000 in
theorem mCd_21 : Cond.code (mY 21) (mB 21) (mL 21) (mRt 21) ∈ tables_1 := List.mem_append_right _ (List.mem_append_left _ (List.mem_of_getElem? (i := 79) rfl))
set_option maxRecDepth 100000 in
theorem mCd_22 : Cond.code (mY 22) (mB 22) (mL 22) (mRt 22) ∈ tables_1 := List.mem_append_right _ (List.mem_append_right _ (List.mem_append_left _ (List.mem_of_getElem? (i := 65) rfl)))
set_option maxRecDepth 100000 in
theorem mCd_23 : Cond.code (mY 23) (mB 23) (mL 23) (mRt 23) ∈ tables_1 := List.mem_append_right _ (List.mem_append_left _ (List.mem_of_getElem? (i := 103) rfl))
set_option maxRecDepth 100000 in
theorem mCd_24 : Cond.code (mY 24) (mB 24) (mL 24) (mRt 24) ∈ tables_1 := List.mem_append_right _ (List.mem_append_left _ (List.mem_of_getElem? (i := 83) rfl))
set_option maxRecDepth 100000 in
theorem mCd_25 : Cond.code (mY 25) (mB 25) (mL 25) (mRt 25) ∈ tables_1 := List.mem_append_right _ (List.mem_append_left _ (List.mem_of_getElem? (i := 200) rfl))
set_option maxRecDepth 100000 in
theorem mCd_26 : Cond.code (mY 26) (mB 26) (mL 26) (mRt 26) ∈ tables_1 := List.mem_append_right _ (List.mem_append_left _ (List.mem_of_getElem? (i := 204) rfl))
set_option maxRecDepth 100000 in
theorem mCd_27 : Cond.code (mY 27) (mB 27) (mL 27) (mRt 27) ∈ tables_1 := List.mem_append_right _ (List.mem_append_left _ (List.mem_of_getElem? (i := 212) rfl))
set_option maxRecDepth 100000 in
theorem mCd_28 : Cond.code (mY 28) (mB 28) (mL 28) (mRt 28) ∈ tables_1 := List.mem_append_right _ (List.mem_append_left _ (List.mem_of_getElem? (i := 237) rfl))
set_option maxRecDepth 100000 in
theorem mCd_29 : Cond.code (mY 29) (mB 29) (mL 29) (mRt 29) ∈ tables_1 := List.mem_append_right _ (List.mem_append_left _ (List.mem_of_getElem? (i := 229) rfl))
set_option maxRecDepth 100000 in
theorem mCd_30 : Cond.code (mY 30) (mB 30) (mL 30) (mRt 30) ∈ tables_1 := List.mem_append_right _ (List.mem_append_left _ (List.mem_of_getElem? (i := 161) rfl))
set_option maxRecDepth 100000 in
theorem mCd_31 : Cond.code (mY 31) (mB 31) (mL 31) (mRt 31) ∈ tables_1 := List.mem_append_right _ (List.mem_append_left _ (List.mem_of_getElem? (i := 132) rfl))
set_option maxRecDepth 100000 in
theorem mCd_32 : Cond.code (mY 32) (mB 32) (mL 32) (mRt 32) ∈ tables_1 := List.mem_append_right _ (List.mem_append_right _ (List.mem_append_left _ (List.mem_of_getElem? (i := 165) rfl)))
set_option maxRecDepth 100000 in
theorem mCd_33 : Cond.code (mY 33) (mB 33) (mL 33) (mRt 33) ∈ tables_1 := List.mem_append_left _ (List.mem_of_getElem? (i := 97) rfl)
set_option maxRecDepth 100000 in
theorem mCd_34 : Cond.code (mY 34) (mB 34) (mL 34) (mRt 34) ∈ tables_1 := List.mem_append_right _ (List.mem_append_left _ (List.mem_of_getElem? (i := 111) rfl))
set_option maxRecDepth 100000 in
theorem mCd_35 : Cond.code (mY 35) (mB 35) (mL 35) (mRt 35) ∈ tables_1 := List.mem_append_right _ (List.mem_append_left _ (List.mem_of_getElem? (i := 116) rfl))
set_option maxRecDepth 100000 in
theorem mCd_36 : Cond.code (mY 36) (mB 36) (mL 36) (mRt 36) ∈ tables_1 := List.mem_append_right _ (List.mem_append_left _ (List.mem_of_getElem? (i := 120) rfl))
set_option maxRecDepth 100000 in
theorem mCd_37 : Cond.code (mY 37) (mB 37) (mL 37) (mRt 37) ∈ tables_1 := List.mem_append_left _ (List.mem_of_getElem? (i := 156) rfl)
set_option maxRecDepth 100000 in
theorem mCd_38 : Cond.code (mY 38) (mB 38) (mL 38) (mRt 38) ∈ tables_1 := List.mem_append_right _ (List.mem_append_right _ (List.mem_append_left _ (List.mem_of_getElem? (i := 60) rfl)))
set_option maxRecDepth 100000 in
theorem mCd_39 : Cond.code (mY 39) (mB 39) (mL 39) (mRt 39) ∈ tables_1 := List.mem_append_right _ (List.mem_append_right _ (List.mem_append_left _ (List.mem_of_getElem? (i := 71) rfl)))
set_option maxRecDepth 100000 in
theorem mCd_40 : Cond.code (mY 40) (mB 40) (mL 40) (mRt 40) ∈ tables_1 := List.mem_append_right _ (List.mem_append_right _ (List.mem_append_left _ (List.mem_of_getElem? (i := 75) rfl)))
set_option maxRecDepth 100000 in
theorem mCd_41 : Cond.code (mY 41) (mB 41) (mL 41) (mRt 41) ∈ tables_1 := List.mem_append_right _ (List.mem_append_right _ (List.mem_append_left _ (List.mem_of_getElem? (i := 97) rfl)))
set_option maxRecDepth 100000 in
theorem mCd_42 : Cond.code (mY 42) (mB 42) (mL 42) (mRt 42) ∈ tables_1 := List.mem_append_right _ (List.mem_append_right _ (List.mem_append_left _ (List.mem_of_getElem? (i := 109) rfl)))
set_option maxRecDepth 100000 in
theorem mCd_43 : Cond.code (mY 43) (mB 43) (mL 43) (mRt 43) ∈ tables_1 := List.mem_append_right _ (List.mem_append_right _ (List.mem_append_left _ (List.mem_of_getElem? (i := 101) rfl)))
set_option maxRecDepth 100000 in
theorem mCd_44 : Cond.code (mY 44) (mB 44) (mL 44) (mRt 44) ∈ tables_1 := List.mem_append_left _ (List.mem_of_getElem? (i := 212) rfl)
set_option maxRecDepth 100000 in
theorem mCd_45 : Cond.code (mY 45) (mB 45) (mL 45) (mRt 45) ∈ tables_1 := List.mem_append_right _ (List.mem_append_left _ (List.mem_of_getElem? (i := 39) rfl))
set_option maxRecDepth 100000 in
theorem mCd_46 : Cond.code (mY 46) (mB 46) (mL 46) (mRt 46) ∈ tables_1 := List.mem_append_right _ (List.mem_append_left _ (List.mem_of_getElem? (i := 47) rfl))
set_option maxRecDepth 100000 in
theorem mCd_47 : Cond.code (mY 47) (mB 47) (mL 47) (mRt 47) ∈ tables_1 := List.mem_append_right _ (List.mem_append_left _ (List.mem_of_getElem? (i := 31) rfl))
set_option maxRecDepth 100000 in
theorem mCd_48 : Cond.code (mY 48) (mB 48) (mL 48) (mRt 48) ∈ tables_1 := List.mem_append_right _ (List.mem_append_left _ (List.mem_of_getElem? (i := 55) rfl))
set_option maxRecDepth 100000 in
theorem mCd_49 : Cond.code (mY 49) (mB 49) (mL 49) (mRt 49) ∈ tables_1 := List.mem_append_right _ (List.mem_append_left _ (List.mem_of_getElem? (i := 72) rfl))
set_option maxRecDepth 100000 in
theorem mCd_50 : Cond.code (mY 50) (mB 50) (mL 50) (mRt 50) ∈ tables_1 := List.mem_append_right _ (List.mem_append_right _ (List.mem_append_left _ (List.mem_of_getElem? (i := 170) rfl)))
set_option maxRecDepth 100000 in
theorem mCd_51 : Cond.code (mY 51) (mB 51) (mL 51) (mRt 51) ∈ tables_1 := List.mem_append_left _ (List.mem_of_getElem? (i := 16) rfl)
set_option maxRecDepth 100000 in
theorem mCd_52 : Cond.code (mY 52) (mB 52) (mL 52) (mRt 52) ∈ tables_1 := List.mem_append_right _ (List.mem_append_left _ (List.mem_of_getElem? (i := 20) rfl))
set_option maxRecDepth 100000 in
theorem mCd_53 : Cond.code (mY 53) (mB 53) (mL 53) (mRt 53) ∈ tables_1 := List.mem_append_right _ (List.mem_append_left _ (List.mem_of_getElem? (i := 35) rfl))
set_option maxRecDepth 100000 in
theorem mCd_54 : Cond.code (mY 54) (mB 54) (mL 54) (mRt 54) ∈ tables_1 := List.mem_append_right _ (List.mem_append_left _ (List.mem_of_getElem? (i := 43) rfl))
set_option maxRecDepth 100000 in
theorem mCd_55 : Cond.code (mY 55) (mB 55) (mL 55) (mRt 55) ∈ tables_1 := List.mem_append_right _ (List.mem_append_left _ (List.mem_of_getElem? (i := 51) rfl))
set_option maxRecDepth 100000 in
theorem mCd_56 : Cond.code (mY 56) (mB 56) (mL 56) (mRt 56) ∈ tables_1 := List.mem_append_right _ (List.mem_append_left _ (List.mem_of_getElem? (i := 62) rfl))
set_option maxRecDepth 100000 in
theorem mCd_57 : Cond.code (mY 57) (mB 57) (mL 57) (mRt 57) ∈ tables_1 := List.mem_append_right _ (List.mem_append_left _ (List.mem_of_getElem? (i := 87) rfl))
set_option maxRecDepth 100000 in
theorem mCd_58 : Cond.code (mY 58) (mB 58) (mL 58) (mRt 58) ∈ tables_1 := List.mem_append_right _ (List.mem_append_left _ (List.mem_of_getElem? (i := 99) rfl))
set_option maxRecDepth 100000 in
theorem mCd_59 : Cond.code (mY 59) (mB 59) (mL 59) (mRt 59) ∈ tables_1 := List.mem_append_right _ (List.mem_append_left _ (List.mem_of_getElem? (i := 107) rfl))
set_option maxRecDepth 100000 in
theorem mCd_60 : Cond.code (mY 60) (mB 60) (mL 60) (mRt 60) ∈ tables_1 := List.mem_append_right _ (List.mem_append_left _ (List.mem_of_getElem? (i := 156) rfl))
set_option maxRecDepth 100000 in
theorem mCd_61 : Cond.code (mY 61) (mB 61) (mL 61) (mRt 61) ∈ tables_1 := List.mem_append_right _ (List.mem_append_left _ (List.mem_of_getElem? (i := 169) rfl))
set_option maxRecDepth 100000 in
theorem mCd_62 : Cond.code (mY 62) (mB 62) (mL 62) (mRt 62) ∈ tables_1 := List.mem_append_right _ (List.mem_append_left _ (List.mem_of_getElem? (i := 177) rfl))
set_option maxRecDepth 100000 in
theorem mCd_63 : Cond.code (mY 63) (mB 63) (mL 63) (mRt 63) ∈ tables_1 := List.mem_append_right _ (List.mem_append_left _ (List.mem_of_getElem? (i := 181) rfl))
set_option maxRecDepth 100000 in
theorem mCd_64 : Cond.code (mY 64) (mB 64) (mL 64) (mRt 64) ∈ tables_1 := List.mem_append_right _ (List.mem_append_left _ (List.mem_of_getElem? (i := 188) rfl))
set_option maxRecDepth 100000 in
theorem mCd_65 : Cond.code (mY 65) (mB 65) (mL 65) (mRt 65) ∈ tables_1 := List.mem_append_right _ (List.mem_append_left _ (List.mem_of_getElem? (i := 192) rfl))
set_option maxRecDepth 100000 in
theorem mCd_66 : Cond.code (mY 66) (mB 66) (mL 66) (mRt 66) ∈ tables_1 := List.mem_append_right _ (List.mem_append_left _ (List.mem_of_getElem? (i := 196) rfl))
set_option maxRecDepth 100000 in
theorem mCd_67 : Cond.code (mY 67) (mB 67) (mL 67) (mRt 67) ∈ tables_1 := List.mem_append_right _ (List.mem_append_left _ (List.mem_of_getElem? (i := 208) rfl))
set_option maxRecDepth 100000 in
theorem mCd_68 : Cond.code (mY 68) (mB 68) (mL 68) (mRt 68) ∈ tables_1 := List.mem_append_right _ (List.mem_append_left _ (List.mem_of_getElem? (i := 216) rfl))
set_option maxRecDepth 100000 in
theorem mCd_69 : Cond.code (mY 69) (mB 69) (mL 69) (mRt 69) ∈ tables_1 := List.mem_append_right _ (List.mem_append_right _ (List.mem_append_left _ (List.mem_of_getElem? (i := 1) rfl)))
set_option maxRecDepth 100000 in
theorem mCd_70 : Cond.code (mY 70) (mB 70) (mL 70) (mRt 70) ∈ tables_1 := List.mem_append_right _ (List.mem_append_right _ (List.mem_append_left _ (List.mem_of_getElem? (i := 33) rfl)))
set_option maxRecDepth 100000 in
theorem mCd_71 : Cond.code (mY 71) (mB 71) (mL 71) (mRt 71) ∈ tables_1 := List.mem_append_right _ (List.mem_append_right _ (List.mem_append_left _ (List.mem_of_getElem? (i := 37) rfl)))
set_option maxRecDepth 100000 in
theorem mCd_72 : Cond.code (mY 72) (mB 72) (mL 72) (mRt 72) ∈ tables_1 := List.mem_append_right _ (List.mem_append_right _ (List.mem_append_left _ (List.mem_of_getElem? (i := 52) rfl)))
set_option maxRecDepth 100000 in
theorem mCd_73 : Cond.code (mY 73) (mB 73) (mL 73) (mRt 73) ∈ tables_1 := List.mem_append_right _ (List.mem_append_right _ (List.mem_append_left _ (List.mem_of_getElem? (i := 80) rfl)))
set_option maxRecDepth 100000 in
theorem mCd_74 : Cond.code (mY 74) (mB 74) (mL 74) (mRt 74) ∈ tables_1 := List.mem_append_right _ (List.mem_append_right _ (List.mem_append_left _ (List.mem_of_getElem? (i := 93) rfl)))
set_option maxRecDepth 100000 in
theorem mCd_75 : Cond.code (mY 75) (mB 75) (mL 75) (mRt 75) ∈ tables_1 := List.mem_append_right _ (List.mem_append_right _ (List.mem_append_left _ (List.mem_of_getElem? (i := 105) rfl)))
set_option maxRecDepth 100000 in
theorem mCd_76 : Cond.code (mY 76) (mB 76) (mL 76) (mRt 76) ∈ tables_1 := List.mem_append_right _ (List.mem_append_right _ (List.mem_append_left _ (List.mem_of_getElem? (i := 113) rfl)))
set_option maxRecDepth 100000 in
theorem mCd_77 : Cond.code (mY 77) (mB 77) (mL 77) (mRt 77) ∈ tables_1 := List.mem_append_right _ (List.mem_append_right _ (List.mem_append_left _ (List.mem_of_getElem? (i := 121) rfl)))
set_option maxRecDepth 100000 in
theorem mCd_78 : Cond.code (mY 78) (mB 78) (mL 78) (mRt 78) ∈ tables_1 := List.mem_append_right _ (List.mem_append_right _ (List.mem_append_left _ (List.mem_of_getElem? (i := 127) rfl)))
set_option maxRecDepth 100000 in
theorem mCd_79 : Cond.code (mY 79) (mB 79) (mL 79) (mRt 79) ∈ tables_1 := List.mem_append_right _ (List.mem_append_right _ (List.mem_append_left _ (List.mem_of_getElem? (i := 132) rfl)))
set_option maxRecDepth 100000 in
theorem mCd_80 : Cond.code (mY 80) (mB 80) (mL 80) (mRt 80) ∈ tables_1 := List.mem_append_right _ (List.mem_append_right _ (List.mem_append_left _ (List.mem_of_getElem? (i := 136) rfl)))
set_option maxRecDepth 100000 in
theorem mCd_81 : Cond.code (mY 81) (mB 81) (mL 81) (mRt 81) ∈ tables_1 := List.mem_append_right _ (List.mem_append_right _ (List.mem_append_left _ (List.mem_of_getElem? (i := 140) rfl)))
set_option maxRecDepth 100000 in
theorem mCd_82 : Cond.code (mY 82) (mB 82) (mL 82) (mRt 82) ∈ tables_1 := List.mem_append_right _ (List.mem_append_right _ (List.mem_append_left _ (List.mem_of_getElem? (i := 152) rfl)))
set_option maxRecDepth 100000 in
theorem mCd_83 : Cond.code (mY 83) (mB 83) (mL 83) (mRt 83) ∈ tables_1 := List.mem_append_right _ (List.mem_append_right _ (List.mem_append_left _ (List.mem_of_getElem? (i := 156) rfl)))
set_option maxRecDepth 100000 in
theorem mCd_84 : Cond.code (mY 84) (mB 84) (mL 84) (mRt 84) ∈ tables_1 := List.mem_append_right _ (List.mem_append_right _ (List.mem_append_left _ (List.mem_of_getElem? (i := 160) rfl)))
set_option maxRecDepth 100000 in
theorem mCd_85 : Cond.code (mY 85) (mB 85) (mL 85) (mRt 85) ∈ tables_1 := List.mem_append_right _ (List.mem_append_left _ (List.mem_of_getElem? (i := 23) rfl))
set_option maxRecDepth 100000 in
theorem mCd_86 : Cond.code (mY 86) (mB 86) (mL 86) (mRt 86) ∈ tables_1 := List.mem_append_right _ (List.mem_append_left _ (List.mem_of_getElem? (i := 65) rfl))
set_option maxRecDepth 100000 in
theorem mCd_87 : Cond.code (mY 87) (mB 87) (mL 87) (mRt 87) ∈ tables_1 := List.mem_append_right _ (List.mem_append_left _ (List.mem_of_getElem? (i := 219) rfl))
set_option maxRecDepth 100000 in
theorem mCd_88 : Cond.code (mY 88) (mB 88) (mL 88) (mRt 88) ∈ tables_1 := List.mem_append_right _ (List.mem_append_left _ (List.mem_of_getElem? (i := 225) rfl))
set_option maxRecDepth 100000 in
theorem mCd_89 : Cond.code (mY 89) (mB 89) (mL 89) (mRt 89) ∈ tables_1 := List.mem_append_right _ (List.mem_append_left _ (List.mem_of_getElem? (i := 184) rfl))
set_option maxRecDepth 100000 in
theorem mCd_90 : Cond.code (mY 90) (mB 90) (mL 90) (mRt 90) ∈ tables_1 := List.mem_append_right _ (List.mem_append_left _ (List.mem_of_getElem? (i := 68) rfl))
set_option maxRecDepth 100000 in
theorem mCd_91 : Cond.code (mY 91) (mB 91) (mL 91) (mRt 91) ∈ tables_1 := List.mem_append_right _ (List.mem_append_left _ (List.mem_of_getElem? (i := 75) rfl))
set_option maxRecDepth 100000 in
theorem mCd_92 : Cond.code (mY 92) (mB 92) (mL 92) (mRt 92) ∈ tables_1 := List.mem_append_right _ (List.mem_append_left _ (List.mem_of_getElem? (i := 27) rfl))
set_option maxRecDepth 100000 in
theorem mCd_93 : Cond.code (mY 93) (mB 93) (mL 93) (mRt 93) ∈ tables_1 := List.mem_append_right _ (List.mem_append_right _ (List.mem_append_left _ (List.mem_of_getElem? (i := 56) rfl)))
set_option maxRecDepth 100000 in
theorem mCd_94 : Cond.code (mY 94) (mB 94) (mL 94) (mRt 94) ∈ tables_1 := List.mem_append_right _ (List.mem_append_right _ (List.mem_append_left _ (List.mem_of_getElem? (i := 85) rfl)))
set_option maxRecDepth 100000 in
theorem mCd_95 : Cond.code (mY 95) (mB 95) (mL 95) (mRt 95) ∈ tables_1 := List.mem_append_right _ (List.mem_append_right _ (List.mem_append_left _ (List.mem_of_getElem? (i := 89) rfl)))
set_option maxRecDepth 100000 in
theorem mCd_96 : Cond.code (mY 96) (mB 96) (mL 96) (mRt 96) ∈ tables_1 := List.mem_append_right _ (List.mem_append_right _ (List.mem_append_left _ (List.mem_of_getElem? (i := 117) rfl)))
set_option maxRecDepth 100000 in
theorem mCd_97 : Cond.code (mY 97) (mB 97) (mL 97) (mRt 97) ∈ tables_1 := List.mem_append_right _ (List.mem_append_right _ (List.mem_append_left _ (List.mem_of_getElem? (i := 144) rfl)))
set_option maxRecDepth 100000 in
theorem mCd_98 : Cond.code (mY 98) (mB 98) (mL 98) (mRt 98) ∈ tables_1 := List.mem_append_right _ (List.mem_append_right _ (List.mem_append_left _ (List.mem_of_getElem? (i := 148) rfl)))
set_option maxRecDepth 100000 in
theorem mCd_99 : Cond.code (mY 99) (mB 99) (mL 99) (mRt 99) ∈ tables_1 := List.mem_append_right _ (List.mem_append_right _ (List.mem_append_left _ (List.mem_of_getElem? (i := 176) rfl)))
set_option maxRecDepth 100000 in
theorem mCd_100 : Cond.code (mY 100) (mB 100) (mL 100) (mRt 100) ∈ tables_1 := List.mem_append_right _ (List.mem_append_right _ (List.mem_append_right _ (List.mem_append_left _ (List.mem_of_getElem? (i := 38) rfl))))
set_option maxRecDepth 100000 in
theorem mCd_101 : Cond.code (mY 101) (mB 101) (mL 101) (mRt 101) ∈ tables_1 := List.mem_append_right _ (List.mem_append_right _ (List.mem_append_right _ (List.mem_append_left _ (List.mem_of_getElem? (i := 42) rfl))))
set_option maxRecDepth 100000 in
theorem mCd_102 : Cond.code (mY 102) (mB 102) (mL 102) (mRt 102) ∈ tables_1 := List.mem_append_right _ (List.mem_append_right _ (List.mem_append_right _ (List.mem_append_left _ (List.mem_of_getElem? (i := 35) rfl))))
set_option maxRecDepth 100000 in
theorem mCd_103 : Cond.code (mY 103) (mB 103) (mL 103) (mRt 103) ∈ tables_1 := List.mem_append_right _ (List.mem_append_right _ (List.mem_append_right _ (List.mem_append_left _ (List.mem_of_getElem? (i := 50) rfl))))
set_option maxRecDepth 100000 in
theorem mCd_104 : Cond.code (mY 104) (mB 104) (mL 104) (mRt 104) ∈ tables_1 := List.mem_append_right _ (List.mem_append_right _ (List.mem_append_right _ (List.mem_append_left _ (List.mem_of_getElem? (i := 32) rfl))))
set_option maxRecDepth 100000 in
theorem mCd_105 : Cond.code (mY 105) (mB 105) (mL 105) (mRt 105) ∈ tables_1 := List.mem_append_right _ (List.mem_append_right _ (List.mem_append_right _ (List.mem_append_left _ (List.mem_of_getElem? (i := 46) rfl))))
set_option maxRecDepth 100000 in
theorem mCd_106 : Cond.code (mY 106) (mB 106) (mL 106) (mRt 106) ∈ tables_1 := List.mem_append_right _ (List.mem_append_right _ (List.mem_append_right _ (List.mem_append_left _ (List.mem_of_getElem? (i := 54) rfl))))
set_option maxRecDepth 100000 in
theorem mCd_107 : Cond.code (mY 107) (mB 107) (mL 107) (mRt 107) ∈ tables_1 := List.mem_append_right _ (List.mem_append_right _ (List.mem_append_right _ (List.mem_append_left _ (List.mem_of_getElem? (i := 58) rfl))))
set_option maxRecDepth 100000 in
theorem mCd_108 : Cond.code (mY 108) (mB 108) (mL 108) (mRt 108) ∈ tables_1 := List.mem_append_right _ (List.mem_append_right _ (List.mem_append_right _ (List.mem_append_left _ (List.mem_of_getElem? (i := 93) rfl))))
set_option maxRecDepth 100000 in
theorem mCd_109 : Cond.code (mY 109) (mB 109) (mL 109) (mRt 109) ∈ tables_1 := List.mem_append_right _ (List.mem_append_right _ (List.mem_append_right _ (List.mem_append_left _ (List.mem_of_getElem? (i := 65) rfl))))
set_option maxRecDepth 100000 in
theorem mCd_110 : Cond.code (mY 110) (mB 110) (mL 110) (mRt 110) ∈ tables_1 := List.mem_append_right _ (List.mem_append_right _ (List.mem_append_right _ (List.mem_append_left _ (List.mem_of_getElem? (i := 85) rfl))))
set_option maxRecDepth 100000 in
theorem mCd_111 : Cond.code (mY 111) (mB 111) (mL 111) (mRt 111) ∈ tables_1 := List.mem_append_right _ (List.mem_append_right _ (List.mem_append_right _ (List.mem_append_left _ (List.mem_of_getElem? (i := 89) rfl))))
set_option maxRecDepth 100000 in
theorem mCd_112 : Cond.code (mY 112) (mB 112) (mL 112) (mRt 112) ∈ tables_1 := List.mem_append_right _ (List.mem_append_right _ (List.mem_append_right _ (List.mem_append_left _ (List.mem_of_getElem? (i := 77) rfl))))
set_option maxRecDepth 100000 in
theorem mCd_113 : Cond.code (mY 113) (mB 113) (mL 113) (mRt 113) ∈ tables_1 := List.mem_append_right _ (List.mem_append_right _ (List.mem_append_right _ (List.mem_append_left _ (List.mem_of_getElem? (i := 69) rfl))))
set_option maxRecDepth 100000 in
theorem mCd_114 : Cond.code (mY 114) (mB 114) (mL 114) (mRt 114) ∈ tables_1 := List.mem_append_right _ (List.mem_append_right _ (List.mem_append_right _ (List.mem_append_left _ (List.mem_of_getElem? (i := 73) rfl))))
set_option maxRecDepth 100000 in
theorem mCd_115 : Cond.code (mY 115) (mB 115) (mL 115) (mRt 115) ∈ tables_1 := List.mem_append_right _ (List.mem_append_right _ (List.mem_append_right _ (List.mem_append_left _ (List.mem_of_getElem? (i := 62) rfl))))
set_option maxRecDepth 100000 in
theorem mCd_116 : Cond.code (mY 116) (mB 116) (mL 116) (mRt 116) ∈ tables_1 := List.mem_append_right _ (List.mem_append_right _ (List.mem_append_right _ (List.mem_append_left _ (List.mem_of_getElem? (i := 81) rfl))))
set_option maxRecDepth 100000 in
theorem mCd_117 : Cond.code (mY 117) (mB 117) (mL 117) (mRt 117) ∈ tables_1 := List.mem_append_right _ (List.mem_append_right _ (List.mem_append_right _ (List.mem_append_left _ (List.mem_of_getElem? (i := 97) rfl))))
set_option maxRecDepth 100000 in
theorem mCd_118 : Cond.code (mY 118) (mB 118) (mL 118) (mRt 118) ∈ tables_1 := List.mem_append_right _ (List.mem_append_right _ (List.mem_append_right _ (List.mem_append_left _ (List.mem_of_getElem? (i := 129) rfl))))
set_option maxRecDepth 100000 in
theorem mCd_119 : Cond.code (mY 119) (mB 119) (mL 119) (mRt 119) ∈ tables_1 := List.mem_append_right _ (List.mem_append_right _ (List.mem_append_right _ (List.mem_append_left _ (List.mem_of_getElem? (i := 133) rfl))))
set_option maxRecDepth 100000 in
theorem mCd_120 : Cond.code (mY 120) (mB 120) (mL 120) (mRt 120) ∈ tables_1 := List.mem_append_right _ (List.mem_append_right _ (List.mem_append_right _ (List.mem_append_left _ (List.mem_of_getElem? (i := 125) rfl))))
set_option maxRecDepth 100000 in
theorem mCd_121 : Cond.code (mY 121) (mB 121) (mL 121) (mRt 121) ∈ tables_1 := List.mem_append_right _ (List.mem_append_right _ (List.mem_append_right _ (List.mem_append_left _ (List.mem_of_getElem? (i := 121) rfl))))
set_option maxRecDepth 100000 in
theorem mCd_122 : Cond.code (mY 122) (mB 122) (mL 122) (mRt 122) ∈ tables_1 := List.mem_append_right _ (List.mem_append_right _ (List.mem_append_right _ (List.mem_append_left _ (List.mem_of_getElem? (i := 117) rfl))))
set_option maxRecDepth 100000 in
theorem mCd_123 : Cond.code (mY 123) (mB 123) (mL 123) (mRt 123) ∈ tables_1 := List.mem_append_right _ (List.mem_append_right _ (List.mem_append_right _ (List.mem_append_left _ (List.mem_of_getElem? (i := 109) rfl))))
set_option maxRecDepth 100000 in
theorem mCd_124 : Cond.code (mY 124) (mB 124) (mL 124) (mRt 124) ∈ tables_1 := List.mem_append_right _ (List.mem_append_right _ (List.mem_append_right _ (List.mem_append_left _ (List.mem_of_getElem? (i := 113) rfl))))
set_option maxRecDepth 100000 in
theorem mCd_125 : Cond.code (mY 125) (mB 125) (mL 125) (mRt 125) ∈ tables_1 := List.mem_append_right _ (List.mem_append_right _ (List.mem_append_right _ (List.mem_append_left _ (List.mem_of_getElem? (i := 105) rfl))))
set_option maxRecDepth 100000 in
theorem mCd_126 : Cond.code (mY 126) (mB 126) (mL 126) (mRt 126) ∈ tables_1 := List.mem_append_right _ (List.mem_append_right _ (List.mem_append_right _ (List.mem_append_left _ (List.mem_of_getElem? (i := 101) rfl))))
set_option maxRecDepth 100000 in
theorem mCd_127 : Cond.code (mY 127) (mB 127) (mL 127) (mRt 127) ∈ tables_1 := List.mem_append_right _ (List.mem_append_right _ (List.mem_append_right _ (List.mem_append_left _ (List.mem_of_getElem? (i := 141) rfl))))
set_option maxRecDepth 100000 in
theorem mCd_128 : Cond.code (mY 128) (mB 128) (mL 128) (mRt 128) ∈ tables_1 := List.mem_append_right _ (List.mem_append_right _ (List.mem_append_right _ (List.mem_append_left _ (List.mem_of_getElem? (i := 137) rfl))))
set_option maxRecDepth 100000 in
theorem mCd_129 : Cond.code (mY 129) (mB 129) (mL 129) (mRt 129) ∈ tables_1 := List.mem_append_right _ (List.mem_append_right _ (List.mem_append_right _ (List.mem_append_left _ (List.mem_of_getElem? (i := 145) rfl))))
set_option maxRecDepth 100000 in
theorem mCd_130 : Cond.code (mY 130) (mB 130) (mL 130) (mRt 130) ∈ tables_1 := List.mem_append_right _ (List.mem_append_right _ (List.mem_append_right _ (List.mem_append_left _ (List.mem_of_getElem? (i := 149) rfl))))
set_option maxRecDepth 100000 in
theorem mCd_131 : Cond.code (mY 131) (mB 131) (mL 131) (mRt 131) ∈ tables_1 := List.mem_append_right _ (List.mem_append_right _ (List.mem_append_right _ (List.mem_append_left _ (List.mem_of_getElem? (i := 153) rfl))))
set_option maxRecDepth 100000 in
theorem mCd_132 : Cond.code (mY 132) (mB 132) (mL 132) (mRt 132) ∈ tables_1 := List.mem_append_right _ (List.mem_append_right _ (List.mem_append_right _ (List.mem_append_left _ (List.mem_of_getElem? (i := 161) rfl))))
set_option maxRecDepth 100000 in
theorem mCd_133 : Cond.code (mY 133) (mB 133) (mL 133) (mRt 133) ∈ tables_1 := List.mem_append_right _ (List.mem_append_right _ (List.mem_append_right _ (List.mem_append_left _ (List.mem_of_getElem? (i := 165) rfl))))
set_option maxRecDepth 100000 in
theorem mCd_134 : Cond.code (mY 134) (mB 134) (mL 134) (mRt 134) ∈ tables_1 := List.mem_append_right _ (List.mem_append_right _ (List.mem_append_right _ (List.mem_append_left _ (List.mem_of_getElem? (i := 157) rfl))))
set_option maxRecDepth 100000 in
theorem mCd_135 : Cond.code (mY 135) (mB 135) (mL 135) (mRt 135) ∈ tables_1 := List.mem_append_right _ (List.mem_append_right _ (List.mem_append_right _ (List.mem_append_left _ (List.mem_of_getElem? (i := 169) rfl))))
set_option maxRecDepth 100000 in
theorem mCd_136 : Cond.code (mY 136) (mB 136) (mL 136) (mRt 136) ∈ tables_1 := List.mem_append_right _ (List.mem_append_right _ (List.mem_append_right _ (List.mem_append_left _ (List.mem_of_getElem? (i := 181) rfl))))
set_option maxRecDepth 100000 in
theorem mCd_137 : Cond.code (mY 137) (mB 137) (mL 137) (mRt 137) ∈ tables_1 := List.mem_append_right _ (List.mem_append_right _ (List.mem_append_right _ (List.mem_append_left _ (List.mem_of_getElem? (i := 177) rfl))))
set_option maxRecDepth 100000 in
theorem mCd_138 : Cond.code (mY 138) (mB 138) (mL 138) (mRt 138) ∈ tables_1 := List.mem_append_right _ (List.mem_append_right _ (List.mem_append_right _ (List.mem_append_left _ (List.mem_of_getElem? (i := 189) rfl))))
set_option maxRecDepth 100000 in
theorem mCd_139 : Cond.code (mY 139) (mB 139) (mL 139) (mRt 139) ∈ tables_1 := List.mem_append_right _ (List.mem_append_right _ (List.mem_append_right _ (List.mem_append_left _ (List.mem_of_getElem? (i := 173) rfl))))
set_option maxRecDepth 100000 in
theorem mCd_140 : Cond.code (mY 140) (mB 140) (mL 140) (mRt 140) ∈ tables_1 := List.mem_append_right _ (List.mem_append_right _ (List.mem_append_right _ (List.mem_append_left _ (List.mem_of_getElem? (i := 185) rfl))))
set_option maxRecDepth 100000 in
theorem mCd_141 : Cond.code (mY 141) (mB 141) (mL 141) (mRt 141) ∈ tables_1 := List.mem_append_right _ (List.mem_append_right _ (List.mem_append_right _ (List.mem_append_left _ (List.mem_of_getElem? (i := 196) rfl))))
set_option maxRecDepth 100000 in
theorem mCd_142 : Cond.code (mY 142) (mB 142) (mL 142) (mRt 142) ∈ tables_1 := List.mem_append_right _ (List.mem_append_right _ (List.mem_append_right _ (List.mem_append_left _ (List.mem_of_getElem? (i := 200) rfl))))
set_option maxRecDepth 100000 in
theorem mCd_143 : Cond.code (mY 143) (mB 143) (mL 143) (mRt 143) ∈ tables_1 := List.mem_append_right _ (List.mem_append_right _ (List.mem_append_right _ (List.mem_append_left _ (List.mem_of_getElem? (i := 193) rfl))))
set_option maxRecDepth 100000 in
theorem mCd_144 : Cond.code (mY 144) (mB 144) (mL 144) (mRt 144) ∈ tables_1 := List.mem_append_right _ (List.mem_append_right _ (List.mem_append_right _ (List.mem_append_left _ (List.mem_of_getElem? (i := 208) rfl))))
set_option maxRecDepth 100000 in
theorem mCd_145 : Cond.code (mY 145) (mB 145) (mL 145) (mRt 145) ∈ tables_1 := List.mem_append_right _ (List.mem_append_right _ (List.mem_append_right _ (List.mem_append_left _ (List.mem_of_getElem? (i := 212) rfl))))
set_option maxRecDepth 100000 in
theorem mCd_146 : Cond.code (mY 146) (mB 146) (mL 146) (mRt 146) ∈ tables_1 := List.mem_append_right _ (List.mem_append_right _ (List.mem_append_right _ (List.mem_append_left _ (List.mem_of_getElem? (i := 216) rfl))))
set_option maxRecDepth 100000 in
theorem mCd_147 : Cond.code (mY 147) (mB 147) (mL 147) (mRt 147) ∈ tables_1 := List.mem_append_right _ (List.mem_append_right _ (List.mem_append_right _ (List.mem_append_left _ (List.mem_of_getElem? (i := 224) rfl))))
set_option maxRecDepth 100000 in
theorem mCd_148 : Cond.code (mY 148) (mB 148) (mL 148) (mRt 148) ∈ tables_1 := List.mem_append_right _ (List.mem_append_right _ (List.mem_append_right _ (List.mem_append_left _ (List.mem_of_getElem? (i := 204) rfl))))
set_option maxRecDepth 100000 in
theorem mCd_149 : Cond.code (mY 149) (mB 149) (mL 149) (mRt 149) ∈ tables_1 := List.mem_append_right _ (List.mem_append_right _ (List.mem_append_right _ (List.mem_append_left _ (List.mem_of_getElem? (i := 220) rfl))))
set_option maxRecDepth 100000 in
theorem mCd_150 : Cond.code (mY 150) (mB 150) (mL 150) (mRt 150) ∈ tables_1 := List.mem_append_right _ (List.mem_append_right _ (List.mem_append_right _ (List.mem_append_left _ (List.mem_of_getElem? (i := 232) rfl))))
set_option maxRecDepth 100000 in
theorem mCd_151 : Cond.code (mY 151) (mB 151) (mL 151) (mRt 151) ∈ tables_1 := List.mem_append_right _ (List.mem_append_right _ (List.mem_append_right _ (List.mem_append_left _ (List.mem_of_getElem? (i := 237) rfl))))
set_option maxRecDepth 100000 in
theorem mCd_152 : Cond.code (mY 152) (mB 152) (mL 152) (mRt 152) ∈ tables_1 := List.mem_append_right _ (List.mem_append_right _ (List.mem_append_right _ (List.mem_append_left _ (List.mem_of_getElem? (i := 228) rfl))))
set_option maxRecDepth 100000 in
theorem mCd_153 : Cond.code (mY 153) (mB 153) (mL 153) (mRt 153) ∈ tables_1 := List.mem_append_right _ (List.mem_append_right _ (List.mem_append_right _ (List.mem_append_right _ (List.mem_of_getElem? (i := 17) rfl))))
set_option maxRecDepth 100000 in
theorem mCd_154 : Cond.code (mY 154) (mB 154) (mL 154) (mRt 154) ∈ tables_1 := List.mem_append_right _ (List.mem_append_right _ (List.mem_append_right _ (List.mem_append_right _ (List.mem_of_getElem? (i := 13) rfl))))
set_option maxRecDepth 100000 in
theorem mCd_155 : Cond.code (mY 155) (mB 155) (mL 155) (mRt 155) ∈ tables_1 := List.mem_append_right _ (List.mem_append_right _ (List.mem_append_right _ (List.mem_append_right _ (List.mem_of_getElem? (i := 9) rfl))))
set_option maxRecDepth 100000 in
theorem mCd_156 : Cond.code (mY 156) (mB 156) (mL 156) (mRt 156) ∈ tables_1 := List.mem_append_right _ (List.mem_append_right _ (List.mem_append_right _ (List.mem_append_right _ (List.mem_of_getElem? (i := 5) rfl))))
set_option maxRecDepth 100000 in
theorem mCd_157 : Cond.code (mY 157) (mB 157) (mL 157) (mRt 157) ∈ tables_1 := List.mem_append_right _ (List.mem_append_right _ (List.mem_append_right _ (List.mem_append_right _ (List.mem_of_getElem? (i := 1) rfl))))
set_option maxRecDepth 100000 in
theorem mCd_158 : Cond.code (mY 158) (mB 158) (mL 158) (mRt 158) ∈ tables_1 := List.mem_append_right _ (List.mem_append_right _ (List.mem_append_right _ (List.mem_append_right _ (List.mem_of_getElem? (i := 21) rfl))))
set_option maxRecDepth 100000 in
theorem mCd_159 : Cond.code (mY 159) (mB 159) (mL 159) (mRt 159) ∈ tables_1 := List.mem_append_right _ (List.mem_append_right _ (List.mem_append_right _ (List.mem_append_right _ (List.mem_of_getElem? (i := 29) rfl))))
set_option maxRecDepth 100000 in
theorem mCd_160 : Cond.code (mY 160) (mB 160) (mL 160) (mRt 160) ∈ tables_1 := List.mem_append_right _ (List.mem_append_right _ (List.mem_append_right _ (List.mem_append_right _ (List.mem_of_getElem? (i := 25) rfl))))
set_option maxRecDepth 100000 in
theorem mCd_161 : Cond.code (mY 161) (mB 161) (mL 161) (mRt 161) ∈ tables_1 := List.mem_append_right _ (List.mem_append_right _ (List.mem_append_right _ (List.mem_append_right _ (List.mem_of_getElem? (i := 33) rfl))))
set_option maxRecDepth 100000 in
theorem mCd_162 : Cond.code (mY 162) (mB 162) (mL 162) (mRt 162) ∈ tables_1 := List.mem_append_right _ (List.mem_append_right _ (List.mem_append_right _ (List.mem_append_right _ (List.mem_of_getElem? (i := 41) rfl))))
set_option maxRecDepth 100000 in
theorem mCd_163 : Cond.code (mY 163) (mB 163) (mL 163) (mRt 163) ∈ tables_1 := List.mem_append_right _ (List.mem_append_right _ (List.mem_append_right _ (List.mem_append_right _ (List.mem_of_getElem? (i := 37) rfl))))
set_option maxRecDepth 100000 in
theorem mCd_164 : Cond.code (mY 164) (mB 164) (mL 164) (mRt 164) ∈ tables_1 := List.mem_append_right _ (List.mem_append_right _ (List.mem_append_right _ (List.mem_append_right _ (List.mem_of_getElem? (i := 45) rfl))))
set_option maxRecDepth 100000 in
theorem mCd_165 : Cond.code (mY 165) (mB 165) (mL 165) (mRt 165) ∈ tables_1 := List.mem_append_right _ (List.mem_append_right _ (List.mem_append_right _ (List.mem_append_right _ (List.mem_of_getElem? (i := 51) rfl))))
set_option maxRecDepth 100000 in
theorem mCd_166 : Cond.code (mY 166) (mB 166) (mL 166) (mRt 166) ∈ tables_1 := List.mem_append_right _ (List.mem_append_right _ (List.mem_append_right _ (List.mem_append_right _ (List.mem_of_getElem? (i := 55) rfl))))
set_option maxRecDepth 100000 in
theorem mCd_167 : Cond.code (mY 167) (mB 167) (mL 167) (mRt 167) ∈ tables_1 := List.mem_append_right _ (List.mem_append_right _ (List.mem_append_right _ (List.mem_append_right _ (List.mem_of_getElem? (i := 59) rfl))))
set_option maxRecDepth 100000 in
theorem mCd_168 : Cond.code (mY 168) (mB 168) (mL 168) (mRt 168) ∈ tables_1 := List.mem_append_right _ (List.mem_append_right _ (List.mem_append_right _ (List.mem_append_right _ (List.mem_of_getElem? (i := 63) rfl))))
set_option maxRecDepth 100000 in
theorem mCd_169 : Cond.code (mY 169) (mB 169) (mL 169) (mRt 169) ∈ tables_1 := List.mem_append_right _ (List.mem_append_right _ (List.mem_append_right _ (List.mem_append_right _ (List.mem_of_getElem? (i := 67) rfl))))
set_option maxRecDepth 100000 in
theorem mCd_170 : Cond.code (mY 170) (mB 170) (mL 170) (mRt 170) ∈ tables_1 := List.mem_append_right _ (List.mem_append_right _ (List.mem_append_right _ (List.mem_append_right _ (List.mem_of_getElem? (i := 71) rfl))))
set_option maxRecDepth 100000 in
theorem mCd_171 : Cond.code (mY 171) (mB 171) (mL 171) (mRt 171) ∈ tables_1 := List.mem_append_right _ (List.mem_append_right _ (List.mem_append_right _ (List.mem_append_right _ (List.mem_of_getElem? (i := 75) rfl))))
set_option maxRecDepth 100000 in
theorem mCd_172 : Cond.code (mY 172) (mB 172) (mL 172) (mRt 172) ∈ tables_1 := List.mem_append_right _ (List.mem_append_left _ (List.mem_of_getElem? (i := 232) rfl))
set_option maxRecDepth 100000 in
theorem mCd_173 : Cond.code (mY 173) (mB 173) (mL 173) (mRt 173) ∈ tables_1 := List.mem_append_right _ (List.mem_append_left _ (List.mem_of_getElem? (i := 222) rfl))
set_option maxRecDepth 100000 in
theorem mCd_174 : Cond.code (mY 174) (mB 174) (mL 174) (mRt 174) ∈ tables_1 := List.mem_append_right _ (List.mem_append_left _ (List.mem_of_getElem? (i := 142) rfl))
set_option maxRecDepth 100000 in
theorem mCd_175 : Cond.code (mY 175) (mB 175) (mL 175) (mRt 175) ∈ tables_1 := List.mem_append_right _ (List.mem_append_left _ (List.mem_of_getElem? (i := 139) rfl))
theorem mCd : ∀ j, j < mN → j ≠ mLaw → Cond.code (mY j) (mB j) (mL j) (mRt j) ∈ mG := by
  have k : ∀ j, j < mN → j ≠ mLaw → Cond.code (mY j) (mB j) (mL j) (mRt j) ∈ tables_1 := fun j h h2 => match j, h, h2 with
    | 0, _, _ => mCd_0
    | 1, _, _ => mCd_1
    | 2, _, _ => mCd_2
    | 3, _, _ => mCd_3
    | 4, _, _ => mCd_4
    | 5, _, _ => mCd_5
    | 6, _, _ => mCd_6
    | 7, _, _ => mCd_7
    | 8, _, _ => mCd_8
    | 9, _, _ => mCd_9
    | 10, _, _ => mCd_10
    | 11, _, _ => mCd_11
    | 12, _, _ => mCd_12
    | 13, _, _ => mCd_13
    | 14, _, _ => mCd_14
    | 15, _, _ => mCd_15
    | 16, _, _ => mCd_16
    | 17, _, _ => mCd_17
    | 18, _, _ => mCd_18
    | 19, _, _ => mCd_19
    | 20, _, _ => mCd_20
    | 21, _, _ => mCd_21
    | 22, _, _ => mCd_22
    | 23, _, _ => mCd_23
    | 24, _, _ => mCd_24
    | 25, _, _ => mCd_25
    | 26, _, _ => mCd_26
    | 27, _, _ => mCd_27
    | 28, _, _ => mCd_28
    | 29, _, _ => mCd_29
    | 30, _, _ => mCd_30
    | 31, _, _ => mCd_31
    | 32, _, _ => mCd_32
    | 33, _, _ => mCd_33
    | 34, _, _ => mCd_34
    | 35, _, _ => mCd_35
    | 36, _, _ => mCd_36
    | 37, _, _ => mCd_37
    | 38, _, _ => mCd_38
    | 39, _, _ => mCd_39
    | 40, _, _ => mCd_40
    | 41, _, _ => mCd_41
    | 42, _, _ => mCd_42
    | 43, _, _ => mCd_43
    | 44, _, _ => mCd_44
    | 45, _, _ => mCd_45
    | 46, _, _ => mCd_46
    | 47, _, _ => mCd_47
    | 48, _, _ => mCd_48
    | 49, _, _ => mCd_49
    | 50, _, _ => mCd_50
    | 51, _, _ => mCd_51
    | 52, _, _ => mCd_52
    | 53, _, _ => mCd_53
    | 54, _, _ => mCd_54
    | 55, _, _ => mCd_55
    | 56, _, _ => mCd_56
    | 57, _, _ => mCd_57
    | 58, _, _ => mCd_58
    | 59, _, _ => mCd_59
    | 60, _, _ => mCd_60
    | 61, _, _ => mCd_61
    | 62, _, _ => mCd_62
    | 63, _, _ => mCd_63
    | 64, _, _ => mCd_64
    | 65, _, _ => mCd_65
    | 66, _, _ => mCd_66
    | 67, _, _ => mCd_67
    | 68, _, _ => mCd_68
    | 69, _, _ => mCd_69
    | 70, _, _ => mCd_70
    | 71, _, _ => mCd_71
    | 72, _, _ => mCd_72
    | 73, _, _ => mCd_73
    | 74, _, _ => mCd_74
    | 75, _, _ => mCd_75
    | 76, _, _ => mCd_76
    | 77, _, _ => mCd_77
    | 78, _, _ => mCd_78
    | 79, _, _ => mCd_79
    | 80, _, _ => mCd_80
    | 81, _, _ => mCd_81
    | 82, _, _ => mCd_82
    | 83, _, _ => mCd_83
    | 84, _, _ => mCd_84
    | 85, _, _ => mCd_85
    | 86, _, _ => mCd_86
    | 87, _, _ => mCd_87
    | 88, _, _ => mCd_88
    | 89, _, _ => mCd_89
    | 90, _, _ => mCd_90
    | 91, _, _ => mCd_91
    | 92, _, _ => mCd_92
    | 93, _, _ => mCd_93
    | 94, _, _ => mCd_94
    | 95, _, _ => mCd_95
    | 96, _, _ => mCd_96
    | 97, _, _ => mCd_97
    | 98, _, _ => mCd_98
    | 99, _, _ => mCd_99
    | 100, _, _ => mCd_100
    | 101, _, _ => mCd_101
    | 102, _, _ => mCd_102
    | 103, _, _ => mCd_103
    | 104, _, _ => mCd_104
    | 105, _, _ => mCd_105
    | 106, _, _ => mCd_106
    | 107, _, _ => mCd_107
    | 108, _, _ => mCd_108
    | 109, _, _ => mCd_109
    | 110, _, _ => mCd_110
    | 111, _, _ => mCd_111
    | 112, _, _ => mCd_112
    | 113, _, _ => mCd_113
    | 114, _, _ => mCd_114
    | 115, _, _ => mCd_115
    | 116, _, _ => mCd_116
    | 117, _, _ => mCd_117
    | 118, _, _ => mCd_118
    | 119, _, _ => mCd_119
    | 120, _, _ => mCd_120
    | 121, _, _ => mCd_121
    | 122, _, _ => mCd_122
    | 123, _, _ => mCd_123
    | 124, _, _ => mCd_124
    | 125, _, _ => mCd_125
    | 126, _, _ => mCd_126
    | 127, _, _ => mCd_127
    | 128, _, _ => mCd_128
    | 129, _, _ => mCd_129
    | 130, _, _ => mCd_130
    | 131, _, _ => mCd_131
    | 132, _, _ => mCd_132
    | 133, _, _ => mCd_133
    | 134, _, _ => mCd_134
    | 135, _, _ => mCd_135
    | 136, _, _ => mCd_136
    | 137, _, _ => mCd_137
    | 138, _, _ => mCd_138
    | 139, _, _ => mCd_139
    | 140, _, _ => mCd_140
    | 141, _, _ => mCd_141
    | 142, _, _ => mCd_142
    | 143, _, _ => mCd_143
    | 144, _, _ => mCd_144
    | 145, _, _ => mCd_145
    | 146, _, _ => mCd_146
    | 147, _, _ => mCd_147
    | 148, _, _ => mCd_148
    | 149, _, _ => mCd_149
    | 150, _, _ => mCd_150
    | 151, _, _ => mCd_151
    | 152, _, _ => mCd_152
    | 153, _, _ => mCd_153
    | 154, _, _ => mCd_154
    | 155, _, _ => mCd_155
    | 156, _, _ => mCd_156
    | 157, _, _ => mCd_157
    | 158, _, _ => mCd_158
    | 159, _, _ => mCd_159
    | 160, _, _ => mCd_160
    | 161, _, _ => mCd_161
    | 162, _, _ => mCd_162
    | 163, _, _ => mCd_163
    | 164, _, _ => mCd_164
    | 165, _, _ => mCd_165
    | 166, _, _ => mCd_166
    | 167, _, _ => mCd_167
    | 168, _, _ => mCd_168
    | 169, _, _ => mCd_169
    | 170, _, _ => mCd_170
    | 171, _, _ => mCd_171
    | 172, _, _ => mCd_172
    | 173, _, _ => mCd_173
    | 174, _, _ => mCd_174
    | 175, _, _ => mCd_175
    | 176, _, h2 => absurd rfl h2
    | j + 177, h, _ => absurd h (by simp [mN])
  exact fun j h h2 => List.mem_filter.mpr ⟨List.mem_append_right _ (k j h h2), rfl⟩
