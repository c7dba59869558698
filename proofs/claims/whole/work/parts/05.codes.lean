/-! printed by wip/whole/mk04.py: the code words -/
set_option maxRecDepth 20000 in
theorem mC1 : tables_1_5[82]? = some (.code (mY 1) (mBytes 1) (mMax 1) (mRet 1)) := rfl
set_option maxRecDepth 20000 in
theorem mC2 : tables_1_5[104]? = some (.code (mY 2) (mBytes 2) (mMax 2) (mRet 2)) := rfl
set_option maxRecDepth 20000 in
theorem mC3 : tables_1_5[108]? = some (.code (mY 3) (mBytes 3) (mMax 3) (mRet 3)) := rfl
set_option maxRecDepth 20000 in
theorem mC4 : tables_1_5[112]? = some (.code (mY 4) (mBytes 4) (mMax 4) (mRet 4)) := rfl
set_option maxRecDepth 20000 in
theorem mC5 : tables_1_5[88]? = some (.code (mY 5) (mBytes 5) (mMax 5) (mRet 5)) := rfl
set_option maxRecDepth 20000 in
theorem mC6 : tables_1_5[91]? = some (.code (mY 6) (mBytes 6) (mMax 6) (mRet 6)) := rfl
set_option maxRecDepth 20000 in
theorem mC7 : tables_1_5[95]? = some (.code (mY 7) (mBytes 7) (mMax 7) (mRet 7)) := rfl
set_option maxRecDepth 20000 in
theorem mC8 : tables_1_5[85]? = some (.code (mY 8) (mBytes 8) (mMax 8) (mRet 8)) := rfl
set_option maxRecDepth 20000 in
theorem mC9 : tables_1_5[122]? = some (.code (mY 9) (mBytes 9) (mMax 9) (mRet 9)) := rfl
set_option maxRecDepth 20000 in
theorem mC10 : tables_1_5[127]? = some (.code (mY 10) (mBytes 10) (mMax 10) (mRet 10)) := rfl
set_option maxRecDepth 20000 in
theorem mC11 : tables_1_5[130]? = some (.code (mY 11) (mBytes 11) (mMax 11) (mRet 11)) := rfl
set_option maxRecDepth 20000 in
theorem mC13 : tables_1_5[23]? = some (.code (mY 13) (mBytes 13) (mMax 13) (mRet 13)) := rfl
set_option maxRecDepth 20000 in
theorem mC14 : tables_1_4[211]? = some (.code (mY 14) (mBytes 14) (mMax 14) (mRet 14)) := rfl
set_option maxRecDepth 20000 in
theorem mC15 : tables_1_4[199]? = some (.code (mY 15) (mBytes 15) (mMax 15) (mRet 15)) := rfl
set_option maxRecDepth 20000 in
theorem mC16 : tables_1_4[203]? = some (.code (mY 16) (mBytes 16) (mMax 16) (mRet 16)) := rfl
set_option maxRecDepth 20000 in
theorem mC17 : tables_1_4[206]? = some (.code (mY 17) (mBytes 17) (mMax 17) (mRet 17)) := rfl
set_option maxRecDepth 20000 in
theorem mC18 : tables_1_4[219]? = some (.code (mY 18) (mBytes 18) (mMax 18) (mRet 18)) := rfl
set_option maxRecDepth 20000 in
theorem mC19 : tables_1_4[223]? = some (.code (mY 19) (mBytes 19) (mMax 19) (mRet 19)) := rfl
set_option maxRecDepth 20000 in
theorem mC20 : tables_1_4[227]? = some (.code (mY 20) (mBytes 20) (mMax 20) (mRet 20)) := rfl
set_option maxRecDepth 20000 in
theorem mC21 : tables_1_4[235]? = some (.code (mY 21) (mBytes 21) (mMax 21) (mRet 21)) := rfl
set_option maxRecDepth 20000 in
theorem mC22 : tables_1_4[239]? = some (.code (mY 22) (mBytes 22) (mMax 22) (mRet 22)) := rfl
set_option maxRecDepth 20000 in
theorem mC23 : tables_1_5[7]? = some (.code (mY 23) (mBytes 23) (mMax 23) (mRet 23)) := rfl
set_option maxRecDepth 20000 in
theorem mC24 : tables_1_5[10]? = some (.code (mY 24) (mBytes 24) (mMax 24) (mRet 24)) := rfl
set_option maxRecDepth 20000 in
theorem mC25 : tables_1_5[15]? = some (.code (mY 25) (mBytes 25) (mMax 25) (mRet 25)) := rfl
set_option maxRecDepth 20000 in
theorem mC26 : tables_1_6[189]? = some (.code (mY 26) (mBytes 26) (mMax 26) (mRet 26)) := rfl
set_option maxRecDepth 20000 in
theorem mC28 : tables_1_5[68]? = some (.code (mY 28) (mBytes 28) (mMax 28) (mRet 28)) := rfl
set_option maxRecDepth 20000 in
theorem mC29 : tables_1_6[157]? = some (.code (mY 29) (mBytes 29) (mMax 29) (mRet 29)) := rfl
set_option maxRecDepth 20000 in
theorem mC30 : tables_1_5[74]? = some (.code (mY 30) (mBytes 30) (mMax 30) (mRet 30)) := rfl
set_option maxRecDepth 20000 in
theorem mC31 : tables_1_4[74]? = some (.code (mY 31) (mBytes 31) (mMax 31) (mRet 31)) := rfl
set_option maxRecDepth 20000 in
theorem mC32 : tables_1_4[105]? = some (.code (mY 32) (mBytes 32) (mMax 32) (mRet 32)) := rfl
set_option maxRecDepth 20000 in
theorem mC34 : tables_1_4[129]? = some (.code (mY 34) (mBytes 34) (mMax 34) (mRet 34)) := rfl
set_option maxRecDepth 20000 in
theorem mC35 : tables_1_4[136]? = some (.code (mY 35) (mBytes 35) (mMax 35) (mRet 35)) := rfl
set_option maxRecDepth 20000 in
theorem mC36 : tables_1_4[169]? = some (.code (mY 36) (mBytes 36) (mMax 36) (mRet 36)) := rfl
set_option maxRecDepth 20000 in
theorem mC37 : tables_1_4[146]? = some (.code (mY 37) (mBytes 37) (mMax 37) (mRet 37)) := rfl
set_option maxRecDepth 20000 in
theorem mC38 : tables_1_4[174]? = some (.code (mY 38) (mBytes 38) (mMax 38) (mRet 38)) := rfl
set_option maxRecDepth 20000 in
theorem mC39 : tables_1_4[156]? = some (.code (mY 39) (mBytes 39) (mMax 39) (mRet 39)) := rfl
set_option maxRecDepth 20000 in
theorem mC40 : tables_1_4[179]? = some (.code (mY 40) (mBytes 40) (mMax 40) (mRet 40)) := rfl
set_option maxRecDepth 20000 in
theorem mC41 : tables_1_4[187]? = some (.code (mY 41) (mBytes 41) (mMax 41) (mRet 41)) := rfl
set_option maxRecDepth 20000 in
theorem mC43 : tables_1_4[63]? = some (.code (mY 43) (mBytes 43) (mMax 43) (mRet 43)) := rfl
set_option maxRecDepth 20000 in
theorem mC44 : tables_1_4[67]? = some (.code (mY 44) (mBytes 44) (mMax 44) (mRet 44)) := rfl
set_option maxRecDepth 20000 in
theorem mC45 : tables_1_4[92]? = some (.code (mY 45) (mBytes 45) (mMax 45) (mRet 45)) := rfl
set_option maxRecDepth 20000 in
theorem mC46 : tables_1_4[78]? = some (.code (mY 46) (mBytes 46) (mMax 46) (mRet 46)) := rfl
set_option maxRecDepth 20000 in
theorem mC47 : tables_1_4[97]? = some (.code (mY 47) (mBytes 47) (mMax 47) (mRet 47)) := rfl
set_option maxRecDepth 20000 in
theorem mC48 : tables_1_6[149]? = some (.code (mY 48) (mBytes 48) (mMax 48) (mRet 48)) := rfl
set_option maxRecDepth 20000 in
theorem mC49 : tables_1_4[59]? = some (.code (mY 49) (mBytes 49) (mMax 49) (mRet 49)) := rfl
set_option maxRecDepth 20000 in
theorem mC50 : tables_1_4[102]? = some (.code (mY 50) (mBytes 50) (mMax 50) (mRet 50)) := rfl
set_option maxRecDepth 20000 in
theorem mC51 : tables_1_4[113]? = some (.code (mY 51) (mBytes 51) (mMax 51) (mRet 51)) := rfl
set_option maxRecDepth 20000 in
theorem mC52 : tables_1_4[109]? = some (.code (mY 52) (mBytes 52) (mMax 52) (mRet 52)) := rfl
set_option maxRecDepth 20000 in
theorem mC53 : tables_1_4[121]? = some (.code (mY 53) (mBytes 53) (mMax 53) (mRet 53)) := rfl
set_option maxRecDepth 20000 in
theorem mC54 : tables_1_6[233]? = some (.code (mY 54) (mBytes 54) (mMax 54) (mRet 54)) := rfl
set_option maxRecDepth 20000 in
theorem mC55 : tables_1_6[237]? = some (.code (mY 55) (mBytes 55) (mMax 55) (mRet 55)) := rfl
set_option maxRecDepth 20000 in
theorem mC56 : tables_1_7[1]? = some (.code (mY 56) (mBytes 56) (mMax 56) (mRet 56)) := rfl
set_option maxRecDepth 20000 in
theorem mC58 : tables_1_3[176]? = some (.code (mY 58) (mBytes 58) (mMax 58) (mRet 58)) := rfl
set_option maxRecDepth 20000 in
theorem mC59 : tables_1_6[12]? = some (.code (mY 59) (mBytes 59) (mMax 59) (mRet 59)) := rfl
set_option maxRecDepth 20000 in
theorem mC60 : tables_1_6[20]? = some (.code (mY 60) (mBytes 60) (mMax 60) (mRet 60)) := rfl
set_option maxRecDepth 20000 in
theorem mC61 : tables_1_5[237]? = some (.code (mY 61) (mBytes 61) (mMax 61) (mRet 61)) := rfl
set_option maxRecDepth 20000 in
theorem mC62 : tables_1_5[205]? = some (.code (mY 62) (mBytes 62) (mMax 62) (mRet 62)) := rfl
set_option maxRecDepth 20000 in
theorem mC63 : tables_1_5[210]? = some (.code (mY 63) (mBytes 63) (mMax 63) (mRet 63)) := rfl
set_option maxRecDepth 20000 in
theorem mC64 : tables_1_5[214]? = some (.code (mY 64) (mBytes 64) (mMax 64) (mRet 64)) := rfl
set_option maxRecDepth 20000 in
theorem mC65 : tables_1_5[218]? = some (.code (mY 65) (mBytes 65) (mMax 65) (mRet 65)) := rfl
set_option maxRecDepth 20000 in
theorem mC66 : tables_1_5[231]? = some (.code (mY 66) (mBytes 66) (mMax 66) (mRet 66)) := rfl
set_option maxRecDepth 20000 in
theorem mC67 : tables_1_6[3]? = some (.code (mY 67) (mBytes 67) (mMax 67) (mRet 67)) := rfl
set_option maxRecDepth 20000 in
theorem mC68 : tables_1_6[24]? = some (.code (mY 68) (mBytes 68) (mMax 68) (mRet 68)) := rfl
set_option maxRecDepth 20000 in
theorem mC69 : tables_1_6[28]? = some (.code (mY 69) (mBytes 69) (mMax 69) (mRet 69)) := rfl
set_option maxRecDepth 20000 in
theorem mC70 : tables_1_6[34]? = some (.code (mY 70) (mBytes 70) (mMax 70) (mRet 70)) := rfl
set_option maxRecDepth 20000 in
theorem mC72 : tables_1_5[30]? = some (.code (mY 72) (mBytes 72) (mMax 72) (mRet 72)) := rfl
set_option maxRecDepth 20000 in
theorem mC73 : tables_1_5[36]? = some (.code (mY 73) (mBytes 73) (mMax 73) (mRet 73)) := rfl
set_option maxRecDepth 20000 in
theorem mC74 : tables_1_6[201]? = some (.code (mY 74) (mBytes 74) (mMax 74) (mRet 74)) := rfl
set_option maxRecDepth 20000 in
theorem mC75 : tables_1_6[204]? = some (.code (mY 75) (mBytes 75) (mMax 75) (mRet 75)) := rfl
set_option maxRecDepth 20000 in
theorem mC76 : tables_1_5[53]? = some (.code (mY 76) (mBytes 76) (mMax 76) (mRet 76)) := rfl
set_option maxRecDepth 20000 in
theorem mC77 : tables_1_5[50]? = some (.code (mY 77) (mBytes 77) (mMax 77) (mRet 77)) := rfl
set_option maxRecDepth 20000 in
theorem mC78 : tables_1_5[47]? = some (.code (mY 78) (mBytes 78) (mMax 78) (mRet 78)) := rfl
set_option maxRecDepth 20000 in
theorem mC79 : tables_1_6[215]? = some (.code (mY 79) (mBytes 79) (mMax 79) (mRet 79)) := rfl
set_option maxRecDepth 20000 in
theorem mC81 : tables_1_6[51]? = some (.code (mY 81) (mBytes 81) (mMax 81) (mRet 81)) := rfl
set_option maxRecDepth 20000 in
theorem mC83 : tables_1_3[168]? = some (.code (mY 83) (mBytes 83) (mMax 83) (mRet 83)) := rfl
set_option maxRecDepth 20000 in
theorem mC84 : tables_1_3[192]? = some (.code (mY 84) (mBytes 84) (mMax 84) (mRet 84)) := rfl
set_option maxRecDepth 20000 in
theorem mC85 : tables_1_3[208]? = some (.code (mY 85) (mBytes 85) (mMax 85) (mRet 85)) := rfl
set_option maxRecDepth 20000 in
theorem mC86 : tables_1_3[204]? = some (.code (mY 86) (mBytes 86) (mMax 86) (mRet 86)) := rfl
set_option maxRecDepth 20000 in
theorem mC87 : tables_1_3[212]? = some (.code (mY 87) (mBytes 87) (mMax 87) (mRet 87)) := rfl
set_option maxRecDepth 20000 in
theorem mC88 : tables_1_3[216]? = some (.code (mY 88) (mBytes 88) (mMax 88) (mRet 88)) := rfl
set_option maxRecDepth 20000 in
theorem mC89 : tables_1_3[188]? = some (.code (mY 89) (mBytes 89) (mMax 89) (mRet 89)) := rfl
set_option maxRecDepth 20000 in
theorem mC90 : tables_1_4[71]? = some (.code (mY 90) (mBytes 90) (mMax 90) (mRet 90)) := rfl
set_option maxRecDepth 20000 in
theorem mC91 : tables_1_3[196]? = some (.code (mY 91) (mBytes 91) (mMax 91) (mRet 91)) := rfl
set_option maxRecDepth 20000 in
theorem mC92 : tables_1_5[99]? = some (.code (mY 92) (mBytes 92) (mMax 92) (mRet 92)) := rfl
set_option maxRecDepth 20000 in
theorem mC93 : tables_1_5[154]? = some (.code (mY 93) (mBytes 93) (mMax 93) (mRet 93)) := rfl
set_option maxRecDepth 20000 in
theorem mC94 : tables_1_5[150]? = some (.code (mY 94) (mBytes 94) (mMax 94) (mRet 94)) := rfl
set_option maxRecDepth 20000 in
theorem mC95 : tables_1_3[120]? = some (.code (mY 95) (mBytes 95) (mMax 95) (mRet 95)) := rfl
set_option maxRecDepth 20000 in
theorem mC96 : tables_1_3[124]? = some (.code (mY 96) (mBytes 96) (mMax 96) (mRet 96)) := rfl
set_option maxRecDepth 20000 in
theorem mC97 : tables_1_5[185]? = some (.code (mY 97) (mBytes 97) (mMax 97) (mRet 97)) := rfl
set_option maxRecDepth 20000 in
theorem mC98 : tables_1_6[228]? = some (.code (mY 98) (mBytes 98) (mMax 98) (mRet 98)) := rfl
set_option maxRecDepth 20000 in
theorem mC99 : tables_1_3[85]? = some (.code (mY 99) (mBytes 99) (mMax 99) (mRet 99)) := rfl
set_option maxRecDepth 20000 in
theorem mC100 : tables_1_3[93]? = some (.code (mY 100) (mBytes 100) (mMax 100) (mRet 100)) := rfl
set_option maxRecDepth 20000 in
theorem mC101 : tables_1_3[106]? = some (.code (mY 101) (mBytes 101) (mMax 101) (mRet 101)) := rfl
set_option maxRecDepth 20000 in
theorem mC102 : tables_1_3[102]? = some (.code (mY 102) (mBytes 102) (mMax 102) (mRet 102)) := rfl
set_option maxRecDepth 20000 in
theorem mC103 : tables_1_3[129]? = some (.code (mY 103) (mBytes 103) (mMax 103) (mRet 103)) := rfl
set_option maxRecDepth 20000 in
theorem mC104 : tables_1_3[150]? = some (.code (mY 104) (mBytes 104) (mMax 104) (mRet 104)) := rfl
set_option maxRecDepth 20000 in
theorem mC105 : tables_1_3[159]? = some (.code (mY 105) (mBytes 105) (mMax 105) (mRet 105)) := rfl
set_option maxRecDepth 20000 in
theorem mC107 : tables_1_2[237]? = some (.code (mY 107) (mBytes 107) (mMax 107) (mRet 107)) := rfl
set_option maxRecDepth 20000 in
theorem mC108 : tables_1_3[71]? = some (.code (mY 108) (mBytes 108) (mMax 108) (mRet 108)) := rfl
set_option maxRecDepth 20000 in
theorem mC109 : tables_1_3[1]? = some (.code (mY 109) (mBytes 109) (mMax 109) (mRet 109)) := rfl
set_option maxRecDepth 20000 in
theorem mC110 : tables_1_3[12]? = some (.code (mY 110) (mBytes 110) (mMax 110) (mRet 110)) := rfl
set_option maxRecDepth 20000 in
theorem mC111 : tables_1_3[5]? = some (.code (mY 111) (mBytes 111) (mMax 111) (mRet 111)) := rfl
set_option maxRecDepth 20000 in
theorem mC112 : tables_1_3[8]? = some (.code (mY 112) (mBytes 112) (mMax 112) (mRet 112)) := rfl
set_option maxRecDepth 20000 in
theorem mC113 : tables_1_3[74]? = some (.code (mY 113) (mBytes 113) (mMax 113) (mRet 113)) := rfl
set_option maxRecDepth 20000 in
theorem mC114 : tables_1_3[15]? = some (.code (mY 114) (mBytes 114) (mMax 114) (mRet 114)) := rfl
set_option maxRecDepth 20000 in
theorem mC115 : tables_1_3[18]? = some (.code (mY 115) (mBytes 115) (mMax 115) (mRet 115)) := rfl
set_option maxRecDepth 20000 in
theorem mC116 : tables_1_3[81]? = some (.code (mY 116) (mBytes 116) (mMax 116) (mRet 116)) := rfl
set_option maxRecDepth 20000 in
theorem mC117 : tables_1_3[98]? = some (.code (mY 117) (mBytes 117) (mMax 117) (mRet 117)) := rfl
set_option maxRecDepth 20000 in
theorem mC118 : tables_1_3[116]? = some (.code (mY 118) (mBytes 118) (mMax 118) (mRet 118)) := rfl
set_option maxRecDepth 20000 in
theorem mC119 : tables_1_3[154]? = some (.code (mY 119) (mBytes 119) (mMax 119) (mRet 119)) := rfl
set_option maxRecDepth 20000 in
theorem mC120 : tables_1_3[137]? = some (.code (mY 120) (mBytes 120) (mMax 120) (mRet 120)) := rfl
set_option maxRecDepth 20000 in
theorem mC121 : tables_1_3[89]? = some (.code (mY 121) (mBytes 121) (mMax 121) (mRet 121)) := rfl
set_option maxRecDepth 20000 in
theorem mC122 : tables_1_3[111]? = some (.code (mY 122) (mBytes 122) (mMax 122) (mRet 122)) := rfl
set_option maxRecDepth 20000 in
theorem mC123 : tables_1_3[133]? = some (.code (mY 123) (mBytes 123) (mMax 123) (mRet 123)) := rfl
set_option maxRecDepth 20000 in
theorem mC124 : tables_1_3[142]? = some (.code (mY 124) (mBytes 124) (mMax 124) (mRet 124)) := rfl
set_option maxRecDepth 20000 in
theorem mC125 : tables_1_3[164]? = some (.code (mY 125) (mBytes 125) (mMax 125) (mRet 125)) := rfl
set_option maxRecDepth 20000 in
theorem mC127 : tables_1_3[172]? = some (.code (mY 127) (mBytes 127) (mMax 127) (mRet 127)) := rfl
set_option maxRecDepth 20000 in
theorem mC128 : tables_1_4[18]? = some (.code (mY 128) (mBytes 128) (mMax 128) (mRet 128)) := rfl
set_option maxRecDepth 20000 in
theorem mC129 : tables_1_4[55]? = some (.code (mY 129) (mBytes 129) (mMax 129) (mRet 129)) := rfl
set_option maxRecDepth 20000 in
theorem mC130 : tables_1_4[5]? = some (.code (mY 130) (mBytes 130) (mMax 130) (mRet 130)) := rfl
set_option maxRecDepth 20000 in
theorem mC131 : tables_1_4[26]? = some (.code (mY 131) (mBytes 131) (mMax 131) (mRet 131)) := rfl
set_option maxRecDepth 20000 in
theorem mC132 : tables_1_4[34]? = some (.code (mY 132) (mBytes 132) (mMax 132) (mRet 132)) := rfl
set_option maxRecDepth 20000 in
theorem mC133 : tables_1_4[83]? = some (.code (mY 133) (mBytes 133) (mMax 133) (mRet 133)) := rfl
set_option maxRecDepth 20000 in
theorem mC134 : tables_1_4[88]? = some (.code (mY 134) (mBytes 134) (mMax 134) (mRet 134)) := rfl
set_option maxRecDepth 20000 in
theorem mC135 : tables_1_4[42]? = some (.code (mY 135) (mBytes 135) (mMax 135) (mRet 135)) := rfl
set_option maxRecDepth 20000 in
theorem mC136 : tables_1_4[164]? = some (.code (mY 136) (mBytes 136) (mMax 136) (mRet 136)) := rfl
set_option maxRecDepth 20000 in
theorem mC137 : tables_1_4[150]? = some (.code (mY 137) (mBytes 137) (mMax 137) (mRet 137)) := rfl
set_option maxRecDepth 20000 in
theorem mC138 : tables_1_5[176]? = some (.code (mY 138) (mBytes 138) (mMax 138) (mRet 138)) := rfl
set_option maxRecDepth 20000 in
theorem mC139 : tables_1_6[38]? = some (.code (mY 139) (mBytes 139) (mMax 139) (mRet 139)) := rfl
set_option maxRecDepth 20000 in
theorem mC140 : tables_1_4[0]? = some (.code (mY 140) (mBytes 140) (mMax 140) (mRet 140)) := rfl
set_option maxRecDepth 20000 in
theorem mC141 : tables_1_5[139]? = some (.code (mY 141) (mBytes 141) (mMax 141) (mRet 141)) := rfl
set_option maxRecDepth 20000 in
theorem mC142 : tables_1_5[142]? = some (.code (mY 142) (mBytes 142) (mMax 142) (mRet 142)) := rfl
set_option maxRecDepth 20000 in
theorem mC143 : tables_1_5[146]? = some (.code (mY 143) (mBytes 143) (mMax 143) (mRet 143)) := rfl
set_option maxRecDepth 20000 in
theorem mC144 : tables_1_5[158]? = some (.code (mY 144) (mBytes 144) (mMax 144) (mRet 144)) := rfl
set_option maxRecDepth 20000 in
theorem mC145 : tables_1_3[224]? = some (.code (mY 145) (mBytes 145) (mMax 145) (mRet 145)) := rfl
set_option maxRecDepth 20000 in
theorem mC146 : tables_1_3[229]? = some (.code (mY 146) (mBytes 146) (mMax 146) (mRet 146)) := rfl
set_option maxRecDepth 20000 in
theorem mC147 : tables_1_4[12]? = some (.code (mY 147) (mBytes 147) (mMax 147) (mRet 147)) := rfl
set_option maxRecDepth 20000 in
theorem mC149 : tables_1_2[214]? = some (.code (mY 149) (mBytes 149) (mMax 149) (mRet 149)) := rfl
set_option maxRecDepth 20000 in
theorem mC150 : tables_1_2[218]? = some (.code (mY 150) (mBytes 150) (mMax 150) (mRet 150)) := rfl
set_option maxRecDepth 20000 in
theorem mC151 : tables_1_2[225]? = some (.code (mY 151) (mBytes 151) (mMax 151) (mRet 151)) := rfl
set_option maxRecDepth 20000 in
theorem mC152 : tables_1_2[233]? = some (.code (mY 152) (mBytes 152) (mMax 152) (mRet 152)) := rfl
set_option maxRecDepth 20000 in
theorem mC153 : tables_1_4[195]? = some (.code (mY 153) (mBytes 153) (mMax 153) (mRet 153)) := rfl
set_option maxRecDepth 20000 in
theorem mC154 : tables_1_2[229]? = some (.code (mY 154) (mBytes 154) (mMax 154) (mRet 154)) := rfl
set_option maxRecDepth 20000 in
theorem mC155 : tables_1_3[180]? = some (.code (mY 155) (mBytes 155) (mMax 155) (mRet 155)) := rfl
set_option maxRecDepth 20000 in
theorem mC156 : tables_1_6[70]? = some (.code (mY 156) (mBytes 156) (mMax 156) (mRet 156)) := rfl
set_option maxRecDepth 20000 in
theorem mC157 : tables_1_3[184]? = some (.code (mY 157) (mBytes 157) (mMax 157) (mRet 157)) := rfl
set_option maxRecDepth 20000 in
theorem mC158 : tables_1_3[200]? = some (.code (mY 158) (mBytes 158) (mMax 158) (mRet 158)) := rfl
set_option maxRecDepth 20000 in
theorem mC159 : tables_1_3[220]? = some (.code (mY 159) (mBytes 159) (mMax 159) (mRet 159)) := rfl
set_option maxRecDepth 20000 in
theorem mC160 : tables_1_4[22]? = some (.code (mY 160) (mBytes 160) (mMax 160) (mRet 160)) := rfl
set_option maxRecDepth 20000 in
theorem mC161 : tables_1_4[30]? = some (.code (mY 161) (mBytes 161) (mMax 161) (mRet 161)) := rfl
set_option maxRecDepth 20000 in
theorem mC162 : tables_1_4[38]? = some (.code (mY 162) (mBytes 162) (mMax 162) (mRet 162)) := rfl
set_option maxRecDepth 20000 in
theorem mC163 : tables_1_4[46]? = some (.code (mY 163) (mBytes 163) (mMax 163) (mRet 163)) := rfl
set_option maxRecDepth 20000 in
theorem mC164 : tables_1_6[140]? = some (.code (mY 164) (mBytes 164) (mMax 164) (mRet 164)) := rfl
set_option maxRecDepth 20000 in
theorem mC165 : tables_1_6[164]? = some (.code (mY 165) (mBytes 165) (mMax 165) (mRet 165)) := rfl
set_option maxRecDepth 20000 in
theorem mC166 : tables_1_6[171]? = some (.code (mY 166) (mBytes 166) (mMax 166) (mRet 166)) := rfl
set_option maxRecDepth 20000 in
theorem mC167 : tables_1_6[153]? = some (.code (mY 167) (mBytes 167) (mMax 167) (mRet 167)) := rfl
set_option maxRecDepth 20000 in
theorem mC168 : tables_1_6[144]? = some (.code (mY 168) (mBytes 168) (mMax 168) (mRet 168)) := rfl
set_option maxRecDepth 20000 in
theorem mC169 : tables_1_6[178]? = some (.code (mY 169) (mBytes 169) (mMax 169) (mRet 169)) := rfl
set_option maxRecDepth 20000 in
theorem mC170 : tables_1_4[50]? = some (.code (mY 170) (mBytes 170) (mMax 170) (mRet 170)) := rfl
set_option maxRecDepth 20000 in
theorem mC171 : tables_1_4[117]? = some (.code (mY 171) (mBytes 171) (mMax 171) (mRet 171)) := rfl
set_option maxRecDepth 20000 in
theorem mC172 : tables_1_4[125]? = some (.code (mY 172) (mBytes 172) (mMax 172) (mRet 172)) := rfl
set_option maxRecDepth 20000 in
theorem mC173 : tables_1_4[183]? = some (.code (mY 173) (mBytes 173) (mMax 173) (mRet 173)) := rfl
set_option maxRecDepth 20000 in
theorem mC174 : tables_1_4[191]? = some (.code (mY 174) (mBytes 174) (mMax 174) (mRet 174)) := rfl
set_option maxRecDepth 20000 in
theorem mC175 : tables_1_4[215]? = some (.code (mY 175) (mBytes 175) (mMax 175) (mRet 175)) := rfl
set_option maxRecDepth 20000 in
theorem mC176 : tables_1_4[231]? = some (.code (mY 176) (mBytes 176) (mMax 176) (mRet 176)) := rfl
set_option maxRecDepth 20000 in
theorem mC177 : tables_1_5[3]? = some (.code (mY 177) (mBytes 177) (mMax 177) (mRet 177)) := rfl
set_option maxRecDepth 20000 in
theorem mC178 : tables_1_5[19]? = some (.code (mY 178) (mBytes 178) (mMax 178) (mRet 178)) := rfl
set_option maxRecDepth 20000 in
theorem mC179 : tables_1_6[186]? = some (.code (mY 179) (mBytes 179) (mMax 179) (mRet 179)) := rfl
set_option maxRecDepth 20000 in
theorem mC180 : tables_1_5[27]? = some (.code (mY 180) (mBytes 180) (mMax 180) (mRet 180)) := rfl
set_option maxRecDepth 20000 in
theorem mC181 : tables_1_5[40]? = some (.code (mY 181) (mBytes 181) (mMax 181) (mRet 181)) := rfl
set_option maxRecDepth 20000 in
theorem mC182 : tables_1_6[198]? = some (.code (mY 182) (mBytes 182) (mMax 182) (mRet 182)) := rfl
set_option maxRecDepth 20000 in
theorem mC183 : tables_1_5[44]? = some (.code (mY 183) (mBytes 183) (mMax 183) (mRet 183)) := rfl
set_option maxRecDepth 20000 in
theorem mC184 : tables_1_6[212]? = some (.code (mY 184) (mBytes 184) (mMax 184) (mRet 184)) := rfl
set_option maxRecDepth 20000 in
theorem mC185 : tables_1_6[224]? = some (.code (mY 185) (mBytes 185) (mMax 185) (mRet 185)) := rfl
set_option maxRecDepth 20000 in
theorem mC186 : tables_1_7[8]? = some (.code (mY 186) (mBytes 186) (mMax 186) (mRet 186)) := rfl
set_option maxRecDepth 20000 in
theorem mC187 : tables_1_5[57]? = some (.code (mY 187) (mBytes 187) (mMax 187) (mRet 187)) := rfl
set_option maxRecDepth 20000 in
theorem mC188 : tables_1_5[60]? = some (.code (mY 188) (mBytes 188) (mMax 188) (mRet 188)) := rfl
set_option maxRecDepth 20000 in
theorem mC189 : tables_1_5[63]? = some (.code (mY 189) (mBytes 189) (mMax 189) (mRet 189)) := rfl
set_option maxRecDepth 20000 in
theorem mC190 : tables_1_7[18]? = some (.code (mY 190) (mBytes 190) (mMax 190) (mRet 190)) := rfl
set_option maxRecDepth 20000 in
theorem mC191 : tables_1_5[78]? = some (.code (mY 191) (mBytes 191) (mMax 191) (mRet 191)) := rfl
set_option maxRecDepth 20000 in
theorem mC192 : tables_1_7[25]? = some (.code (mY 192) (mBytes 192) (mMax 192) (mRet 192)) := rfl
set_option maxRecDepth 20000 in
theorem mC193 : tables_1_5[118]? = some (.code (mY 193) (mBytes 193) (mMax 193) (mRet 193)) := rfl
set_option maxRecDepth 20000 in
theorem mC194 : tables_1_5[135]? = some (.code (mY 194) (mBytes 194) (mMax 194) (mRet 194)) := rfl
set_option maxRecDepth 20000 in
theorem mC195 : tables_1_5[164]? = some (.code (mY 195) (mBytes 195) (mMax 195) (mRet 195)) := rfl
set_option maxRecDepth 20000 in
theorem mC196 : tables_1_5[168]? = some (.code (mY 196) (mBytes 196) (mMax 196) (mRet 196)) := rfl
set_option maxRecDepth 20000 in
theorem mC197 : tables_1_5[193]? = some (.code (mY 197) (mBytes 197) (mMax 197) (mRet 197)) := rfl
set_option maxRecDepth 20000 in
theorem mC198 : tables_1_5[197]? = some (.code (mY 198) (mBytes 198) (mMax 198) (mRet 198)) := rfl
set_option maxRecDepth 20000 in
theorem mC199 : tables_1_5[172]? = some (.code (mY 199) (mBytes 199) (mMax 199) (mRet 199)) := rfl
set_option maxRecDepth 20000 in
theorem mC200 : tables_1_5[180]? = some (.code (mY 200) (mBytes 200) (mMax 200) (mRet 200)) := rfl
set_option maxRecDepth 20000 in
theorem mC201 : tables_1_5[201]? = some (.code (mY 201) (mBytes 201) (mMax 201) (mRet 201)) := rfl
set_option maxRecDepth 20000 in
theorem mC202 : tables_1_6[16]? = some (.code (mY 202) (mBytes 202) (mMax 202) (mRet 202)) := rfl
set_option maxRecDepth 20000 in
theorem mC203 : tables_1_6[43]? = some (.code (mY 203) (mBytes 203) (mMax 203) (mRet 203)) := rfl
set_option maxRecDepth 20000 in
theorem mC204 : tables_1_6[58]? = some (.code (mY 204) (mBytes 204) (mMax 204) (mRet 204)) := rfl
set_option maxRecDepth 20000 in
theorem mC205 : tables_1_6[47]? = some (.code (mY 205) (mBytes 205) (mMax 205) (mRet 205)) := rfl
set_option maxRecDepth 20000 in
theorem mC206 : tables_1_6[62]? = some (.code (mY 206) (mBytes 206) (mMax 206) (mRet 206)) := rfl
set_option maxRecDepth 20000 in
theorem mC207 : tables_1_2[221]? = some (.code (mY 207) (mBytes 207) (mMax 207) (mRet 207)) := rfl
set_option maxRecDepth 20000 in
theorem mC209 : tables_1_8[21]? = some (.code (mY 209) (mBytes 209) (mMax 209) (mRet 209)) := rfl
set_option maxRecDepth 20000 in
theorem mC210 : tables_1_8[141]? = some (.code (mY 210) (mBytes 210) (mMax 210) (mRet 210)) := rfl
set_option maxRecDepth 20000 in
theorem mC211 : tables_1_9[14]? = some (.code (mY 211) (mBytes 211) (mMax 211) (mRet 211)) := rfl
set_option maxRecDepth 20000 in
theorem mC212 : tables_1_8[29]? = some (.code (mY 212) (mBytes 212) (mMax 212) (mRet 212)) := rfl
set_option maxRecDepth 20000 in
theorem mC213 : tables_1_8[25]? = some (.code (mY 213) (mBytes 213) (mMax 213) (mRet 213)) := rfl
set_option maxRecDepth 20000 in
theorem mC214 : tables_1_8[33]? = some (.code (mY 214) (mBytes 214) (mMax 214) (mRet 214)) := rfl
set_option maxRecDepth 20000 in
theorem mC215 : tables_1_8[49]? = some (.code (mY 215) (mBytes 215) (mMax 215) (mRet 215)) := rfl
set_option maxRecDepth 20000 in
theorem mC216 : tables_1_8[105]? = some (.code (mY 216) (mBytes 216) (mMax 216) (mRet 216)) := rfl
set_option maxRecDepth 20000 in
theorem mC217 : tables_1_9[190]? = some (.code (mY 217) (mBytes 217) (mMax 217) (mRet 217)) := rfl
set_option maxRecDepth 20000 in
theorem mC218 : tables_1_9[20]? = some (.code (mY 218) (mBytes 218) (mMax 218) (mRet 218)) := rfl
set_option maxRecDepth 20000 in
theorem mC219 : tables_1_9[17]? = some (.code (mY 219) (mBytes 219) (mMax 219) (mRet 219)) := rfl
set_option maxRecDepth 20000 in
theorem mC220 : tables_1_8[63]? = some (.code (mY 220) (mBytes 220) (mMax 220) (mRet 220)) := rfl
set_option maxRecDepth 20000 in
theorem mC221 : tables_1_8[59]? = some (.code (mY 221) (mBytes 221) (mMax 221) (mRet 221)) := rfl
set_option maxRecDepth 20000 in
theorem mC222 : tables_1_8[56]? = some (.code (mY 222) (mBytes 222) (mMax 222) (mRet 222)) := rfl
set_option maxRecDepth 20000 in
theorem mC223 : tables_1_8[53]? = some (.code (mY 223) (mBytes 223) (mMax 223) (mRet 223)) := rfl
set_option maxRecDepth 20000 in
theorem mC224 : tables_1_8[75]? = some (.code (mY 224) (mBytes 224) (mMax 224) (mRet 224)) := rfl
set_option maxRecDepth 20000 in
theorem mC225 : tables_1_8[72]? = some (.code (mY 225) (mBytes 225) (mMax 225) (mRet 225)) := rfl
set_option maxRecDepth 20000 in
theorem mC226 : tables_1_8[69]? = some (.code (mY 226) (mBytes 226) (mMax 226) (mRet 226)) := rfl
set_option maxRecDepth 20000 in
theorem mC227 : tables_1_8[121]? = some (.code (mY 227) (mBytes 227) (mMax 227) (mRet 227)) := rfl
set_option maxRecDepth 20000 in
theorem mC228 : tables_1_8[91]? = some (.code (mY 228) (mBytes 228) (mMax 228) (mRet 228)) := rfl
set_option maxRecDepth 20000 in
theorem mC229 : tables_1_8[83]? = some (.code (mY 229) (mBytes 229) (mMax 229) (mRet 229)) := rfl
set_option maxRecDepth 20000 in
theorem mC230 : tables_1_8[102]? = some (.code (mY 230) (mBytes 230) (mMax 230) (mRet 230)) := rfl
set_option maxRecDepth 20000 in
theorem mC231 : tables_1_8[117]? = some (.code (mY 231) (mBytes 231) (mMax 231) (mRet 231)) := rfl
set_option maxRecDepth 20000 in
theorem mC232 : tables_1_8[41]? = some (.code (mY 232) (mBytes 232) (mMax 232) (mRet 232)) := rfl
set_option maxRecDepth 20000 in
theorem mC233 : tables_1_8[45]? = some (.code (mY 233) (mBytes 233) (mMax 233) (mRet 233)) := rfl
set_option maxRecDepth 20000 in
theorem mC234 : tables_1_8[144]? = some (.code (mY 234) (mBytes 234) (mMax 234) (mRet 234)) := rfl
set_option maxRecDepth 20000 in
theorem mC235 : tables_1_8[147]? = some (.code (mY 235) (mBytes 235) (mMax 235) (mRet 235)) := rfl
set_option maxRecDepth 20000 in
theorem mC236 : tables_1_8[154]? = some (.code (mY 236) (mBytes 236) (mMax 236) (mRet 236)) := rfl
set_option maxRecDepth 20000 in
theorem mC237 : tables_1_8[94]? = some (.code (mY 237) (mBytes 237) (mMax 237) (mRet 237)) := rfl
set_option maxRecDepth 20000 in
theorem mC238 : tables_1_8[87]? = some (.code (mY 238) (mBytes 238) (mMax 238) (mRet 238)) := rfl
set_option maxRecDepth 20000 in
theorem mC239 : tables_1_8[98]? = some (.code (mY 239) (mBytes 239) (mMax 239) (mRet 239)) := rfl
set_option maxRecDepth 20000 in
theorem mC240 : tables_1_8[79]? = some (.code (mY 240) (mBytes 240) (mMax 240) (mRet 240)) := rfl
set_option maxRecDepth 20000 in
theorem mC241 : tables_1_8[109]? = some (.code (mY 241) (mBytes 241) (mMax 241) (mRet 241)) := rfl
set_option maxRecDepth 20000 in
theorem mC242 : tables_1_8[113]? = some (.code (mY 242) (mBytes 242) (mMax 242) (mRet 242)) := rfl
set_option maxRecDepth 20000 in
theorem mC243 : tables_1_8[37]? = some (.code (mY 243) (mBytes 243) (mMax 243) (mRet 243)) := rfl
set_option maxRecDepth 20000 in
theorem mC244 : tables_1_8[125]? = some (.code (mY 244) (mBytes 244) (mMax 244) (mRet 244)) := rfl
set_option maxRecDepth 20000 in
theorem mC245 : tables_1_8[137]? = some (.code (mY 245) (mBytes 245) (mMax 245) (mRet 245)) := rfl
set_option maxRecDepth 20000 in
theorem mC246 : tables_1_8[166]? = some (.code (mY 246) (mBytes 246) (mMax 246) (mRet 246)) := rfl
set_option maxRecDepth 20000 in
theorem mC247 : tables_1_8[133]? = some (.code (mY 247) (mBytes 247) (mMax 247) (mRet 247)) := rfl
set_option maxRecDepth 20000 in
theorem mC248 : tables_1_8[162]? = some (.code (mY 248) (mBytes 248) (mMax 248) (mRet 248)) := rfl
set_option maxRecDepth 20000 in
theorem mC249 : tables_1_8[129]? = some (.code (mY 249) (mBytes 249) (mMax 249) (mRet 249)) := rfl
set_option maxRecDepth 20000 in
theorem mC250 : tables_1_8[151]? = some (.code (mY 250) (mBytes 250) (mMax 250) (mRet 250)) := rfl
set_option maxRecDepth 20000 in
theorem mC251 : tables_1_8[158]? = some (.code (mY 251) (mBytes 251) (mMax 251) (mRet 251)) := rfl
set_option maxRecDepth 20000 in
theorem mC252 : tables_1_8[178]? = some (.code (mY 252) (mBytes 252) (mMax 252) (mRet 252)) := rfl
set_option maxRecDepth 20000 in
theorem mC253 : tables_1_8[174]? = some (.code (mY 253) (mBytes 253) (mMax 253) (mRet 253)) := rfl
set_option maxRecDepth 20000 in
theorem mC254 : tables_1_8[182]? = some (.code (mY 254) (mBytes 254) (mMax 254) (mRet 254)) := rfl
set_option maxRecDepth 20000 in
theorem mC255 : tables_1_8[170]? = some (.code (mY 255) (mBytes 255) (mMax 255) (mRet 255)) := rfl
set_option maxRecDepth 20000 in
theorem mC256 : tables_1_8[190]? = some (.code (mY 256) (mBytes 256) (mMax 256) (mRet 256)) := rfl
set_option maxRecDepth 20000 in
theorem mC257 : tables_1_8[194]? = some (.code (mY 257) (mBytes 257) (mMax 257) (mRet 257)) := rfl
set_option maxRecDepth 20000 in
theorem mC258 : tables_1_8[202]? = some (.code (mY 258) (mBytes 258) (mMax 258) (mRet 258)) := rfl
set_option maxRecDepth 20000 in
theorem mC259 : tables_1_8[210]? = some (.code (mY 259) (mBytes 259) (mMax 259) (mRet 259)) := rfl
set_option maxRecDepth 20000 in
theorem mC260 : tables_1_8[186]? = some (.code (mY 260) (mBytes 260) (mMax 260) (mRet 260)) := rfl
set_option maxRecDepth 20000 in
theorem mC261 : tables_1_8[198]? = some (.code (mY 261) (mBytes 261) (mMax 261) (mRet 261)) := rfl
set_option maxRecDepth 20000 in
theorem mC262 : tables_1_8[206]? = some (.code (mY 262) (mBytes 262) (mMax 262) (mRet 262)) := rfl
set_option maxRecDepth 20000 in
theorem mC263 : tables_1_8[218]? = some (.code (mY 263) (mBytes 263) (mMax 263) (mRet 263)) := rfl
set_option maxRecDepth 20000 in
theorem mC264 : tables_1_8[222]? = some (.code (mY 264) (mBytes 264) (mMax 264) (mRet 264)) := rfl
set_option maxRecDepth 20000 in
theorem mC265 : tables_1_8[214]? = some (.code (mY 265) (mBytes 265) (mMax 265) (mRet 265)) := rfl
set_option maxRecDepth 20000 in
theorem mC266 : tables_1_9[10]? = some (.code (mY 266) (mBytes 266) (mMax 266) (mRet 266)) := rfl
set_option maxRecDepth 20000 in
theorem mC267 : tables_1_9[2]? = some (.code (mY 267) (mBytes 267) (mMax 267) (mRet 267)) := rfl
set_option maxRecDepth 20000 in
theorem mC268 : tables_1_9[6]? = some (.code (mY 268) (mBytes 268) (mMax 268) (mRet 268)) := rfl
set_option maxRecDepth 20000 in
theorem mC269 : tables_1_8[234]? = some (.code (mY 269) (mBytes 269) (mMax 269) (mRet 269)) := rfl
set_option maxRecDepth 20000 in
theorem mC270 : tables_1_8[238]? = some (.code (mY 270) (mBytes 270) (mMax 270) (mRet 270)) := rfl
set_option maxRecDepth 20000 in
theorem mC271 : tables_1_8[230]? = some (.code (mY 271) (mBytes 271) (mMax 271) (mRet 271)) := rfl
set_option maxRecDepth 20000 in
theorem mC272 : tables_1_8[226]? = some (.code (mY 272) (mBytes 272) (mMax 272) (mRet 272)) := rfl
set_option maxRecDepth 20000 in
theorem mC273 : tables_1_9[27]? = some (.code (mY 273) (mBytes 273) (mMax 273) (mRet 273)) := rfl
set_option maxRecDepth 20000 in
theorem mC274 : tables_1_9[24]? = some (.code (mY 274) (mBytes 274) (mMax 274) (mRet 274)) := rfl
set_option maxRecDepth 20000 in
theorem mC275 : tables_1_9[31]? = some (.code (mY 275) (mBytes 275) (mMax 275) (mRet 275)) := rfl
set_option maxRecDepth 20000 in
theorem mC276 : tables_1_9[46]? = some (.code (mY 276) (mBytes 276) (mMax 276) (mRet 276)) := rfl
set_option maxRecDepth 20000 in
theorem mC277 : tables_1_9[43]? = some (.code (mY 277) (mBytes 277) (mMax 277) (mRet 277)) := rfl
set_option maxRecDepth 20000 in
theorem mC278 : tables_1_9[39]? = some (.code (mY 278) (mBytes 278) (mMax 278) (mRet 278)) := rfl
set_option maxRecDepth 20000 in
theorem mC279 : tables_1_9[35]? = some (.code (mY 279) (mBytes 279) (mMax 279) (mRet 279)) := rfl
set_option maxRecDepth 20000 in
theorem mC280 : tables_1_9[54]? = some (.code (mY 280) (mBytes 280) (mMax 280) (mRet 280)) := rfl
set_option maxRecDepth 20000 in
theorem mC281 : tables_1_9[62]? = some (.code (mY 281) (mBytes 281) (mMax 281) (mRet 281)) := rfl
set_option maxRecDepth 20000 in
theorem mC282 : tables_1_9[50]? = some (.code (mY 282) (mBytes 282) (mMax 282) (mRet 282)) := rfl
set_option maxRecDepth 20000 in
theorem mC283 : tables_1_9[58]? = some (.code (mY 283) (mBytes 283) (mMax 283) (mRet 283)) := rfl
set_option maxRecDepth 20000 in
theorem mC284 : tables_1_9[82]? = some (.code (mY 284) (mBytes 284) (mMax 284) (mRet 284)) := rfl
set_option maxRecDepth 20000 in
theorem mC285 : tables_1_9[78]? = some (.code (mY 285) (mBytes 285) (mMax 285) (mRet 285)) := rfl
set_option maxRecDepth 20000 in
theorem mC286 : tables_1_9[74]? = some (.code (mY 286) (mBytes 286) (mMax 286) (mRet 286)) := rfl
set_option maxRecDepth 20000 in
theorem mC287 : tables_1_9[70]? = some (.code (mY 287) (mBytes 287) (mMax 287) (mRet 287)) := rfl
set_option maxRecDepth 20000 in
theorem mC288 : tables_1_9[66]? = some (.code (mY 288) (mBytes 288) (mMax 288) (mRet 288)) := rfl
set_option maxRecDepth 20000 in
theorem mC289 : tables_1_9[86]? = some (.code (mY 289) (mBytes 289) (mMax 289) (mRet 289)) := rfl
set_option maxRecDepth 20000 in
theorem mC290 : tables_1_9[94]? = some (.code (mY 290) (mBytes 290) (mMax 290) (mRet 290)) := rfl
set_option maxRecDepth 20000 in
theorem mC291 : tables_1_9[106]? = some (.code (mY 291) (mBytes 291) (mMax 291) (mRet 291)) := rfl
set_option maxRecDepth 20000 in
theorem mC292 : tables_1_9[102]? = some (.code (mY 292) (mBytes 292) (mMax 292) (mRet 292)) := rfl
set_option maxRecDepth 20000 in
theorem mC293 : tables_1_9[98]? = some (.code (mY 293) (mBytes 293) (mMax 293) (mRet 293)) := rfl
set_option maxRecDepth 20000 in
theorem mC294 : tables_1_9[90]? = some (.code (mY 294) (mBytes 294) (mMax 294) (mRet 294)) := rfl
set_option maxRecDepth 20000 in
theorem mC295 : tables_1_9[114]? = some (.code (mY 295) (mBytes 295) (mMax 295) (mRet 295)) := rfl
set_option maxRecDepth 20000 in
theorem mC296 : tables_1_9[110]? = some (.code (mY 296) (mBytes 296) (mMax 296) (mRet 296)) := rfl
set_option maxRecDepth 20000 in
theorem mC297 : tables_1_9[118]? = some (.code (mY 297) (mBytes 297) (mMax 297) (mRet 297)) := rfl
set_option maxRecDepth 20000 in
theorem mC298 : tables_1_9[122]? = some (.code (mY 298) (mBytes 298) (mMax 298) (mRet 298)) := rfl
set_option maxRecDepth 20000 in
theorem mC299 : tables_1_9[126]? = some (.code (mY 299) (mBytes 299) (mMax 299) (mRet 299)) := rfl
set_option maxRecDepth 20000 in
theorem mC300 : tables_1_9[133]? = some (.code (mY 300) (mBytes 300) (mMax 300) (mRet 300)) := rfl
set_option maxRecDepth 20000 in
theorem mC301 : tables_1_9[130]? = some (.code (mY 301) (mBytes 301) (mMax 301) (mRet 301)) := rfl
set_option maxRecDepth 20000 in
theorem mC302 : tables_1_9[149]? = some (.code (mY 302) (mBytes 302) (mMax 302) (mRet 302)) := rfl
set_option maxRecDepth 20000 in
theorem mC303 : tables_1_9[145]? = some (.code (mY 303) (mBytes 303) (mMax 303) (mRet 303)) := rfl
set_option maxRecDepth 20000 in
theorem mC304 : tables_1_9[141]? = some (.code (mY 304) (mBytes 304) (mMax 304) (mRet 304)) := rfl
set_option maxRecDepth 20000 in
theorem mC305 : tables_1_9[153]? = some (.code (mY 305) (mBytes 305) (mMax 305) (mRet 305)) := rfl
set_option maxRecDepth 20000 in
theorem mC306 : tables_1_9[157]? = some (.code (mY 306) (mBytes 306) (mMax 306) (mRet 306)) := rfl
set_option maxRecDepth 20000 in
theorem mC307 : tables_1_9[137]? = some (.code (mY 307) (mBytes 307) (mMax 307) (mRet 307)) := rfl
set_option maxRecDepth 20000 in
theorem mC308 : tables_1_9[161]? = some (.code (mY 308) (mBytes 308) (mMax 308) (mRet 308)) := rfl
set_option maxRecDepth 20000 in
theorem mC309 : tables_1_9[170]? = some (.code (mY 309) (mBytes 309) (mMax 309) (mRet 309)) := rfl
set_option maxRecDepth 20000 in
theorem mC310 : tables_1_9[165]? = some (.code (mY 310) (mBytes 310) (mMax 310) (mRet 310)) := rfl
set_option maxRecDepth 20000 in
theorem mC311 : tables_1_9[179]? = some (.code (mY 311) (mBytes 311) (mMax 311) (mRet 311)) := rfl
set_option maxRecDepth 20000 in
theorem mC312 : tables_1_9[175]? = some (.code (mY 312) (mBytes 312) (mMax 312) (mRet 312)) := rfl
set_option maxRecDepth 20000 in
theorem mC313 : tables_1_9[183]? = some (.code (mY 313) (mBytes 313) (mMax 313) (mRet 313)) := rfl
set_option maxRecDepth 20000 in
theorem mC314 : tables_1_9[187]? = some (.code (mY 314) (mBytes 314) (mMax 314) (mRet 314)) := rfl
set_option maxRecDepth 20000 in
theorem mC315 : tables_1_9[197]? = some (.code (mY 315) (mBytes 315) (mMax 315) (mRet 315)) := rfl
set_option maxRecDepth 20000 in
theorem mC316 : tables_1_9[194]? = some (.code (mY 316) (mBytes 316) (mMax 316) (mRet 316)) := rfl
set_option maxRecDepth 20000 in
theorem mC317 : tables_1_9[201]? = some (.code (mY 317) (mBytes 317) (mMax 317) (mRet 317)) := rfl
set_option maxRecDepth 20000 in
theorem mC318 : tables_1_9[208]? = some (.code (mY 318) (mBytes 318) (mMax 318) (mRet 318)) := rfl
set_option maxRecDepth 20000 in
theorem mC319 : tables_1_9[205]? = some (.code (mY 319) (mBytes 319) (mMax 319) (mRet 319)) := rfl
set_option maxRecDepth 20000 in
theorem mC320 : tables_1_9[216]? = some (.code (mY 320) (mBytes 320) (mMax 320) (mRet 320)) := rfl
set_option maxRecDepth 20000 in
theorem mC321 : tables_1_9[220]? = some (.code (mY 321) (mBytes 321) (mMax 321) (mRet 321)) := rfl
set_option maxRecDepth 20000 in
theorem mC322 : tables_1_9[224]? = some (.code (mY 322) (mBytes 322) (mMax 322) (mRet 322)) := rfl
set_option maxRecDepth 20000 in
theorem mC323 : tables_1_9[212]? = some (.code (mY 323) (mBytes 323) (mMax 323) (mRet 323)) := rfl
set_option maxRecDepth 20000 in
theorem mC324 : tables_1_9[228]? = some (.code (mY 324) (mBytes 324) (mMax 324) (mRet 324)) := rfl
set_option maxRecDepth 20000 in
theorem mC325 : tables_1_9[236]? = some (.code (mY 325) (mBytes 325) (mMax 325) (mRet 325)) := rfl
set_option maxRecDepth 20000 in
theorem mC326 : tables_1_9[232]? = some (.code (mY 326) (mBytes 326) (mMax 326) (mRet 326)) := rfl
set_option maxRecDepth 20000 in
theorem mC327 : tables_1_10[12]? = some (.code (mY 327) (mBytes 327) (mMax 327) (mRet 327)) := rfl
set_option maxRecDepth 20000 in
theorem mC328 : tables_1_10[8]? = some (.code (mY 328) (mBytes 328) (mMax 328) (mRet 328)) := rfl
set_option maxRecDepth 20000 in
theorem mC329 : tables_1_10[4]? = some (.code (mY 329) (mBytes 329) (mMax 329) (mRet 329)) := rfl
set_option maxRecDepth 20000 in
theorem mC330 : tables_1_10[0]? = some (.code (mY 330) (mBytes 330) (mMax 330) (mRet 330)) := rfl
set_option maxRecDepth 20000 in
theorem mC331 : tables_1_10[16]? = some (.code (mY 331) (mBytes 331) (mMax 331) (mRet 331)) := rfl
set_option maxRecDepth 20000 in
theorem mC332 : tables_1_10[28]? = some (.code (mY 332) (mBytes 332) (mMax 332) (mRet 332)) := rfl
set_option maxRecDepth 20000 in
theorem mC333 : tables_1_10[24]? = some (.code (mY 333) (mBytes 333) (mMax 333) (mRet 333)) := rfl
set_option maxRecDepth 20000 in
theorem mC334 : tables_1_10[20]? = some (.code (mY 334) (mBytes 334) (mMax 334) (mRet 334)) := rfl
set_option maxRecDepth 20000 in
theorem mC335 : tables_1_10[33]? = some (.code (mY 335) (mBytes 335) (mMax 335) (mRet 335)) := rfl
set_option maxRecDepth 20000 in
theorem mC336 : tables_1_10[37]? = some (.code (mY 336) (mBytes 336) (mMax 336) (mRet 336)) := rfl
set_option maxRecDepth 20000 in
theorem mC337 : tables_1_10[65]? = some (.code (mY 337) (mBytes 337) (mMax 337) (mRet 337)) := rfl
set_option maxRecDepth 20000 in
theorem mC338 : tables_1_10[45]? = some (.code (mY 338) (mBytes 338) (mMax 338) (mRet 338)) := rfl
set_option maxRecDepth 20000 in
theorem mC339 : tables_1_10[49]? = some (.code (mY 339) (mBytes 339) (mMax 339) (mRet 339)) := rfl
set_option maxRecDepth 20000 in
theorem mC340 : tables_1_10[53]? = some (.code (mY 340) (mBytes 340) (mMax 340) (mRet 340)) := rfl
set_option maxRecDepth 20000 in
theorem mC341 : tables_1_10[61]? = some (.code (mY 341) (mBytes 341) (mMax 341) (mRet 341)) := rfl
set_option maxRecDepth 20000 in
theorem mC342 : tables_1_10[57]? = some (.code (mY 342) (mBytes 342) (mMax 342) (mRet 342)) := rfl
set_option maxRecDepth 20000 in
theorem mC343 : tables_1_10[69]? = some (.code (mY 343) (mBytes 343) (mMax 343) (mRet 343)) := rfl
set_option maxRecDepth 20000 in
theorem mC344 : tables_1_10[73]? = some (.code (mY 344) (mBytes 344) (mMax 344) (mRet 344)) := rfl
set_option maxRecDepth 20000 in
theorem mC345 : tables_1_10[41]? = some (.code (mY 345) (mBytes 345) (mMax 345) (mRet 345)) := rfl
set_option maxRecDepth 20000 in
theorem mC346 : tables_1_10[85]? = some (.code (mY 346) (mBytes 346) (mMax 346) (mRet 346)) := rfl
set_option maxRecDepth 20000 in
theorem mC347 : tables_1_10[81]? = some (.code (mY 347) (mBytes 347) (mMax 347) (mRet 347)) := rfl
set_option maxRecDepth 20000 in
theorem mC348 : tables_1_10[77]? = some (.code (mY 348) (mBytes 348) (mMax 348) (mRet 348)) := rfl
set_option maxRecDepth 20000 in
theorem mC349 : tables_1_10[89]? = some (.code (mY 349) (mBytes 349) (mMax 349) (mRet 349)) := rfl
set_option maxRecDepth 20000 in
theorem mC350 : tables_1_10[93]? = some (.code (mY 350) (mBytes 350) (mMax 350) (mRet 350)) := rfl
set_option maxRecDepth 20000 in
theorem mC351 : tables_1_10[97]? = some (.code (mY 351) (mBytes 351) (mMax 351) (mRet 351)) := rfl
