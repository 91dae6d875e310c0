-- links and words of the tables (written by gen/w.py)
theorem xm_cw0 : lw_tbl[282]? = some (.code (xm_mn 0) (xm_code 0) (xm_ml 0) (xm_rt 0)) := by decide +kernel
theorem xm_cw1 : lw_tbl[259]? = some (.code (xm_mn 1) (xm_code 1) (xm_ml 1) (xm_rt 1)) := by decide +kernel
theorem xm_cw2 : lw_tbl[255]? = some (.code (xm_mn 2) (xm_code 2) (xm_ml 2) (xm_rt 2)) := by decide +kernel
theorem xm_cw3 : lw_tbl[985]? = some (.code (xm_mn 3) (xm_code 3) (xm_ml 3) (xm_rt 3)) := by decide +kernel
theorem xm_cw4 : lw_tbl[267]? = some (.code (xm_mn 4) (xm_code 4) (xm_ml 4) (xm_rt 4)) := by decide +kernel
theorem xm_cw5 : lw_tbl[263]? = some (.code (xm_mn 5) (xm_code 5) (xm_ml 5) (xm_rt 5)) := by decide +kernel
theorem xm_cw6 : lw_tbl[990]? = some (.code (xm_mn 6) (xm_code 6) (xm_ml 6) (xm_rt 6)) := by decide +kernel
theorem xm_cw7 : lw_tbl[294]? = some (.code (xm_mn 7) (xm_code 7) (xm_ml 7) (xm_rt 7)) := by decide +kernel
theorem xm_cw8 : lw_tbl[379]? = some (.code (xm_mn 8) (xm_code 8) (xm_ml 8) (xm_rt 8)) := by decide +kernel
theorem xm_cw9 : lw_tbl[375]? = some (.code (xm_mn 9) (xm_code 9) (xm_ml 9) (xm_rt 9)) := by decide +kernel
theorem xm_cw10 : lw_tbl[383]? = some (.code (xm_mn 10) (xm_code 10) (xm_ml 10) (xm_rt 10)) := by decide +kernel
theorem xm_cw11 : lw_tbl[391]? = some (.code (xm_mn 11) (xm_code 11) (xm_ml 11) (xm_rt 11)) := by decide +kernel
theorem xm_cw12 : lw_tbl[395]? = some (.code (xm_mn 12) (xm_code 12) (xm_ml 12) (xm_rt 12)) := by decide +kernel
theorem xm_cw13 : lw_tbl[387]? = some (.code (xm_mn 13) (xm_code 13) (xm_ml 13) (xm_rt 13)) := by decide +kernel
theorem xm_cw14 : lw_tbl[402]? = some (.code (xm_mn 14) (xm_code 14) (xm_ml 14) (xm_rt 14)) := by decide +kernel
theorem xm_cw15 : lw_tbl[406]? = some (.code (xm_mn 15) (xm_code 15) (xm_ml 15) (xm_rt 15)) := by decide +kernel
theorem xm_cw16 : lw_tbl[398]? = some (.code (xm_mn 16) (xm_code 16) (xm_ml 16) (xm_rt 16)) := by decide +kernel
theorem xm_cw17 : lw_tbl[371]? = some (.code (xm_mn 17) (xm_code 17) (xm_ml 17) (xm_rt 17)) := by decide +kernel
theorem xm_cw18 : lw_tbl[410]? = some (.code (xm_mn 18) (xm_code 18) (xm_ml 18) (xm_rt 18)) := by decide +kernel
theorem xm_cw19 : lw_tbl[422]? = some (.code (xm_mn 19) (xm_code 19) (xm_ml 19) (xm_rt 19)) := by decide +kernel
theorem xm_cw20 : lw_tbl[513]? = some (.code (xm_mn 20) (xm_code 20) (xm_ml 20) (xm_rt 20)) := by decide +kernel
theorem xm_cw21 : lw_tbl[517]? = some (.code (xm_mn 21) (xm_code 21) (xm_ml 21) (xm_rt 21)) := by decide +kernel
theorem xm_cw22 : lw_tbl[529]? = some (.code (xm_mn 22) (xm_code 22) (xm_ml 22) (xm_rt 22)) := by decide +kernel
theorem xm_cw23 : lw_tbl[525]? = some (.code (xm_mn 23) (xm_code 23) (xm_ml 23) (xm_rt 23)) := by decide +kernel
theorem xm_cw24 : lw_tbl[521]? = some (.code (xm_mn 24) (xm_code 24) (xm_ml 24) (xm_rt 24)) := by decide +kernel
theorem xm_cw25 : lw_tbl[418]? = some (.code (xm_mn 25) (xm_code 25) (xm_ml 25) (xm_rt 25)) := by decide +kernel
theorem xm_cw26 : lw_tbl[537]? = some (.code (xm_mn 26) (xm_code 26) (xm_ml 26) (xm_rt 26)) := by decide +kernel
theorem xm_cw27 : lw_tbl[569]? = some (.code (xm_mn 27) (xm_code 27) (xm_ml 27) (xm_rt 27)) := by decide +kernel
theorem xm_cw28 : lw_tbl[564]? = some (.code (xm_mn 28) (xm_code 28) (xm_ml 28) (xm_rt 28)) := by decide +kernel
theorem xm_cw29 : lw_tbl[573]? = some (.code (xm_mn 29) (xm_code 29) (xm_ml 29) (xm_rt 29)) := by decide +kernel
theorem xm_cw30 : lw_tbl[584]? = some (.code (xm_mn 30) (xm_code 30) (xm_ml 30) (xm_rt 30)) := by decide +kernel
theorem xm_cw31 : lw_tbl[581]? = some (.code (xm_mn 31) (xm_code 31) (xm_ml 31) (xm_rt 31)) := by decide +kernel
theorem xm_cw32 : lw_tbl[454]? = some (.code (xm_mn 32) (xm_code 32) (xm_ml 32) (xm_rt 32)) := by decide +kernel
theorem xm_cw33 : lw_tbl[588]? = some (.code (xm_mn 33) (xm_code 33) (xm_ml 33) (xm_rt 33)) := by decide +kernel
theorem xm_cw34 : lw_tbl[602]? = some (.code (xm_mn 34) (xm_code 34) (xm_ml 34) (xm_rt 34)) := by decide +kernel
theorem xm_cw35 : lw_tbl[457]? = some (.code (xm_mn 35) (xm_code 35) (xm_ml 35) (xm_rt 35)) := by decide +kernel
theorem xm_cw36 : lw_tbl[598]? = some (.code (xm_mn 36) (xm_code 36) (xm_ml 36) (xm_rt 36)) := by decide +kernel
theorem xm_cw37 : lw_tbl[608]? = some (.code (xm_mn 37) (xm_code 37) (xm_ml 37) (xm_rt 37)) := by decide +kernel
theorem xm_cw38 : lw_tbl[594]? = some (.code (xm_mn 38) (xm_code 38) (xm_ml 38) (xm_rt 38)) := by decide +kernel
theorem xm_cw39 : lw_tbl[577]? = some (.code (xm_mn 39) (xm_code 39) (xm_ml 39) (xm_rt 39)) := by decide +kernel
theorem xm_cw40 : lw_tbl[611]? = some (.code (xm_mn 40) (xm_code 40) (xm_ml 40) (xm_rt 40)) := by decide +kernel
theorem xm_cw41 : lw_tbl[533]? = some (.code (xm_mn 41) (xm_code 41) (xm_ml 41) (xm_rt 41)) := by decide +kernel
theorem xm_cw42 : lw_tbl[626]? = some (.code (xm_mn 42) (xm_code 42) (xm_ml 42) (xm_rt 42)) := by decide +kernel
theorem xm_cw43 : lw_tbl[622]? = some (.code (xm_mn 43) (xm_code 43) (xm_ml 43) (xm_rt 43)) := by decide +kernel
theorem xm_cw44 : lw_tbl[618]? = some (.code (xm_mn 44) (xm_code 44) (xm_ml 44) (xm_rt 44)) := by decide +kernel
theorem xm_cw45 : lw_tbl[630]? = some (.code (xm_mn 45) (xm_code 45) (xm_ml 45) (xm_rt 45)) := by decide +kernel
theorem xm_cw46 : lw_tbl[414]? = some (.code (xm_mn 46) (xm_code 46) (xm_ml 46) (xm_rt 46)) := by decide +kernel
theorem xm_cw47 : lw_tbl[367]? = some (.code (xm_mn 47) (xm_code 47) (xm_ml 47) (xm_rt 47)) := by decide +kernel
theorem xm_cw48 : lw_tbl[290]? = some (.code (xm_mn 48) (xm_code 48) (xm_ml 48) (xm_rt 48)) := by decide +kernel
theorem xm_cw49 : lw_tbl[285]? = some (.codeWith (xm_mn 49) (xm_code 49) (xm_ml 49) (xm_rt 49) (xm_et 49)) := by decide +kernel
theorem xm_cw50 : lw_tbl[998]? = some (.code (xm_mn 50) (xm_code 50) (xm_ml 50) (xm_rt 50)) := by decide +kernel
theorem xm_cw51 : lw_tbl[1010]? = some (.code (xm_mn 51) (xm_code 51) (xm_ml 51) (xm_rt 51)) := by decide +kernel
theorem xm_cw52 : lw_tbl[1006]? = some (.code (xm_mn 52) (xm_code 52) (xm_ml 52) (xm_rt 52)) := by decide +kernel
theorem xm_cw53 : lw_tbl[1014]? = some (.code (xm_mn 53) (xm_code 53) (xm_ml 53) (xm_rt 53)) := by decide +kernel
theorem xm_cw54 : lw_tbl[1002]? = some (.code (xm_mn 54) (xm_code 54) (xm_ml 54) (xm_rt 54)) := by decide +kernel
theorem xm_cw55 : lw_tbl[1022]? = some (.code (xm_mn 55) (xm_code 55) (xm_ml 55) (xm_rt 55)) := by decide +kernel
theorem xm_cw56 : lw_tbl[1026]? = some (.code (xm_mn 56) (xm_code 56) (xm_ml 56) (xm_rt 56)) := by decide +kernel
theorem xm_cw57 : lw_tbl[1018]? = some (.code (xm_mn 57) (xm_code 57) (xm_ml 57) (xm_rt 57)) := by decide +kernel
theorem xm_cw58 : lw_tbl[1033]? = some (.code (xm_mn 58) (xm_code 58) (xm_ml 58) (xm_rt 58)) := by decide +kernel
theorem xm_cw59 : lw_tbl[1046]? = some (.code (xm_mn 59) (xm_code 59) (xm_ml 59) (xm_rt 59)) := by decide +kernel
theorem xm_cw60 : lw_tbl[1041]? = some (.code (xm_mn 60) (xm_code 60) (xm_ml 60) (xm_rt 60)) := by decide +kernel
theorem xm_cw61 : lw_tbl[1037]? = some (.code (xm_mn 61) (xm_code 61) (xm_ml 61) (xm_rt 61)) := by decide +kernel
theorem xm_cw62 : lw_tbl[1030]? = some (.code (xm_mn 62) (xm_code 62) (xm_ml 62) (xm_rt 62)) := by decide +kernel
theorem xm_cw63 : lw_tbl[994]? = some (.code (xm_mn 63) (xm_code 63) (xm_ml 63) (xm_rt 63)) := by decide +kernel
theorem xm_cw64 : lw_tbl[981]? = some (.code (xm_mn 64) (xm_code 64) (xm_ml 64) (xm_rt 64)) := by decide +kernel
theorem xm_cw65 : lw_tbl[271]? = some (.code (xm_mn 65) (xm_code 65) (xm_ml 65) (xm_rt 65)) := by decide +kernel
theorem xm_cw66 : lw_tbl[1050]? = some (.code (xm_mn 66) (xm_code 66) (xm_ml 66) (xm_rt 66)) := by decide +kernel
theorem xm_cw67 : lw_tbl[653]? = some (.code (xm_mn 67) (xm_code 67) (xm_ml 67) (xm_rt 67)) := by decide +kernel
theorem xm_cw68 : lw_tbl[657]? = some (.code (xm_mn 68) (xm_code 68) (xm_ml 68) (xm_rt 68)) := by decide +kernel
theorem xm_cw69 : lw_tbl[664]? = some (.code (xm_mn 69) (xm_code 69) (xm_ml 69) (xm_rt 69)) := by decide +kernel
theorem xm_cw70 : lw_tbl[661]? = some (.code (xm_mn 70) (xm_code 70) (xm_ml 70) (xm_rt 70)) := by decide +kernel
theorem xm_cw71 : lw_tbl[649]? = some (.code (xm_mn 71) (xm_code 71) (xm_ml 71) (xm_rt 71)) := by decide +kernel
theorem xm_cw72 : lw_tbl[645]? = some (.code (xm_mn 72) (xm_code 72) (xm_ml 72) (xm_rt 72)) := by decide +kernel
theorem xm_cw73 : lw_tbl[668]? = some (.code (xm_mn 73) (xm_code 73) (xm_ml 73) (xm_rt 73)) := by decide +kernel
theorem xm_cw74 : lw_tbl[678]? = some (.code (xm_mn 74) (xm_code 74) (xm_ml 74) (xm_rt 74)) := by decide +kernel
theorem xm_cw75 : lw_tbl[682]? = some (.code (xm_mn 75) (xm_code 75) (xm_ml 75) (xm_rt 75)) := by decide +kernel
theorem xm_cw76 : lw_tbl[674]? = some (.code (xm_mn 76) (xm_code 76) (xm_ml 76) (xm_rt 76)) := by decide +kernel
theorem xm_cw77 : lw_tbl[686]? = some (.code (xm_mn 77) (xm_code 77) (xm_ml 77) (xm_rt 77)) := by decide +kernel
theorem xm_cw78 : lw_tbl[694]? = some (.code (xm_mn 78) (xm_code 78) (xm_ml 78) (xm_rt 78)) := by decide +kernel
theorem xm_cw79 : lw_tbl[699]? = some (.code (xm_mn 79) (xm_code 79) (xm_ml 79) (xm_rt 79)) := by decide +kernel
theorem xm_cw80 : lw_tbl[708]? = some (.code (xm_mn 80) (xm_code 80) (xm_ml 80) (xm_rt 80)) := by decide +kernel
theorem xm_cw81 : lw_tbl[704]? = some (.code (xm_mn 81) (xm_code 81) (xm_ml 81) (xm_rt 81)) := by decide +kernel
theorem xm_cw82 : lw_tbl[690]? = some (.code (xm_mn 82) (xm_code 82) (xm_ml 82) (xm_rt 82)) := by decide +kernel
theorem xm_cw83 : lw_tbl[641]? = some (.code (xm_mn 83) (xm_code 83) (xm_ml 83) (xm_rt 83)) := by decide +kernel
theorem xm_cw84 : lw_tbl[637]? = some (.code (xm_mn 84) (xm_code 84) (xm_ml 84) (xm_rt 84)) := by decide +kernel
theorem xm_cw85 : lw_tbl[633]? = some (.codeWith (xm_mn 85) (xm_code 85) (xm_ml 85) (xm_rt 85) (xm_et 85)) := by decide +kernel
theorem xm_cw86 : lw_tbl[1075]? = some (.code (xm_mn 86) (xm_code 86) (xm_ml 86) (xm_rt 86)) := by decide +kernel
theorem xm_cw87 : lw_tbl[1079]? = some (.code (xm_mn 87) (xm_code 87) (xm_ml 87) (xm_rt 87)) := by decide +kernel
theorem xm_cw88 : lw_tbl[1071]? = some (.code (xm_mn 88) (xm_code 88) (xm_ml 88) (xm_rt 88)) := by decide +kernel
theorem xm_cw89 : lw_tbl[1084]? = some (.code (xm_mn 89) (xm_code 89) (xm_ml 89) (xm_rt 89)) := by decide +kernel
theorem xm_cw90 : lw_tbl[1066]? = some (.code (xm_mn 90) (xm_code 90) (xm_ml 90) (xm_rt 90)) := by decide +kernel
theorem xm_cw91 : lw_tbl[1092]? = some (.code (xm_mn 91) (xm_code 91) (xm_ml 91) (xm_rt 91)) := by decide +kernel
theorem xm_cw92 : lw_tbl[1088]? = some (.code (xm_mn 92) (xm_code 92) (xm_ml 92) (xm_rt 92)) := by decide +kernel
theorem xm_cw93 : lw_tbl[1062]? = some (.code (xm_mn 93) (xm_code 93) (xm_ml 93) (xm_rt 93)) := by decide +kernel
theorem xm_cw94 : lw_tbl[1096]? = some (.code (xm_mn 94) (xm_code 94) (xm_ml 94) (xm_rt 94)) := by decide +kernel
theorem xm_cw95 : lw_tbl[1104]? = some (.code (xm_mn 95) (xm_code 95) (xm_ml 95) (xm_rt 95)) := by decide +kernel
theorem xm_cw96 : lw_tbl[1100]? = some (.code (xm_mn 96) (xm_code 96) (xm_ml 96) (xm_rt 96)) := by decide +kernel
theorem xm_cw97 : lw_tbl[1058]? = some (.code (xm_mn 97) (xm_code 97) (xm_ml 97) (xm_rt 97)) := by decide +kernel
theorem xm_cw98 : lw_tbl[1054]? = some (.code (xm_mn 98) (xm_code 98) (xm_ml 98) (xm_rt 98)) := by decide +kernel
theorem xm_cw99 : lw_tbl[741]? = some (.code (xm_mn 99) (xm_code 99) (xm_ml 99) (xm_rt 99)) := by decide +kernel
theorem xm_cw100 : lw_tbl[737]? = some (.code (xm_mn 100) (xm_code 100) (xm_ml 100) (xm_rt 100)) := by decide +kernel
theorem xm_cw101 : lw_tbl[717]? = some (.code (xm_mn 101) (xm_code 101) (xm_ml 101) (xm_rt 101)) := by decide +kernel
theorem xm_cw102 : lw_tbl[712]? = some (.codeWith (xm_mn 102) (xm_code 102) (xm_ml 102) (xm_rt 102) (xm_et 102)) := by decide +kernel
theorem xm_cw103 : lw_tbl[1108]? = some (.code (xm_mn 103) (xm_code 103) (xm_ml 103) (xm_rt 103)) := by decide +kernel
theorem xm_cw104 : lw_tbl[751]? = some (.code (xm_mn 104) (xm_code 104) (xm_ml 104) (xm_rt 104)) := by decide +kernel
theorem xm_cw105 : lw_tbl[748]? = some (.code (xm_mn 105) (xm_code 105) (xm_ml 105) (xm_rt 105)) := by decide +kernel
theorem xm_cw106 : lw_tbl[744]? = some (.codeWith (xm_mn 106) (xm_code 106) (xm_ml 106) (xm_rt 106) (xm_et 106)) := by decide +kernel
theorem xm_cw107 : lw_tbl[1112]? = some (.code (xm_mn 107) (xm_code 107) (xm_ml 107) (xm_rt 107)) := by decide +kernel
theorem xm_cw108 : lw_tbl[759]? = some (.code (xm_mn 108) (xm_code 108) (xm_ml 108) (xm_rt 108)) := by decide +kernel
theorem xm_cw109 : lw_tbl[755]? = some (.codeWith (xm_mn 109) (xm_code 109) (xm_ml 109) (xm_rt 109) (xm_et 109)) := by decide +kernel
theorem xm_cw110 : lw_tbl[1116]? = some (.code (xm_mn 110) (xm_code 110) (xm_ml 110) (xm_rt 110)) := by decide +kernel
theorem xm_cw111 : lw_tbl[275]? = some (.code (xm_mn 111) (xm_code 111) (xm_ml 111) (xm_rt 111)) := by decide +kernel
theorem xm_cw112 : lw_tbl[1120]? = some (.code (xm_mn 112) (xm_code 112) (xm_ml 112) (xm_rt 112)) := by decide +kernel
theorem xm_cw113 : lw_tbl[767]? = some (.code (xm_mn 113) (xm_code 113) (xm_ml 113) (xm_rt 113)) := by decide +kernel
theorem xm_cw114 : lw_tbl[762]? = some (.codeWith (xm_mn 114) (xm_code 114) (xm_ml 114) (xm_rt 114) (xm_et 114)) := by decide +kernel
theorem xm_cw115 : lw_tbl[1128]? = some (.code (xm_mn 115) (xm_code 115) (xm_ml 115) (xm_rt 115)) := by decide +kernel
theorem xm_cw116 : lw_tbl[1124]? = some (.code (xm_mn 116) (xm_code 116) (xm_ml 116) (xm_rt 116)) := by decide +kernel
theorem xm_cw117 : lw_tbl[279]? = some (.code (xm_mn 117) (xm_code 117) (xm_ml 117) (xm_rt 117)) := by decide +kernel
theorem xm_cw118 : lw_tbl[1132]? = some (.code (xm_mn 118) (xm_code 118) (xm_ml 118) (xm_rt 118)) := by decide +kernel
theorem xm_cw119 : lw_tbl[792]? = some (.code (xm_mn 119) (xm_code 119) (xm_ml 119) (xm_rt 119)) := by decide +kernel
theorem xm_cw120 : lw_tbl[788]? = some (.codeWith (xm_mn 120) (xm_code 120) (xm_ml 120) (xm_rt 120) (xm_et 120)) := by decide +kernel
theorem xm_cw121 : lw_tbl[1136]? = some (.code (xm_mn 121) (xm_code 121) (xm_ml 121) (xm_rt 121)) := by decide +kernel
theorem xm_cw122 : lw_tbl[800]? = some (.code (xm_mn 122) (xm_code 122) (xm_ml 122) (xm_rt 122)) := by decide +kernel
theorem xm_cw123 : lw_tbl[796]? = some (.codeWith (xm_mn 123) (xm_code 123) (xm_ml 123) (xm_rt 123) (xm_et 123)) := by decide +kernel
theorem xm_cw124 : lw_tbl[1140]? = some (.code (xm_mn 124) (xm_code 124) (xm_ml 124) (xm_rt 124)) := by decide +kernel
theorem xm_cw125 : lw_tbl[807]? = some (.code (xm_mn 125) (xm_code 125) (xm_ml 125) (xm_rt 125)) := by decide +kernel
theorem xm_cw126 : lw_tbl[803]? = some (.codeWith (xm_mn 126) (xm_code 126) (xm_ml 126) (xm_rt 126) (xm_et 126)) := by decide +kernel
theorem xm_cw127 : lw_tbl[1144]? = some (.code (xm_mn 127) (xm_code 127) (xm_ml 127) (xm_rt 127)) := by decide +kernel
theorem xm_cw128 : lw_tbl[828]? = some (.code (xm_mn 128) (xm_code 128) (xm_ml 128) (xm_rt 128)) := by decide +kernel
theorem xm_cw129 : lw_tbl[824]? = some (.code (xm_mn 129) (xm_code 129) (xm_ml 129) (xm_rt 129)) := by decide +kernel
theorem xm_cw130 : lw_tbl[820]? = some (.code (xm_mn 130) (xm_code 130) (xm_ml 130) (xm_rt 130)) := by decide +kernel
theorem xm_cw131 : lw_tbl[815]? = some (.code (xm_mn 131) (xm_code 131) (xm_ml 131) (xm_rt 131)) := by decide +kernel
theorem xm_cw132 : lw_tbl[811]? = some (.codeWith (xm_mn 132) (xm_code 132) (xm_ml 132) (xm_rt 132) (xm_et 132)) := by decide +kernel
theorem xm_cw133 : lw_tbl[1152]? = some (.code (xm_mn 133) (xm_code 133) (xm_ml 133) (xm_rt 133)) := by decide +kernel
theorem xm_cw134 : lw_tbl[1148]? = some (.code (xm_mn 134) (xm_code 134) (xm_ml 134) (xm_rt 134)) := by decide +kernel
theorem xm_cw135 : lw_tbl[839]? = some (.code (xm_mn 135) (xm_code 135) (xm_ml 135) (xm_rt 135)) := by decide +kernel
theorem xm_cw136 : lw_tbl[835]? = some (.code (xm_mn 136) (xm_code 136) (xm_ml 136) (xm_rt 136)) := by decide +kernel
theorem xm_cw137 : lw_tbl[831]? = some (.codeWith (xm_mn 137) (xm_code 137) (xm_ml 137) (xm_rt 137) (xm_et 137)) := by decide +kernel
theorem xm_cw138 : lw_tbl[1156]? = some (.code (xm_mn 138) (xm_code 138) (xm_ml 138) (xm_rt 138)) := by decide +kernel
theorem xm_cw139 : lw_tbl[848]? = some (.code (xm_mn 139) (xm_code 139) (xm_ml 139) (xm_rt 139)) := by decide +kernel
theorem xm_cw140 : lw_tbl[843]? = some (.codeWith (xm_mn 140) (xm_code 140) (xm_ml 140) (xm_rt 140) (xm_et 140)) := by decide +kernel
theorem xm_cw141 : lw_tbl[1160]? = some (.code (xm_mn 141) (xm_code 141) (xm_ml 141) (xm_rt 141)) := by decide +kernel
theorem xm_cw142 : lw_tbl[873]? = some (.code (xm_mn 142) (xm_code 142) (xm_ml 142) (xm_rt 142)) := by decide +kernel
theorem xm_cw143 : lw_tbl[869]? = some (.codeWith (xm_mn 143) (xm_code 143) (xm_ml 143) (xm_rt 143) (xm_et 143)) := by decide +kernel
theorem xm_cw144 : lw_tbl[1164]? = some (.code (xm_mn 144) (xm_code 144) (xm_ml 144) (xm_rt 144)) := by decide +kernel
