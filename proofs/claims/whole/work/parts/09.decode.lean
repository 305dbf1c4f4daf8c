set_option maxRecDepth 100000 in
theorem ck0 : cd0.all (ckE mm0) = true := by decide +kernel
set_option maxRecDepth 100000 in
theorem ck1 : cd1.all (ckE mm1) = true := by decide +kernel
set_option maxRecDepth 100000 in
theorem ck2 : cd2.all (ckE mm2) = true := by decide +kernel
set_option maxRecDepth 100000 in
theorem ck3 : cd3.all (ckE mm3) = true := by decide +kernel
set_option maxRecDepth 100000 in
theorem ck4 : cd4.all (ckE mm4) = true := by decide +kernel
set_option maxRecDepth 100000 in
theorem ck5 : cd5.all (ckE mm5) = true := by decide +kernel
set_option maxRecDepth 100000 in
theorem ck6 : cd6.all (ckE mm6) = true := by decide +kernel
set_option maxRecDepth 100000 in
theorem ck7 : cd7.all (ckE mm7) = true := by decide +kernel
set_option maxRecDepth 100000 in
theorem ck8 : cd8.all (ckE mm8) = true := by decide +kernel
set_option maxRecDepth 100000 in
theorem ck9 : cd9.all (ckE mm9) = true := by decide +kernel
set_option maxRecDepth 100000 in
theorem ck10 : cd10.all (ckE mm10) = true := by decide +kernel
set_option maxRecDepth 100000 in
theorem ck11 : cd11.all (ckE mm11) = true := by decide +kernel
set_option maxRecDepth 100000 in
theorem ck12 : cd12.all (ckE mm12) = true := by decide +kernel
set_option maxRecDepth 100000 in
theorem ck13 : cd13.all (ckE mm13) = true := by decide +kernel
set_option maxRecDepth 100000 in
theorem ck14 : cd14.all (ckE mm14) = true := by decide +kernel
set_option maxRecDepth 100000 in
theorem ck15 : cd15.all (ckE mm15) = true := by decide +kernel
set_option maxRecDepth 100000 in
theorem ck16 : cd16.all (ckE mm16) = true := by decide +kernel
set_option maxRecDepth 100000 in
theorem ck17 : cd17.all (ckE mm17) = true := by decide +kernel
set_option maxRecDepth 100000 in
theorem ck18 : cd18.all (ckE mm18) = true := by decide +kernel
set_option maxRecDepth 100000 in
theorem ck19 : cd19.all (ckE mm19) = true := by decide +kernel
set_option maxRecDepth 100000 in
theorem ck20 : cd20.all (ckE mm20) = true := by decide +kernel
set_option maxRecDepth 100000 in
theorem ck21 : cd21.all (ckE mm21) = true := by decide +kernel
set_option maxRecDepth 100000 in
theorem ck22 : cd22.all (ckE mm22) = true := by decide +kernel
set_option maxRecDepth 100000 in
theorem ck23 : cd23.all (ckE mm23) = true := by decide +kernel
set_option maxRecDepth 100000 in
theorem ck24 : cd24.all (ckE mm24) = true := by decide +kernel
set_option maxRecDepth 100000 in
theorem ck25 : cd25.all (ckE mm25) = true := by decide +kernel
set_option maxRecDepth 100000 in
theorem ck26 : cd26.all (ckE mm26) = true := by decide +kernel
set_option maxRecDepth 100000 in
theorem ck27 : cd27.all (ckE mm27) = true := by decide +kernel
set_option maxRecDepth 100000 in
theorem ck28 : cd28.all (ckE mm28) = true := by decide +kernel
set_option maxRecDepth 100000 in
theorem ck29 : cd29.all (ckE mm29) = true := by decide +kernel
set_option maxRecDepth 100000 in
theorem ck30 : cd30.all (ckE mm30) = true := by decide +kernel
set_option maxRecDepth 100000 in
theorem ck31 : cd31.all (ckE mm31) = true := by decide +kernel
set_option maxRecDepth 100000 in
theorem ck32 : cd32.all (ckE mm32) = true := by decide +kernel
set_option maxRecDepth 100000 in
theorem ck33 : cd33.all (ckE mm33) = true := by decide +kernel
set_option maxRecDepth 100000 in
theorem ck34 : cd34.all (ckE mm34) = true := by decide +kernel
set_option maxRecDepth 100000 in
theorem ck35 : cd35.all (ckE mm35) = true := by decide +kernel
set_option maxRecDepth 100000 in
theorem ck36 : cd36.all (ckE mm36) = true := by decide +kernel
set_option maxRecDepth 100000 in
theorem ck37 : cd37.all (ckE mm37) = true := by decide +kernel
set_option maxRecDepth 100000 in
theorem ck38 : cd38.all (ckE mm38) = true := by decide +kernel
set_option maxRecDepth 100000 in
theorem ck39 : cd39.all (ckE mm39) = true := by decide +kernel
set_option maxRecDepth 100000 in
theorem ck40 : cd40.all (ckE mm40) = true := by decide +kernel
set_option maxRecDepth 100000 in
theorem ck41 : cd41.all (ckE mm41) = true := by decide +kernel
set_option maxRecDepth 100000 in
theorem ck42 : cd42.all (ckE mm42) = true := by decide +kernel
set_option maxRecDepth 100000 in
theorem ck43 : cd43.all (ckE mm43) = true := by decide +kernel
set_option maxRecDepth 100000 in
theorem ck44 : cd44.all (ckE mm44) = true := by decide +kernel
set_option maxRecDepth 100000 in
theorem ck45 : cd45.all (ckE mm45) = true := by decide +kernel
set_option maxRecDepth 100000 in
theorem ck46 : cd46.all (ckE mm46) = true := by decide +kernel
set_option maxRecDepth 100000 in
theorem ck47 : cd47.all (ckE mm47) = true := by decide +kernel
set_option maxRecDepth 100000 in
theorem ck48 : cd48.all (ckE mm48) = true := by decide +kernel
set_option maxRecDepth 100000 in
theorem ck49 : cd49.all (ckE mm49) = true := by decide +kernel
set_option maxRecDepth 100000 in
theorem ck50 : cd50.all (ckE mm50) = true := by decide +kernel
set_option maxRecDepth 100000 in
theorem ck51 : cd51.all (ckE mm51) = true := by decide +kernel
set_option maxRecDepth 100000 in
theorem ck52 : cd52.all (ckE mm52) = true := by decide +kernel
set_option maxRecDepth 100000 in
theorem ck53 : cd53.all (ckE mm53) = true := by decide +kernel
set_option maxRecDepth 100000 in
theorem ck54 : cd54.all (ckE mm54) = true := by decide +kernel
set_option maxRecDepth 100000 in
theorem ck55 : cd55.all (ckE mm55) = true := by decide +kernel
set_option maxRecDepth 100000 in
theorem ck56 : cd56.all (ckE mm56) = true := by decide +kernel
set_option maxRecDepth 100000 in
theorem ck57 : cd57.all (ckE mm57) = true := by decide +kernel
set_option maxRecDepth 100000 in
theorem ck58 : cd58.all (ckE mm58) = true := by decide +kernel
set_option maxRecDepth 100000 in
theorem ck59 : cd59.all (ckE mm59) = true := by decide +kernel
set_option maxRecDepth 100000 in
theorem ck60 : cd60.all (ckE mm60) = true := by decide +kernel
set_option maxRecDepth 100000 in
theorem ck61 : cd61.all (ckE mm61) = true := by decide +kernel
set_option maxRecDepth 100000 in
theorem ck62 : cd62.all (ckE mm62) = true := by decide +kernel
set_option maxRecDepth 100000 in
theorem ck63 : cd63.all (ckE mm63) = true := by decide +kernel
set_option maxRecDepth 100000 in
theorem ck64 : cd64.all (ckE mm64) = true := by decide +kernel
set_option maxRecDepth 100000 in
theorem ck65 : cd65.all (ckE mm65) = true := by decide +kernel
set_option maxRecDepth 100000 in
theorem ck66 : cd66.all (ckE mm66) = true := by decide +kernel
set_option maxRecDepth 100000 in
theorem ck67 : cd67.all (ckE mm67) = true := by decide +kernel
set_option maxRecDepth 100000 in
theorem ck68 : cd68.all (ckE mm68) = true := by decide +kernel
set_option maxRecDepth 100000 in
theorem ck69 : cd69.all (ckE mm69) = true := by decide +kernel
set_option maxRecDepth 100000 in
theorem ck70 : cd70.all (ckE mm70) = true := by decide +kernel
set_option maxRecDepth 100000 in
theorem ck71 : cd71.all (ckE mm71) = true := by decide +kernel
set_option maxRecDepth 100000 in
theorem ck72 : cd72.all (ckE mm72) = true := by decide +kernel
set_option maxRecDepth 100000 in
theorem ck73 : cd73.all (ckE mm73) = true := by decide +kernel
set_option maxRecDepth 100000 in
theorem ck74 : cd74.all (ckE mm74) = true := by decide +kernel
set_option maxRecDepth 100000 in
theorem ck75 : cd75.all (ckE mm75) = true := by decide +kernel
set_option maxRecDepth 100000 in
theorem ck76 : cd76.all (ckE mm76) = true := by decide +kernel
set_option maxRecDepth 100000 in
theorem ck77 : cd77.all (ckE mm77) = true := by decide +kernel
set_option maxRecDepth 100000 in
theorem ck78 : cd78.all (ckE mm78) = true := by decide +kernel
set_option maxRecDepth 100000 in
theorem ck79 : cd79.all (ckE mm79) = true := by decide +kernel
set_option maxRecDepth 100000 in
theorem ck80 : cd80.all (ckE mm80) = true := by decide +kernel
set_option maxRecDepth 100000 in
theorem ck81 : cd81.all (ckE mm81) = true := by decide +kernel
set_option maxRecDepth 100000 in
theorem ck82 : cd82.all (ckE mm82) = true := by decide +kernel
set_option maxRecDepth 100000 in
theorem ck83 : cd83.all (ckE mm83) = true := by decide +kernel
set_option maxRecDepth 100000 in
theorem ck84 : cd84.all (ckE mm84) = true := by decide +kernel
set_option maxRecDepth 100000 in
theorem ck85 : cd85.all (ckE mm85) = true := by decide +kernel
set_option maxRecDepth 100000 in
theorem ck86 : cd86.all (ckE mm86) = true := by decide +kernel
set_option maxRecDepth 100000 in
theorem ck87 : cd87.all (ckE mm87) = true := by decide +kernel
set_option maxRecDepth 100000 in
theorem ck88 : cd88.all (ckE mm88) = true := by decide +kernel
set_option maxRecDepth 100000 in
theorem ck89 : cd89.all (ckE mm89) = true := by decide +kernel
set_option maxRecDepth 100000 in
theorem ck90 : cd90.all (ckE mm90) = true := by decide +kernel
set_option maxRecDepth 100000 in
theorem ck91 : cd91.all (ckE mm91) = true := by decide +kernel
set_option maxRecDepth 100000 in
theorem ck92 : cd92.all (ckE mm92) = true := by decide +kernel
set_option maxRecDepth 100000 in
theorem ck93 : cd93.all (ckE mm93) = true := by decide +kernel
set_option maxRecDepth 100000 in
theorem ck94 : cd94.all (ckE mm94) = true := by decide +kernel
set_option maxRecDepth 100000 in
theorem ck95 : cd95.all (ckE mm95) = true := by decide +kernel
set_option maxRecDepth 100000 in
theorem ck96 : cd96.all (ckE mm96) = true := by decide +kernel
set_option maxRecDepth 100000 in
theorem ck97 : cd97.all (ckE mm97) = true := by decide +kernel
set_option maxRecDepth 100000 in
theorem ck98 : cd98.all (ckE mm98) = true := by decide +kernel
set_option maxRecDepth 100000 in
theorem ck99 : cd99.all (ckE mm99) = true := by decide +kernel
set_option maxRecDepth 100000 in
theorem ck100 : cd100.all (ckE mm100) = true := by decide +kernel
set_option maxRecDepth 100000 in
theorem ck101 : cd101.all (ckE mm101) = true := by decide +kernel
set_option maxRecDepth 100000 in
theorem ck102 : cd102.all (ckE mm102) = true := by decide +kernel
set_option maxRecDepth 100000 in
theorem ck103 : cd103.all (ckE mm103) = true := by decide +kernel
set_option maxRecDepth 100000 in
theorem ck104 : cd104.all (ckE mm104) = true := by decide +kernel
set_option maxRecDepth 100000 in
theorem ck105 : cd105.all (ckE mm105) = true := by decide +kernel
set_option maxRecDepth 100000 in
theorem ck106 : cd106.all (ckE mm106) = true := by decide +kernel
set_option maxRecDepth 100000 in
theorem ck107 : cd107.all (ckE mm107) = true := by decide +kernel
set_option maxRecDepth 100000 in
theorem ck108 : cd108.all (ckE mm108) = true := by decide +kernel
set_option maxRecDepth 100000 in
theorem ck109 : cd109.all (ckE mm109) = true := by decide +kernel
set_option maxRecDepth 100000 in
theorem ck110 : cd110.all (ckE mm110) = true := by decide +kernel
set_option maxRecDepth 100000 in
theorem ck111 : cd111.all (ckE mm111) = true := by decide +kernel
set_option maxRecDepth 100000 in
theorem ck112 : cd112.all (ckE mm112) = true := by decide +kernel
set_option maxRecDepth 100000 in
theorem ck113 : cd113.all (ckE mm113) = true := by decide +kernel
set_option maxRecDepth 100000 in
theorem ck114 : cd114.all (ckE mm114) = true := by decide +kernel
set_option maxRecDepth 100000 in
theorem ck115 : cd115.all (ckE mm115) = true := by decide +kernel
set_option maxRecDepth 100000 in
theorem ck116 : cd116.all (ckE mm116) = true := by decide +kernel
set_option maxRecDepth 100000 in
theorem ck117 : cd117.all (ckE mm117) = true := by decide +kernel
set_option maxRecDepth 100000 in
theorem ck118 : cd118.all (ckE mm118) = true := by decide +kernel
set_option maxRecDepth 100000 in
theorem ck119 : cd119.all (ckE mm119) = true := by decide +kernel
set_option maxRecDepth 100000 in
theorem ck120 : cd120.all (ckE mm120) = true := by decide +kernel
set_option maxRecDepth 100000 in
theorem ck121 : cd121.all (ckE mm121) = true := by decide +kernel
set_option maxRecDepth 100000 in
theorem ck122 : cd122.all (ckE mm122) = true := by decide +kernel
set_option maxRecDepth 100000 in
theorem ck123 : cd123.all (ckE mm123) = true := by decide +kernel
set_option maxRecDepth 100000 in
theorem ck124 : cd124.all (ckE mm124) = true := by decide +kernel
set_option maxRecDepth 100000 in
theorem ck125 : cd125.all (ckE mm125) = true := by decide +kernel
set_option maxRecDepth 100000 in
theorem ck126 : cd126.all (ckE mm126) = true := by decide +kernel
set_option maxRecDepth 100000 in
theorem ck127 : cd127.all (ckE mm127) = true := by decide +kernel
set_option maxRecDepth 100000 in
theorem ck128 : cd128.all (ckE mm128) = true := by decide +kernel
set_option maxRecDepth 100000 in
theorem ck129 : cd129.all (ckE mm129) = true := by decide +kernel
set_option maxRecDepth 100000 in
theorem ck130 : cd130.all (ckE mm130) = true := by decide +kernel
set_option maxRecDepth 100000 in
theorem ck131 : cd131.all (ckE mm131) = true := by decide +kernel
set_option maxRecDepth 100000 in
theorem ck132 : cd132.all (ckE mm132) = true := by decide +kernel
set_option maxRecDepth 100000 in
theorem ck133 : cd133.all (ckE mm133) = true := by decide +kernel
set_option maxRecDepth 100000 in
theorem ck134 : cd134.all (ckE mm134) = true := by decide +kernel
set_option maxRecDepth 100000 in
theorem ck135 : cd135.all (ckE mm135) = true := by decide +kernel
set_option maxRecDepth 100000 in
theorem ck136 : cd136.all (ckE mm136) = true := by decide +kernel
set_option maxRecDepth 100000 in
theorem ck137 : cd137.all (ckE mm137) = true := by decide +kernel
set_option maxRecDepth 100000 in
theorem ck138 : cd138.all (ckE mm138) = true := by decide +kernel
set_option maxRecDepth 100000 in
theorem ck139 : cd139.all (ckE mm139) = true := by decide +kernel
set_option maxRecDepth 100000 in
theorem ck140 : cd140.all (ckE mm140) = true := by decide +kernel
set_option maxRecDepth 100000 in
theorem ck141 : cd141.all (ckE mm141) = true := by decide +kernel
set_option maxRecDepth 100000 in
theorem ck142 : cd142.all (ckE mm142) = true := by decide +kernel
set_option maxRecDepth 100000 in
theorem ck143 : cd143.all (ckE mm143) = true := by decide +kernel
set_option maxRecDepth 100000 in
theorem ck144 : cd144.all (ckE mm144) = true := by decide +kernel
