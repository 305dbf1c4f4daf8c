set_option maxRecDepth 100000 in
theorem lk0 : cd0.map lkA = cd0.map (lkB mm0) := rfl
set_option maxRecDepth 100000 in
theorem lk1 : cd1.map lkA = cd1.map (lkB mm1) := rfl
set_option maxRecDepth 100000 in
theorem lk2 : cd2.map lkA = cd2.map (lkB mm2) := rfl
set_option maxRecDepth 100000 in
theorem lk3 : cd3.map lkA = cd3.map (lkB mm3) := rfl
set_option maxRecDepth 100000 in
theorem lk4 : cd4.map lkA = cd4.map (lkB mm4) := rfl
set_option maxRecDepth 100000 in
theorem lk5 : cd5.map lkA = cd5.map (lkB mm5) := rfl
set_option maxRecDepth 100000 in
theorem lk6 : cd6.map lkA = cd6.map (lkB mm6) := rfl
set_option maxRecDepth 100000 in
theorem lk7 : cd7.map lkA = cd7.map (lkB mm7) := rfl
set_option maxRecDepth 100000 in
theorem lk8 : cd8.map lkA = cd8.map (lkB mm8) := rfl
set_option maxRecDepth 100000 in
theorem lk9 : cd9.map lkA = cd9.map (lkB mm9) := rfl
set_option maxRecDepth 100000 in
theorem lk10 : cd10.map lkA = cd10.map (lkB mm10) := rfl
set_option maxRecDepth 100000 in
theorem lk11 : cd11.map lkA = cd11.map (lkB mm11) := rfl
set_option maxRecDepth 100000 in
theorem lk12 : cd12.map lkA = cd12.map (lkB mm12) := rfl
set_option maxRecDepth 100000 in
theorem lk13 : cd13.map lkA = cd13.map (lkB mm13) := rfl
set_option maxRecDepth 100000 in
theorem lk14 : cd14.map lkA = cd14.map (lkB mm14) := rfl
set_option maxRecDepth 100000 in
theorem lk15 : cd15.map lkA = cd15.map (lkB mm15) := rfl
set_option maxRecDepth 100000 in
theorem lk16 : cd16.map lkA = cd16.map (lkB mm16) := rfl
set_option maxRecDepth 100000 in
theorem lk17 : cd17.map lkA = cd17.map (lkB mm17) := rfl
set_option maxRecDepth 100000 in
theorem lk18 : cd18.map lkA = cd18.map (lkB mm18) := rfl
set_option maxRecDepth 100000 in
theorem lk19 : cd19.map lkA = cd19.map (lkB mm19) := rfl
set_option maxRecDepth 100000 in
theorem lk20 : cd20.map lkA = cd20.map (lkB mm20) := rfl
set_option maxRecDepth 100000 in
theorem lk21 : cd21.map lkA = cd21.map (lkB mm21) := rfl
set_option maxRecDepth 100000 in
theorem lk22 : cd22.map lkA = cd22.map (lkB mm22) := rfl
set_option maxRecDepth 100000 in
theorem lk23 : cd23.map lkA = cd23.map (lkB mm23) := rfl
set_option maxRecDepth 100000 in
theorem lk24 : cd24.map lkA = cd24.map (lkB mm24) := rfl
set_option maxRecDepth 100000 in
theorem lk25 : cd25.map lkA = cd25.map (lkB mm25) := rfl
set_option maxRecDepth 100000 in
theorem lk26 : cd26.map lkA = cd26.map (lkB mm26) := rfl
set_option maxRecDepth 100000 in
theorem lk27 : cd27.map lkA = cd27.map (lkB mm27) := rfl
set_option maxRecDepth 100000 in
theorem lk28 : cd28.map lkA = cd28.map (lkB mm28) := rfl
set_option maxRecDepth 100000 in
theorem lk29 : cd29.map lkA = cd29.map (lkB mm29) := rfl
set_option maxRecDepth 100000 in
theorem lk30 : cd30.map lkA = cd30.map (lkB mm30) := rfl
set_option maxRecDepth 100000 in
theorem lk31 : cd31.map lkA = cd31.map (lkB mm31) := rfl
set_option maxRecDepth 100000 in
theorem lk32 : cd32.map lkA = cd32.map (lkB mm32) := rfl
set_option maxRecDepth 100000 in
theorem lk33 : cd33.map lkA = cd33.map (lkB mm33) := rfl
set_option maxRecDepth 100000 in
theorem lk34 : cd34.map lkA = cd34.map (lkB mm34) := rfl
set_option maxRecDepth 100000 in
theorem lk35 : cd35.map lkA = cd35.map (lkB mm35) := rfl
set_option maxRecDepth 100000 in
theorem lk36 : cd36.map lkA = cd36.map (lkB mm36) := rfl
set_option maxRecDepth 100000 in
theorem lk37 : cd37.map lkA = cd37.map (lkB mm37) := rfl
set_option maxRecDepth 100000 in
theorem lk38 : cd38.map lkA = cd38.map (lkB mm38) := rfl
set_option maxRecDepth 100000 in
theorem lk39 : cd39.map lkA = cd39.map (lkB mm39) := rfl
set_option maxRecDepth 100000 in
theorem lk40 : cd40.map lkA = cd40.map (lkB mm40) := rfl
set_option maxRecDepth 100000 in
theorem lk41 : cd41.map lkA = cd41.map (lkB mm41) := rfl
set_option maxRecDepth 100000 in
theorem lk42 : cd42.map lkA = cd42.map (lkB mm42) := rfl
set_option maxRecDepth 100000 in
theorem lk43 : cd43.map lkA = cd43.map (lkB mm43) := rfl
set_option maxRecDepth 100000 in
theorem lk44 : cd44.map lkA = cd44.map (lkB mm44) := rfl
set_option maxRecDepth 100000 in
theorem lk45 : cd45.map lkA = cd45.map (lkB mm45) := rfl
set_option maxRecDepth 100000 in
theorem lk46 : cd46.map lkA = cd46.map (lkB mm46) := rfl
set_option maxRecDepth 100000 in
theorem lk47 : cd47.map lkA = cd47.map (lkB mm47) := rfl
set_option maxRecDepth 100000 in
theorem lk48 : cd48.map lkA = cd48.map (lkB mm48) := rfl
set_option maxRecDepth 100000 in
theorem lk49 : cd49.map lkA = cd49.map (lkB mm49) := rfl
set_option maxRecDepth 100000 in
theorem lk50 : cd50.map lkA = cd50.map (lkB mm50) := rfl
set_option maxRecDepth 100000 in
theorem lk51 : cd51.map lkA = cd51.map (lkB mm51) := rfl
set_option maxRecDepth 100000 in
theorem lk52 : cd52.map lkA = cd52.map (lkB mm52) := rfl
set_option maxRecDepth 100000 in
theorem lk53 : cd53.map lkA = cd53.map (lkB mm53) := rfl
set_option maxRecDepth 100000 in
theorem lk54 : cd54.map lkA = cd54.map (lkB mm54) := rfl
set_option maxRecDepth 100000 in
theorem lk55 : cd55.map lkA = cd55.map (lkB mm55) := rfl
set_option maxRecDepth 100000 in
theorem lk56 : cd56.map lkA = cd56.map (lkB mm56) := rfl
set_option maxRecDepth 100000 in
theorem lk57 : cd57.map lkA = cd57.map (lkB mm57) := rfl
set_option maxRecDepth 100000 in
theorem lk58 : cd58.map lkA = cd58.map (lkB mm58) := rfl
set_option maxRecDepth 100000 in
theorem lk59 : cd59.map lkA = cd59.map (lkB mm59) := rfl
set_option maxRecDepth 100000 in
theorem lk60 : cd60.map lkA = cd60.map (lkB mm60) := rfl
set_option maxRecDepth 100000 in
theorem lk61 : cd61.map lkA = cd61.map (lkB mm61) := rfl
set_option maxRecDepth 100000 in
theorem lk62 : cd62.map lkA = cd62.map (lkB mm62) := rfl
set_option maxRecDepth 100000 in
theorem lk63 : cd63.map lkA = cd63.map (lkB mm63) := rfl
set_option maxRecDepth 100000 in
theorem lk64 : cd64.map lkA = cd64.map (lkB mm64) := rfl
set_option maxRecDepth 100000 in
theorem lk65 : cd65.map lkA = cd65.map (lkB mm65) := rfl
set_option maxRecDepth 100000 in
theorem lk66 : cd66.map lkA = cd66.map (lkB mm66) := rfl
set_option maxRecDepth 100000 in
theorem lk67 : cd67.map lkA = cd67.map (lkB mm67) := rfl
set_option maxRecDepth 100000 in
theorem lk68 : cd68.map lkA = cd68.map (lkB mm68) := rfl
set_option maxRecDepth 100000 in
theorem lk69 : cd69.map lkA = cd69.map (lkB mm69) := rfl
set_option maxRecDepth 100000 in
theorem lk70 : cd70.map lkA = cd70.map (lkB mm70) := rfl
set_option maxRecDepth 100000 in
theorem lk71 : cd71.map lkA = cd71.map (lkB mm71) := rfl
set_option maxRecDepth 100000 in
theorem lk72 : cd72.map lkA = cd72.map (lkB mm72) := rfl
set_option maxRecDepth 100000 in
theorem lk73 : cd73.map lkA = cd73.map (lkB mm73) := rfl
set_option maxRecDepth 100000 in
theorem lk74 : cd74.map lkA = cd74.map (lkB mm74) := rfl
set_option maxRecDepth 100000 in
theorem lk75 : cd75.map lkA = cd75.map (lkB mm75) := rfl
set_option maxRecDepth 100000 in
theorem lk76 : cd76.map lkA = cd76.map (lkB mm76) := rfl
set_option maxRecDepth 100000 in
theorem lk77 : cd77.map lkA = cd77.map (lkB mm77) := rfl
set_option maxRecDepth 100000 in
theorem lk78 : cd78.map lkA = cd78.map (lkB mm78) := rfl
set_option maxRecDepth 100000 in
theorem lk79 : cd79.map lkA = cd79.map (lkB mm79) := rfl
set_option maxRecDepth 100000 in
theorem lk80 : cd80.map lkA = cd80.map (lkB mm80) := rfl
set_option maxRecDepth 100000 in
theorem lk81 : cd81.map lkA = cd81.map (lkB mm81) := rfl
set_option maxRecDepth 100000 in
theorem lk82 : cd82.map lkA = cd82.map (lkB mm82) := rfl
set_option maxRecDepth 100000 in
theorem lk83 : cd83.map lkA = cd83.map (lkB mm83) := rfl
set_option maxRecDepth 100000 in
theorem lk84 : cd84.map lkA = cd84.map (lkB mm84) := rfl
set_option maxRecDepth 100000 in
theorem lk85 : cd85.map lkA = cd85.map (lkB mm85) := rfl
set_option maxRecDepth 100000 in
theorem lk86 : cd86.map lkA = cd86.map (lkB mm86) := rfl
set_option maxRecDepth 100000 in
theorem lk87 : cd87.map lkA = cd87.map (lkB mm87) := rfl
set_option maxRecDepth 100000 in
theorem lk88 : cd88.map lkA = cd88.map (lkB mm88) := rfl
set_option maxRecDepth 100000 in
theorem lk89 : cd89.map lkA = cd89.map (lkB mm89) := rfl
set_option maxRecDepth 100000 in
theorem lk90 : cd90.map lkA = cd90.map (lkB mm90) := rfl
set_option maxRecDepth 100000 in
theorem lk91 : cd91.map lkA = cd91.map (lkB mm91) := rfl
set_option maxRecDepth 100000 in
theorem lk92 : cd92.map lkA = cd92.map (lkB mm92) := rfl
set_option maxRecDepth 100000 in
theorem lk93 : cd93.map lkA = cd93.map (lkB mm93) := rfl
set_option maxRecDepth 100000 in
theorem lk94 : cd94.map lkA = cd94.map (lkB mm94) := rfl
set_option maxRecDepth 100000 in
theorem lk95 : cd95.map lkA = cd95.map (lkB mm95) := rfl
set_option maxRecDepth 100000 in
theorem lk96 : cd96.map lkA = cd96.map (lkB mm96) := rfl
set_option maxRecDepth 100000 in
theorem lk97 : cd97.map lkA = cd97.map (lkB mm97) := rfl
set_option maxRecDepth 100000 in
theorem lk98 : cd98.map lkA = cd98.map (lkB mm98) := rfl
set_option maxRecDepth 100000 in
theorem lk99 : cd99.map lkA = cd99.map (lkB mm99) := rfl
set_option maxRecDepth 100000 in
theorem lk100 : cd100.map lkA = cd100.map (lkB mm100) := rfl
set_option maxRecDepth 100000 in
theorem lk101 : cd101.map lkA = cd101.map (lkB mm101) := rfl
set_option maxRecDepth 100000 in
theorem lk102 : cd102.map lkA = cd102.map (lkB mm102) := rfl
set_option maxRecDepth 100000 in
theorem lk103 : cd103.map lkA = cd103.map (lkB mm103) := rfl
set_option maxRecDepth 100000 in
theorem lk104 : cd104.map lkA = cd104.map (lkB mm104) := rfl
set_option maxRecDepth 100000 in
theorem lk105 : cd105.map lkA = cd105.map (lkB mm105) := rfl
set_option maxRecDepth 100000 in
theorem lk106 : cd106.map lkA = cd106.map (lkB mm106) := rfl
set_option maxRecDepth 100000 in
theorem lk107 : cd107.map lkA = cd107.map (lkB mm107) := rfl
set_option maxRecDepth 100000 in
theorem lk108 : cd108.map lkA = cd108.map (lkB mm108) := rfl
set_option maxRecDepth 100000 in
theorem lk109 : cd109.map lkA = cd109.map (lkB mm109) := rfl
set_option maxRecDepth 100000 in
theorem lk110 : cd110.map lkA = cd110.map (lkB mm110) := rfl
set_option maxRecDepth 100000 in
theorem lk111 : cd111.map lkA = cd111.map (lkB mm111) := rfl
set_option maxRecDepth 100000 in
theorem lk112 : cd112.map lkA = cd112.map (lkB mm112) := rfl
set_option maxRecDepth 100000 in
theorem lk113 : cd113.map lkA = cd113.map (lkB mm113) := rfl
set_option maxRecDepth 100000 in
theorem lk114 : cd114.map lkA = cd114.map (lkB mm114) := rfl
set_option maxRecDepth 100000 in
theorem lk115 : cd115.map lkA = cd115.map (lkB mm115) := rfl
set_option maxRecDepth 100000 in
theorem lk116 : cd116.map lkA = cd116.map (lkB mm116) := rfl
set_option maxRecDepth 100000 in
theorem lk117 : cd117.map lkA = cd117.map (lkB mm117) := rfl
set_option maxRecDepth 100000 in
theorem lk118 : cd118.map lkA = cd118.map (lkB mm118) := rfl
set_option maxRecDepth 100000 in
theorem lk119 : cd119.map lkA = cd119.map (lkB mm119) := rfl
set_option maxRecDepth 100000 in
theorem lk120 : cd120.map lkA = cd120.map (lkB mm120) := rfl
set_option maxRecDepth 100000 in
theorem lk121 : cd121.map lkA = cd121.map (lkB mm121) := rfl
set_option maxRecDepth 100000 in
theorem lk122 : cd122.map lkA = cd122.map (lkB mm122) := rfl
set_option maxRecDepth 100000 in
theorem lk123 : cd123.map lkA = cd123.map (lkB mm123) := rfl
set_option maxRecDepth 100000 in
theorem lk124 : cd124.map lkA = cd124.map (lkB mm124) := rfl
set_option maxRecDepth 100000 in
theorem lk125 : cd125.map lkA = cd125.map (lkB mm125) := rfl
set_option maxRecDepth 100000 in
theorem lk126 : cd126.map lkA = cd126.map (lkB mm126) := rfl
set_option maxRecDepth 100000 in
theorem lk127 : cd127.map lkA = cd127.map (lkB mm127) := rfl
set_option maxRecDepth 100000 in
theorem lk128 : cd128.map lkA = cd128.map (lkB mm128) := rfl
set_option maxRecDepth 100000 in
theorem lk129 : cd129.map lkA = cd129.map (lkB mm129) := rfl
set_option maxRecDepth 100000 in
theorem lk130 : cd130.map lkA = cd130.map (lkB mm130) := rfl
set_option maxRecDepth 100000 in
theorem lk131 : cd131.map lkA = cd131.map (lkB mm131) := rfl
set_option maxRecDepth 100000 in
theorem lk132 : cd132.map lkA = cd132.map (lkB mm132) := rfl
set_option maxRecDepth 100000 in
theorem lk133 : cd133.map lkA = cd133.map (lkB mm133) := rfl
set_option maxRecDepth 100000 in
theorem lk134 : cd134.map lkA = cd134.map (lkB mm134) := rfl
set_option maxRecDepth 100000 in
theorem lk135 : cd135.map lkA = cd135.map (lkB mm135) := rfl
set_option maxRecDepth 100000 in
theorem lk136 : cd136.map lkA = cd136.map (lkB mm136) := rfl
set_option maxRecDepth 100000 in
theorem lk137 : cd137.map lkA = cd137.map (lkB mm137) := rfl
set_option maxRecDepth 100000 in
theorem lk138 : cd138.map lkA = cd138.map (lkB mm138) := rfl
set_option maxRecDepth 100000 in
theorem lk139 : cd139.map lkA = cd139.map (lkB mm139) := rfl
set_option maxRecDepth 100000 in
theorem lk140 : cd140.map lkA = cd140.map (lkB mm140) := rfl
set_option maxRecDepth 100000 in
theorem lk141 : cd141.map lkA = cd141.map (lkB mm141) := rfl
set_option maxRecDepth 100000 in
theorem lk142 : cd142.map lkA = cd142.map (lkB mm142) := rfl
set_option maxRecDepth 100000 in
theorem lk143 : cd143.map lkA = cd143.map (lkB mm143) := rfl
set_option maxRecDepth 100000 in
theorem lk144 : cd144.map lkA = cd144.map (lkB mm144) := rfl
