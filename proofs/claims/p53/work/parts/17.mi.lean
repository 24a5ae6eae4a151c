set_option maxRecDepth 20000 in
theorem aMi0 : aMS[0]? = some aM0 := rfl
set_option maxRecDepth 20000 in
theorem aMi1 : aMS[1]? = some aM1 := rfl
set_option maxRecDepth 20000 in
theorem aMi2 : aMS[2]? = some aM2 := rfl
set_option maxRecDepth 20000 in
theorem aMi3 : aMS[3]? = some aM3 := rfl
set_option maxRecDepth 20000 in
theorem aMi4 : aMS[4]? = some aM4 := rfl
set_option maxRecDepth 20000 in
theorem aMi5 : aMS[5]? = some aM5 := rfl
set_option maxRecDepth 20000 in
theorem aMi6 : aMS[6]? = some aM6 := rfl
set_option maxRecDepth 20000 in
theorem aMi7 : aMS[7]? = some aM7 := rfl
set_option maxRecDepth 20000 in
theorem aMi8 : aMS[8]? = some aM8 := rfl
set_option maxRecDepth 20000 in
theorem aMi9 : aMS[9]? = some aM9 := rfl
set_option maxRecDepth 20000 in
theorem aMi10 : aMS[10]? = some aM10 := rfl
set_option maxRecDepth 20000 in
theorem aMi11 : aMS[11]? = some aM11 := rfl
set_option maxRecDepth 20000 in
theorem aMi12 : aMS[12]? = some aM12 := rfl
set_option maxRecDepth 20000 in
theorem aMi13 : aMS[13]? = some aM13 := rfl
set_option maxRecDepth 20000 in
theorem aMi14 : aMS[14]? = some aM14 := rfl
set_option maxRecDepth 20000 in
theorem aMi15 : aMS[15]? = some aM15 := rfl
set_option maxRecDepth 20000 in
theorem aMi16 : aMS[16]? = some aM16 := rfl
set_option maxRecDepth 20000 in
theorem aMi17 : aMS[17]? = some aM17 := rfl
set_option maxRecDepth 20000 in
theorem aMi18 : aMS[18]? = some aM18 := rfl
set_option maxRecDepth 20000 in
theorem aMi19 : aMS[19]? = some aM19 := rfl
set_option maxRecDepth 20000 in
theorem aMi20 : aMS[20]? = some aM20 := rfl
set_option maxRecDepth 20000 in
theorem aMi21 : aMS[21]? = some aM21 := rfl
set_option maxRecDepth 20000 in
theorem aMi22 : aMS[22]? = some aM22 := rfl
set_option maxRecDepth 20000 in
theorem aMi23 : aMS[23]? = some aM23 := rfl
set_option maxRecDepth 20000 in
theorem aMi24 : aMS[24]? = some aM24 := rfl
set_option maxRecDepth 20000 in
theorem aMi25 : aMS[25]? = some aM25 := rfl
set_option maxRecDepth 20000 in
theorem aMi26 : aMS[26]? = some aM26 := rfl
set_option maxRecDepth 20000 in
theorem aMi27 : aMS[27]? = some aM27 := rfl
set_option maxRecDepth 20000 in
theorem aMi28 : aMS[28]? = some aM28 := rfl
set_option maxRecDepth 20000 in
theorem aMi29 : aMS[29]? = some aM29 := rfl
set_option maxRecDepth 20000 in
theorem aMi30 : aMS[30]? = some aM30 := rfl
set_option maxRecDepth 20000 in
theorem aMi31 : aMS[31]? = some aM31 := rfl
set_option maxRecDepth 20000 in
theorem aMi32 : aMS[32]? = some aM32 := rfl
set_option maxRecDepth 20000 in
theorem aMi33 : aMS[33]? = some aM33 := rfl
set_option maxRecDepth 20000 in
theorem aMi34 : aMS[34]? = some aM34 := rfl
set_option maxRecDepth 20000 in
theorem aMi35 : aMS[35]? = some aM35 := rfl
set_option maxRecDepth 20000 in
theorem aMi36 : aMS[36]? = some aM36 := rfl
set_option maxRecDepth 20000 in
theorem aMi37 : aMS[37]? = some aM37 := rfl
set_option maxRecDepth 20000 in
theorem aMi38 : aMS[38]? = some aM38 := rfl
set_option maxRecDepth 20000 in
theorem aMi39 : aMS[39]? = some aM39 := rfl
set_option maxRecDepth 20000 in
theorem aMi40 : aMS[40]? = some aM40 := rfl
set_option maxRecDepth 20000 in
theorem aMi41 : aMS[41]? = some aM41 := rfl
set_option maxRecDepth 20000 in
theorem aMi42 : aMS[42]? = some aM42 := rfl
set_option maxRecDepth 20000 in
theorem aMi43 : aMS[43]? = some aM43 := rfl
set_option maxRecDepth 20000 in
theorem aMi44 : aMS[44]? = some aM44 := rfl
set_option maxRecDepth 20000 in
theorem aMi45 : aMS[45]? = some aM45 := rfl
set_option maxRecDepth 20000 in
theorem aMi46 : aMS[46]? = some aM46 := rfl
set_option maxRecDepth 20000 in
theorem aMi47 : aMS[47]? = some aM47 := rfl
set_option maxRecDepth 20000 in
theorem aMi48 : aMS[48]? = some aM48 := rfl
set_option maxRecDepth 20000 in
theorem aMi49 : aMS[49]? = some aM49 := rfl
set_option maxRecDepth 20000 in
theorem aMi50 : aMS[50]? = some aM50 := rfl
set_option maxRecDepth 20000 in
theorem aMi51 : aMS[51]? = some aM51 := rfl
set_option maxRecDepth 20000 in
theorem aMi52 : aMS[52]? = some aM52 := rfl
set_option maxRecDepth 20000 in
theorem aMi53 : aMS[53]? = some aM53 := rfl
set_option maxRecDepth 20000 in
theorem aMi54 : aMS[54]? = some aM54 := rfl
set_option maxRecDepth 20000 in
theorem aMi55 : aMS[55]? = some aM55 := rfl
set_option maxRecDepth 20000 in
theorem aMi56 : aMS[56]? = some aM56 := rfl
set_option maxRecDepth 20000 in
theorem aMi57 : aMS[57]? = some aM57 := rfl
set_option maxRecDepth 20000 in
theorem aMi58 : aMS[58]? = some aM58 := rfl
set_option maxRecDepth 20000 in
theorem aMi59 : aMS[59]? = some aM59 := rfl
set_option maxRecDepth 20000 in
theorem aMi60 : aMS[60]? = some aM60 := rfl
set_option maxRecDepth 20000 in
theorem aMi61 : aMS[61]? = some aM61 := rfl
set_option maxRecDepth 20000 in
theorem aMi62 : aMS[62]? = some aM62 := rfl
set_option maxRecDepth 20000 in
theorem aMi63 : aMS[63]? = some aM63 := rfl
set_option maxRecDepth 20000 in
theorem aMi64 : aMS[64]? = some aM64 := rfl
set_option maxRecDepth 20000 in
theorem aMi65 : aMS[65]? = some aM65 := rfl
set_option maxRecDepth 20000 in
theorem aMi66 : aMS[66]? = some aM66 := rfl
set_option maxRecDepth 20000 in
theorem aMi67 : aMS[67]? = some aM67 := rfl
set_option maxRecDepth 20000 in
theorem aMi68 : aMS[68]? = some aM68 := rfl
set_option maxRecDepth 20000 in
theorem aMi69 : aMS[69]? = some aM69 := rfl
set_option maxRecDepth 20000 in
theorem aMi70 : aMS[70]? = some aM70 := rfl
set_option maxRecDepth 20000 in
theorem aMi71 : aMS[71]? = some aM71 := rfl
set_option maxRecDepth 20000 in
theorem aMi72 : aMS[72]? = some aM72 := rfl
set_option maxRecDepth 20000 in
theorem aMi73 : aMS[73]? = some aM73 := rfl
set_option maxRecDepth 20000 in
theorem aMi74 : aMS[74]? = some aM74 := rfl
set_option maxRecDepth 20000 in
theorem aMi75 : aMS[75]? = some aM75 := rfl
set_option maxRecDepth 20000 in
theorem aMi76 : aMS[76]? = some aM76 := rfl
set_option maxRecDepth 20000 in
theorem aMi77 : aMS[77]? = some aM77 := rfl
set_option maxRecDepth 20000 in
theorem aMi78 : aMS[78]? = some aM78 := rfl
set_option maxRecDepth 20000 in
theorem aMi79 : aMS[79]? = some aM79 := rfl
set_option maxRecDepth 20000 in
theorem aMi80 : aMS[80]? = some aM80 := rfl
set_option maxRecDepth 20000 in
theorem aMi81 : aMS[81]? = some aM81 := rfl
set_option maxRecDepth 20000 in
theorem aMi82 : aMS[82]? = some aM82 := rfl
set_option maxRecDepth 20000 in
theorem aMi83 : aMS[83]? = some aM83 := rfl
set_option maxRecDepth 20000 in
theorem aMi84 : aMS[84]? = some aM84 := rfl
set_option maxRecDepth 20000 in
theorem aMi85 : aMS[85]? = some aM85 := rfl
set_option maxRecDepth 20000 in
theorem aMi86 : aMS[86]? = some aM86 := rfl
set_option maxRecDepth 20000 in
theorem aMi87 : aMS[87]? = some aM87 := rfl
set_option maxRecDepth 20000 in
theorem aMi88 : aMS[88]? = some aM88 := rfl
set_option maxRecDepth 20000 in
theorem aMi89 : aMS[89]? = some aM89 := rfl
set_option maxRecDepth 20000 in
theorem aMi90 : aMS[90]? = some aM90 := rfl
set_option maxRecDepth 20000 in
theorem aMi91 : aMS[91]? = some aM91 := rfl
set_option maxRecDepth 20000 in
theorem aMi92 : aMS[92]? = some aM92 := rfl
set_option maxRecDepth 20000 in
theorem aMi93 : aMS[93]? = some aM93 := rfl
set_option maxRecDepth 20000 in
theorem aMi94 : aMS[94]? = some aM94 := rfl
set_option maxRecDepth 20000 in
theorem aMi95 : aMS[95]? = some aM95 := rfl
set_option maxRecDepth 20000 in
theorem aMi96 : aMS[96]? = some aM96 := rfl
set_option maxRecDepth 20000 in
theorem aMi97 : aMS[97]? = some aM97 := rfl
set_option maxRecDepth 20000 in
theorem aMi98 : aMS[98]? = some aM98 := rfl
set_option maxRecDepth 20000 in
theorem aMi99 : aMS[99]? = some aM99 := rfl
set_option maxRecDepth 20000 in
theorem aMi100 : aMS[100]? = some aM100 := rfl
set_option maxRecDepth 20000 in
theorem aMi101 : aMS[101]? = some aM101 := rfl
set_option maxRecDepth 20000 in
theorem aMi102 : aMS[102]? = some aM102 := rfl
set_option maxRecDepth 20000 in
theorem aMi103 : aMS[103]? = some aM103 := rfl
set_option maxRecDepth 20000 in
theorem aMi104 : aMS[104]? = some aM104 := rfl
set_option maxRecDepth 20000 in
theorem aMi105 : aMS[105]? = some aM105 := rfl
set_option maxRecDepth 20000 in
theorem aMi106 : aMS[106]? = some aM106 := rfl
set_option maxRecDepth 20000 in
theorem aMi107 : aMS[107]? = some aM107 := rfl
set_option maxRecDepth 20000 in
theorem aMi108 : aMS[108]? = some aM108 := rfl
set_option maxRecDepth 20000 in
theorem aMi109 : aMS[109]? = some aM109 := rfl
set_option maxRecDepth 20000 in
theorem aMi110 : aMS[110]? = some aM110 := rfl
set_option maxRecDepth 20000 in
theorem aMi111 : aMS[111]? = some aM111 := rfl
set_option maxRecDepth 20000 in
theorem aMi112 : aMS[112]? = some aM112 := rfl
set_option maxRecDepth 20000 in
theorem aMi113 : aMS[113]? = some aM113 := rfl
set_option maxRecDepth 20000 in
theorem aMi114 : aMS[114]? = some aM114 := rfl
set_option maxRecDepth 20000 in
theorem aMi115 : aMS[115]? = some aM115 := rfl
set_option maxRecDepth 20000 in
theorem aMi116 : aMS[116]? = some aM116 := rfl
set_option maxRecDepth 20000 in
theorem aMi117 : aMS[117]? = some aM117 := rfl
set_option maxRecDepth 20000 in
theorem aMi118 : aMS[118]? = some aM118 := rfl
set_option maxRecDepth 20000 in
theorem aMi119 : aMS[119]? = some aM119 := rfl
set_option maxRecDepth 20000 in
theorem aMi120 : aMS[120]? = some aM120 := rfl
set_option maxRecDepth 20000 in
theorem aMi121 : aMS[121]? = some aM121 := rfl
set_option maxRecDepth 20000 in
theorem aMi122 : aMS[122]? = some aM122 := rfl
set_option maxRecDepth 20000 in
theorem aMi123 : aMS[123]? = some aM123 := rfl
set_option maxRecDepth 20000 in
theorem aMi124 : aMS[124]? = some aM124 := rfl
set_option maxRecDepth 20000 in
theorem aMi125 : aMS[125]? = some aM125 := rfl
set_option maxRecDepth 20000 in
theorem aMi126 : aMS[126]? = some aM126 := rfl
set_option maxRecDepth 20000 in
theorem aMi127 : aMS[127]? = some aM127 := rfl
set_option maxRecDepth 20000 in
theorem aMi128 : aMS[128]? = some aM128 := rfl
set_option maxRecDepth 20000 in
theorem aMi129 : aMS[129]? = some aM129 := rfl
set_option maxRecDepth 20000 in
theorem aMi130 : aMS[130]? = some aM130 := rfl
set_option maxRecDepth 20000 in
theorem aMi131 : aMS[131]? = some aM131 := rfl
set_option maxRecDepth 20000 in
theorem aMi132 : aMS[132]? = some aM132 := rfl
set_option maxRecDepth 20000 in
theorem aMi133 : aMS[133]? = some aM133 := rfl
set_option maxRecDepth 20000 in
theorem aMi134 : aMS[134]? = some aM134 := rfl
set_option maxRecDepth 20000 in
theorem aMi135 : aMS[135]? = some aM135 := rfl
set_option maxRecDepth 20000 in
theorem aMi136 : aMS[136]? = some aM136 := rfl
set_option maxRecDepth 20000 in
theorem aMi137 : aMS[137]? = some aM137 := rfl
set_option maxRecDepth 20000 in
theorem aMi138 : aMS[138]? = some aM138 := rfl
set_option maxRecDepth 20000 in
theorem aMi139 : aMS[139]? = some aM139 := rfl
set_option maxRecDepth 20000 in
theorem aMi140 : aMS[140]? = some aM140 := rfl
set_option maxRecDepth 20000 in
theorem aMi141 : aMS[141]? = some aM141 := rfl
set_option maxRecDepth 20000 in
theorem aMi142 : aMS[142]? = some aM142 := rfl
set_option maxRecDepth 20000 in
theorem aMi143 : aMS[143]? = some aM143 := rfl
set_option maxRecDepth 20000 in
theorem aMi144 : aMS[144]? = some aM144 := rfl
set_option maxRecDepth 20000 in
theorem aMi145 : aMS[145]? = some aM145 := rfl
set_option maxRecDepth 20000 in
theorem aMi146 : aMS[146]? = some aM146 := rfl
set_option maxRecDepth 20000 in
theorem aMi147 : aMS[147]? = some aM147 := rfl
set_option maxRecDepth 20000 in
theorem aMi148 : aMS[148]? = some aM148 := rfl
set_option maxRecDepth 20000 in
theorem aMi149 : aMS[149]? = some aM149 := rfl
set_option maxRecDepth 20000 in
theorem aMi150 : aMS[150]? = some aM150 := rfl
set_option maxRecDepth 20000 in
theorem aMi151 : aMS[151]? = some aM151 := rfl
set_option maxRecDepth 20000 in
theorem aMi152 : aMS[152]? = some aM152 := rfl
set_option maxRecDepth 20000 in
theorem aMi153 : aMS[153]? = some aM153 := rfl
set_option maxRecDepth 20000 in
theorem aMi154 : aMS[154]? = some aM154 := rfl
set_option maxRecDepth 20000 in
theorem aMi155 : aMS[155]? = some aM155 := rfl
set_option maxRecDepth 20000 in
theorem aMi156 : aMS[156]? = some aM156 := rfl
set_option maxRecDepth 20000 in
theorem aMi157 : aMS[157]? = some aM157 := rfl
set_option maxRecDepth 20000 in
theorem aMi158 : aMS[158]? = some aM158 := rfl
set_option maxRecDepth 20000 in
theorem aMi159 : aMS[159]? = some aM159 := rfl
set_option maxRecDepth 20000 in
theorem aMi160 : aMS[160]? = some aM160 := rfl
set_option maxRecDepth 20000 in
theorem aMi161 : aMS[161]? = some aM161 := rfl
set_option maxRecDepth 20000 in
theorem aMi162 : aMS[162]? = some aM162 := rfl
set_option maxRecDepth 20000 in
theorem aMi163 : aMS[163]? = some aM163 := rfl
set_option maxRecDepth 20000 in
theorem aMi164 : aMS[164]? = some aM164 := rfl
set_option maxRecDepth 20000 in
theorem aMi165 : aMS[165]? = some aM165 := rfl
set_option maxRecDepth 20000 in
theorem aMi166 : aMS[166]? = some aM166 := rfl
set_option maxRecDepth 20000 in
theorem aMi167 : aMS[167]? = some aM167 := rfl
set_option maxRecDepth 20000 in
theorem aMi168 : aMS[168]? = some aM168 := rfl
set_option maxRecDepth 20000 in
theorem aMi169 : aMS[169]? = some aM169 := rfl
set_option maxRecDepth 20000 in
theorem aMi170 : aMS[170]? = some aM170 := rfl
set_option maxRecDepth 20000 in
theorem aMi171 : aMS[171]? = some aM171 := rfl
set_option maxRecDepth 20000 in
theorem aMi172 : aMS[172]? = some aM172 := rfl
set_option maxRecDepth 20000 in
theorem aMi173 : aMS[173]? = some aM173 := rfl
set_option maxRecDepth 20000 in
theorem aMi174 : aMS[174]? = some aM174 := rfl
set_option maxRecDepth 20000 in
theorem aMi175 : aMS[175]? = some aM175 := rfl
set_option maxRecDepth 20000 in
theorem aMi176 : aMS[176]? = some aM176 := rfl
set_option maxRecDepth 20000 in
theorem aMi177 : aMS[177]? = some aM177 := rfl
set_option maxRecDepth 20000 in
theorem aMi178 : aMS[178]? = some aM178 := rfl
set_option maxRecDepth 20000 in
theorem aMi179 : aMS[179]? = some aM179 := rfl
set_option maxRecDepth 20000 in
theorem aMi180 : aMS[180]? = some aM180 := rfl
set_option maxRecDepth 20000 in
theorem aMi181 : aMS[181]? = some aM181 := rfl
set_option maxRecDepth 20000 in
theorem aMi182 : aMS[182]? = some aM182 := rfl
set_option maxRecDepth 20000 in
theorem aMi183 : aMS[183]? = some aM183 := rfl
set_option maxRecDepth 20000 in
theorem aMi184 : aMS[184]? = some aM184 := rfl
set_option maxRecDepth 20000 in
theorem aMi185 : aMS[185]? = some aM185 := rfl
set_option maxRecDepth 20000 in
theorem aMi186 : aMS[186]? = some aM186 := rfl
set_option maxRecDepth 20000 in
theorem aMi187 : aMS[187]? = some aM187 := rfl
set_option maxRecDepth 20000 in
theorem aMi188 : aMS[188]? = some aM188 := rfl
set_option maxRecDepth 20000 in
theorem aMi189 : aMS[189]? = some aM189 := rfl
set_option maxRecDepth 20000 in
theorem aMi190 : aMS[190]? = some aM190 := rfl
