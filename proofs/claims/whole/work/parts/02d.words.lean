theorem qw0 : lw_tbl[0]? = some (.selects "HangerRail" ⟨"HangerRail", "told", "(I)I"⟩ ⟨"HangerRail", "told", "(I)I"⟩) := by decide +kernel
theorem qw1 : lw_tbl[1]? = some (.selects "HangerRail" ⟨"HangerRail", "findingAgainstTaking", "(II)I"⟩ ⟨"HangerRail", "findingAgainstTaking", "(II)I"⟩) := by decide +kernel
theorem qw2 : lw_tbl[2]? = some (.selects "HangerRail$Tangle" ⟨"HangerRail$Tangle", "nearFacing", "(II)I"⟩ ⟨"HangerRail$Tangle", "nearFacing", "(II)I"⟩) := by decide +kernel
theorem qw3 : lw_tbl[3]? = some (.selects "HangerRail" ⟨"HangerRail", "howManyFall", "(II)I"⟩ ⟨"HangerRail", "howManyFall", "(II)I"⟩) := by decide +kernel
theorem qw4 : lw_tbl[4]? = some (.selects "HangerRail" ⟨"HangerRail", "harm", "(II)I"⟩ ⟨"HangerRail", "harm", "(II)I"⟩) := by decide +kernel
theorem qw5 : lw_tbl[5]? = some (.selects "HangerRail" ⟨"HangerRail", "betterFacing", "(II)I"⟩ ⟨"HangerRail", "betterFacing", "(II)I"⟩) := by decide +kernel
theorem qw6 : lw_tbl[6]? = some (.selects "HangerRail$Reader" ⟨"HangerRail$Reader", "step", "()V"⟩ ⟨"HangerRail$Reader", "step", "()V"⟩) := by decide +kernel
theorem qw7 : lw_tbl[7]? = some (.selects "HangerRail$Reader" ⟨"HangerRail$Reader", "stepWord", "()V"⟩ ⟨"HangerRail$Reader", "stepWord", "()V"⟩) := by decide +kernel
theorem qw8 : lw_tbl[8]? = some (.selects "HangerRail$Reader" ⟨"HangerRail$Reader", "stepNumber", "()V"⟩ ⟨"HangerRail$Reader", "stepNumber", "()V"⟩) := by decide +kernel
theorem qw9 : lw_tbl[9]? = some (.selects "HangerRail$Reader" ⟨"HangerRail$Reader", "readItem", "(LHangerRail$Rail;)Z"⟩ ⟨"HangerRail$Reader", "readItem", "(LHangerRail$Rail;)Z"⟩) := by decide +kernel
theorem qw10 : lw_tbl[10]? = some (.selects "HangerRail$Reader" ⟨"HangerRail$Reader", "isWord", "(Ljava/lang/String;)Z"⟩ ⟨"HangerRail$Reader", "isWord", "(Ljava/lang/String;)Z"⟩) := by decide +kernel
theorem qw11 : lw_tbl[11]? = some (.selects "HangerRail$Reader" ⟨"HangerRail$Reader", "isNumber", "(II)Z"⟩ ⟨"HangerRail$Reader", "isNumber", "(II)Z"⟩) := by decide +kernel
theorem qw12 : lw_tbl[12]? = some (.selects "HangerRail$Reader" ⟨"HangerRail$Reader", "namedKind", "()I"⟩ ⟨"HangerRail$Reader", "namedKind", "()I"⟩) := by decide +kernel
theorem qw13 : lw_tbl[13]? = some (.selects "HangerRail$Reader" ⟨"HangerRail$Reader", "readPlace", "(LHangerRail$Rail;I)Z"⟩ ⟨"HangerRail$Reader", "readPlace", "(LHangerRail$Rail;I)Z"⟩) := by decide +kernel
theorem qw14 : lw_tbl[14]? = some (.selects "HangerRail$Reader" ⟨"HangerRail$Reader", "readBack", "(LHangerRail$Rail;I)Z"⟩ ⟨"HangerRail$Reader", "readBack", "(LHangerRail$Rail;I)Z"⟩) := by decide +kernel
theorem qw15 : lw_tbl[15]? = some (.selects "HangerRail$Reader" ⟨"HangerRail$Reader", "readShirt", "(LHangerRail$Rail;I)Z"⟩ ⟨"HangerRail$Reader", "readShirt", "(LHangerRail$Rail;I)Z"⟩) := by decide +kernel
theorem qw16 : lw_tbl[16]? = some (.selects "HangerRail$Reader" ⟨"HangerRail$Reader", "readFeel", "(LHangerRail$Rail;I)Z"⟩ ⟨"HangerRail$Reader", "readFeel", "(LHangerRail$Rail;I)Z"⟩) := by decide +kernel
theorem qw17 : lw_tbl[17]? = some (.selects "HangerRail" ⟨"HangerRail", "findingAgainstSheet", "(I)I"⟩ ⟨"HangerRail", "findingAgainstSheet", "(I)I"⟩) := by decide +kernel
theorem qw18 : lw_tbl[18]? = some (.selects "HangerRailModel" ⟨"HangerRailModel", "finds", "(I)I"⟩ ⟨"HangerRailModel", "finds", "(I)I"⟩) := by decide +kernel
theorem qw19 : lw_tbl[19]? = some (.selects "HangerRailModel" ⟨"HangerRailModel", "adds", "(I)I"⟩ ⟨"HangerRailModel", "adds", "(I)I"⟩) := by decide +kernel
theorem qw20 : lw_tbl[20]? = some (.selects "HangerRailModel" ⟨"HangerRailModel", "isHanger", "(I)Z"⟩ ⟨"HangerRailModel", "isHanger", "(I)Z"⟩) := by decide +kernel
theorem qw21 : lw_tbl[21]? = some (.selects "HangerRailModel" ⟨"HangerRailModel", "its", "(II)I"⟩ ⟨"HangerRailModel", "its", "(II)I"⟩) := by decide +kernel
theorem qw22 : lw_tbl[22]? = some (.selects "HangerRailModel" ⟨"HangerRailModel", "holds", "(I)I"⟩ ⟨"HangerRailModel", "holds", "(I)I"⟩) := by decide +kernel
theorem qw23 : lw_tbl[23]? = some (.selects "HangerRailModel" ⟨"HangerRailModel", "needs", "(I)I"⟩ ⟨"HangerRailModel", "needs", "(I)I"⟩) := by decide +kernel
theorem qw24 : lw_tbl[24]? = some (.selects "HangerRailModel" ⟨"HangerRailModel", "becomes", "(II)I"⟩ ⟨"HangerRailModel", "becomes", "(II)I"⟩) := by decide +kernel
theorem qw25 : lw_tbl[25]? = some (.selects "HangerRailModel" ⟨"HangerRailModel", "who", "(I)I"⟩ ⟨"HangerRailModel", "who", "(I)I"⟩) := by decide +kernel
theorem qw26 : lw_tbl[26]? = some (.selects "HangerRailModel" ⟨"HangerRailModel", "isOn", "(I)Z"⟩ ⟨"HangerRailModel", "isOn", "(I)Z"⟩) := by decide +kernel
theorem qw27 : lw_tbl[27]? = some (.selects "HangerRailModel" ⟨"HangerRailModel", "isFree", "(I)Z"⟩ ⟨"HangerRailModel", "isFree", "(I)Z"⟩) := by decide +kernel
theorem qw28 : lw_tbl[28]? = some (.selects "HangerRailModel" ⟨"HangerRailModel", "hangs", "(II)V"⟩ ⟨"HangerRailModel", "hangs", "(II)V"⟩) := by decide +kernel
theorem qw29 : lw_tbl[29]? = some (.selects "HangerRailModel" ⟨"HangerRailModel", "moved", "()V"⟩ ⟨"HangerRailModel", "moved", "()V"⟩) := by decide +kernel
theorem qw30 : lw_tbl[30]? = some (.selects "HangerRailModel" ⟨"HangerRailModel", "onRail", "()I"⟩ ⟨"HangerRailModel", "onRail", "()I"⟩) := by decide +kernel
theorem qw31 : lw_tbl[31]? = some (.selects "HangerRailModel" ⟨"HangerRailModel", "wrongTaking", "(II)I"⟩ ⟨"HangerRailModel", "wrongTaking", "(II)I"⟩) := by decide +kernel
theorem qw32 : lw_tbl[32]? = some (.selects "HangerRailModel" ⟨"HangerRailModel", "mayTake", "(II)Z"⟩ ⟨"HangerRailModel", "mayTake", "(II)Z"⟩) := by decide +kernel
theorem qw33 : lw_tbl[33]? = some (.selects "HangerRailModel" ⟨"HangerRailModel", "takes", "(II)I"⟩ ⟨"HangerRailModel", "takes", "(II)I"⟩) := by decide +kernel
theorem qw34 : lw_tbl[34]? = some (.selects "HangerRailModel" ⟨"HangerRailModel", "comesBy", "(II)I"⟩ ⟨"HangerRailModel", "comesBy", "(II)I"⟩) := by decide +kernel
theorem qw35 : lw_tbl[35]? = some (.selects "HangerRailModel" ⟨"HangerRailModel", "heapOf", "(I)I"⟩ ⟨"HangerRailModel", "heapOf", "(I)I"⟩) := by decide +kernel
theorem qw36 : lw_tbl[36]? = some (.selects "HangerRailModel" ⟨"HangerRailModel", "tangledWith", "(I)I"⟩ ⟨"HangerRailModel", "tangledWith", "(I)I"⟩) := by decide +kernel
theorem qw37 : lw_tbl[37]? = some (.selects "HangerRailModel" ⟨"HangerRailModel", "areTangled", "(II)Z"⟩ ⟨"HangerRailModel", "areTangled", "(II)Z"⟩) := by decide +kernel
theorem qw38 : lw_tbl[38]? = some (.selects "HangerRailModel" ⟨"HangerRailModel", "isCaught", "(II)Z"⟩ ⟨"HangerRailModel", "isCaught", "(II)Z"⟩) := by decide +kernel
theorem qw39 : lw_tbl[39]? = some (.selects "HangerRailModel" ⟨"HangerRailModel", "fallers", "(II)I"⟩ ⟨"HangerRailModel", "fallers", "(II)I"⟩) := by decide +kernel
theorem qw40 : lw_tbl[40]? = some (.selects "HangerRailModel" ⟨"HangerRailModel", "pairs", "()I"⟩ ⟨"HangerRailModel", "pairs", "()I"⟩) := by decide +kernel
theorem qw41 : lw_tbl[41]? = some (.selects "HangerRailModel" ⟨"HangerRailModel", "shirts", "()I"⟩ ⟨"HangerRailModel", "shirts", "()I"⟩) := by decide +kernel
theorem qw42 : lw_tbl[42]? = some (.selects "HangerRailModel" ⟨"HangerRailModel", "together", "(I)I"⟩ ⟨"HangerRailModel", "together", "(I)I"⟩) := by decide +kernel
theorem qw43 : lw_tbl[43]? = some (.selects "HangerRailModel" ⟨"HangerRailModel", "findHeaps", "()V"⟩ ⟨"HangerRailModel", "findHeaps", "()V"⟩) := by decide +kernel
theorem qw44 : lw_tbl[44]? = some (.selects "HangerRailModel" ⟨"HangerRailModel", "facesAll", "(I)V"⟩ ⟨"HangerRailModel", "facesAll", "(I)V"⟩) := by decide +kernel
theorem qw45 : lw_tbl[45]? = some (.selects "HangerRailModel" ⟨"HangerRailModel", "laysAside", "()V"⟩ ⟨"HangerRailModel", "laysAside", "()V"⟩) := by decide +kernel
theorem qw46 : lw_tbl[46]? = some (.selects "HangerRailModel" ⟨"HangerRailModel", "takesBack", "(I)I"⟩ ⟨"HangerRailModel", "takesBack", "(I)I"⟩) := by decide +kernel
theorem qw47 : lw_tbl[47]? = some (.selects "HangerRailModel" ⟨"HangerRailModel", "fewestAway", "()I"⟩ ⟨"HangerRailModel", "fewestAway", "()I"⟩) := by decide +kernel
theorem qw48 : lw_tbl[48]? = some (.selects "HangerRailModel" ⟨"HangerRailModel", "isUntangled", "(I)Z"⟩ ⟨"HangerRailModel", "isUntangled", "(I)Z"⟩) := by decide +kernel
theorem qw49 : lw_tbl[49]? = some (.selects "HangerRailModel" ⟨"HangerRailModel", "keepsAside", "()V"⟩ ⟨"HangerRailModel", "keepsAside", "()V"⟩) := by decide +kernel
theorem qw50 : lw_tbl[50]? = some (.selects "HangerRailModel" ⟨"HangerRailModel", "token", "()V"⟩ ⟨"HangerRailModel", "token", "()V"⟩) := by decide +kernel
theorem qw51 : lw_tbl[51]? = some (.selects "HangerRailModel" ⟨"HangerRailModel", "byteAt", "(I)I"⟩ ⟨"HangerRailModel", "byteAt", "(I)I"⟩) := by decide +kernel
theorem qw52 : lw_tbl[52]? = some (.selects "HangerRailModel" ⟨"HangerRailModel", "item", "()V"⟩ ⟨"HangerRailModel", "item", "()V"⟩) := by decide +kernel
theorem qw53 : lw_tbl[53]? = some (.selects "HangerRailModel" ⟨"HangerRailModel", "kindHere", "()I"⟩ ⟨"HangerRailModel", "kindHere", "()I"⟩) := by decide +kernel
theorem qw54 : lw_tbl[54]? = some (.selects "HangerRailModel" ⟨"HangerRailModel", "word", "()J"⟩ ⟨"HangerRailModel", "word", "()J"⟩) := by decide +kernel
theorem qw55 : lw_tbl[55]? = some (.selects "HangerRailModel" ⟨"HangerRailModel", "hangerItem", "(I)V"⟩ ⟨"HangerRailModel", "hangerItem", "(I)V"⟩) := by decide +kernel
theorem qw56 : lw_tbl[56]? = some (.selects "HangerRailModel" ⟨"HangerRailModel", "must", "(Z)V"⟩ ⟨"HangerRailModel", "must", "(Z)V"⟩) := by decide +kernel
theorem qw57 : lw_tbl[57]? = some (.selects "HangerRailModel" ⟨"HangerRailModel", "atItem", "(I)V"⟩ ⟨"HangerRailModel", "atItem", "(I)V"⟩) := by decide +kernel
theorem qw58 : lw_tbl[58]? = some (.selects "HangerRailModel" ⟨"HangerRailModel", "numberHere", "()I"⟩ ⟨"HangerRailModel", "numberHere", "()I"⟩) := by decide +kernel
theorem qw59 : lw_tbl[59]? = some (.selects "HangerRailModel" ⟨"HangerRailModel", "number", "(II)V"⟩ ⟨"HangerRailModel", "number", "(II)V"⟩) := by decide +kernel
theorem qw60 : lw_tbl[60]? = some (.selects "HangerRailModel" ⟨"HangerRailModel", "putsBack", "()V"⟩ ⟨"HangerRailModel", "putsBack", "()V"⟩) := by decide +kernel
theorem qw61 : lw_tbl[61]? = some (.selects "HangerRailModel" ⟨"HangerRailModel", "wrongSheet", "(I)I"⟩ ⟨"HangerRailModel", "wrongSheet", "(I)I"⟩) := by decide +kernel
theorem qw62 : lw_tbl[62]? = some (.initialized "HangerRailLaw") := by decide +kernel
theorem qw63 : lw_tbl[63]? = some (.initialized "HangerRail") := by decide +kernel
theorem qw64 : lw_tbl[64]? = some (.initialized "HangerRail$Rail") := by decide +kernel
theorem qw65 : lw_tbl[65]? = some (.initialized "HangerRail$Tangle") := by decide +kernel
theorem qw66 : lw_tbl[66]? = some (.initialized "HangerRail$Tape") := by decide +kernel
theorem qw67 : lw_tbl[67]? = some (.initialized "HangerRail$Reader") := by decide +kernel
theorem qw68 : lw_tbl[68]? = some (.initialized "HangerRail$Sheet") := by decide +kernel
theorem qw69 : lw_tbl[69]? = some (.initialized "HangerRailModel") := by decide +kernel
theorem qw70 : lw_tbl[70]? = some (.initialized "java/lang/Math") := by decide +kernel
theorem qw71 : lw_tbl[71]? = some (.initialized "java/lang/Integer") := by decide +kernel
theorem qw72 : lw_tbl[72]? = some (.initialized "java/lang/System") := by decide +kernel
theorem qw73 : lw_tbl[73]? = some (.initialized "java/lang/String") := by decide +kernel
theorem qw74 : lw_tbl[74]? = some (.initialized "java/lang/StringLatin1") := by decide +kernel
theorem qw75 : lw_tbl[75]? = some (.initialized "jdk/internal/util/Preconditions") := by decide +kernel
theorem qw76 : lw_tbl[76]? = some (.initialized "java/lang/StringUTF16") := by decide +kernel
theorem qw77 : lw_tbl[77]? = some (.classLink "HangerRailLaw" (7) "HangerRail") := by decide +kernel
theorem qw78 : lw_tbl[78]? = some (.instantiable "HangerRail" (9)) := by decide +kernel
theorem qw79 : lw_tbl[79]? = some (.methodLink "HangerRailLaw" (9) ⟨"HangerRail", "<init>", "()V"⟩) := by decide +kernel
theorem qw80 : lw_tbl[80]? = some (.instanceMethod ⟨"HangerRail", "<init>", "()V"⟩) := by decide +kernel
theorem qw82 : lw_tbl[82]? = some (.methodLink "HangerRail" (1) ⟨"java/lang/Object", "<init>", "()V"⟩) := by decide +kernel
theorem qw83 : lw_tbl[83]? = some (.instanceMethod ⟨"java/lang/Object", "<init>", "()V"⟩) := by decide +kernel
theorem qw85 : lw_tbl[85]? = some (.classLink "HangerRail" (7) "HangerRail$Rail") := by decide +kernel
theorem qw86 : lw_tbl[86]? = some (.instantiable "HangerRail$Rail" (9)) := by decide +kernel
theorem qw87 : lw_tbl[87]? = some (.methodLink "HangerRail" (9) ⟨"HangerRail$Rail", "<init>", "()V"⟩) := by decide +kernel
theorem qw88 : lw_tbl[88]? = some (.instanceMethod ⟨"HangerRail$Rail", "<init>", "()V"⟩) := by decide +kernel
theorem qw90 : lw_tbl[90]? = some (.methodLink "HangerRail$Rail" (3) ⟨"java/lang/Object", "<init>", "()V"⟩) := by decide +kernel
theorem qw91 : lw_tbl[91]? = some (.fieldLink "HangerRail$Rail" (31) "HangerRail$Rail" "hangers" "I") := by decide +kernel
theorem qw92 : lw_tbl[92]? = some (.fieldLink "HangerRail" (65) "HangerRail$Rail" "hangers" "I") := by decide +kernel
theorem qw93 : lw_tbl[93]? = some (.fieldLink "HangerRail$Reader" (53) "HangerRail$Rail" "hangers" "I") := by decide +kernel
theorem qw94 : lw_tbl[94]? = some (.fieldLink "HangerRail$Rail" (34) "HangerRail$Rail" "moves" "I") := by decide +kernel
theorem qw95 : lw_tbl[95]? = some (.fieldLink "HangerRail" (163) "HangerRail$Rail" "moves" "I") := by decide +kernel
theorem qw96 : lw_tbl[96]? = some (.fieldLink "HangerRail$Rail" (9) "HangerRail$Rail" "price" "I") := by decide +kernel
theorem qw97 : lw_tbl[97]? = some (.fieldLink "HangerRail$Reader" (45) "HangerRail$Rail" "price" "I") := by decide +kernel
theorem qw98 : lw_tbl[98]? = some (.fieldLink "HangerRail" (102) "HangerRail$Rail" "price" "I") := by decide +kernel
theorem qw99 : lw_tbl[99]? = some (.fieldLink "HangerRail$Rail" (37) "HangerRail$Rail" "back" "I") := by decide +kernel
theorem qw100 : lw_tbl[100]? = some (.fieldLink "HangerRail$Tangle" (37) "HangerRail$Rail" "back" "I") := by decide +kernel
theorem qw101 : lw_tbl[101]? = some (.fieldLink "HangerRail$Reader" (85) "HangerRail$Rail" "back" "I") := by decide +kernel
theorem qw102 : lw_tbl[102]? = some (.fieldLink "HangerRail" (135) "HangerRail$Rail" "back" "I") := by decide +kernel
theorem qw103 : lw_tbl[103]? = some (.fieldLink "HangerRail$Rail" (15) "HangerRail$Rail" "kindOf" "[I") := by decide +kernel
theorem qw104 : lw_tbl[104]? = some (.fieldLink "HangerRail$Tangle" (27) "HangerRail$Rail" "kindOf" "[I") := by decide +kernel
theorem qw105 : lw_tbl[105]? = some (.fieldLink "HangerRail" (76) "HangerRail$Rail" "kindOf" "[I") := by decide +kernel
theorem qw106 : lw_tbl[106]? = some (.fieldLink "HangerRail$Rail" (19) "HangerRail$Rail" "placeOf" "[I") := by decide +kernel
theorem qw107 : lw_tbl[107]? = some (.fieldLink "HangerRail$Tangle" (30) "HangerRail$Rail" "placeOf" "[I") := by decide +kernel
theorem qw108 : lw_tbl[108]? = some (.fieldLink "HangerRail" (79) "HangerRail$Rail" "placeOf" "[I") := by decide +kernel
theorem qw109 : lw_tbl[109]? = some (.fieldLink "HangerRail$Rail" (22) "HangerRail$Rail" "slipOf" "[I") := by decide +kernel
theorem qw110 : lw_tbl[110]? = some (.fieldLink "HangerRail" (85) "HangerRail$Rail" "slipOf" "[I") := by decide +kernel
theorem qw111 : lw_tbl[111]? = some (.fieldLink "HangerRail$Reader" (89) "HangerRail$Rail" "slipOf" "[I") := by decide +kernel
theorem qw112 : lw_tbl[112]? = some (.fieldLink "HangerRail$Rail" (25) "HangerRail$Rail" "feelOf" "[I") := by decide +kernel
theorem qw113 : lw_tbl[113]? = some (.fieldLink "HangerRail" (88) "HangerRail$Rail" "feelOf" "[I") := by decide +kernel
theorem qw114 : lw_tbl[114]? = some (.fieldLink "HangerRail$Reader" (95) "HangerRail$Rail" "feelOf" "[I") := by decide +kernel
theorem qw115 : lw_tbl[115]? = some (.fieldLink "HangerRail$Rail" (28) "HangerRail$Rail" "hangerAt" "[I") := by decide +kernel
theorem qw116 : lw_tbl[116]? = some (.fieldLink "HangerRail" (112) "HangerRail$Rail" "hangerAt" "[I") := by decide +kernel
theorem qw136 : lw_tbl[136]? = some (Cond.arrayClass FieldType.int) := by decide +kernel
theorem qw137 : lw_tbl[137]? = some (.classLink "HangerRail" (22) "HangerRail$Tangle") := by decide +kernel
theorem qw138 : lw_tbl[138]? = some (.instantiable "HangerRail$Tangle" (3)) := by decide +kernel
theorem qw140 : lw_tbl[140]? = some (.instanceMethod ⟨"HangerRail$Tangle", "<init>", "()V"⟩) := by decide +kernel
theorem qw142 : lw_tbl[142]? = some (.methodLink "HangerRail$Tangle" (3) ⟨"java/lang/Object", "<init>", "()V"⟩) := by decide +kernel
theorem qw143 : lw_tbl[143]? = some (.fieldLink "HangerRail$Tangle" (9) "HangerRail$Tangle" "same" "[I") := by decide +kernel
theorem qw144 : lw_tbl[144]? = some (.fieldLink "HangerRail$Tangle" (15) "HangerRail$Tangle" "other" "[I") := by decide +kernel
theorem qw145 : lw_tbl[145]? = some (.fieldLink "HangerRail$Tangle" (18) "HangerRail$Tangle" "near" "[I") := by decide +kernel
theorem qw146 : lw_tbl[146]? = some (.fieldLink "HangerRail" (274) "HangerRail$Tangle" "near" "[I") := by decide +kernel
theorem qw154 : lw_tbl[154]? = some (.classLink "HangerRail" (29) "HangerRail$Tape") := by decide +kernel
theorem qw155 : lw_tbl[155]? = some (.instantiable "HangerRail$Tape" (2)) := by decide +kernel
theorem qw157 : lw_tbl[157]? = some (.instanceMethod ⟨"HangerRail$Tape", "<init>", "()V"⟩) := by decide +kernel
theorem qw159 : lw_tbl[159]? = some (.methodLink "HangerRail$Tape" (3) ⟨"java/lang/Object", "<init>", "()V"⟩) := by decide +kernel
theorem qw160 : lw_tbl[160]? = some (.fieldLink "HangerRail$Tape" (9) "HangerRail$Tape" "bytes" "[B") := by decide +kernel
theorem qw161 : lw_tbl[161]? = some (.fieldLink "HangerRail$Reader" (103) "HangerRail$Tape" "bytes" "[B") := by decide +kernel
theorem qw162 : lw_tbl[162]? = some (.fieldLink "HangerRail$Tape" (15) "HangerRail$Tape" "length" "I") := by decide +kernel
theorem qw163 : lw_tbl[163]? = some (.fieldLink "HangerRail$Reader" (117) "HangerRail$Tape" "length" "I") := by decide +kernel
theorem qw164 : lw_tbl[164]? = some (.fieldLink "HangerRail" (214) "HangerRail$Tape" "length" "I") := by decide +kernel
theorem qw170 : lw_tbl[170]? = some (Cond.arrayClass FieldType.byte) := by decide +kernel
theorem qw171 : lw_tbl[171]? = some (.classLink "HangerRail" (36) "HangerRail$Reader") := by decide +kernel
theorem qw172 : lw_tbl[172]? = some (.instantiable "HangerRail$Reader" (5)) := by decide +kernel
theorem qw173 : lw_tbl[173]? = some (.methodLink "HangerRail" (38) ⟨"HangerRail$Reader", "<init>", "(LHangerRail$Tape;)V"⟩) := by decide +kernel
theorem qw174 : lw_tbl[174]? = some (.instanceMethod ⟨"HangerRail$Reader", "<init>", "(LHangerRail$Tape;)V"⟩) := by decide +kernel
theorem qw176 : lw_tbl[176]? = some (.methodLink "HangerRail$Reader" (3) ⟨"java/lang/Object", "<init>", "()V"⟩) := by decide +kernel
theorem qw177 : lw_tbl[177]? = some (.fieldLink "HangerRail$Reader" (9) "HangerRail$Reader" "tape" "LHangerRail$Tape;") := by decide +kernel
theorem qw178 : lw_tbl[178]? = some (.fieldLink "HangerRail$Reader" (29) "HangerRail$Reader" "token" "I") := by decide +kernel
theorem qw179 : lw_tbl[179]? = some (.fieldLink "HangerRail$Reader" (26) "HangerRail$Reader" "from" "I") := by decide +kernel
theorem qw180 : lw_tbl[180]? = some (.fieldLink "HangerRail$Reader" (15) "HangerRail$Reader" "to" "I") := by decide +kernel
theorem qw181 : lw_tbl[181]? = some (.fieldLink "HangerRail$Reader" (42) "HangerRail$Reader" "number" "I") := by decide +kernel
theorem qw193 : lw_tbl[193]? = some (.classLink "HangerRail" (45) "HangerRail$Sheet") := by decide +kernel
theorem qw194 : lw_tbl[194]? = some (Cond.arrayOver (FieldType.object "HangerRail$Sheet")) := by decide +kernel
theorem qw195 : lw_tbl[195]? = some (.instantiable "HangerRail$Sheet" (3)) := by decide +kernel
theorem qw197 : lw_tbl[197]? = some (.instanceMethod ⟨"HangerRail$Sheet", "<init>", "()V"⟩) := by decide +kernel
theorem qw199 : lw_tbl[199]? = some (.methodLink "HangerRail$Sheet" (3) ⟨"java/lang/Object", "<init>", "()V"⟩) := by decide +kernel
theorem qw200 : lw_tbl[200]? = some (.fieldLink "HangerRail$Sheet" (9) "HangerRail$Sheet" "numbers" "[J") := by decide +kernel
theorem qw201 : lw_tbl[201]? = some (.fieldLink "HangerRail" (241) "HangerRail$Sheet" "numbers" "[J") := by decide +kernel
theorem qw202 : lw_tbl[202]? = some (.fieldLink "HangerRail$Sheet" (15) "HangerRail$Sheet" "bits" "I") := by decide +kernel
theorem qw203 : lw_tbl[203]? = some (.fieldLink "HangerRail" (253) "HangerRail$Sheet" "bits" "I") := by decide +kernel
theorem qw204 : lw_tbl[204]? = some (.fieldLink "HangerRail$Sheet" (19) "HangerRail$Sheet" "size" "I") := by decide +kernel
theorem qw205 : lw_tbl[205]? = some (.fieldLink "HangerRail" (238) "HangerRail$Sheet" "size" "I") := by decide +kernel
theorem qw213 : lw_tbl[213]? = some (Cond.arrayClass FieldType.long) := by decide +kernel
theorem qw214 : lw_tbl[214]? = some (.fieldLink "HangerRail" (10) "HangerRail" "state" "LHangerRail$Rail;") := by decide +kernel
theorem qw215 : lw_tbl[215]? = some (.fieldLink "HangerRail" (16) "HangerRail" "kept" "LHangerRail$Rail;") := by decide +kernel
theorem qw216 : lw_tbl[216]? = some (.fieldLink "HangerRail" (19) "HangerRail" "draft" "LHangerRail$Rail;") := by decide +kernel
theorem qw217 : lw_tbl[217]? = some (.fieldLink "HangerRail" (25) "HangerRail" "tangle" "LHangerRail$Tangle;") := by decide +kernel
theorem qw218 : lw_tbl[218]? = some (.fieldLink "HangerRail" (32) "HangerRail" "tape" "LHangerRail$Tape;") := by decide +kernel
theorem qw219 : lw_tbl[219]? = some (.fieldLink "HangerRail" (41) "HangerRail" "reader" "LHangerRail$Reader;") := by decide +kernel
theorem qw220 : lw_tbl[220]? = some (.fieldLink "HangerRail" (47) "HangerRail" "sheets" "[LHangerRail$Sheet;") := by decide +kernel
theorem qw221 : lw_tbl[221]? = some (.fieldLink "HangerRail" (51) "HangerRail" "findings" "[I") := by decide +kernel
theorem qw222 : lw_tbl[222]? = some (.fieldLink "HangerRail" (277) "HangerRail" "imageKept" "Z") := by decide +kernel
theorem qw242 : lw_tbl[242]? = some (.methodLink "HangerRailLaw" (13) ⟨"HangerRail", "hanger", "(I)I"⟩) := by decide +kernel
theorem qw243 : lw_tbl[243]? = some (.instanceMethod ⟨"HangerRail", "hanger", "(I)I"⟩) := by decide +kernel
theorem qw244 : lw_tbl[244]? = some (.selects "HangerRail" ⟨"HangerRail", "hanger", "(I)I"⟩ ⟨"HangerRail", "hanger", "(I)I"⟩) := by decide +kernel
theorem qw246 : lw_tbl[246]? = some (.methodLink "HangerRail" (56) ⟨"HangerRail", "isKind", "(I)Z"⟩) := by decide +kernel
theorem qw247 : lw_tbl[247]? = some (.static ⟨"HangerRail", "isKind", "(I)Z"⟩) := by decide +kernel
theorem qw249 : lw_tbl[249]? = some (.constant "HangerRail" (60) (-1000000001)) := by decide +kernel
theorem qw250 : lw_tbl[250]? = some (.methodLink "HangerRail" (61) ⟨"HangerRail", "told", "(I)I"⟩) := by decide +kernel
theorem qw252 : lw_tbl[252]? = some (.instanceMethod ⟨"HangerRail", "told", "(I)I"⟩) := by decide +kernel
theorem qw254 : lw_tbl[254]? = some (.constant "HangerRail" (69) (-1000000002)) := by decide +kernel
theorem qw255 : lw_tbl[255]? = some (.methodLink "HangerRail" (70) ⟨"HangerRail$Rail", "addHanger", "(I)I"⟩) := by decide +kernel
theorem qw256 : lw_tbl[256]? = some (.instanceMethod ⟨"HangerRail$Rail", "addHanger", "(I)I"⟩) := by decide +kernel
theorem qw257 : lw_tbl[257]? = some (.selects "HangerRail$Rail" ⟨"HangerRail$Rail", "addHanger", "(I)I"⟩ ⟨"HangerRail$Rail", "addHanger", "(I)I"⟩) := by decide +kernel
theorem qw259 : lw_tbl[259]? = some (.methodLink "HangerRailLaw" (18) ⟨"HangerRail", "of", "(II)I"⟩) := by decide +kernel
theorem qw260 : lw_tbl[260]? = some (.instanceMethod ⟨"HangerRail", "of", "(II)I"⟩) := by decide +kernel
theorem qw261 : lw_tbl[261]? = some (.selects "HangerRail" ⟨"HangerRail", "of", "(II)I"⟩ ⟨"HangerRail", "of", "(II)I"⟩) := by decide +kernel
theorem qw263 : lw_tbl[263]? = some (.methodLink "HangerRail" (73) ⟨"HangerRail$Rail", "has", "(I)Z"⟩) := by decide +kernel
theorem qw264 : lw_tbl[264]? = some (.instanceMethod ⟨"HangerRail$Rail", "has", "(I)Z"⟩) := by decide +kernel
theorem qw265 : lw_tbl[265]? = some (.selects "HangerRail$Rail" ⟨"HangerRail$Rail", "has", "(I)Z"⟩ ⟨"HangerRail$Rail", "has", "(I)Z"⟩) := by decide +kernel
theorem qw267 : lw_tbl[267]? = some (.methodLink "HangerRail" (82) ⟨"HangerRail$Rail", "facingOf", "(I)I"⟩) := by decide +kernel
theorem qw268 : lw_tbl[268]? = some (.instanceMethod ⟨"HangerRail$Rail", "facingOf", "(I)I"⟩) := by decide +kernel
theorem qw269 : lw_tbl[269]? = some (.selects "HangerRail$Rail" ⟨"HangerRail$Rail", "facingOf", "(I)I"⟩ ⟨"HangerRail$Rail", "facingOf", "(I)I"⟩) := by decide +kernel
theorem qw271 : lw_tbl[271]? = some (.methodLink "HangerRail" (91) ⟨"HangerRail", "holds", "(I)I"⟩) := by decide +kernel
theorem qw272 : lw_tbl[272]? = some (.static ⟨"HangerRail", "holds", "(I)I"⟩) := by decide +kernel
theorem qw274 : lw_tbl[274]? = some (.methodLink "HangerRail" (94) ⟨"HangerRail", "need", "(I)I"⟩) := by decide +kernel
theorem qw275 : lw_tbl[275]? = some (.static ⟨"HangerRail", "need", "(I)I"⟩) := by decide +kernel
theorem qw277 : lw_tbl[277]? = some (.methodLink "HangerRailLaw" (23) ⟨"HangerRail", "set", "(III)I"⟩) := by decide +kernel
theorem qw278 : lw_tbl[278]? = some (.instanceMethod ⟨"HangerRail", "set", "(III)I"⟩) := by decide +kernel
theorem qw279 : lw_tbl[279]? = some (.selects "HangerRail" ⟨"HangerRail", "set", "(III)I"⟩ ⟨"HangerRail", "set", "(III)I"⟩) := by decide +kernel
theorem qw281 : lw_tbl[281]? = some (.methodLink "HangerRailLaw" (28) ⟨"HangerRail", "turn", "(II)I"⟩) := by decide +kernel
theorem qw282 : lw_tbl[282]? = some (.instanceMethod ⟨"HangerRail", "turn", "(II)I"⟩) := by decide +kernel
theorem qw283 : lw_tbl[283]? = some (.selects "HangerRail" ⟨"HangerRail", "turn", "(II)I"⟩ ⟨"HangerRail", "turn", "(II)I"⟩) := by decide +kernel
theorem qw285 : lw_tbl[285]? = some (.methodLink "HangerRailLaw" (32) ⟨"HangerRail", "as", "(II)I"⟩) := by decide +kernel
theorem qw286 : lw_tbl[286]? = some (.instanceMethod ⟨"HangerRail", "as", "(II)I"⟩) := by decide +kernel
theorem qw287 : lw_tbl[287]? = some (.selects "HangerRail" ⟨"HangerRail", "as", "(II)I"⟩ ⟨"HangerRail", "as", "(II)I"⟩) := by decide +kernel
theorem qw289 : lw_tbl[289]? = some (.methodLink "HangerRail" (97) ⟨"HangerRail", "isUnder", "(II)Z"⟩) := by decide +kernel
theorem qw290 : lw_tbl[290]? = some (.static ⟨"HangerRail", "isUnder", "(II)Z"⟩) := by decide +kernel
theorem qw292 : lw_tbl[292]? = some (.methodLink "HangerRail" (281) ⟨"HangerRail", "above", "(I)I"⟩) := by decide +kernel
theorem qw293 : lw_tbl[293]? = some (.static ⟨"HangerRail", "above", "(I)I"⟩) := by decide +kernel
theorem qw295 : lw_tbl[295]? = some (.constant "HangerRail" (101) (-1000000003)) := by decide +kernel
theorem qw296 : lw_tbl[296]? = some (.methodLink "HangerRailLaw" (36) ⟨"HangerRail", "price", "(I)I"⟩) := by decide +kernel
theorem qw297 : lw_tbl[297]? = some (.instanceMethod ⟨"HangerRail", "price", "(I)I"⟩) := by decide +kernel
theorem qw298 : lw_tbl[298]? = some (.selects "HangerRail" ⟨"HangerRail", "price", "(I)I"⟩ ⟨"HangerRail", "price", "(I)I"⟩) := by decide +kernel
theorem qw300 : lw_tbl[300]? = some (.methodLink "HangerRailLaw" (40) ⟨"HangerRail", "at", "(I)I"⟩) := by decide +kernel
theorem qw301 : lw_tbl[301]? = some (.instanceMethod ⟨"HangerRail", "at", "(I)I"⟩) := by decide +kernel
theorem qw302 : lw_tbl[302]? = some (.selects "HangerRail" ⟨"HangerRail", "at", "(I)I"⟩ ⟨"HangerRail", "at", "(I)I"⟩) := by decide +kernel
theorem qw304 : lw_tbl[304]? = some (.methodLink "HangerRail" (105) ⟨"HangerRail", "isPlace", "(I)Z"⟩) := by decide +kernel
theorem qw305 : lw_tbl[305]? = some (.static ⟨"HangerRail", "isPlace", "(I)Z"⟩) := by decide +kernel
theorem qw307 : lw_tbl[307]? = some (.methodLink "HangerRail" (108) ⟨"HangerRail$Rail", "isFree", "(I)Z"⟩) := by decide +kernel
theorem qw308 : lw_tbl[308]? = some (.instanceMethod ⟨"HangerRail$Rail", "isFree", "(I)Z"⟩) := by decide +kernel
theorem qw309 : lw_tbl[309]? = some (.selects "HangerRail$Rail" ⟨"HangerRail$Rail", "isFree", "(I)Z"⟩ ⟨"HangerRail$Rail", "isFree", "(I)Z"⟩) := by decide +kernel
theorem qw311 : lw_tbl[311]? = some (.constant "HangerRail" (111) (-1000000004)) := by decide +kernel
theorem qw312 : lw_tbl[312]? = some (.methodLink "HangerRailLaw" (44) ⟨"HangerRail", "hang", "(II)I"⟩) := by decide +kernel
theorem qw313 : lw_tbl[313]? = some (.instanceMethod ⟨"HangerRail", "hang", "(II)I"⟩) := by decide +kernel
theorem qw314 : lw_tbl[314]? = some (.selects "HangerRail" ⟨"HangerRail", "hang", "(II)I"⟩ ⟨"HangerRail", "hang", "(II)I"⟩) := by decide +kernel
theorem qw316 : lw_tbl[316]? = some (.methodLink "HangerRail" (115) ⟨"HangerRail$Rail", "isUp", "(I)Z"⟩) := by decide +kernel
theorem qw317 : lw_tbl[317]? = some (.instanceMethod ⟨"HangerRail$Rail", "isUp", "(I)Z"⟩) := by decide +kernel
theorem qw318 : lw_tbl[318]? = some (.selects "HangerRail$Rail" ⟨"HangerRail$Rail", "isUp", "(I)Z"⟩ ⟨"HangerRail$Rail", "isUp", "(I)Z"⟩) := by decide +kernel
theorem qw320 : lw_tbl[320]? = some (.constant "HangerRail" (118) (-1000000005)) := by decide +kernel
theorem qw321 : lw_tbl[321]? = some (.methodLink "HangerRail" (119) ⟨"HangerRail$Rail", "put", "(II)V"⟩) := by decide +kernel
theorem qw322 : lw_tbl[322]? = some (.instanceMethod ⟨"HangerRail$Rail", "put", "(II)V"⟩) := by decide +kernel
theorem qw323 : lw_tbl[323]? = some (.selects "HangerRail$Rail" ⟨"HangerRail$Rail", "put", "(II)V"⟩ ⟨"HangerRail$Rail", "put", "(II)V"⟩) := by decide +kernel
theorem qw325 : lw_tbl[325]? = some (.methodLink "HangerRail" (123) ⟨"HangerRail$Rail", "addMove", "()V"⟩) := by decide +kernel
theorem qw326 : lw_tbl[326]? = some (.instanceMethod ⟨"HangerRail$Rail", "addMove", "()V"⟩) := by decide +kernel
theorem qw327 : lw_tbl[327]? = some (.selects "HangerRail$Rail" ⟨"HangerRail$Rail", "addMove", "()V"⟩ ⟨"HangerRail$Rail", "addMove", "()V"⟩) := by decide +kernel
theorem qw329 : lw_tbl[329]? = some (.methodLink "HangerRail$Rail" (50) ⟨"java/lang/Math", "min", "(II)I"⟩) := by decide +kernel
theorem qw330 : lw_tbl[330]? = some (.static ⟨"java/lang/Math", "min", "(II)I"⟩) := by decide +kernel
theorem qw332 : lw_tbl[332]? = some (.methodLink "HangerRail" (126) ⟨"HangerRail$Rail", "up", "()I"⟩) := by decide +kernel
theorem qw333 : lw_tbl[333]? = some (.instanceMethod ⟨"HangerRail$Rail", "up", "()I"⟩) := by decide +kernel
theorem qw334 : lw_tbl[334]? = some (.selects "HangerRail$Rail" ⟨"HangerRail$Rail", "up", "()I"⟩ ⟨"HangerRail$Rail", "up", "()I"⟩) := by decide +kernel
theorem qw336 : lw_tbl[336]? = some (.methodLink "HangerRail$Rail" (56) ⟨"HangerRail$Rail", "isUp", "(I)Z"⟩) := by decide +kernel
theorem qw337 : lw_tbl[337]? = some (.methodLink "HangerRail" (130) ⟨"java/lang/Integer", "bitCount", "(I)I"⟩) := by decide +kernel
theorem qw338 : lw_tbl[338]? = some (.static ⟨"java/lang/Integer", "bitCount", "(I)I"⟩) := by decide +kernel
theorem qw340 : lw_tbl[340]? = some (.constant "java/lang/Integer" (265) (1431655765)) := by decide +kernel
theorem qw341 : lw_tbl[341]? = some (.constant "java/lang/Integer" (266) (858993459)) := by decide +kernel
theorem qw342 : lw_tbl[342]? = some (.constant "java/lang/Integer" (267) (252645135)) := by decide +kernel
theorem qw343 : lw_tbl[343]? = some (.methodLink "HangerRailLaw" (48) ⟨"HangerRail", "face", "(I)I"⟩) := by decide +kernel
theorem qw344 : lw_tbl[344]? = some (.instanceMethod ⟨"HangerRail", "face", "(I)I"⟩) := by decide +kernel
theorem qw345 : lw_tbl[345]? = some (.selects "HangerRail" ⟨"HangerRail", "face", "(I)I"⟩ ⟨"HangerRail", "face", "(I)I"⟩) := by decide +kernel
theorem qw347 : lw_tbl[347]? = some (.methodLink "HangerRailLaw" (52) ⟨"HangerRail", "shift", "(II)I"⟩) := by decide +kernel
theorem qw348 : lw_tbl[348]? = some (.instanceMethod ⟨"HangerRail", "shift", "(II)I"⟩) := by decide +kernel
theorem qw349 : lw_tbl[349]? = some (.selects "HangerRail" ⟨"HangerRail", "shift", "(II)I"⟩ ⟨"HangerRail", "shift", "(II)I"⟩) := by decide +kernel
theorem qw351 : lw_tbl[351]? = some (.methodLink "HangerRail" (138) ⟨"HangerRail$Rail", "putOut", "(I)V"⟩) := by decide +kernel
theorem qw352 : lw_tbl[352]? = some (.instanceMethod ⟨"HangerRail$Rail", "putOut", "(I)V"⟩) := by decide +kernel
theorem qw353 : lw_tbl[353]? = some (.selects "HangerRail$Rail" ⟨"HangerRail$Rail", "putOut", "(I)V"⟩ ⟨"HangerRail$Rail", "putOut", "(I)V"⟩) := by decide +kernel
theorem qw356 : lw_tbl[356]? = some (.methodLink "HangerRailLaw" (56) ⟨"HangerRail", "take", "(II)I"⟩) := by decide +kernel
theorem qw357 : lw_tbl[357]? = some (.instanceMethod ⟨"HangerRail", "take", "(II)I"⟩) := by decide +kernel
theorem qw358 : lw_tbl[358]? = some (.selects "HangerRail" ⟨"HangerRail", "take", "(II)I"⟩ ⟨"HangerRail", "take", "(II)I"⟩) := by decide +kernel
theorem qw360 : lw_tbl[360]? = some (.methodLink "HangerRail" (142) ⟨"HangerRail", "findingAgainstTaking", "(II)I"⟩) := by decide +kernel
theorem qw362 : lw_tbl[362]? = some (.instanceMethod ⟨"HangerRail", "findingAgainstTaking", "(II)I"⟩) := by decide +kernel
theorem qw364 : lw_tbl[364]? = some (.methodLink "HangerRail" (199) ⟨"HangerRail$Rail", "hasRoom", "(I)Z"⟩) := by decide +kernel
theorem qw365 : lw_tbl[365]? = some (.instanceMethod ⟨"HangerRail$Rail", "hasRoom", "(I)Z"⟩) := by decide +kernel
theorem qw366 : lw_tbl[366]? = some (.selects "HangerRail$Rail" ⟨"HangerRail$Rail", "hasRoom", "(I)Z"⟩ ⟨"HangerRail$Rail", "hasRoom", "(I)Z"⟩) := by decide +kernel
theorem qw368 : lw_tbl[368]? = some (.methodLink "HangerRail$Rail" (59) ⟨"HangerRail$Rail", "isFree", "(I)Z"⟩) := by decide +kernel
theorem qw370 : lw_tbl[370]? = some (.methodLink "HangerRail" (146) ⟨"HangerRail$Tangle", "look", "(LHangerRail$Rail;)V"⟩) := by decide +kernel
theorem qw371 : lw_tbl[371]? = some (.instanceMethod ⟨"HangerRail$Tangle", "look", "(LHangerRail$Rail;)V"⟩) := by decide +kernel
theorem qw372 : lw_tbl[372]? = some (.selects "HangerRail$Tangle" ⟨"HangerRail$Tangle", "look", "(LHangerRail$Rail;)V"⟩ ⟨"HangerRail$Tangle", "look", "(LHangerRail$Rail;)V"⟩) := by decide +kernel
theorem qw374 : lw_tbl[374]? = some (.methodLink "HangerRail$Tangle" (21) ⟨"HangerRail$Rail", "isUp", "(I)Z"⟩) := by decide +kernel
theorem qw375 : lw_tbl[375]? = some (.methodLink "HangerRail$Tangle" (33) ⟨"HangerRail$Rail", "tangledIf", "(IIIZ)I"⟩) := by decide +kernel
theorem qw376 : lw_tbl[376]? = some (.instanceMethod ⟨"HangerRail$Rail", "tangledIf", "(IIIZ)I"⟩) := by decide +kernel
theorem qw377 : lw_tbl[377]? = some (.selects "HangerRail$Rail" ⟨"HangerRail$Rail", "tangledIf", "(IIIZ)I"⟩ ⟨"HangerRail$Rail", "tangledIf", "(IIIZ)I"⟩) := by decide +kernel
theorem qw379 : lw_tbl[379]? = some (.methodLink "HangerRail$Rail" (80) ⟨"java/lang/Math", "max", "(II)I"⟩) := by decide +kernel
theorem qw380 : lw_tbl[380]? = some (.static ⟨"java/lang/Math", "max", "(II)I"⟩) := by decide +kernel
theorem qw382 : lw_tbl[382]? = some (.methodLink "HangerRail$Rail" (83) ⟨"java/lang/Math", "abs", "(I)I"⟩) := by decide +kernel
theorem qw383 : lw_tbl[383]? = some (.static ⟨"java/lang/Math", "abs", "(I)I"⟩) := by decide +kernel
theorem qw386 : lw_tbl[386]? = some (.static ⟨"HangerRail", "isCatch", "(IIZZ)Z"⟩) := by decide +kernel
theorem qw388 : lw_tbl[388]? = some (.methodLink "HangerRail$Tangle" (41) ⟨"HangerRail$Tangle", "nearFacing", "(II)I"⟩) := by decide +kernel
theorem qw390 : lw_tbl[390]? = some (.instanceMethod ⟨"HangerRail$Tangle", "nearFacing", "(II)I"⟩) := by decide +kernel
theorem qw392 : lw_tbl[392]? = some (.methodLink "HangerRail$Tangle" (45) ⟨"HangerRail$Rail", "alike", "(II)I"⟩) := by decide +kernel
theorem qw393 : lw_tbl[393]? = some (.static ⟨"HangerRail$Rail", "alike", "(II)I"⟩) := by decide +kernel
theorem qw396 : lw_tbl[396]? = some (.static ⟨"HangerRail", "contains", "(II)Z"⟩) := by decide +kernel
theorem qw398 : lw_tbl[398]? = some (.methodLink "HangerRail" (150) ⟨"HangerRail$Tangle", "coming", "(II)I"⟩) := by decide +kernel
theorem qw399 : lw_tbl[399]? = some (.instanceMethod ⟨"HangerRail$Tangle", "coming", "(II)I"⟩) := by decide +kernel
theorem qw400 : lw_tbl[400]? = some (.selects "HangerRail$Tangle" ⟨"HangerRail$Tangle", "coming", "(II)I"⟩ ⟨"HangerRail$Tangle", "coming", "(II)I"⟩) := by decide +kernel
theorem qw402 : lw_tbl[402]? = some (.methodLink "HangerRail$Tangle" (54) ⟨"HangerRail$Tangle", "heapOf", "(I)I"⟩) := by decide +kernel
theorem qw403 : lw_tbl[403]? = some (.instanceMethod ⟨"HangerRail$Tangle", "heapOf", "(I)I"⟩) := by decide +kernel
theorem qw404 : lw_tbl[404]? = some (.selects "HangerRail$Tangle" ⟨"HangerRail$Tangle", "heapOf", "(I)I"⟩ ⟨"HangerRail$Tangle", "heapOf", "(I)I"⟩) := by decide +kernel
theorem qw407 : lw_tbl[407]? = some (.methodLink "HangerRail" (153) ⟨"HangerRail$Rail", "falling", "(III)I"⟩) := by decide +kernel
theorem qw408 : lw_tbl[408]? = some (.instanceMethod ⟨"HangerRail$Rail", "falling", "(III)I"⟩) := by decide +kernel
theorem qw409 : lw_tbl[409]? = some (.selects "HangerRail$Rail" ⟨"HangerRail$Rail", "falling", "(III)I"⟩ ⟨"HangerRail$Rail", "falling", "(III)I"⟩) := by decide +kernel
theorem qw412 : lw_tbl[412]? = some (.methodLink "HangerRail" (157) ⟨"HangerRail$Rail", "strip", "(I)V"⟩) := by decide +kernel
theorem qw413 : lw_tbl[413]? = some (.instanceMethod ⟨"HangerRail$Rail", "strip", "(I)V"⟩) := by decide +kernel
theorem qw414 : lw_tbl[414]? = some (.selects "HangerRail$Rail" ⟨"HangerRail$Rail", "strip", "(I)V"⟩ ⟨"HangerRail$Rail", "strip", "(I)V"⟩) := by decide +kernel
theorem qw416 : lw_tbl[416]? = some (.methodLink "HangerRail" (160) ⟨"HangerRail", "contains", "(II)Z"⟩) := by decide +kernel
theorem qw417 : lw_tbl[417]? = some (.methodLink "HangerRailLaw" (60) ⟨"HangerRail", "now", "(I)I"⟩) := by decide +kernel
theorem qw418 : lw_tbl[418]? = some (.instanceMethod ⟨"HangerRail", "now", "(I)I"⟩) := by decide +kernel
theorem qw419 : lw_tbl[419]? = some (.selects "HangerRail" ⟨"HangerRail", "now", "(I)I"⟩ ⟨"HangerRail", "now", "(I)I"⟩) := by decide +kernel
theorem qw421 : lw_tbl[421]? = some (.methodLink "HangerRail" (166) ⟨"HangerRail$Tangle", "pairs", "(I)I"⟩) := by decide +kernel
theorem qw422 : lw_tbl[422]? = some (.instanceMethod ⟨"HangerRail$Tangle", "pairs", "(I)I"⟩) := by decide +kernel
theorem qw423 : lw_tbl[423]? = some (.selects "HangerRail$Tangle" ⟨"HangerRail$Tangle", "pairs", "(I)I"⟩ ⟨"HangerRail$Tangle", "pairs", "(I)I"⟩) := by decide +kernel
theorem qw425 : lw_tbl[425]? = some (.methodLink "HangerRail$Tangle" (48) ⟨"java/lang/Integer", "bitCount", "(I)I"⟩) := by decide +kernel
theorem qw426 : lw_tbl[426]? = some (.methodLink "HangerRail" (169) ⟨"HangerRail$Rail", "shirts", "()I"⟩) := by decide +kernel
theorem qw427 : lw_tbl[427]? = some (.instanceMethod ⟨"HangerRail$Rail", "shirts", "()I"⟩) := by decide +kernel
theorem qw428 : lw_tbl[428]? = some (.selects "HangerRail$Rail" ⟨"HangerRail$Rail", "shirts", "()I"⟩ ⟨"HangerRail$Rail", "shirts", "()I"⟩) := by decide +kernel
theorem qw430 : lw_tbl[430]? = some (.methodLink "HangerRail" (172) ⟨"HangerRail$Rail", "slips", "()I"⟩) := by decide +kernel
theorem qw431 : lw_tbl[431]? = some (.instanceMethod ⟨"HangerRail$Rail", "slips", "()I"⟩) := by decide +kernel
theorem qw432 : lw_tbl[432]? = some (.selects "HangerRail$Rail" ⟨"HangerRail$Rail", "slips", "()I"⟩ ⟨"HangerRail$Rail", "slips", "()I"⟩) := by decide +kernel
theorem qw434 : lw_tbl[434]? = some (.methodLink "HangerRailLaw" (64) ⟨"HangerRail", "tangled", "(I)I"⟩) := by decide +kernel
theorem qw435 : lw_tbl[435]? = some (.instanceMethod ⟨"HangerRail", "tangled", "(I)I"⟩) := by decide +kernel
theorem qw436 : lw_tbl[436]? = some (.selects "HangerRail" ⟨"HangerRail", "tangled", "(I)I"⟩ ⟨"HangerRail", "tangled", "(I)I"⟩) := by decide +kernel
theorem qw438 : lw_tbl[438]? = some (.methodLink "HangerRail" (175) ⟨"HangerRail$Rail", "tangledWith", "(III)I"⟩) := by decide +kernel
theorem qw439 : lw_tbl[439]? = some (.instanceMethod ⟨"HangerRail$Rail", "tangledWith", "(III)I"⟩) := by decide +kernel
theorem qw440 : lw_tbl[440]? = some (.selects "HangerRail$Rail" ⟨"HangerRail$Rail", "tangledWith", "(III)I"⟩ ⟨"HangerRail$Rail", "tangledWith", "(III)I"⟩) := by decide +kernel
theorem qw442 : lw_tbl[442]? = some (.methodLink "HangerRail$Rail" (73) ⟨"HangerRail$Rail", "alike", "(II)I"⟩) := by decide +kernel
theorem qw443 : lw_tbl[443]? = some (.methodLink "HangerRail$Rail" (76) ⟨"HangerRail$Rail", "tangledIf", "(IIIZ)I"⟩) := by decide +kernel
theorem qw444 : lw_tbl[444]? = some (.methodLink "HangerRailLaw" (68) ⟨"HangerRail", "catches", "(II)I"⟩) := by decide +kernel
theorem qw445 : lw_tbl[445]? = some (.instanceMethod ⟨"HangerRail", "catches", "(II)I"⟩) := by decide +kernel
theorem qw446 : lw_tbl[446]? = some (.selects "HangerRail" ⟨"HangerRail", "catches", "(II)I"⟩ ⟨"HangerRail", "catches", "(II)I"⟩) := by decide +kernel
theorem qw448 : lw_tbl[448]? = some (.methodLink "HangerRail" (178) ⟨"java/lang/Math", "abs", "(I)I"⟩) := by decide +kernel
theorem qw449 : lw_tbl[449]? = some (.methodLink "HangerRail" (183) ⟨"HangerRail", "isCatch", "(IIZZ)Z"⟩) := by decide +kernel
theorem qw450 : lw_tbl[450]? = some (.methodLink "HangerRailLaw" (72) ⟨"HangerRail", "comes", "(II)I"⟩) := by decide +kernel
theorem qw451 : lw_tbl[451]? = some (.instanceMethod ⟨"HangerRail", "comes", "(II)I"⟩) := by decide +kernel
theorem qw452 : lw_tbl[452]? = some (.selects "HangerRail" ⟨"HangerRail", "comes", "(II)I"⟩ ⟨"HangerRail", "comes", "(II)I"⟩) := by decide +kernel
theorem qw454 : lw_tbl[454]? = some (.methodLink "HangerRailLaw" (76) ⟨"HangerRail", "falls", "(II)I"⟩) := by decide +kernel
theorem qw455 : lw_tbl[455]? = some (.instanceMethod ⟨"HangerRail", "falls", "(II)I"⟩) := by decide +kernel
theorem qw456 : lw_tbl[456]? = some (.selects "HangerRail" ⟨"HangerRail", "falls", "(II)I"⟩ ⟨"HangerRail", "falls", "(II)I"⟩) := by decide +kernel
theorem qw458 : lw_tbl[458]? = some (.methodLink "HangerRail" (187) ⟨"HangerRail", "howManyFall", "(II)I"⟩) := by decide +kernel
theorem qw460 : lw_tbl[460]? = some (.instanceMethod ⟨"HangerRail", "howManyFall", "(II)I"⟩) := by decide +kernel
theorem qw462 : lw_tbl[462]? = some (.methodLink "HangerRailLaw" (80) ⟨"HangerRail", "heaps", "()I"⟩) := by decide +kernel
theorem qw463 : lw_tbl[463]? = some (.instanceMethod ⟨"HangerRail", "heaps", "()I"⟩) := by decide +kernel
theorem qw464 : lw_tbl[464]? = some (.selects "HangerRail" ⟨"HangerRail", "heaps", "()I"⟩ ⟨"HangerRail", "heaps", "()I"⟩) := by decide +kernel
theorem qw466 : lw_tbl[466]? = some (.methodLink "HangerRail" (190) ⟨"HangerRail$Tangle", "heapOf", "(I)I"⟩) := by decide +kernel
theorem qw467 : lw_tbl[467]? = some (.methodLink "HangerRailLaw" (85) ⟨"HangerRail", "greatest", "()I"⟩) := by decide +kernel
theorem qw468 : lw_tbl[468]? = some (.instanceMethod ⟨"HangerRail", "greatest", "()I"⟩) := by decide +kernel
theorem qw469 : lw_tbl[469]? = some (.selects "HangerRail" ⟨"HangerRail", "greatest", "()I"⟩ ⟨"HangerRail", "greatest", "()I"⟩) := by decide +kernel
theorem qw471 : lw_tbl[471]? = some (.methodLink "HangerRail" (193) ⟨"java/lang/Math", "max", "(II)I"⟩) := by decide +kernel
theorem qw472 : lw_tbl[472]? = some (.methodLink "HangerRailLaw" (89) ⟨"HangerRail", "manner", "(I)I"⟩) := by decide +kernel
theorem qw473 : lw_tbl[473]? = some (.instanceMethod ⟨"HangerRail", "manner", "(I)I"⟩) := by decide +kernel
theorem qw474 : lw_tbl[474]? = some (.selects "HangerRail" ⟨"HangerRail", "manner", "(I)I"⟩ ⟨"HangerRail", "manner", "(I)I"⟩) := by decide +kernel
theorem qw476 : lw_tbl[476]? = some (.methodLink "HangerRail" (196) ⟨"HangerRail", "harm", "(II)I"⟩) := by decide +kernel
theorem qw478 : lw_tbl[478]? = some (.instanceMethod ⟨"HangerRail", "harm", "(II)I"⟩) := by decide +kernel
theorem qw480 : lw_tbl[480]? = some (.methodLink "HangerRailLaw" (93) ⟨"HangerRail", "first", "()I"⟩) := by decide +kernel
theorem qw481 : lw_tbl[481]? = some (.instanceMethod ⟨"HangerRail", "first", "()I"⟩) := by decide +kernel
theorem qw482 : lw_tbl[482]? = some (.selects "HangerRail" ⟨"HangerRail", "first", "()I"⟩ ⟨"HangerRail", "first", "()I"⟩) := by decide +kernel
theorem qw484 : lw_tbl[484]? = some (.methodLink "HangerRailLaw" (97) ⟨"HangerRail", "spot", "(I)I"⟩) := by decide +kernel
theorem qw485 : lw_tbl[485]? = some (.instanceMethod ⟨"HangerRail", "spot", "(I)I"⟩) := by decide +kernel
theorem qw486 : lw_tbl[486]? = some (.selects "HangerRail" ⟨"HangerRail", "spot", "(I)I"⟩ ⟨"HangerRail", "spot", "(I)I"⟩) := by decide +kernel
theorem qw488 : lw_tbl[488]? = some (.methodLink "HangerRail" (202) ⟨"HangerRail$Rail", "isAloneAt", "(II)Z"⟩) := by decide +kernel
theorem qw489 : lw_tbl[489]? = some (.instanceMethod ⟨"HangerRail$Rail", "isAloneAt", "(II)Z"⟩) := by decide +kernel
theorem qw490 : lw_tbl[490]? = some (.selects "HangerRail$Rail" ⟨"HangerRail$Rail", "isAloneAt", "(II)Z"⟩ ⟨"HangerRail$Rail", "isAloneAt", "(II)Z"⟩) := by decide +kernel
theorem qw492 : lw_tbl[492]? = some (.methodLink "HangerRail$Rail" (90) ⟨"HangerRail$Rail", "tangledWith", "(III)I"⟩) := by decide +kernel
theorem qw493 : lw_tbl[493]? = some (.methodLink "HangerRailLaw" (101) ⟨"HangerRail", "facing", "()I"⟩) := by decide +kernel
theorem qw494 : lw_tbl[494]? = some (.instanceMethod ⟨"HangerRail", "facing", "()I"⟩) := by decide +kernel
theorem qw495 : lw_tbl[495]? = some (.selects "HangerRail" ⟨"HangerRail", "facing", "()I"⟩ ⟨"HangerRail", "facing", "()I"⟩) := by decide +kernel
theorem qw497 : lw_tbl[497]? = some (.methodLink "HangerRail" (205) ⟨"HangerRail", "betterFacing", "(II)I"⟩) := by decide +kernel
theorem qw499 : lw_tbl[499]? = some (.instanceMethod ⟨"HangerRail", "betterFacing", "(II)I"⟩) := by decide +kernel
theorem qw501 : lw_tbl[501]? = some (.methodLink "HangerRailLaw" (105) ⟨"HangerRail", "clears", "(I)I"⟩) := by decide +kernel
theorem qw502 : lw_tbl[502]? = some (.instanceMethod ⟨"HangerRail", "clears", "(I)I"⟩) := by decide +kernel
theorem qw503 : lw_tbl[503]? = some (.selects "HangerRail" ⟨"HangerRail", "clears", "(I)I"⟩ ⟨"HangerRail", "clears", "(I)I"⟩) := by decide +kernel
theorem qw505 : lw_tbl[505]? = some (.methodLink "HangerRailLaw" (109) ⟨"HangerRail", "untangle", "()I"⟩) := by decide +kernel
theorem qw506 : lw_tbl[506]? = some (.instanceMethod ⟨"HangerRail", "untangle", "()I"⟩) := by decide +kernel
theorem qw507 : lw_tbl[507]? = some (.selects "HangerRail" ⟨"HangerRail", "untangle", "()I"⟩ ⟨"HangerRail", "untangle", "()I"⟩) := by decide +kernel
theorem qw509 : lw_tbl[509]? = some (.methodLink "HangerRail" (208) ⟨"HangerRail$Tangle", "leastCover", "()I"⟩) := by decide +kernel
theorem qw510 : lw_tbl[510]? = some (.instanceMethod ⟨"HangerRail$Tangle", "leastCover", "()I"⟩) := by decide +kernel
theorem qw511 : lw_tbl[511]? = some (.selects "HangerRail$Tangle" ⟨"HangerRail$Tangle", "leastCover", "()I"⟩ ⟨"HangerRail$Tangle", "leastCover", "()I"⟩) := by decide +kernel
theorem qw513 : lw_tbl[513]? = some (.methodLink "HangerRail$Tangle" (61) ⟨"HangerRail$Tangle", "leastCover", "([IIII)I"⟩) := by decide +kernel
theorem qw514 : lw_tbl[514]? = some (.static ⟨"HangerRail$Tangle", "leastCover", "([IIII)I"⟩) := by decide +kernel
theorem qw516 : lw_tbl[516]? = some (.methodLink "HangerRailLaw" (113) ⟨"HangerRail", "saves", "()I"⟩) := by decide +kernel
theorem qw517 : lw_tbl[517]? = some (.instanceMethod ⟨"HangerRail", "saves", "()I"⟩) := by decide +kernel
theorem qw518 : lw_tbl[518]? = some (.selects "HangerRail" ⟨"HangerRail", "saves", "()I"⟩ ⟨"HangerRail", "saves", "()I"⟩) := by decide +kernel
theorem qw520 : lw_tbl[520]? = some (.methodLink "HangerRail" (211) ⟨"HangerRail$Tangle", "all", "()I"⟩) := by decide +kernel
theorem qw521 : lw_tbl[521]? = some (.instanceMethod ⟨"HangerRail$Tangle", "all", "()I"⟩) := by decide +kernel
theorem qw522 : lw_tbl[522]? = some (.selects "HangerRail$Tangle" ⟨"HangerRail$Tangle", "all", "()I"⟩ ⟨"HangerRail$Tangle", "all", "()I"⟩) := by decide +kernel
theorem qw524 : lw_tbl[524]? = some (.methodLink "HangerRailLaw" (117) ⟨"HangerRail", "feels", "(I)I"⟩) := by decide +kernel
theorem qw525 : lw_tbl[525]? = some (.instanceMethod ⟨"HangerRail", "feels", "(I)I"⟩) := by decide +kernel
theorem qw526 : lw_tbl[526]? = some (.selects "HangerRail" ⟨"HangerRail", "feels", "(I)I"⟩ ⟨"HangerRail", "feels", "(I)I"⟩) := by decide +kernel
theorem qw528 : lw_tbl[528]? = some (.methodLink "HangerRailLaw" (121) ⟨"HangerRail", "kind", "(I)I"⟩) := by decide +kernel
theorem qw529 : lw_tbl[529]? = some (.instanceMethod ⟨"HangerRail", "kind", "(I)I"⟩) := by decide +kernel
theorem qw530 : lw_tbl[530]? = some (.selects "HangerRail" ⟨"HangerRail", "kind", "(I)I"⟩ ⟨"HangerRail", "kind", "(I)I"⟩) := by decide +kernel
theorem qw532 : lw_tbl[532]? = some (.methodLink "HangerRailLaw" (125) ⟨"HangerRail", "feed", "(II)I"⟩) := by decide +kernel
theorem qw533 : lw_tbl[533]? = some (.instanceMethod ⟨"HangerRail", "feed", "(II)I"⟩) := by decide +kernel
theorem qw534 : lw_tbl[534]? = some (.selects "HangerRail" ⟨"HangerRail", "feed", "(II)I"⟩ ⟨"HangerRail", "feed", "(II)I"⟩) := by decide +kernel
theorem qw536 : lw_tbl[536]? = some (.methodLink "HangerRail" (217) ⟨"HangerRail$Tape", "add", "(B)V"⟩) := by decide +kernel
theorem qw537 : lw_tbl[537]? = some (.instanceMethod ⟨"HangerRail$Tape", "add", "(B)V"⟩) := by decide +kernel
theorem qw538 : lw_tbl[538]? = some (.selects "HangerRail$Tape" ⟨"HangerRail$Tape", "add", "(B)V"⟩ ⟨"HangerRail$Tape", "add", "(B)V"⟩) := by decide +kernel
theorem qw540 : lw_tbl[540]? = some (.methodLink "HangerRailLaw" (129) ⟨"HangerRail", "wipe", "()I"⟩) := by decide +kernel
theorem qw541 : lw_tbl[541]? = some (.instanceMethod ⟨"HangerRail", "wipe", "()I"⟩) := by decide +kernel
theorem qw542 : lw_tbl[542]? = some (.selects "HangerRail" ⟨"HangerRail", "wipe", "()I"⟩ ⟨"HangerRail", "wipe", "()I"⟩) := by decide +kernel
theorem qw544 : lw_tbl[544]? = some (.methodLink "HangerRailLaw" (133) ⟨"HangerRail", "rail", "()I"⟩) := by decide +kernel
theorem qw545 : lw_tbl[545]? = some (.instanceMethod ⟨"HangerRail", "rail", "()I"⟩) := by decide +kernel
theorem qw546 : lw_tbl[546]? = some (.selects "HangerRail" ⟨"HangerRail", "rail", "()I"⟩ ⟨"HangerRail", "rail", "()I"⟩) := by decide +kernel
theorem qw548 : lw_tbl[548]? = some (.methodLink "HangerRail" (221) ⟨"HangerRail$Rail", "become", "(LHangerRail$Rail;)V"⟩) := by decide +kernel
theorem qw549 : lw_tbl[549]? = some (.instanceMethod ⟨"HangerRail$Rail", "become", "(LHangerRail$Rail;)V"⟩) := by decide +kernel
theorem qw550 : lw_tbl[550]? = some (.selects "HangerRail$Rail" ⟨"HangerRail$Rail", "become", "(LHangerRail$Rail;)V"⟩ ⟨"HangerRail$Rail", "become", "(LHangerRail$Rail;)V"⟩) := by decide +kernel
theorem qw552 : lw_tbl[552]? = some (.methodLink "HangerRail$Rail" (40) ⟨"java/lang/System", "arraycopy", "(Ljava/lang/Object;ILjava/lang/Object;II)V"⟩) := by decide +kernel
theorem qw553 : lw_tbl[553]? = some (.static ⟨"java/lang/System", "arraycopy", "(Ljava/lang/Object;ILjava/lang/Object;II)V"⟩) := by decide +kernel
theorem qw554 : lw_tbl[554]? = some (.native ⟨"java/lang/System", "arraycopy", "(Ljava/lang/Object;ILjava/lang/Object;II)V"⟩) := by decide +kernel
theorem qw555 : lw_tbl[555]? = some (.methodLink "HangerRail" (224) ⟨"HangerRail$Reader", "readItems", "(LHangerRail$Rail;)I"⟩) := by decide +kernel
theorem qw556 : lw_tbl[556]? = some (.instanceMethod ⟨"HangerRail$Reader", "readItems", "(LHangerRail$Rail;)I"⟩) := by decide +kernel
theorem qw557 : lw_tbl[557]? = some (.selects "HangerRail$Reader" ⟨"HangerRail$Reader", "readItems", "(LHangerRail$Rail;)I"⟩ ⟨"HangerRail$Reader", "readItems", "(LHangerRail$Rail;)I"⟩) := by decide +kernel
theorem qw559 : lw_tbl[559]? = some (.methodLink "HangerRail$Reader" (19) ⟨"HangerRail$Reader", "step", "()V"⟩) := by decide +kernel
theorem qw561 : lw_tbl[561]? = some (.instanceMethod ⟨"HangerRail$Reader", "step", "()V"⟩) := by decide +kernel
theorem qw563 : lw_tbl[563]? = some (.methodLink "HangerRail$Reader" (119) ⟨"HangerRail$Reader", "isLetter", "(B)Z"⟩) := by decide +kernel
theorem qw564 : lw_tbl[564]? = some (.static ⟨"HangerRail$Reader", "isLetter", "(B)Z"⟩) := by decide +kernel
theorem qw566 : lw_tbl[566]? = some (.methodLink "HangerRail$Reader" (123) ⟨"HangerRail$Reader", "stepWord", "()V"⟩) := by decide +kernel
theorem qw568 : lw_tbl[568]? = some (.instanceMethod ⟨"HangerRail$Reader", "stepWord", "()V"⟩) := by decide +kernel
theorem qw570 : lw_tbl[570]? = some (.methodLink "HangerRail$Reader" (126) ⟨"HangerRail$Reader", "isDigit", "(B)Z"⟩) := by decide +kernel
theorem qw571 : lw_tbl[571]? = some (.static ⟨"HangerRail$Reader", "isDigit", "(B)Z"⟩) := by decide +kernel
theorem qw573 : lw_tbl[573]? = some (.methodLink "HangerRail$Reader" (129) ⟨"HangerRail$Reader", "stepNumber", "()V"⟩) := by decide +kernel
theorem qw575 : lw_tbl[575]? = some (.instanceMethod ⟨"HangerRail$Reader", "stepNumber", "()V"⟩) := by decide +kernel
theorem qw577 : lw_tbl[577]? = some (.methodLink "HangerRail$Reader" (132) ⟨"java/lang/Math", "min", "(II)I"⟩) := by decide +kernel
theorem qw578 : lw_tbl[578]? = some (.methodLink "HangerRail$Reader" (22) ⟨"HangerRail$Reader", "readItem", "(LHangerRail$Rail;)Z"⟩) := by decide +kernel
theorem qw580 : lw_tbl[580]? = some (.instanceMethod ⟨"HangerRail$Reader", "readItem", "(LHangerRail$Rail;)Z"⟩) := by decide +kernel
theorem qw583 : lw_tbl[583]? = some (.methodLink "HangerRail$Reader" (34) ⟨"HangerRail$Reader", "isWord", "(Ljava/lang/String;)Z"⟩) := by decide +kernel
theorem qw585 : lw_tbl[585]? = some (.instanceMethod ⟨"HangerRail$Reader", "isWord", "(Ljava/lang/String;)Z"⟩) := by decide +kernel
theorem qw587 : lw_tbl[587]? = some (.methodLink "HangerRail$Reader" (98) ⟨"java/lang/String", "length", "()I"⟩) := by decide +kernel
theorem qw588 : lw_tbl[588]? = some (.instanceMethod ⟨"java/lang/String", "length", "()I"⟩) := by decide +kernel
theorem qw589 : lw_tbl[589]? = some (.selects "java/lang/String" ⟨"java/lang/String", "length", "()I"⟩ ⟨"java/lang/String", "length", "()I"⟩) := by decide +kernel
theorem qw591 : lw_tbl[591]? = some (.methodLink "java/lang/String" (335) ⟨"java/lang/String", "coder", "()B"⟩) := by decide +kernel
theorem qw592 : lw_tbl[592]? = some (.instanceMethod ⟨"java/lang/String", "coder", "()B"⟩) := by decide +kernel
theorem qw593 : lw_tbl[593]? = some (.selects "java/lang/String" ⟨"java/lang/String", "coder", "()B"⟩ ⟨"java/lang/String", "coder", "()B"⟩) := by decide +kernel
theorem qw595 : lw_tbl[595]? = some (.fieldLink "java/lang/String" (38) "java/lang/String" "COMPACT_STRINGS" "Z") := by decide +kernel
theorem qw597 : lw_tbl[597]? = some (.methodLink "HangerRail$Reader" (109) ⟨"java/lang/String", "charAt", "(I)C"⟩) := by decide +kernel
theorem qw598 : lw_tbl[598]? = some (.instanceMethod ⟨"java/lang/String", "charAt", "(I)C"⟩) := by decide +kernel
theorem qw599 : lw_tbl[599]? = some (.selects "java/lang/String" ⟨"java/lang/String", "charAt", "(I)C"⟩ ⟨"java/lang/String", "charAt", "(I)C"⟩) := by decide +kernel
theorem qw601 : lw_tbl[601]? = some (.methodLink "java/lang/String" (492) ⟨"java/lang/String", "isLatin1", "()Z"⟩) := by decide +kernel
theorem qw602 : lw_tbl[602]? = some (.instanceMethod ⟨"java/lang/String", "isLatin1", "()Z"⟩) := by decide +kernel
theorem qw603 : lw_tbl[603]? = some (.selects "java/lang/String" ⟨"java/lang/String", "isLatin1", "()Z"⟩ ⟨"java/lang/String", "isLatin1", "()Z"⟩) := by decide +kernel
theorem qw605 : lw_tbl[605]? = some (.methodLink "java/lang/String" (495) ⟨"java/lang/StringLatin1", "charAt", "([BI)C"⟩) := by decide +kernel
theorem qw606 : lw_tbl[606]? = some (.static ⟨"java/lang/StringLatin1", "charAt", "([BI)C"⟩) := by decide +kernel
theorem qw608 : lw_tbl[608]? = some (.methodLink "java/lang/StringLatin1" (9) ⟨"java/lang/String", "checkIndex", "(II)V"⟩) := by decide +kernel
theorem qw609 : lw_tbl[609]? = some (.static ⟨"java/lang/String", "checkIndex", "(II)V"⟩) := by decide +kernel
theorem qw611 : lw_tbl[611]? = some (.fieldLink "java/lang/String" (1053) "jdk/internal/util/Preconditions" "SIOOBE_FORMATTER" "Ljava/util/function/BiFunction;") := by decide +kernel
theorem qw613 : lw_tbl[613]? = some (.methodLink "java/lang/String" (1059) ⟨"jdk/internal/util/Preconditions", "checkIndex", "(IILjava/util/function/BiFunction;)I"⟩) := by decide +kernel
theorem qw614 : lw_tbl[614]? = some (.static ⟨"jdk/internal/util/Preconditions", "checkIndex", "(IILjava/util/function/BiFunction;)I"⟩) := by decide +kernel
theorem qw616 : lw_tbl[616]? = some (.methodLink "java/lang/String" (498) ⟨"java/lang/StringUTF16", "charAt", "([BI)C"⟩) := by decide +kernel
theorem qw617 : lw_tbl[617]? = some (.static ⟨"java/lang/StringUTF16", "charAt", "([BI)C"⟩) := by decide +kernel
theorem qw619 : lw_tbl[619]? = some (.methodLink "java/lang/StringUTF16" (67) ⟨"java/lang/StringUTF16", "checkIndex", "(I[B)V"⟩) := by decide +kernel
theorem qw620 : lw_tbl[620]? = some (.static ⟨"java/lang/StringUTF16", "checkIndex", "(I[B)V"⟩) := by decide +kernel
theorem qw622 : lw_tbl[622]? = some (.methodLink "java/lang/StringUTF16" (48) ⟨"java/lang/StringUTF16", "length", "([B)I"⟩) := by decide +kernel
theorem qw623 : lw_tbl[623]? = some (.static ⟨"java/lang/StringUTF16", "length", "([B)I"⟩) := by decide +kernel
theorem qw625 : lw_tbl[625]? = some (.methodLink "java/lang/StringUTF16" (414) ⟨"java/lang/String", "checkIndex", "(II)V"⟩) := by decide +kernel
theorem qw626 : lw_tbl[626]? = some (.methodLink "java/lang/StringUTF16" (71) ⟨"java/lang/StringUTF16", "getChar", "([BI)C"⟩) := by decide +kernel
theorem qw627 : lw_tbl[627]? = some (.static ⟨"java/lang/StringUTF16", "getChar", "([BI)C"⟩) := by decide +kernel
theorem qw629 : lw_tbl[629]? = some (.fieldLink "java/lang/StringUTF16" (44) "java/lang/StringUTF16" "$assertionsDisabled" "Z") := by decide +kernel
theorem qw631 : lw_tbl[631]? = some (.fieldLink "java/lang/StringUTF16" (59) "java/lang/StringUTF16" "HI_BYTE_SHIFT" "I") := by decide +kernel
theorem qw633 : lw_tbl[633]? = some (.fieldLink "java/lang/StringUTF16" (63) "java/lang/StringUTF16" "LO_BYTE_SHIFT" "I") := by decide +kernel
theorem qw635 : lw_tbl[635]? = some (.methodLink "HangerRail$Reader" (38) ⟨"HangerRail$Reader", "isNumber", "(II)Z"⟩) := by decide +kernel
theorem qw637 : lw_tbl[637]? = some (.instanceMethod ⟨"HangerRail$Reader", "isNumber", "(II)Z"⟩) := by decide +kernel
theorem qw639 : lw_tbl[639]? = some (.methodLink "HangerRail$Reader" (49) ⟨"HangerRail$Reader", "namedKind", "()I"⟩) := by decide +kernel
theorem qw641 : lw_tbl[641]? = some (.instanceMethod ⟨"HangerRail$Reader", "namedKind", "()I"⟩) := by decide +kernel
theorem qw644 : lw_tbl[644]? = some (.static ⟨"HangerRail", "kindName", "(I)Ljava/lang/String;"⟩) := by decide +kernel
theorem qw652 : lw_tbl[652]? = some (.methodLink "HangerRail$Reader" (56) ⟨"HangerRail$Rail", "addHanger", "(I)I"⟩) := by decide +kernel
theorem qw653 : lw_tbl[653]? = some (.methodLink "HangerRail$Reader" (60) ⟨"HangerRail$Reader", "readPlace", "(LHangerRail$Rail;I)Z"⟩) := by decide +kernel
theorem qw655 : lw_tbl[655]? = some (.instanceMethod ⟨"HangerRail$Reader", "readPlace", "(LHangerRail$Rail;I)Z"⟩) := by decide +kernel
theorem qw658 : lw_tbl[658]? = some (.methodLink "HangerRail$Reader" (75) ⟨"HangerRail$Rail", "isFree", "(I)Z"⟩) := by decide +kernel
theorem qw659 : lw_tbl[659]? = some (.methodLink "HangerRail$Reader" (79) ⟨"HangerRail$Rail", "put", "(II)V"⟩) := by decide +kernel
theorem qw660 : lw_tbl[660]? = some (.methodLink "HangerRail$Reader" (64) ⟨"HangerRail$Reader", "readBack", "(LHangerRail$Rail;I)Z"⟩) := by decide +kernel
theorem qw662 : lw_tbl[662]? = some (.instanceMethod ⟨"HangerRail$Reader", "readBack", "(LHangerRail$Rail;I)Z"⟩) := by decide +kernel
theorem qw665 : lw_tbl[665]? = some (.methodLink "HangerRail$Reader" (67) ⟨"HangerRail$Reader", "readShirt", "(LHangerRail$Rail;I)Z"⟩) := by decide +kernel
theorem qw667 : lw_tbl[667]? = some (.instanceMethod ⟨"HangerRail$Reader", "readShirt", "(LHangerRail$Rail;I)Z"⟩) := by decide +kernel
theorem qw670 : lw_tbl[670]? = some (.methodLink "HangerRail$Reader" (70) ⟨"HangerRail$Reader", "readFeel", "(LHangerRail$Rail;I)Z"⟩) := by decide +kernel
theorem qw672 : lw_tbl[672]? = some (.instanceMethod ⟨"HangerRail$Reader", "readFeel", "(LHangerRail$Rail;I)Z"⟩) := by decide +kernel
theorem qw675 : lw_tbl[675]? = some (.methodLink "HangerRailLaw" (137) ⟨"HangerRail", "sheet", "(III)I"⟩) := by decide +kernel
theorem qw676 : lw_tbl[676]? = some (.instanceMethod ⟨"HangerRail", "sheet", "(III)I"⟩) := by decide +kernel
theorem qw677 : lw_tbl[677]? = some (.selects "HangerRail" ⟨"HangerRail", "sheet", "(III)I"⟩ ⟨"HangerRail", "sheet", "(III)I"⟩) := by decide +kernel
theorem qw679 : lw_tbl[679]? = some (.methodLink "HangerRail" (228) ⟨"HangerRail", "isSheet", "(I)Z"⟩) := by decide +kernel
theorem qw680 : lw_tbl[680]? = some (.static ⟨"HangerRail", "isSheet", "(I)Z"⟩) := by decide +kernel
theorem qw682 : lw_tbl[682]? = some (.constant "HangerRail" (231) (-1000000007)) := by decide +kernel
theorem qw683 : lw_tbl[683]? = some (.methodLink "HangerRail" (232) ⟨"HangerRail$Sheet", "lay", "(II)V"⟩) := by decide +kernel
theorem qw684 : lw_tbl[684]? = some (.instanceMethod ⟨"HangerRail$Sheet", "lay", "(II)V"⟩) := by decide +kernel
theorem qw685 : lw_tbl[685]? = some (.selects "HangerRail$Sheet" ⟨"HangerRail$Sheet", "lay", "(II)V"⟩ ⟨"HangerRail$Sheet", "lay", "(II)V"⟩) := by decide +kernel
theorem qw687 : lw_tbl[687]? = some (.methodLink "HangerRailLaw" (143) ⟨"HangerRail", "write", "(IIJ)J"⟩) := by decide +kernel
theorem qw688 : lw_tbl[688]? = some (.instanceMethod ⟨"HangerRail", "write", "(IIJ)J"⟩) := by decide +kernel
theorem qw689 : lw_tbl[689]? = some (.selects "HangerRail" ⟨"HangerRail", "write", "(IIJ)J"⟩ ⟨"HangerRail", "write", "(IIJ)J"⟩) := by decide +kernel
theorem qw691 : lw_tbl[691]? = some (.methodLink "HangerRail" (235) ⟨"HangerRail", "findingAgainstSheet", "(I)I"⟩) := by decide +kernel
theorem qw693 : lw_tbl[693]? = some (.instanceMethod ⟨"HangerRail", "findingAgainstSheet", "(I)I"⟩) := by decide +kernel
theorem qw695 : lw_tbl[695]? = some (.methodLink "HangerRail" (248) ⟨"HangerRail$Sheet", "isMissing", "()Z"⟩) := by decide +kernel
theorem qw696 : lw_tbl[696]? = some (.instanceMethod ⟨"HangerRail$Sheet", "isMissing", "()Z"⟩) := by decide +kernel
theorem qw697 : lw_tbl[697]? = some (.selects "HangerRail$Sheet" ⟨"HangerRail$Sheet", "isMissing", "()Z"⟩ ⟨"HangerRail$Sheet", "isMissing", "()Z"⟩) := by decide +kernel
theorem qw699 : lw_tbl[699]? = some (.constant "HangerRail" (252) (-1000000006)) := by decide +kernel
theorem qw700 : lw_tbl[700]? = some (.methodLink "HangerRail" (245) ⟨"HangerRail$Sheet", "put", "(IJ)V"⟩) := by decide +kernel
theorem qw701 : lw_tbl[701]? = some (.instanceMethod ⟨"HangerRail$Sheet", "put", "(IJ)V"⟩) := by decide +kernel
theorem qw702 : lw_tbl[702]? = some (.selects "HangerRail$Sheet" ⟨"HangerRail$Sheet", "put", "(IJ)V"⟩ ⟨"HangerRail$Sheet", "put", "(IJ)V"⟩) := by decide +kernel
theorem qw704 : lw_tbl[704]? = some (.methodLink "HangerRailLaw" (148) ⟨"HangerRail", "copy", "(IIIII)I"⟩) := by decide +kernel
theorem qw705 : lw_tbl[705]? = some (.instanceMethod ⟨"HangerRail", "copy", "(IIIII)I"⟩) := by decide +kernel
theorem qw706 : lw_tbl[706]? = some (.selects "HangerRail" ⟨"HangerRail", "copy", "(IIIII)I"⟩ ⟨"HangerRail", "copy", "(IIIII)I"⟩) := by decide +kernel
theorem qw708 : lw_tbl[708]? = some (.methodLink "HangerRail" (256) ⟨"HangerRail$Sheet", "hasRun", "(II)Z"⟩) := by decide +kernel
theorem qw709 : lw_tbl[709]? = some (.instanceMethod ⟨"HangerRail$Sheet", "hasRun", "(II)Z"⟩) := by decide +kernel
theorem qw710 : lw_tbl[710]? = some (.selects "HangerRail$Sheet" ⟨"HangerRail$Sheet", "hasRun", "(II)Z"⟩ ⟨"HangerRail$Sheet", "hasRun", "(II)Z"⟩) := by decide +kernel
theorem qw712 : lw_tbl[712]? = some (.methodLink "HangerRail" (259) ⟨"java/lang/System", "arraycopy", "(Ljava/lang/Object;ILjava/lang/Object;II)V"⟩) := by decide +kernel
theorem qw713 : lw_tbl[713]? = some (.methodLink "HangerRailLaw" (153) ⟨"HangerRail", "lays", "(I)I"⟩) := by decide +kernel
theorem qw714 : lw_tbl[714]? = some (.instanceMethod ⟨"HangerRail", "lays", "(I)I"⟩) := by decide +kernel
theorem qw715 : lw_tbl[715]? = some (.selects "HangerRail" ⟨"HangerRail", "lays", "(I)I"⟩ ⟨"HangerRail", "lays", "(I)I"⟩) := by decide +kernel
theorem qw717 : lw_tbl[717]? = some (.methodLink "HangerRail" (265) ⟨"java/lang/Math", "min", "(II)I"⟩) := by decide +kernel
theorem qw718 : lw_tbl[718]? = some (.constantLong "HangerRail" (268) (24)) := by decide +kernel
theorem qw719 : lw_tbl[719]? = some (.methodLink "HangerRailLaw" (157) ⟨"HangerRail", "book", "(I)I"⟩) := by decide +kernel
theorem qw720 : lw_tbl[720]? = some (.instanceMethod ⟨"HangerRail", "book", "(I)I"⟩) := by decide +kernel
theorem qw721 : lw_tbl[721]? = some (.selects "HangerRail" ⟨"HangerRail", "book", "(I)I"⟩ ⟨"HangerRail", "book", "(I)I"⟩) := by decide +kernel
theorem qw723 : lw_tbl[723]? = some (.constantLong "HangerRail" (270) (-1)) := by decide +kernel
theorem qw724 : lw_tbl[724]? = some (.methodLink "HangerRailLaw" (161) ⟨"HangerRail", "read", "(I)I"⟩) := by decide +kernel
theorem qw725 : lw_tbl[725]? = some (.instanceMethod ⟨"HangerRail", "read", "(I)I"⟩) := by decide +kernel
theorem qw726 : lw_tbl[726]? = some (.selects "HangerRail" ⟨"HangerRail", "read", "(I)I"⟩ ⟨"HangerRail", "read", "(I)I"⟩) := by decide +kernel
theorem qw728 : lw_tbl[728]? = some (.constantLong "HangerRail" (272) (12)) := by decide +kernel
theorem qw729 : lw_tbl[729]? = some (.methodLink "HangerRailLaw" (165) ⟨"HangerRail", "image", "()I"⟩) := by decide +kernel
theorem qw730 : lw_tbl[730]? = some (.instanceMethod ⟨"HangerRail", "image", "()I"⟩) := by decide +kernel
theorem qw731 : lw_tbl[731]? = some (.selects "HangerRail" ⟨"HangerRail", "image", "()I"⟩ ⟨"HangerRail", "image", "()I"⟩) := by decide +kernel
theorem qw733 : lw_tbl[733]? = some (.methodLink "HangerRailLaw" (169) ⟨"HangerRail", "undo", "()I"⟩) := by decide +kernel
theorem qw734 : lw_tbl[734]? = some (.instanceMethod ⟨"HangerRail", "undo", "()I"⟩) := by decide +kernel
theorem qw735 : lw_tbl[735]? = some (.selects "HangerRail" ⟨"HangerRail", "undo", "()I"⟩ ⟨"HangerRail", "undo", "()I"⟩) := by decide +kernel
theorem qw737 : lw_tbl[737]? = some (.methodLink "HangerRailLaw" (173) ⟨"HangerRail", "tear", "()I"⟩) := by decide +kernel
theorem qw738 : lw_tbl[738]? = some (.instanceMethod ⟨"HangerRail", "tear", "()I"⟩) := by decide +kernel
theorem qw739 : lw_tbl[739]? = some (.selects "HangerRail" ⟨"HangerRail", "tear", "()I"⟩ ⟨"HangerRail", "tear", "()I"⟩) := by decide +kernel
theorem qw741 : lw_tbl[741]? = some (.methodLink "HangerRailLaw" (177) ⟨"HangerRail", "count", "(I)I"⟩) := by decide +kernel
theorem qw742 : lw_tbl[742]? = some (.instanceMethod ⟨"HangerRail", "count", "(I)I"⟩) := by decide +kernel
theorem qw743 : lw_tbl[743]? = some (.selects "HangerRail" ⟨"HangerRail", "count", "(I)I"⟩ ⟨"HangerRail", "count", "(I)I"⟩) := by decide +kernel
theorem qw745 : lw_tbl[745]? = some (.methodLink "HangerRailLaw" (181) ⟨"HangerRail", "status", "(I)I"⟩) := by decide +kernel
theorem qw746 : lw_tbl[746]? = some (.instanceMethod ⟨"HangerRail", "status", "(I)I"⟩) := by decide +kernel
theorem qw747 : lw_tbl[747]? = some (.selects "HangerRail" ⟨"HangerRail", "status", "(I)I"⟩ ⟨"HangerRail", "status", "(I)I"⟩) := by decide +kernel
theorem qw749 : lw_tbl[749]? = some (.classLink "HangerRailLaw" (10) "HangerRailModel") := by decide +kernel
theorem qw750 : lw_tbl[750]? = some (.instantiable "HangerRailModel" (19)) := by decide +kernel
theorem qw751 : lw_tbl[751]? = some (.methodLink "HangerRailLaw" (12) ⟨"HangerRailModel", "<init>", "()V"⟩) := by decide +kernel
theorem qw752 : lw_tbl[752]? = some (.instanceMethod ⟨"HangerRailModel", "<init>", "()V"⟩) := by decide +kernel
theorem qw754 : lw_tbl[754]? = some (.methodLink "HangerRailModel" (1) ⟨"java/lang/Object", "<init>", "()V"⟩) := by decide +kernel
theorem qw755 : lw_tbl[755]? = some (.fieldLink "HangerRailModel" (7) "HangerRailModel" "s" "[I") := by decide +kernel
theorem qw756 : lw_tbl[756]? = some (.fieldLink "HangerRailModel" (13) "HangerRailModel" "keptS" "[I") := by decide +kernel
theorem qw757 : lw_tbl[757]? = some (.fieldLink "HangerRailModel" (16) "HangerRailModel" "other" "[I") := by decide +kernel
theorem qw758 : lw_tbl[758]? = some (.fieldLink "HangerRailModel" (19) "HangerRailModel" "aside" "[I") := by decide +kernel
theorem qw759 : lw_tbl[759]? = some (.fieldLink "HangerRailModel" (22) "HangerRailModel" "statuses" "[I") := by decide +kernel
theorem qw760 : lw_tbl[760]? = some (.fieldLink "HangerRailModel" (307) "HangerRailModel" "isKept" "Z") := by decide +kernel
theorem qw761 : lw_tbl[761]? = some (.fieldLink "HangerRailModel" (169) "HangerRailModel" "heapsMany" "I") := by decide +kernel
theorem qw762 : lw_tbl[762]? = some (.fieldLink "HangerRailModel" (173) "HangerRailModel" "heapMost" "I") := by decide +kernel
theorem qw763 : lw_tbl[763]? = some (.fieldLink "HangerRailModel" (25) "HangerRailModel" "with" "[I") := by decide +kernel
theorem qw764 : lw_tbl[764]? = some (.fieldLink "HangerRailModel" (28) "HangerRailModel" "tape" "[I") := by decide +kernel
theorem qw765 : lw_tbl[765]? = some (.fieldLink "HangerRailModel" (197) "HangerRailModel" "taped" "I") := by decide +kernel
theorem qw766 : lw_tbl[766]? = some (.fieldLink "HangerRailModel" (211) "HangerRailModel" "from" "I") := by decide +kernel
theorem qw767 : lw_tbl[767]? = some (.fieldLink "HangerRailModel" (208) "HangerRailModel" "to" "I") := by decide +kernel
theorem qw768 : lw_tbl[768]? = some (.fieldLink "HangerRailModel" (234) "HangerRailModel" "value" "I") := by decide +kernel
theorem qw769 : lw_tbl[769]? = some (.fieldLink "HangerRailModel" (223) "HangerRailModel" "isWrong" "Z") := by decide +kernel
theorem qw770 : lw_tbl[770]? = some (.fieldLink "HangerRailModel" (31) "HangerRailModel" "bitsOf" "[I") := by decide +kernel
theorem qw771 : lw_tbl[771]? = some (.fieldLink "HangerRailModel" (34) "HangerRailModel" "sizeOf" "[I") := by decide +kernel
theorem qw772 : lw_tbl[772]? = some (.fieldLink "HangerRailModel" (37) "HangerRailModel" "numbers" "[J") := by decide +kernel
theorem qw773 : lw_tbl[773]? = some (.fieldLink "HangerRailModel" (41) "HangerRailModel" "moved" "[J") := by decide +kernel
theorem qw813 : lw_tbl[813]? = some (.methodLink "HangerRailLaw" (17) ⟨"HangerRailModel", "hanger", "(I)I"⟩) := by decide +kernel
theorem qw814 : lw_tbl[814]? = some (.instanceMethod ⟨"HangerRailModel", "hanger", "(I)I"⟩) := by decide +kernel
theorem qw815 : lw_tbl[815]? = some (.selects "HangerRailModel" ⟨"HangerRailModel", "hanger", "(I)I"⟩ ⟨"HangerRailModel", "hanger", "(I)I"⟩) := by decide +kernel
theorem qw817 : lw_tbl[817]? = some (.methodLink "HangerRailModel" (60) ⟨"HangerRailModel", "isKind", "(I)Z"⟩) := by decide +kernel
theorem qw818 : lw_tbl[818]? = some (.static ⟨"HangerRailModel", "isKind", "(I)Z"⟩) := by decide +kernel
theorem qw820 : lw_tbl[820]? = some (.constantLong "HangerRailModel" (51) (5)) := by decide +kernel
theorem qw821 : lw_tbl[821]? = some (.methodLink "HangerRailModel" (47) ⟨"HangerRailModel", "in", "(JJJ)Z"⟩) := by decide +kernel
theorem qw822 : lw_tbl[822]? = some (.static ⟨"HangerRailModel", "in", "(JJJ)Z"⟩) := by decide +kernel
theorem qw824 : lw_tbl[824]? = some (.constant "HangerRailModel" (44) (-1000000001)) := by decide +kernel
theorem qw825 : lw_tbl[825]? = some (.methodLink "HangerRailModel" (64) ⟨"HangerRailModel", "finds", "(I)I"⟩) := by decide +kernel
theorem qw827 : lw_tbl[827]? = some (.instanceMethod ⟨"HangerRailModel", "finds", "(I)I"⟩) := by decide +kernel
theorem qw829 : lw_tbl[829]? = some (.constant "HangerRailModel" (68) (-1000000002)) := by decide +kernel
theorem qw830 : lw_tbl[830]? = some (.methodLink "HangerRailModel" (69) ⟨"HangerRailModel", "adds", "(I)I"⟩) := by decide +kernel
theorem qw832 : lw_tbl[832]? = some (.instanceMethod ⟨"HangerRailModel", "adds", "(I)I"⟩) := by decide +kernel
theorem qw834 : lw_tbl[834]? = some (.methodLink "HangerRailModel" (53) ⟨"HangerRailModel", "spotOf", "(II)I"⟩) := by decide +kernel
theorem qw835 : lw_tbl[835]? = some (.static ⟨"HangerRailModel", "spotOf", "(II)I"⟩) := by decide +kernel
theorem qw837 : lw_tbl[837]? = some (.methodLink "HangerRailLaw" (22) ⟨"HangerRailModel", "of", "(II)I"⟩) := by decide +kernel
theorem qw838 : lw_tbl[838]? = some (.instanceMethod ⟨"HangerRailModel", "of", "(II)I"⟩) := by decide +kernel
theorem qw839 : lw_tbl[839]? = some (.selects "HangerRailModel" ⟨"HangerRailModel", "of", "(II)I"⟩ ⟨"HangerRailModel", "of", "(II)I"⟩) := by decide +kernel
theorem qw841 : lw_tbl[841]? = some (.methodLink "HangerRailModel" (72) ⟨"HangerRailModel", "isHanger", "(I)Z"⟩) := by decide +kernel
theorem qw843 : lw_tbl[843]? = some (.instanceMethod ⟨"HangerRailModel", "isHanger", "(I)Z"⟩) := by decide +kernel
theorem qw845 : lw_tbl[845]? = some (.constantLong "HangerRailModel" (75) (6)) := by decide +kernel
theorem qw846 : lw_tbl[846]? = some (.methodLink "HangerRailModel" (57) ⟨"HangerRailModel", "its", "(II)I"⟩) := by decide +kernel
theorem qw848 : lw_tbl[848]? = some (.instanceMethod ⟨"HangerRailModel", "its", "(II)I"⟩) := by decide +kernel
theorem qw850 : lw_tbl[850]? = some (.methodLink "HangerRailModel" (77) ⟨"HangerRailModel", "holds", "(I)I"⟩) := by decide +kernel
theorem qw852 : lw_tbl[852]? = some (.instanceMethod ⟨"HangerRailModel", "holds", "(I)I"⟩) := by decide +kernel
theorem qw854 : lw_tbl[854]? = some (.methodLink "HangerRailModel" (80) ⟨"HangerRailModel", "needs", "(I)I"⟩) := by decide +kernel
theorem qw856 : lw_tbl[856]? = some (.instanceMethod ⟨"HangerRailModel", "needs", "(I)I"⟩) := by decide +kernel
theorem qw858 : lw_tbl[858]? = some (.methodLink "HangerRailLaw" (27) ⟨"HangerRailModel", "set", "(III)I"⟩) := by decide +kernel
theorem qw859 : lw_tbl[859]? = some (.instanceMethod ⟨"HangerRailModel", "set", "(III)I"⟩) := by decide +kernel
theorem qw860 : lw_tbl[860]? = some (.selects "HangerRailModel" ⟨"HangerRailModel", "set", "(III)I"⟩ ⟨"HangerRailModel", "set", "(III)I"⟩) := by decide +kernel
theorem qw862 : lw_tbl[862]? = some (.constantLong "HangerRailModel" (83) (9)) := by decide +kernel
theorem qw863 : lw_tbl[863]? = some (.constantLong "HangerRailModel" (85) (15)) := by decide +kernel
theorem qw864 : lw_tbl[864]? = some (.methodLink "HangerRailModel" (87) ⟨"HangerRailModel", "becomes", "(II)I"⟩) := by decide +kernel
theorem qw866 : lw_tbl[866]? = some (.instanceMethod ⟨"HangerRailModel", "becomes", "(II)I"⟩) := by decide +kernel
theorem qw868 : lw_tbl[868]? = some (.methodLink "HangerRailLaw" (31) ⟨"HangerRailModel", "turn", "(II)I"⟩) := by decide +kernel
theorem qw869 : lw_tbl[869]? = some (.instanceMethod ⟨"HangerRailModel", "turn", "(II)I"⟩) := by decide +kernel
theorem qw870 : lw_tbl[870]? = some (.selects "HangerRailModel" ⟨"HangerRailModel", "turn", "(II)I"⟩ ⟨"HangerRailModel", "turn", "(II)I"⟩) := by decide +kernel
theorem qw872 : lw_tbl[872]? = some (.methodLink "HangerRailLaw" (35) ⟨"HangerRailModel", "as", "(II)I"⟩) := by decide +kernel
theorem qw873 : lw_tbl[873]? = some (.instanceMethod ⟨"HangerRailModel", "as", "(II)I"⟩) := by decide +kernel
theorem qw874 : lw_tbl[874]? = some (.selects "HangerRailModel" ⟨"HangerRailModel", "as", "(II)I"⟩ ⟨"HangerRailModel", "as", "(II)I"⟩) := by decide +kernel
theorem qw876 : lw_tbl[876]? = some (.methodLink "HangerRailModel" (90) ⟨"HangerRailModel", "isUnder", "(II)Z"⟩) := by decide +kernel
theorem qw877 : lw_tbl[877]? = some (.static ⟨"HangerRailModel", "isUnder", "(II)Z"⟩) := by decide +kernel
theorem qw879 : lw_tbl[879]? = some (.constant "HangerRailModel" (94) (-1000000003)) := by decide +kernel
theorem qw880 : lw_tbl[880]? = some (.methodLink "HangerRailLaw" (39) ⟨"HangerRailModel", "price", "(I)I"⟩) := by decide +kernel
theorem qw881 : lw_tbl[881]? = some (.instanceMethod ⟨"HangerRailModel", "price", "(I)I"⟩) := by decide +kernel
theorem qw882 : lw_tbl[882]? = some (.selects "HangerRailModel" ⟨"HangerRailModel", "price", "(I)I"⟩ ⟨"HangerRailModel", "price", "(I)I"⟩) := by decide +kernel
theorem qw884 : lw_tbl[884]? = some (.constantLong "HangerRailModel" (95) (99)) := by decide +kernel
theorem qw885 : lw_tbl[885]? = some (.methodLink "HangerRailLaw" (43) ⟨"HangerRailModel", "at", "(I)I"⟩) := by decide +kernel
theorem qw886 : lw_tbl[886]? = some (.instanceMethod ⟨"HangerRailModel", "at", "(I)I"⟩) := by decide +kernel
theorem qw887 : lw_tbl[887]? = some (.selects "HangerRailModel" ⟨"HangerRailModel", "at", "(I)I"⟩ ⟨"HangerRailModel", "at", "(I)I"⟩) := by decide +kernel
theorem qw889 : lw_tbl[889]? = some (.methodLink "HangerRailModel" (97) ⟨"HangerRailModel", "isPlace", "(I)Z"⟩) := by decide +kernel
theorem qw890 : lw_tbl[890]? = some (.static ⟨"HangerRailModel", "isPlace", "(I)Z"⟩) := by decide +kernel
theorem qw892 : lw_tbl[892]? = some (.constantLong "HangerRailModel" (45) (23)) := by decide +kernel
theorem qw893 : lw_tbl[893]? = some (.methodLink "HangerRailModel" (100) ⟨"HangerRailModel", "who", "(I)I"⟩) := by decide +kernel
theorem qw895 : lw_tbl[895]? = some (.instanceMethod ⟨"HangerRailModel", "who", "(I)I"⟩) := by decide +kernel
theorem qw897 : lw_tbl[897]? = some (.constant "HangerRailModel" (103) (-1000000004)) := by decide +kernel
theorem qw898 : lw_tbl[898]? = some (.methodLink "HangerRailLaw" (47) ⟨"HangerRailModel", "hang", "(II)I"⟩) := by decide +kernel
theorem qw899 : lw_tbl[899]? = some (.instanceMethod ⟨"HangerRailModel", "hang", "(II)I"⟩) := by decide +kernel
theorem qw900 : lw_tbl[900]? = some (.selects "HangerRailModel" ⟨"HangerRailModel", "hang", "(II)I"⟩ ⟨"HangerRailModel", "hang", "(II)I"⟩) := by decide +kernel
theorem qw902 : lw_tbl[902]? = some (.methodLink "HangerRailModel" (104) ⟨"HangerRailModel", "isOn", "(I)Z"⟩) := by decide +kernel
theorem qw904 : lw_tbl[904]? = some (.instanceMethod ⟨"HangerRailModel", "isOn", "(I)Z"⟩) := by decide +kernel
theorem qw906 : lw_tbl[906]? = some (.methodLink "HangerRailModel" (109) ⟨"HangerRailModel", "isFree", "(I)Z"⟩) := by decide +kernel
theorem qw908 : lw_tbl[908]? = some (.instanceMethod ⟨"HangerRailModel", "isFree", "(I)Z"⟩) := by decide +kernel
theorem qw910 : lw_tbl[910]? = some (.constant "HangerRailModel" (112) (-1000000005)) := by decide +kernel
theorem qw911 : lw_tbl[911]? = some (.methodLink "HangerRailModel" (113) ⟨"HangerRailModel", "hangs", "(II)V"⟩) := by decide +kernel
theorem qw913 : lw_tbl[913]? = some (.instanceMethod ⟨"HangerRailModel", "hangs", "(II)V"⟩) := by decide +kernel
theorem qw915 : lw_tbl[915]? = some (.methodLink "HangerRailModel" (107) ⟨"HangerRailModel", "moved", "()V"⟩) := by decide +kernel
theorem qw917 : lw_tbl[917]? = some (.instanceMethod ⟨"HangerRailModel", "moved", "()V"⟩) := by decide +kernel
theorem qw919 : lw_tbl[919]? = some (.methodLink "HangerRailModel" (117) ⟨"HangerRailModel", "onRail", "()I"⟩) := by decide +kernel
theorem qw921 : lw_tbl[921]? = some (.instanceMethod ⟨"HangerRailModel", "onRail", "()I"⟩) := by decide +kernel
theorem qw923 : lw_tbl[923]? = some (.methodLink "HangerRailModel" (121) ⟨"HangerRailModel", "ones", "(I)I"⟩) := by decide +kernel
theorem qw924 : lw_tbl[924]? = some (.static ⟨"HangerRailModel", "ones", "(I)I"⟩) := by decide +kernel
theorem qw926 : lw_tbl[926]? = some (.methodLink "HangerRailLaw" (51) ⟨"HangerRailModel", "face", "(I)I"⟩) := by decide +kernel
theorem qw927 : lw_tbl[927]? = some (.instanceMethod ⟨"HangerRailModel", "face", "(I)I"⟩) := by decide +kernel
theorem qw928 : lw_tbl[928]? = some (.selects "HangerRailModel" ⟨"HangerRailModel", "face", "(I)I"⟩ ⟨"HangerRailModel", "face", "(I)I"⟩) := by decide +kernel
theorem qw930 : lw_tbl[930]? = some (.methodLink "HangerRailLaw" (55) ⟨"HangerRailModel", "shift", "(II)I"⟩) := by decide +kernel
theorem qw931 : lw_tbl[931]? = some (.instanceMethod ⟨"HangerRailModel", "shift", "(II)I"⟩) := by decide +kernel
theorem qw932 : lw_tbl[932]? = some (.selects "HangerRailModel" ⟨"HangerRailModel", "shift", "(II)I"⟩ ⟨"HangerRailModel", "shift", "(II)I"⟩) := by decide +kernel
theorem qw934 : lw_tbl[934]? = some (.constantLong "HangerRailModel" (124) (-24)) := by decide +kernel
theorem qw935 : lw_tbl[935]? = some (.constantLong "HangerRailModel" (126) (24)) := by decide +kernel
theorem qw936 : lw_tbl[936]? = some (.methodLink "HangerRailLaw" (59) ⟨"HangerRailModel", "take", "(II)I"⟩) := by decide +kernel
theorem qw937 : lw_tbl[937]? = some (.instanceMethod ⟨"HangerRailModel", "take", "(II)I"⟩) := by decide +kernel
theorem qw938 : lw_tbl[938]? = some (.selects "HangerRailModel" ⟨"HangerRailModel", "take", "(II)I"⟩ ⟨"HangerRailModel", "take", "(II)I"⟩) := by decide +kernel
theorem qw940 : lw_tbl[940]? = some (.methodLink "HangerRailModel" (154) ⟨"HangerRailModel", "wrongTaking", "(II)I"⟩) := by decide +kernel
theorem qw942 : lw_tbl[942]? = some (.instanceMethod ⟨"HangerRailModel", "wrongTaking", "(II)I"⟩) := by decide +kernel
theorem qw944 : lw_tbl[944]? = some (.methodLink "HangerRailModel" (145) ⟨"HangerRailModel", "isManner", "(I)Z"⟩) := by decide +kernel
theorem qw945 : lw_tbl[945]? = some (.static ⟨"HangerRailModel", "isManner", "(I)Z"⟩) := by decide +kernel
theorem qw947 : lw_tbl[947]? = some (.constantLong "HangerRailModel" (143) (2)) := by decide +kernel
theorem qw948 : lw_tbl[948]? = some (.methodLink "HangerRailModel" (148) ⟨"HangerRailModel", "mayTake", "(II)Z"⟩) := by decide +kernel
theorem qw950 : lw_tbl[950]? = some (.instanceMethod ⟨"HangerRailModel", "mayTake", "(II)Z"⟩) := by decide +kernel
theorem qw952 : lw_tbl[952]? = some (.methodLink "HangerRailModel" (157) ⟨"HangerRailModel", "takes", "(II)I"⟩) := by decide +kernel
theorem qw954 : lw_tbl[954]? = some (.instanceMethod ⟨"HangerRailModel", "takes", "(II)I"⟩) := by decide +kernel
theorem qw956 : lw_tbl[956]? = some (.methodLink "HangerRailModel" (140) ⟨"HangerRailModel", "comesBy", "(II)I"⟩) := by decide +kernel
theorem qw958 : lw_tbl[958]? = some (.instanceMethod ⟨"HangerRailModel", "comesBy", "(II)I"⟩) := by decide +kernel
theorem qw960 : lw_tbl[960]? = some (.methodLink "HangerRailModel" (137) ⟨"HangerRailModel", "heapOf", "(I)I"⟩) := by decide +kernel
theorem qw962 : lw_tbl[962]? = some (.instanceMethod ⟨"HangerRailModel", "heapOf", "(I)I"⟩) := by decide +kernel
theorem qw964 : lw_tbl[964]? = some (.methodLink "HangerRailModel" (134) ⟨"HangerRailModel", "tangledWith", "(I)I"⟩) := by decide +kernel
theorem qw966 : lw_tbl[966]? = some (.instanceMethod ⟨"HangerRailModel", "tangledWith", "(I)I"⟩) := by decide +kernel
theorem qw968 : lw_tbl[968]? = some (.methodLink "HangerRailModel" (131) ⟨"HangerRailModel", "areTangled", "(II)Z"⟩) := by decide +kernel
theorem qw970 : lw_tbl[970]? = some (.instanceMethod ⟨"HangerRailModel", "areTangled", "(II)Z"⟩) := by decide +kernel
theorem qw972 : lw_tbl[972]? = some (.methodLink "HangerRailModel" (128) ⟨"HangerRailModel", "isCaught", "(II)Z"⟩) := by decide +kernel
theorem qw974 : lw_tbl[974]? = some (.instanceMethod ⟨"HangerRailModel", "isCaught", "(II)Z"⟩) := by decide +kernel
theorem qw976 : lw_tbl[976]? = some (.methodLink "HangerRailModel" (151) ⟨"HangerRailModel", "fallers", "(II)I"⟩) := by decide +kernel
theorem qw978 : lw_tbl[978]? = some (.instanceMethod ⟨"HangerRailModel", "fallers", "(II)I"⟩) := by decide +kernel
theorem qw980 : lw_tbl[980]? = some (.methodLink "HangerRailLaw" (63) ⟨"HangerRailModel", "now", "(I)I"⟩) := by decide +kernel
theorem qw981 : lw_tbl[981]? = some (.instanceMethod ⟨"HangerRailModel", "now", "(I)I"⟩) := by decide +kernel
theorem qw982 : lw_tbl[982]? = some (.selects "HangerRailModel" ⟨"HangerRailModel", "now", "(I)I"⟩ ⟨"HangerRailModel", "now", "(I)I"⟩) := by decide +kernel
theorem qw984 : lw_tbl[984]? = some (.methodLink "HangerRailModel" (160) ⟨"HangerRailModel", "pairs", "()I"⟩) := by decide +kernel
theorem qw986 : lw_tbl[986]? = some (.instanceMethod ⟨"HangerRailModel", "pairs", "()I"⟩) := by decide +kernel
theorem qw988 : lw_tbl[988]? = some (.methodLink "HangerRailModel" (163) ⟨"HangerRailModel", "shirts", "()I"⟩) := by decide +kernel
theorem qw990 : lw_tbl[990]? = some (.instanceMethod ⟨"HangerRailModel", "shirts", "()I"⟩) := by decide +kernel
theorem qw992 : lw_tbl[992]? = some (.methodLink "HangerRailModel" (166) ⟨"HangerRailModel", "together", "(I)I"⟩) := by decide +kernel
theorem qw994 : lw_tbl[994]? = some (.instanceMethod ⟨"HangerRailModel", "together", "(I)I"⟩) := by decide +kernel
theorem qw996 : lw_tbl[996]? = some (.methodLink "HangerRailLaw" (67) ⟨"HangerRailModel", "tangled", "(I)I"⟩) := by decide +kernel
theorem qw997 : lw_tbl[997]? = some (.instanceMethod ⟨"HangerRailModel", "tangled", "(I)I"⟩) := by decide +kernel
theorem qw998 : lw_tbl[998]? = some (.selects "HangerRailModel" ⟨"HangerRailModel", "tangled", "(I)I"⟩ ⟨"HangerRailModel", "tangled", "(I)I"⟩) := by decide +kernel
theorem qw1000 : lw_tbl[1000]? = some (.methodLink "HangerRailLaw" (71) ⟨"HangerRailModel", "catches", "(II)I"⟩) := by decide +kernel
theorem qw1001 : lw_tbl[1001]? = some (.instanceMethod ⟨"HangerRailModel", "catches", "(II)I"⟩) := by decide +kernel
theorem qw1002 : lw_tbl[1002]? = some (.selects "HangerRailModel" ⟨"HangerRailModel", "catches", "(II)I"⟩ ⟨"HangerRailModel", "catches", "(II)I"⟩) := by decide +kernel
theorem qw1004 : lw_tbl[1004]? = some (.methodLink "HangerRailLaw" (75) ⟨"HangerRailModel", "comes", "(II)I"⟩) := by decide +kernel
theorem qw1005 : lw_tbl[1005]? = some (.instanceMethod ⟨"HangerRailModel", "comes", "(II)I"⟩) := by decide +kernel
theorem qw1006 : lw_tbl[1006]? = some (.selects "HangerRailModel" ⟨"HangerRailModel", "comes", "(II)I"⟩ ⟨"HangerRailModel", "comes", "(II)I"⟩) := by decide +kernel
theorem qw1008 : lw_tbl[1008]? = some (.methodLink "HangerRailLaw" (79) ⟨"HangerRailModel", "falls", "(II)I"⟩) := by decide +kernel
theorem qw1009 : lw_tbl[1009]? = some (.instanceMethod ⟨"HangerRailModel", "falls", "(II)I"⟩) := by decide +kernel
theorem qw1010 : lw_tbl[1010]? = some (.selects "HangerRailModel" ⟨"HangerRailModel", "falls", "(II)I"⟩ ⟨"HangerRailModel", "falls", "(II)I"⟩) := by decide +kernel
theorem qw1012 : lw_tbl[1012]? = some (.methodLink "HangerRailLaw" (84) ⟨"HangerRailModel", "heaps", "()I"⟩) := by decide +kernel
theorem qw1013 : lw_tbl[1013]? = some (.instanceMethod ⟨"HangerRailModel", "heaps", "()I"⟩) := by decide +kernel
theorem qw1014 : lw_tbl[1014]? = some (.selects "HangerRailModel" ⟨"HangerRailModel", "heaps", "()I"⟩ ⟨"HangerRailModel", "heaps", "()I"⟩) := by decide +kernel
theorem qw1016 : lw_tbl[1016]? = some (.methodLink "HangerRailModel" (176) ⟨"HangerRailModel", "findHeaps", "()V"⟩) := by decide +kernel
theorem qw1018 : lw_tbl[1018]? = some (.instanceMethod ⟨"HangerRailModel", "findHeaps", "()V"⟩) := by decide +kernel
theorem qw1020 : lw_tbl[1020]? = some (.methodLink "HangerRailLaw" (88) ⟨"HangerRailModel", "greatest", "()I"⟩) := by decide +kernel
theorem qw1021 : lw_tbl[1021]? = some (.instanceMethod ⟨"HangerRailModel", "greatest", "()I"⟩) := by decide +kernel
theorem qw1022 : lw_tbl[1022]? = some (.selects "HangerRailModel" ⟨"HangerRailModel", "greatest", "()I"⟩ ⟨"HangerRailModel", "greatest", "()I"⟩) := by decide +kernel
theorem qw1024 : lw_tbl[1024]? = some (.methodLink "HangerRailLaw" (92) ⟨"HangerRailModel", "manner", "(I)I"⟩) := by decide +kernel
theorem qw1025 : lw_tbl[1025]? = some (.instanceMethod ⟨"HangerRailModel", "manner", "(I)I"⟩) := by decide +kernel
theorem qw1026 : lw_tbl[1026]? = some (.selects "HangerRailModel" ⟨"HangerRailModel", "manner", "(I)I"⟩ ⟨"HangerRailModel", "manner", "(I)I"⟩) := by decide +kernel
theorem qw1028 : lw_tbl[1028]? = some (.methodLink "HangerRailLaw" (96) ⟨"HangerRailModel", "first", "()I"⟩) := by decide +kernel
theorem qw1029 : lw_tbl[1029]? = some (.instanceMethod ⟨"HangerRailModel", "first", "()I"⟩) := by decide +kernel
theorem qw1030 : lw_tbl[1030]? = some (.selects "HangerRailModel" ⟨"HangerRailModel", "first", "()I"⟩ ⟨"HangerRailModel", "first", "()I"⟩) := by decide +kernel
theorem qw1032 : lw_tbl[1032]? = some (.methodLink "HangerRailLaw" (100) ⟨"HangerRailModel", "spot", "(I)I"⟩) := by decide +kernel
theorem qw1033 : lw_tbl[1033]? = some (.instanceMethod ⟨"HangerRailModel", "spot", "(I)I"⟩) := by decide +kernel
theorem qw1034 : lw_tbl[1034]? = some (.selects "HangerRailModel" ⟨"HangerRailModel", "spot", "(I)I"⟩ ⟨"HangerRailModel", "spot", "(I)I"⟩) := by decide +kernel
theorem qw1036 : lw_tbl[1036]? = some (.methodLink "HangerRailLaw" (104) ⟨"HangerRailModel", "facing", "()I"⟩) := by decide +kernel
theorem qw1037 : lw_tbl[1037]? = some (.instanceMethod ⟨"HangerRailModel", "facing", "()I"⟩) := by decide +kernel
theorem qw1038 : lw_tbl[1038]? = some (.selects "HangerRailModel" ⟨"HangerRailModel", "facing", "()I"⟩ ⟨"HangerRailModel", "facing", "()I"⟩) := by decide +kernel
theorem qw1040 : lw_tbl[1040]? = some (.methodLink "HangerRailModel" (179) ⟨"HangerRailModel", "facesAll", "(I)V"⟩) := by decide +kernel
theorem qw1042 : lw_tbl[1042]? = some (.instanceMethod ⟨"HangerRailModel", "facesAll", "(I)V"⟩) := by decide +kernel
theorem qw1044 : lw_tbl[1044]? = some (.methodLink "HangerRailLaw" (108) ⟨"HangerRailModel", "clears", "(I)I"⟩) := by decide +kernel
theorem qw1045 : lw_tbl[1045]? = some (.instanceMethod ⟨"HangerRailModel", "clears", "(I)I"⟩) := by decide +kernel
theorem qw1046 : lw_tbl[1046]? = some (.selects "HangerRailModel" ⟨"HangerRailModel", "clears", "(I)I"⟩ ⟨"HangerRailModel", "clears", "(I)I"⟩) := by decide +kernel
theorem qw1048 : lw_tbl[1048]? = some (.methodLink "HangerRailModel" (183) ⟨"HangerRailModel", "laysAside", "()V"⟩) := by decide +kernel
theorem qw1050 : lw_tbl[1050]? = some (.instanceMethod ⟨"HangerRailModel", "laysAside", "()V"⟩) := by decide +kernel
theorem qw1052 : lw_tbl[1052]? = some (.methodLink "HangerRailModel" (186) ⟨"HangerRailModel", "takesBack", "(I)I"⟩) := by decide +kernel
theorem qw1054 : lw_tbl[1054]? = some (.instanceMethod ⟨"HangerRailModel", "takesBack", "(I)I"⟩) := by decide +kernel
theorem qw1056 : lw_tbl[1056]? = some (.methodLink "HangerRailLaw" (112) ⟨"HangerRailModel", "untangle", "()I"⟩) := by decide +kernel
theorem qw1057 : lw_tbl[1057]? = some (.instanceMethod ⟨"HangerRailModel", "untangle", "()I"⟩) := by decide +kernel
theorem qw1058 : lw_tbl[1058]? = some (.selects "HangerRailModel" ⟨"HangerRailModel", "untangle", "()I"⟩ ⟨"HangerRailModel", "untangle", "()I"⟩) := by decide +kernel
theorem qw1060 : lw_tbl[1060]? = some (.methodLink "HangerRailModel" (192) ⟨"HangerRailModel", "fewestAway", "()I"⟩) := by decide +kernel
theorem qw1062 : lw_tbl[1062]? = some (.instanceMethod ⟨"HangerRailModel", "fewestAway", "()I"⟩) := by decide +kernel
theorem qw1064 : lw_tbl[1064]? = some (.methodLink "HangerRailModel" (189) ⟨"HangerRailModel", "isUntangled", "(I)Z"⟩) := by decide +kernel
theorem qw1066 : lw_tbl[1066]? = some (.instanceMethod ⟨"HangerRailModel", "isUntangled", "(I)Z"⟩) := by decide +kernel
theorem qw1068 : lw_tbl[1068]? = some (.methodLink "HangerRailLaw" (116) ⟨"HangerRailModel", "saves", "()I"⟩) := by decide +kernel
theorem qw1069 : lw_tbl[1069]? = some (.instanceMethod ⟨"HangerRailModel", "saves", "()I"⟩) := by decide +kernel
theorem qw1070 : lw_tbl[1070]? = some (.selects "HangerRailModel" ⟨"HangerRailModel", "saves", "()I"⟩ ⟨"HangerRailModel", "saves", "()I"⟩) := by decide +kernel
theorem qw1072 : lw_tbl[1072]? = some (.methodLink "HangerRailLaw" (120) ⟨"HangerRailModel", "feels", "(I)I"⟩) := by decide +kernel
theorem qw1073 : lw_tbl[1073]? = some (.instanceMethod ⟨"HangerRailModel", "feels", "(I)I"⟩) := by decide +kernel
theorem qw1074 : lw_tbl[1074]? = some (.selects "HangerRailModel" ⟨"HangerRailModel", "feels", "(I)I"⟩ ⟨"HangerRailModel", "feels", "(I)I"⟩) := by decide +kernel
theorem qw1076 : lw_tbl[1076]? = some (.methodLink "HangerRailLaw" (124) ⟨"HangerRailModel", "kind", "(I)I"⟩) := by decide +kernel
theorem qw1077 : lw_tbl[1077]? = some (.instanceMethod ⟨"HangerRailModel", "kind", "(I)I"⟩) := by decide +kernel
theorem qw1078 : lw_tbl[1078]? = some (.selects "HangerRailModel" ⟨"HangerRailModel", "kind", "(I)I"⟩ ⟨"HangerRailModel", "kind", "(I)I"⟩) := by decide +kernel
theorem qw1080 : lw_tbl[1080]? = some (.methodLink "HangerRailLaw" (128) ⟨"HangerRailModel", "feed", "(II)I"⟩) := by decide +kernel
theorem qw1081 : lw_tbl[1081]? = some (.instanceMethod ⟨"HangerRailModel", "feed", "(II)I"⟩) := by decide +kernel
theorem qw1082 : lw_tbl[1082]? = some (.selects "HangerRailModel" ⟨"HangerRailModel", "feed", "(II)I"⟩ ⟨"HangerRailModel", "feed", "(II)I"⟩) := by decide +kernel
theorem qw1084 : lw_tbl[1084]? = some (.constantLong "HangerRailModel" (195) (4)) := by decide +kernel
theorem qw1085 : lw_tbl[1085]? = some (.methodLink "HangerRailLaw" (132) ⟨"HangerRailModel", "wipe", "()I"⟩) := by decide +kernel
theorem qw1086 : lw_tbl[1086]? = some (.instanceMethod ⟨"HangerRailModel", "wipe", "()I"⟩) := by decide +kernel
theorem qw1087 : lw_tbl[1087]? = some (.selects "HangerRailModel" ⟨"HangerRailModel", "wipe", "()I"⟩ ⟨"HangerRailModel", "wipe", "()I"⟩) := by decide +kernel
theorem qw1089 : lw_tbl[1089]? = some (.methodLink "HangerRailLaw" (136) ⟨"HangerRailModel", "rail", "()I"⟩) := by decide +kernel
theorem qw1090 : lw_tbl[1090]? = some (.instanceMethod ⟨"HangerRailModel", "rail", "()I"⟩) := by decide +kernel
theorem qw1091 : lw_tbl[1091]? = some (.selects "HangerRailModel" ⟨"HangerRailModel", "rail", "()I"⟩ ⟨"HangerRailModel", "rail", "()I"⟩) := by decide +kernel
theorem qw1093 : lw_tbl[1093]? = some (.methodLink "HangerRailModel" (282) ⟨"HangerRailModel", "keepsAside", "()V"⟩) := by decide +kernel
theorem qw1095 : lw_tbl[1095]? = some (.instanceMethod ⟨"HangerRailModel", "keepsAside", "()V"⟩) := by decide +kernel
theorem qw1097 : lw_tbl[1097]? = some (.methodLink "HangerRailModel" (227) ⟨"HangerRailModel", "token", "()V"⟩) := by decide +kernel
theorem qw1099 : lw_tbl[1099]? = some (.instanceMethod ⟨"HangerRailModel", "token", "()V"⟩) := by decide +kernel
theorem qw1101 : lw_tbl[1101]? = some (.methodLink "HangerRailModel" (214) ⟨"HangerRailModel", "byteAt", "(I)I"⟩) := by decide +kernel
theorem qw1103 : lw_tbl[1103]? = some (.instanceMethod ⟨"HangerRailModel", "byteAt", "(I)I"⟩) := by decide +kernel
theorem qw1105 : lw_tbl[1105]? = some (.methodLink "HangerRailModel" (217) ⟨"HangerRailModel", "isLetter", "(I)Z"⟩) := by decide +kernel
theorem qw1106 : lw_tbl[1106]? = some (.static ⟨"HangerRailModel", "isLetter", "(I)Z"⟩) := by decide +kernel
theorem qw1108 : lw_tbl[1108]? = some (.constantLong "HangerRailModel" (200) (97)) := by decide +kernel
theorem qw1109 : lw_tbl[1109]? = some (.constantLong "HangerRailModel" (202) (122)) := by decide +kernel
theorem qw1110 : lw_tbl[1110]? = some (.methodLink "HangerRailModel" (220) ⟨"HangerRailModel", "isDigit", "(I)Z"⟩) := by decide +kernel
theorem qw1111 : lw_tbl[1111]? = some (.static ⟨"HangerRailModel", "isDigit", "(I)Z"⟩) := by decide +kernel
theorem qw1113 : lw_tbl[1113]? = some (.constantLong "HangerRailModel" (204) (48)) := by decide +kernel
theorem qw1114 : lw_tbl[1114]? = some (.constantLong "HangerRailModel" (206) (57)) := by decide +kernel
theorem qw1115 : lw_tbl[1115]? = some (.methodLink "HangerRailModel" (285) ⟨"HangerRailModel", "item", "()V"⟩) := by decide +kernel
theorem qw1117 : lw_tbl[1117]? = some (.instanceMethod ⟨"HangerRailModel", "item", "()V"⟩) := by decide +kernel
theorem qw1119 : lw_tbl[1119]? = some (.methodLink "HangerRailModel" (274) ⟨"HangerRailModel", "kindHere", "()I"⟩) := by decide +kernel
theorem qw1121 : lw_tbl[1121]? = some (.instanceMethod ⟨"HangerRailModel", "kindHere", "()I"⟩) := by decide +kernel
theorem qw1123 : lw_tbl[1123]? = some (.methodLink "HangerRailModel" (241) ⟨"HangerRailModel", "word", "()J"⟩) := by decide +kernel
theorem qw1125 : lw_tbl[1125]? = some (.instanceMethod ⟨"HangerRailModel", "word", "()J"⟩) := by decide +kernel
theorem qw1127 : lw_tbl[1127]? = some (.constantLong "HangerRailModel" (230) (36028797018963967)) := by decide +kernel
theorem qw1128 : lw_tbl[1128]? = some (.constantLong "HangerRailModel" (232) (32)) := by decide +kernel
theorem qw1129 : lw_tbl[1129]? = some (.constantLong "HangerRailModel" (245) (269950130)) := by decide +kernel
theorem qw1130 : lw_tbl[1130]? = some (.constantLong "HangerRailModel" (247) (763461)) := by decide +kernel
theorem qw1131 : lw_tbl[1131]? = some (.constantLong "HangerRailModel" (249) (769508)) := by decide +kernel
theorem qw1132 : lw_tbl[1132]? = some (.constantLong "HangerRailModel" (251) (71124)) := by decide +kernel
theorem qw1133 : lw_tbl[1133]? = some (.constantLong "HangerRailModel" (253) (20596784)) := by decide +kernel
theorem qw1134 : lw_tbl[1134]? = some (.constantLong "HangerRailModel" (255) (2098)) := by decide +kernel
theorem qw1135 : lw_tbl[1135]? = some (.methodLink "HangerRailModel" (277) ⟨"HangerRailModel", "hangerItem", "(I)V"⟩) := by decide +kernel
theorem qw1137 : lw_tbl[1137]? = some (.instanceMethod ⟨"HangerRailModel", "hangerItem", "(I)V"⟩) := by decide +kernel
theorem qw1139 : lw_tbl[1139]? = some (.methodLink "HangerRailModel" (237) ⟨"HangerRailModel", "must", "(Z)V"⟩) := by decide +kernel
theorem qw1141 : lw_tbl[1141]? = some (.instanceMethod ⟨"HangerRailModel", "must", "(Z)V"⟩) := by decide +kernel
theorem qw1143 : lw_tbl[1143]? = some (.constantLong "HangerRailModel" (260) (52)) := by decide +kernel
theorem qw1144 : lw_tbl[1144]? = some (.methodLink "HangerRailModel" (262) ⟨"HangerRailModel", "atItem", "(I)V"⟩) := by decide +kernel
theorem qw1146 : lw_tbl[1146]? = some (.instanceMethod ⟨"HangerRailModel", "atItem", "(I)V"⟩) := by decide +kernel
theorem qw1148 : lw_tbl[1148]? = some (.methodLink "HangerRailModel" (257) ⟨"HangerRailModel", "numberHere", "()I"⟩) := by decide +kernel
theorem qw1150 : lw_tbl[1150]? = some (.instanceMethod ⟨"HangerRailModel", "numberHere", "()I"⟩) := by decide +kernel
theorem qw1152 : lw_tbl[1152]? = some (.constantLong "HangerRailModel" (265) (66667)) := by decide +kernel
theorem qw1153 : lw_tbl[1153]? = some (.constantLong "HangerRailModel" (267) (20194900)) := by decide +kernel
theorem qw1154 : lw_tbl[1154]? = some (.methodLink "HangerRailModel" (269) ⟨"HangerRailModel", "number", "(II)V"⟩) := by decide +kernel
theorem qw1156 : lw_tbl[1156]? = some (.instanceMethod ⟨"HangerRailModel", "number", "(II)V"⟩) := by decide +kernel
theorem qw1158 : lw_tbl[1158]? = some (.constantLong "HangerRailModel" (272) (201900)) := by decide +kernel
theorem qw1159 : lw_tbl[1159]? = some (.constantLong "HangerRailModel" (280) (17376357)) := by decide +kernel
theorem qw1160 : lw_tbl[1160]? = some (.methodLink "HangerRailModel" (288) ⟨"HangerRailModel", "putsBack", "()V"⟩) := by decide +kernel
theorem qw1162 : lw_tbl[1162]? = some (.instanceMethod ⟨"HangerRailModel", "putsBack", "()V"⟩) := by decide +kernel
theorem qw1164 : lw_tbl[1164]? = some (.methodLink "HangerRailLaw" (140) ⟨"HangerRailModel", "sheet", "(III)I"⟩) := by decide +kernel
theorem qw1165 : lw_tbl[1165]? = some (.instanceMethod ⟨"HangerRailModel", "sheet", "(III)I"⟩) := by decide +kernel
theorem qw1166 : lw_tbl[1166]? = some (.selects "HangerRailModel" ⟨"HangerRailModel", "sheet", "(III)I"⟩ ⟨"HangerRailModel", "sheet", "(III)I"⟩) := by decide +kernel
theorem qw1168 : lw_tbl[1168]? = some (.methodLink "HangerRailModel" (293) ⟨"HangerRailModel", "isOne", "(I)Z"⟩) := by decide +kernel
theorem qw1169 : lw_tbl[1169]? = some (.static ⟨"HangerRailModel", "isOne", "(I)Z"⟩) := by decide +kernel
theorem qw1171 : lw_tbl[1171]? = some (.constantLong "HangerRailModel" (291) (3)) := by decide +kernel
theorem qw1172 : lw_tbl[1172]? = some (.constant "HangerRailModel" (296) (-1000000007)) := by decide +kernel
theorem qw1173 : lw_tbl[1173]? = some (.methodLink "HangerRailLaw" (147) ⟨"HangerRailModel", "write", "(IIJ)J"⟩) := by decide +kernel
theorem qw1174 : lw_tbl[1174]? = some (.instanceMethod ⟨"HangerRailModel", "write", "(IIJ)J"⟩) := by decide +kernel
theorem qw1175 : lw_tbl[1175]? = some (.selects "HangerRailModel" ⟨"HangerRailModel", "write", "(IIJ)J"⟩ ⟨"HangerRailModel", "write", "(IIJ)J"⟩) := by decide +kernel
theorem qw1177 : lw_tbl[1177]? = some (.methodLink "HangerRailModel" (298) ⟨"HangerRailModel", "wrongSheet", "(I)I"⟩) := by decide +kernel
theorem qw1179 : lw_tbl[1179]? = some (.instanceMethod ⟨"HangerRailModel", "wrongSheet", "(I)I"⟩) := by decide +kernel
theorem qw1181 : lw_tbl[1181]? = some (.constant "HangerRailModel" (297) (-1000000006)) := by decide +kernel
theorem qw1182 : lw_tbl[1182]? = some (.methodLink "HangerRailModel" (301) ⟨"HangerRailModel", "narrowed", "(IJ)J"⟩) := by decide +kernel
theorem qw1183 : lw_tbl[1183]? = some (.static ⟨"HangerRailModel", "narrowed", "(IJ)J"⟩) := by decide +kernel
theorem qw1185 : lw_tbl[1185]? = some (.methodLink "HangerRailLaw" (152) ⟨"HangerRailModel", "copy", "(IIIII)I"⟩) := by decide +kernel
theorem qw1186 : lw_tbl[1186]? = some (.instanceMethod ⟨"HangerRailModel", "copy", "(IIIII)I"⟩) := by decide +kernel
theorem qw1187 : lw_tbl[1187]? = some (.selects "HangerRailModel" ⟨"HangerRailModel", "copy", "(IIIII)I"⟩ ⟨"HangerRailModel", "copy", "(IIIII)I"⟩) := by decide +kernel
theorem qw1189 : lw_tbl[1189]? = some (.methodLink "HangerRailLaw" (156) ⟨"HangerRailModel", "lays", "(I)I"⟩) := by decide +kernel
theorem qw1190 : lw_tbl[1190]? = some (.instanceMethod ⟨"HangerRailModel", "lays", "(I)I"⟩) := by decide +kernel
theorem qw1191 : lw_tbl[1191]? = some (.selects "HangerRailModel" ⟨"HangerRailModel", "lays", "(I)I"⟩ ⟨"HangerRailModel", "lays", "(I)I"⟩) := by decide +kernel
theorem qw1193 : lw_tbl[1193]? = some (.methodLink "HangerRailLaw" (160) ⟨"HangerRailModel", "book", "(I)I"⟩) := by decide +kernel
theorem qw1194 : lw_tbl[1194]? = some (.instanceMethod ⟨"HangerRailModel", "book", "(I)I"⟩) := by decide +kernel
theorem qw1195 : lw_tbl[1195]? = some (.selects "HangerRailModel" ⟨"HangerRailModel", "book", "(I)I"⟩ ⟨"HangerRailModel", "book", "(I)I"⟩) := by decide +kernel
theorem qw1197 : lw_tbl[1197]? = some (.constantLong "HangerRailModel" (305) (-1)) := by decide +kernel
theorem qw1198 : lw_tbl[1198]? = some (.methodLink "HangerRailLaw" (164) ⟨"HangerRailModel", "read", "(I)I"⟩) := by decide +kernel
theorem qw1199 : lw_tbl[1199]? = some (.instanceMethod ⟨"HangerRailModel", "read", "(I)I"⟩) := by decide +kernel
theorem qw1200 : lw_tbl[1200]? = some (.selects "HangerRailModel" ⟨"HangerRailModel", "read", "(I)I"⟩ ⟨"HangerRailModel", "read", "(I)I"⟩) := by decide +kernel
theorem qw1202 : lw_tbl[1202]? = some (.methodLink "HangerRailLaw" (168) ⟨"HangerRailModel", "image", "()I"⟩) := by decide +kernel
theorem qw1203 : lw_tbl[1203]? = some (.instanceMethod ⟨"HangerRailModel", "image", "()I"⟩) := by decide +kernel
theorem qw1204 : lw_tbl[1204]? = some (.selects "HangerRailModel" ⟨"HangerRailModel", "image", "()I"⟩ ⟨"HangerRailModel", "image", "()I"⟩) := by decide +kernel
theorem qw1206 : lw_tbl[1206]? = some (.methodLink "HangerRailLaw" (172) ⟨"HangerRailModel", "undo", "()I"⟩) := by decide +kernel
theorem qw1207 : lw_tbl[1207]? = some (.instanceMethod ⟨"HangerRailModel", "undo", "()I"⟩) := by decide +kernel
theorem qw1208 : lw_tbl[1208]? = some (.selects "HangerRailModel" ⟨"HangerRailModel", "undo", "()I"⟩ ⟨"HangerRailModel", "undo", "()I"⟩) := by decide +kernel
theorem qw1210 : lw_tbl[1210]? = some (.methodLink "HangerRailLaw" (176) ⟨"HangerRailModel", "tear", "()I"⟩) := by decide +kernel
theorem qw1211 : lw_tbl[1211]? = some (.instanceMethod ⟨"HangerRailModel", "tear", "()I"⟩) := by decide +kernel
theorem qw1212 : lw_tbl[1212]? = some (.selects "HangerRailModel" ⟨"HangerRailModel", "tear", "()I"⟩ ⟨"HangerRailModel", "tear", "()I"⟩) := by decide +kernel
theorem qw1214 : lw_tbl[1214]? = some (.methodLink "HangerRailLaw" (180) ⟨"HangerRailModel", "count", "(I)I"⟩) := by decide +kernel
theorem qw1215 : lw_tbl[1215]? = some (.instanceMethod ⟨"HangerRailModel", "count", "(I)I"⟩) := by decide +kernel
theorem qw1216 : lw_tbl[1216]? = some (.selects "HangerRailModel" ⟨"HangerRailModel", "count", "(I)I"⟩ ⟨"HangerRailModel", "count", "(I)I"⟩) := by decide +kernel
theorem qw1218 : lw_tbl[1218]? = some (.methodLink "HangerRailLaw" (184) ⟨"HangerRailModel", "status", "(I)I"⟩) := by decide +kernel
theorem qw1219 : lw_tbl[1219]? = some (.instanceMethod ⟨"HangerRailModel", "status", "(I)I"⟩) := by decide +kernel
theorem qw1220 : lw_tbl[1220]? = some (.selects "HangerRailModel" ⟨"HangerRailModel", "status", "(I)I"⟩ ⟨"HangerRailModel", "status", "(I)I"⟩) := by decide +kernel
theorem qw1222 : lw_tbl[1222]? = some (.constantLong "HangerRailLaw" (141) (4294967295)) := by decide +kernel
theorem qw1223 : lw_tbl[1223]? = some (.fieldLink "java/lang/String" (9) "java/lang/String" "value" "[B") := by decide +kernel
theorem qw1224 : lw_tbl[1224]? = some (.fieldLink "java/lang/String" (15) "java/lang/String" "coder" "B") := by decide +kernel
