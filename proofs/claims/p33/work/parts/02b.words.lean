/-! ===== the tables' words: TT, what of lw_tbl a callee may be told; each word by its place ===== -/
def TT : List Cond := lw_tbl.filter goodWord
theorem TT_in : ∀ w ∈ TT, w ∈ lw_tbl := fun _ h => (List.mem_filter.mp h).1
theorem TT_good : GoodIn TT TT := fun w h => ⟨h, good_of_word (List.mem_filter.mp h).2⟩
theorem tw_m {w : Cond} (i : Nat) (h : lw_tbl[i]? = some w) (g : goodWord w = true) : w ∈ TT := List.mem_filter.mpr ⟨List.mem_of_getElem? h, g⟩
theorem tw_l {ws : List Cond} (h : ∀ w ∈ ws, w ∈ lw_tbl) (g : ws.all goodWord = true) : ∀ w ∈ ws, w ∈ TT := fun w hw => List.mem_filter.mpr ⟨h w hw, List.all_eq_true.mp g w hw⟩
theorem tw_1 : Cond.selects RX0 yX0_partWithout yX0_partWithout ∈ TT := tw_m 1 (by decide +kernel) rfl
theorem tw_2 : Cond.selects RX11 yX11_hostOf yX11_hostOf ∈ TT := tw_m 2 (by decide +kernel) rfl
theorem tw_3 : Cond.selects RX11 yX11_digestHost yX11_digestHost ∈ TT := tw_m 3 (by decide +kernel) rfl
theorem tw_4 : Cond.selects RX11 yX11_needCable yX11_needCable ∈ TT := tw_m 4 (by decide +kernel) rfl
theorem tw_5 : Cond.selects RX3 yX3_layWays yX3_layWays ∈ TT := tw_m 5 (by decide +kernel) rfl
theorem tw_6 : Cond.selects RX3 yX3_portWithNetOf yX3_portWithNetOf ∈ TT := tw_m 6 (by decide +kernel) rfl
theorem tw_7 : Cond.selects RX3 yX3_routeFor yX3_routeFor ∈ TT := tw_m 7 (by decide +kernel) rfl
theorem tw_8 : Cond.selects RX3 yX3_layByRoute yX3_layByRoute ∈ TT := tw_m 8 (by decide +kernel) rfl
theorem tw_9 : Cond.selects RX3 yX3_layWay yX3_layWay ∈ TT := tw_m 9 (by decide +kernel) rfl
theorem tw_10 : Cond.selects RX9 yX9_bear yX9_bear ∈ TT := tw_m 10 (by decide +kernel) rfl
theorem tw_11 : Cond.selects RX9 yX9_goOut yX9_goOut ∈ TT := tw_m 11 (by decide +kernel) rfl
theorem tw_12 : Cond.selects RX9 yX9_accept yX9_accept ∈ TT := tw_m 12 (by decide +kernel) rfl
theorem tw_13 : Cond.selects RX9 yX9_wrap yX9_wrap ∈ TT := tw_m 13 (by decide +kernel) rfl
theorem tw_14 : Cond.selects RX9 yX9_complain yX9_complain ∈ TT := tw_m 14 (by decide +kernel) rfl
theorem tw_15 : Cond.selects RX9 yX9_goByPort yX9_goByPort ∈ TT := tw_m 15 (by decide +kernel) rfl
theorem tw_16 : Cond.selects RX9 yX9_goToHop yX9_goToHop ∈ TT := tw_m 16 (by decide +kernel) rfl
theorem tw_17 : Cond.selects RX2 yX2_dropFirstWaiting yX2_dropFirstWaiting ∈ TT := tw_m 17 (by decide +kernel) rfl
theorem tw_18 : Cond.selects RX9 yX9_hearQuestion yX9_hearQuestion ∈ TT := tw_m 18 (by decide +kernel) rfl
theorem tw_19 : Cond.selects RX9 yX9_hostWithMark yX9_hostWithMark ∈ TT := tw_m 19 (by decide +kernel) rfl
theorem tw_20 : Cond.selects RX9 yX9_hearReply yX9_hearReply ∈ TT := tw_m 20 (by decide +kernel) rfl
theorem tw_21 : Cond.selects RX9 yX9_come yX9_come ∈ TT := tw_m 21 (by decide +kernel) rfl
theorem tw_22 : Cond.selects RX2 yX2_findHeap yX2_findHeap ∈ TT := tw_m 22 (by decide +kernel) rfl
theorem tw_23 : Cond.selects RX2 yX2_beginHeap yX2_beginHeap ∈ TT := tw_m 23 (by decide +kernel) rfl
theorem tw_24 : Cond.selects RX2 yX2_dropHeap yX2_dropHeap ∈ TT := tw_m 24 (by decide +kernel) rfl
theorem tw_25 : Cond.selects RX10 yX10_look yX10_look ∈ TT := tw_m 25 (by decide +kernel) rfl
theorem tw_26 : Cond.initialized RL ∈ TT := tw_m 26 (by decide +kernel) rfl
theorem tw_27 : Cond.initialized RX11 ∈ TT := tw_m 27 (by decide +kernel) rfl
theorem tw_28 : Cond.initialized RX5 ∈ TT := tw_m 28 (by decide +kernel) rfl
theorem tw_29 : Cond.initialized RX3 ∈ TT := tw_m 29 (by decide +kernel) rfl
theorem tw_30 : Cond.initialized RJ7 ∈ TT := tw_m 30 (by decide +kernel) rfl
theorem tw_31 : Cond.initialized RX9 ∈ TT := tw_m 31 (by decide +kernel) rfl
theorem tw_32 : Cond.initialized RX8 ∈ TT := tw_m 32 (by decide +kernel) rfl
theorem tw_33 : Cond.initialized RX6 ∈ TT := tw_m 33 (by decide +kernel) rfl
theorem tw_34 : Cond.initialized RX2 ∈ TT := tw_m 34 (by decide +kernel) rfl
theorem tw_35 : Cond.initialized RX1 ∈ TT := tw_m 35 (by decide +kernel) rfl
theorem tw_36 : Cond.initialized RX10 ∈ TT := tw_m 36 (by decide +kernel) rfl
theorem tw_37 : Cond.initialized "java/lang/Throwable" ∈ TT := tw_m 37 (by decide +kernel) rfl
theorem tw_38 : Cond.initialized "java/lang/Exception" ∈ TT := tw_m 38 (by decide +kernel) rfl
theorem tw_39 : Cond.initialized "java/lang/RuntimeException" ∈ TT := tw_m 39 (by decide +kernel) rfl
theorem tw_40 : Cond.initialized "java/lang/IllegalArgumentException" ∈ TT := tw_m 40 (by decide +kernel) rfl
theorem tw_41 : Cond.initialized "java/lang/IllegalStateException" ∈ TT := tw_m 41 (by decide +kernel) rfl
theorem tw_42 : Cond.initialized "java/lang/IndexOutOfBoundsException" ∈ TT := tw_m 42 (by decide +kernel) rfl
theorem tw_43 : Cond.initialized RX7 ∈ TT := tw_m 43 (by decide +kernel) rfl
theorem tw_44 : Cond.initialized RX4 ∈ TT := tw_m 44 (by decide +kernel) rfl
theorem tw_45 : Cond.initialized RX0 ∈ TT := tw_m 45 (by decide +kernel) rfl
theorem tw_46 : Cond.initialized RJ9 ∈ TT := tw_m 46 (by decide +kernel) rfl
theorem tw_47 : Cond.initialized RJ10 ∈ TT := tw_m 47 (by decide +kernel) rfl
theorem tw_48 : Cond.classLink RL 9 RX11 ∈ TT := tw_m 48 (by decide +kernel) rfl
theorem tw_49 : Cond.instantiable RX11 3 ∈ TT := tw_m 49 (by decide +kernel) rfl
theorem tw_50 : Cond.methodLink RL 11 yX11_init ∈ TT := tw_m 50 (by decide +kernel) rfl
theorem tw_51 : Cond.instanceMethod yX11_init ∈ TT := tw_m 51 (by decide +kernel) rfl
set_option maxRecDepth 100000 in
theorem tw_52 : Cond.code yX11_init cX11_init 1 none ∈ TT := tw_m 52 (by rfl) rfl
theorem tw_53 : Cond.methodLink RX11 1 objectInit ∈ TT := tw_m 53 (by decide +kernel) rfl
theorem tw_54 : Cond.instanceMethod objectInit ∈ TT := tw_m 54 (by decide +kernel) rfl
set_option maxRecDepth 100000 in
theorem tw_55 : Cond.code objectInit ⟨#[0xb1]⟩ 1 none ∈ TT := tw_m 55 (by rfl) rfl
theorem tw_56 : Cond.classLink RX11 7 RX5 ∈ TT := tw_m 56 (by decide +kernel) rfl
theorem tw_57 : Cond.instantiable RX5 5 ∈ TT := tw_m 57 (by decide +kernel) rfl
theorem tw_58 : Cond.methodLink RX11 9 yX5_init ∈ TT := tw_m 58 (by decide +kernel) rfl
theorem tw_59 : Cond.instanceMethod yX5_init ∈ TT := tw_m 59 (by decide +kernel) rfl
set_option maxRecDepth 100000 in
theorem tw_60 : Cond.code yX5_init cX5_init 2 none ∈ TT := tw_m 60 (by rfl) rfl
theorem tw_61 : Cond.methodLink RX5 3 objectInit ∈ TT := tw_m 61 (by decide +kernel) rfl
theorem tw_62 : Cond.classLink RX5 15 RX3 ∈ TT := tw_m 62 (by decide +kernel) rfl
theorem tw_64 : Cond.classLink RX5 21 RX7 ∈ TT := tw_m 64 (by decide +kernel) rfl
theorem tw_66 : Cond.instantiable RX3 13 ∈ TT := tw_m 66 (by decide +kernel) rfl
theorem tw_67 : Cond.methodLink RX5 27 yX3_init ∈ TT := tw_m 67 (by decide +kernel) rfl
theorem tw_68 : Cond.instanceMethod yX3_init ∈ TT := tw_m 68 (by decide +kernel) rfl
set_option maxRecDepth 100000 in
theorem tw_69 : Cond.code yX3_init cX3_init 2 none ∈ TT := tw_m 69 (by rfl) rfl
theorem tw_70 : Cond.methodLink RX3 3 objectInit ∈ TT := tw_m 70 (by decide +kernel) rfl
theorem tw_71 : Cond.classLink RX3 9 RX7 ∈ TT := tw_m 71 (by decide +kernel) rfl
theorem tw_72 : Cond.methodLink RX3 43 yJ7_fill_53178 ∈ TT := tw_m 72 (by decide +kernel) rfl
theorem tw_73 : Cond.static yJ7_fill_53178 ∈ TT := tw_m 73 (by decide +kernel) rfl
set_option maxRecDepth 100000 in
theorem tw_74 : Cond.code yJ7_fill_53178 cJ7_fill_53178 4 none ∈ TT := tw_m 74 (by rfl) rfl
theorem tw_75 : Cond.fieldLink RX3 39 "SeamarkNet$Machine" "number" "I" ∈ TT := tw_m 75 (by decide +kernel) rfl
theorem tw_76 : Cond.fieldLink RX5 41 "SeamarkNet$Machine" "isForwarding" "Z" ∈ TT := tw_m 76 (by decide +kernel) rfl
theorem tw_77 : Cond.fieldLink RX11 116 "SeamarkNet$Machine" "isForwarding" "Z" ∈ TT := tw_m 77 (by decide +kernel) rfl
theorem tw_78 : Cond.fieldLink RX9 270 "SeamarkNet$Machine" "isForwarding" "Z" ∈ TT := tw_m 78 (by decide +kernel) rfl
theorem tw_79 : Cond.fieldLink RX3 11 "SeamarkNet$Machine" "ports" "[LSeamarkNet$Port;" ∈ TT := tw_m 79 (by decide +kernel) rfl
theorem tw_80 : Cond.fieldLink RX3 49 "SeamarkNet$Machine" "portCount" "I" ∈ TT := tw_m 80 (by decide +kernel) rfl
theorem tw_81 : Cond.fieldLink RX3 17 "SeamarkNet$Machine" "routeAddress" "[I" ∈ TT := tw_m 81 (by decide +kernel) rfl
theorem tw_82 : Cond.fieldLink RX3 21 "SeamarkNet$Machine" "routeLength" "[I" ∈ TT := tw_m 82 (by decide +kernel) rfl
theorem tw_83 : Cond.fieldLink RX3 24 "SeamarkNet$Machine" "routeVia" "[I" ∈ TT := tw_m 83 (by decide +kernel) rfl
theorem tw_84 : Cond.fieldLink RX3 61 "SeamarkNet$Machine" "routeCount" "I" ∈ TT := tw_m 84 (by decide +kernel) rfl
theorem tw_85 : Cond.fieldLink RX3 27 "SeamarkNet$Machine" "tunnelFar" "[I" ∈ TT := tw_m 85 (by decide +kernel) rfl
theorem tw_86 : Cond.fieldLink RX3 58 "SeamarkNet$Machine" "tunnelCount" "I" ∈ TT := tw_m 86 (by decide +kernel) rfl
theorem tw_87 : Cond.fieldLink RX3 30 "SeamarkNet$Machine" "wayPort" "[I" ∈ TT := tw_m 87 (by decide +kernel) rfl
theorem tw_88 : Cond.fieldLink RX3 33 "SeamarkNet$Machine" "wayHop" "[I" ∈ TT := tw_m 88 (by decide +kernel) rfl
theorem tw_89 : Cond.fieldLink RX3 36 "SeamarkNet$Machine" "wayLength" "[I" ∈ TT := tw_m 89 (by decide +kernel) rfl
theorem tw_117 : Cond.arrayClass .int ∈ TT := tw_m 117 (by decide +kernel) rfl
theorem tw_118 : Cond.fieldLink RX5 9 "SeamarkNet$Plan" "widths" "[I" ∈ TT := tw_m 118 (by decide +kernel) rfl
theorem tw_119 : Cond.fieldLink RX5 30 "SeamarkNet$Plan" "cableCount" "I" ∈ TT := tw_m 119 (by decide +kernel) rfl
theorem tw_120 : Cond.fieldLink RX11 247 "SeamarkNet$Plan" "cableCount" "I" ∈ TT := tw_m 120 (by decide +kernel) rfl
theorem tw_121 : Cond.fieldLink RX5 17 "SeamarkNet$Plan" "machines" "[LSeamarkNet$Machine;" ∈ TT := tw_m 121 (by decide +kernel) rfl
theorem tw_123 : Cond.fieldLink RX5 38 "SeamarkNet$Plan" "machineCount" "I" ∈ TT := tw_m 123 (by decide +kernel) rfl
theorem tw_124 : Cond.fieldLink RX11 151 "SeamarkNet$Plan" "machineCount" "I" ∈ TT := tw_m 124 (by decide +kernel) rfl
theorem tw_125 : Cond.fieldLink RX5 23 "SeamarkNet$Plan" "owners" "[LSeamarkNet$Port;" ∈ TT := tw_m 125 (by decide +kernel) rfl
theorem tw_137 : Cond.classLink RX11 16 RX9 ∈ TT := tw_m 137 (by decide +kernel) rfl
theorem tw_138 : Cond.instantiable RX9 8 ∈ TT := tw_m 138 (by decide +kernel) rfl
theorem tw_139 : Cond.methodLink RX11 18 yX9_init ∈ TT := tw_m 139 (by decide +kernel) rfl
theorem tw_140 : Cond.instanceMethod yX9_init ∈ TT := tw_m 140 (by decide +kernel) rfl
set_option maxRecDepth 100000 in
theorem tw_141 : Cond.code yX9_init cX9_init 3 none ∈ TT := tw_m 141 (by rfl) rfl
theorem tw_142 : Cond.methodLink RX9 3 objectInit ∈ TT := tw_m 142 (by decide +kernel) rfl
theorem tw_143 : Cond.classLink RX9 9 RX8 ∈ TT := tw_m 143 (by decide +kernel) rfl
theorem tw_144 : Cond.instantiable RX8 4 ∈ TT := tw_m 144 (by decide +kernel) rfl
theorem tw_146 : Cond.instanceMethod yX8_init ∈ TT := tw_m 146 (by decide +kernel) rfl
set_option maxRecDepth 100000 in
theorem tw_147 : Cond.code yX8_init cX8_init 1 none ∈ TT := tw_m 147 (by rfl) rfl
theorem tw_148 : Cond.methodLink RX8 1 objectInit ∈ TT := tw_m 148 (by decide +kernel) rfl
theorem tw_149 : Cond.fieldLink RX8 48 "SeamarkNet$Row" "first" "LSeamarkNet$Frame;" ∈ TT := tw_m 149 (by decide +kernel) rfl
theorem tw_150 : Cond.fieldLink RX11 240 "SeamarkNet$Row" "first" "LSeamarkNet$Frame;" ∈ TT := tw_m 150 (by decide +kernel) rfl
theorem tw_151 : Cond.fieldLink RX8 51 "SeamarkNet$Row" "length" "I" ∈ TT := tw_m 151 (by decide +kernel) rfl
theorem tw_152 : Cond.fieldLink RX11 135 "SeamarkNet$Row" "length" "I" ∈ TT := tw_m 152 (by decide +kernel) rfl
theorem tw_153 : Cond.fieldLink RX8 45 "SeamarkNet$Row" "last" "LSeamarkNet$Frame;" ∈ TT := tw_m 153 (by decide +kernel) rfl
theorem tw_154 : Cond.fieldLink RX8 7 "SeamarkNet$Row" "spare" "LSeamarkNet$Frame;" ∈ TT := tw_m 154 (by decide +kernel) rfl
theorem tw_164 : Cond.classLink RX9 18 RX6 ∈ TT := tw_m 164 (by decide +kernel) rfl
theorem tw_165 : Cond.instantiable RX6 2 ∈ TT := tw_m 165 (by decide +kernel) rfl
theorem tw_167 : Cond.instanceMethod yX6_init ∈ TT := tw_m 167 (by decide +kernel) rfl
set_option maxRecDepth 100000 in
theorem tw_168 : Cond.code yX6_init cX6_init 1 none ∈ TT := tw_m 168 (by rfl) rfl
theorem tw_169 : Cond.methodLink RX6 1 objectInit ∈ TT := tw_m 169 (by decide +kernel) rfl
theorem tw_170 : Cond.fieldLink RX6 13 "SeamarkNet$Pool" "first" "LSeamarkNet$Packet;" ∈ TT := tw_m 170 (by decide +kernel) rfl
theorem tw_171 : Cond.fieldLink RX6 7 "SeamarkNet$Pool" "last" "LSeamarkNet$Packet;" ∈ TT := tw_m 171 (by decide +kernel) rfl
theorem tw_177 : Cond.classLink RX9 25 RX2 ∈ TT := tw_m 177 (by decide +kernel) rfl
theorem tw_179 : Cond.instantiable RX2 10 ∈ TT := tw_m 179 (by decide +kernel) rfl
theorem tw_180 : Cond.methodLink RX9 45 yX2_init ∈ TT := tw_m 180 (by decide +kernel) rfl
theorem tw_181 : Cond.instanceMethod yX2_init ∈ TT := tw_m 181 (by decide +kernel) rfl
set_option maxRecDepth 100000 in
theorem tw_182 : Cond.code yX2_init cX2_init 3 none ∈ TT := tw_m 182 (by rfl) rfl
theorem tw_183 : Cond.methodLink RX2 3 objectInit ∈ TT := tw_m 183 (by decide +kernel) rfl
theorem tw_184 : Cond.classLink RX2 15 RX1 ∈ TT := tw_m 184 (by decide +kernel) rfl
theorem tw_186 : Cond.methodLink RX2 28 yJ7_fill_53178 ∈ TT := tw_m 186 (by decide +kernel) rfl
theorem tw_187 : Cond.instantiable RX1 3 ∈ TT := tw_m 187 (by decide +kernel) rfl
theorem tw_189 : Cond.instanceMethod yX1_init ∈ TT := tw_m 189 (by decide +kernel) rfl
set_option maxRecDepth 100000 in
theorem tw_190 : Cond.code yX1_init cX1_init 1 none ∈ TT := tw_m 190 (by rfl) rfl
theorem tw_191 : Cond.methodLink RX1 3 objectInit ∈ TT := tw_m 191 (by decide +kernel) rfl
theorem tw_192 : Cond.fieldLink RX1 15 "SeamarkNet$Heap" "from" "I" ∈ TT := tw_m 192 (by decide +kernel) rfl
theorem tw_193 : Cond.fieldLink RX2 96 "SeamarkNet$Heap" "from" "I" ∈ TT := tw_m 193 (by decide +kernel) rfl
theorem tw_194 : Cond.fieldLink RX1 21 "SeamarkNet$Heap" "number" "I" ∈ TT := tw_m 194 (by decide +kernel) rfl
theorem tw_195 : Cond.fieldLink RX2 100 "SeamarkNet$Heap" "number" "I" ∈ TT := tw_m 195 (by decide +kernel) rfl
theorem tw_196 : Cond.fieldLink RX1 22 "SeamarkNet$Heap" "first" "LSeamarkNet$Packet;" ∈ TT := tw_m 196 (by decide +kernel) rfl
theorem tw_204 : Cond.fieldLink RX2 24 "SeamarkNet$Host" "machine" "LSeamarkNet$Machine;" ∈ TT := tw_m 204 (by decide +kernel) rfl
theorem tw_205 : Cond.fieldLink RX11 64 "SeamarkNet$Host" "machine" "LSeamarkNet$Machine;" ∈ TT := tw_m 205 (by decide +kernel) rfl
theorem tw_206 : Cond.fieldLink RX9 72 "SeamarkNet$Host" "machine" "LSeamarkNet$Machine;" ∈ TT := tw_m 206 (by decide +kernel) rfl
theorem tw_207 : Cond.fieldLink RX2 35 "SeamarkNet$Host" "waitingCount" "I" ∈ TT := tw_m 207 (by decide +kernel) rfl
theorem tw_208 : Cond.fieldLink RX11 184 "SeamarkNet$Host" "waitingCount" "I" ∈ TT := tw_m 208 (by decide +kernel) rfl
theorem tw_209 : Cond.fieldLink RX9 283 "SeamarkNet$Host" "waitingCount" "I" ∈ TT := tw_m 209 (by decide +kernel) rfl
theorem tw_210 : Cond.fieldLink RX2 93 "SeamarkNet$Host" "heapCount" "I" ∈ TT := tw_m 210 (by decide +kernel) rfl
theorem tw_211 : Cond.fieldLink RX11 187 "SeamarkNet$Host" "heapCount" "I" ∈ TT := tw_m 211 (by decide +kernel) rfl
theorem tw_212 : Cond.fieldLink RX10 45 "SeamarkNet$Host" "noteCount" "I" ∈ TT := tw_m 212 (by decide +kernel) rfl
theorem tw_213 : Cond.fieldLink RX2 117 "SeamarkNet$Host" "noteCount" "I" ∈ TT := tw_m 213 (by decide +kernel) rfl
theorem tw_214 : Cond.fieldLink RX11 190 "SeamarkNet$Host" "noteCount" "I" ∈ TT := tw_m 214 (by decide +kernel) rfl
theorem tw_215 : Cond.fieldLink RX2 42 "SeamarkNet$Host" "goneCount" "I" ∈ TT := tw_m 215 (by decide +kernel) rfl
theorem tw_216 : Cond.fieldLink RX9 52 "SeamarkNet$Host" "goneCount" "I" ∈ TT := tw_m 216 (by decide +kernel) rfl
theorem tw_217 : Cond.fieldLink RX2 9 "SeamarkNet$Host" "marks" "[I" ∈ TT := tw_m 217 (by decide +kernel) rfl
theorem tw_218 : Cond.fieldLink RX2 54 "SeamarkNet$Host" "firstWaiting" "LSeamarkNet$Packet;" ∈ TT := tw_m 218 (by decide +kernel) rfl
theorem tw_219 : Cond.fieldLink RX2 51 "SeamarkNet$Host" "lastWaiting" "LSeamarkNet$Packet;" ∈ TT := tw_m 219 (by decide +kernel) rfl
theorem tw_220 : Cond.fieldLink RX2 17 "SeamarkNet$Host" "kept" "[LSeamarkNet$Heap;" ∈ TT := tw_m 220 (by decide +kernel) rfl
theorem tw_221 : Cond.fieldLink RX2 21 "SeamarkNet$Host" "notes" "[I" ∈ TT := tw_m 221 (by decide +kernel) rfl
theorem tw_243 : Cond.fieldLink RX9 12 "SeamarkNet$Traffic" "row" "LSeamarkNet$Row;" ∈ TT := tw_m 243 (by decide +kernel) rfl
theorem tw_244 : Cond.fieldLink RX11 131 "SeamarkNet$Traffic" "row" "LSeamarkNet$Row;" ∈ TT := tw_m 244 (by decide +kernel) rfl
theorem tw_245 : Cond.fieldLink RX9 56 "SeamarkNet$Traffic" "packetCount" "I" ∈ TT := tw_m 245 (by decide +kernel) rfl
theorem tw_246 : Cond.fieldLink RX11 154 "SeamarkNet$Traffic" "packetCount" "I" ∈ TT := tw_m 246 (by decide +kernel) rfl
theorem tw_247 : Cond.fieldLink RX11 157 "SeamarkNet$Traffic" "stepCount" "I" ∈ TT := tw_m 247 (by decide +kernel) rfl
theorem tw_248 : Cond.fieldLink RX9 217 "SeamarkNet$Traffic" "stepCount" "I" ∈ TT := tw_m 248 (by decide +kernel) rfl
theorem tw_249 : Cond.fieldLink RX9 233 "SeamarkNet$Traffic" "packetSteps" "I" ∈ TT := tw_m 249 (by decide +kernel) rfl
theorem tw_250 : Cond.fieldLink RX11 213 "SeamarkNet$Traffic" "packetSteps" "I" ∈ TT := tw_m 250 (by decide +kernel) rfl
theorem tw_251 : Cond.fieldLink RX9 35 "SeamarkNet$Traffic" "plan" "LSeamarkNet$Plan;" ∈ TT := tw_m 251 (by decide +kernel) rfl
theorem tw_252 : Cond.fieldLink RX9 21 "SeamarkNet$Traffic" "pool" "LSeamarkNet$Pool;" ∈ TT := tw_m 252 (by decide +kernel) rfl
theorem tw_253 : Cond.fieldLink RX9 27 "SeamarkNet$Traffic" "hosts" "[LSeamarkNet$Host;" ∈ TT := tw_m 253 (by decide +kernel) rfl
theorem tw_254 : Cond.fieldLink RX9 31 "SeamarkNet$Traffic" "deliveredOn" "[I" ∈ TT := tw_m 254 (by decide +kernel) rfl
theorem tw_272 : Cond.classLink RX11 25 RX10 ∈ TT := tw_m 272 (by decide +kernel) rfl
theorem tw_273 : Cond.instantiable RX10 7 ∈ TT := tw_m 273 (by decide +kernel) rfl
theorem tw_274 : Cond.methodLink RX11 27 yX10_init ∈ TT := tw_m 274 (by decide +kernel) rfl
theorem tw_275 : Cond.instanceMethod yX10_init ∈ TT := tw_m 275 (by decide +kernel) rfl
set_option maxRecDepth 100000 in
theorem tw_276 : Cond.code yX10_init cX10_init 2 none ∈ TT := tw_m 276 (by rfl) rfl
theorem tw_277 : Cond.methodLink RX10 3 objectInit ∈ TT := tw_m 277 (by decide +kernel) rfl
theorem tw_278 : Cond.classLink RX10 9 RX9 ∈ TT := tw_m 278 (by decide +kernel) rfl
theorem tw_279 : Cond.methodLink RX10 11 yX9_init ∈ TT := tw_m 279 (by decide +kernel) rfl
theorem tw_280 : Cond.fieldLink RX10 24 "SeamarkNet$Trial" "isAnswered" "Z" ∈ TT := tw_m 280 (by decide +kernel) rfl
theorem tw_281 : Cond.fieldLink RX11 227 "SeamarkNet$Trial" "isAnswered" "Z" ∈ TT := tw_m 281 (by decide +kernel) rfl
theorem tw_282 : Cond.fieldLink RX10 28 "SeamarkNet$Trial" "toldKind" "I" ∈ TT := tw_m 282 (by decide +kernel) rfl
theorem tw_283 : Cond.fieldLink RX11 230 "SeamarkNet$Trial" "toldKind" "I" ∈ TT := tw_m 283 (by decide +kernel) rfl
theorem tw_284 : Cond.fieldLink RX10 32 "SeamarkNet$Trial" "toldFrom" "I" ∈ TT := tw_m 284 (by decide +kernel) rfl
theorem tw_285 : Cond.fieldLink RX11 224 "SeamarkNet$Trial" "toldFrom" "I" ∈ TT := tw_m 285 (by decide +kernel) rfl
theorem tw_286 : Cond.fieldLink RX10 35 "SeamarkNet$Trial" "toldAbout" "I" ∈ TT := tw_m 286 (by decide +kernel) rfl
theorem tw_287 : Cond.fieldLink RX11 233 "SeamarkNet$Trial" "toldAbout" "I" ∈ TT := tw_m 287 (by decide +kernel) rfl
theorem tw_288 : Cond.fieldLink RX10 14 "SeamarkNet$Trial" "traffic" "LSeamarkNet$Traffic;" ∈ TT := tw_m 288 (by decide +kernel) rfl
theorem tw_289 : Cond.fieldLink RX10 57 "SeamarkNet$Trial" "number" "I" ∈ TT := tw_m 289 (by decide +kernel) rfl
theorem tw_290 : Cond.fieldLink RX10 50 "SeamarkNet$Trial" "seen" "I" ∈ TT := tw_m 290 (by decide +kernel) rfl
theorem tw_306 : Cond.fieldLink RX11 10 "SeamarkNet" "plan" "LSeamarkNet$Plan;" ∈ TT := tw_m 306 (by decide +kernel) rfl
theorem tw_307 : Cond.fieldLink RX11 21 "SeamarkNet" "now" "LSeamarkNet$Traffic;" ∈ TT := tw_m 307 (by decide +kernel) rfl
theorem tw_308 : Cond.fieldLink RX11 28 "SeamarkNet" "trial" "LSeamarkNet$Trial;" ∈ TT := tw_m 308 (by decide +kernel) rfl
theorem tw_316 : Cond.methodLink RL 24 yX11_addCable ∈ TT := tw_m 316 (by decide +kernel) rfl
theorem tw_317 : Cond.instanceMethod yX11_addCable ∈ TT := tw_m 317 (by decide +kernel) rfl
theorem tw_318 : Cond.selects RX11 yX11_addCable yX11_addCable ∈ TT := tw_m 318 (by decide +kernel) rfl
set_option maxRecDepth 100000 in
theorem tw_319 : Cond.code yX11_addCable cX11_addCable 3 (some .int) ∈ TT := tw_m 319 (by rfl) rfl
theorem tw_320 : Cond.methodLink RX11 32 yX11_needWidth ∈ TT := tw_m 320 (by decide +kernel) rfl
theorem tw_321 : Cond.static yX11_needWidth ∈ TT := tw_m 321 (by decide +kernel) rfl
set_option maxRecDepth 100000 in
theorem tw_322 : Cond.code yX11_needWidth cX11_needWidth 1 none ∈ TT := tw_m 322 (by rfl) rfl
theorem tw_323 : Cond.classLink RX11 99 "java/lang/IllegalArgumentException" ∈ TT := tw_m 323 (by decide +kernel) rfl
theorem tw_391 : Cond.methodLink RX11 36 yX5_putCable ∈ TT := tw_m 391 (by decide +kernel) rfl
theorem tw_392 : Cond.instanceMethod yX5_putCable ∈ TT := tw_m 392 (by decide +kernel) rfl
theorem tw_393 : Cond.selects RX5 yX5_putCable yX5_putCable ∈ TT := tw_m 393 (by decide +kernel) rfl
set_option maxRecDepth 100000 in
theorem tw_394 : Cond.code yX5_putCable cX5_putCable 2 (some .int) ∈ TT := tw_m 394 (by rfl) rfl
theorem tw_395 : Cond.classLink RX11 40 "java/lang/IllegalStateException" ∈ TT := tw_m 395 (by decide +kernel) rfl
theorem tw_411 : Cond.methodLink RL 28 yX11_addMachine ∈ TT := tw_m 411 (by decide +kernel) rfl
theorem tw_412 : Cond.instanceMethod yX11_addMachine ∈ TT := tw_m 412 (by decide +kernel) rfl
theorem tw_413 : Cond.selects RX11 yX11_addMachine yX11_addMachine ∈ TT := tw_m 413 (by decide +kernel) rfl
set_option maxRecDepth 100000 in
theorem tw_414 : Cond.code yX11_addMachine cX11_addMachine 3 (some .int) ∈ TT := tw_m 414 (by rfl) rfl
theorem tw_415 : Cond.methodLink RX11 54 yX5_putMachine ∈ TT := tw_m 415 (by decide +kernel) rfl
theorem tw_416 : Cond.instanceMethod yX5_putMachine ∈ TT := tw_m 416 (by decide +kernel) rfl
theorem tw_417 : Cond.selects RX5 yX5_putMachine yX5_putMachine ∈ TT := tw_m 417 (by decide +kernel) rfl
set_option maxRecDepth 100000 in
theorem tw_418 : Cond.code yX5_putMachine cX5_putMachine 2 (some .int) ∈ TT := tw_m 418 (by rfl) rfl
theorem tw_420 : Cond.methodLink RL 36 yX11_digest ∈ TT := tw_m 420 (by decide +kernel) rfl
theorem tw_421 : Cond.instanceMethod yX11_digest ∈ TT := tw_m 421 (by decide +kernel) rfl
theorem tw_422 : Cond.selects RX11 yX11_digest yX11_digest ∈ TT := tw_m 422 (by decide +kernel) rfl
set_option maxRecDepth 100000 in
theorem tw_423 : Cond.code yX11_digest cX11_digest 5 (some .long) ∈ TT := tw_m 423 (by rfl) rfl
theorem tw_424 : Cond.constantLong RX11 236 (58062) ∈ TT := tw_m 424 (by decide +kernel) rfl
theorem tw_425 : Cond.constantLong RX11 238 (31) ∈ TT := tw_m 425 (by decide +kernel) rfl
theorem tw_426 : Cond.methodLink RX11 160 yX9_goneInAll ∈ TT := tw_m 426 (by decide +kernel) rfl
theorem tw_427 : Cond.instanceMethod yX9_goneInAll ∈ TT := tw_m 427 (by decide +kernel) rfl
theorem tw_428 : Cond.selects RX9 yX9_goneInAll yX9_goneInAll ∈ TT := tw_m 428 (by decide +kernel) rfl
set_option maxRecDepth 100000 in
theorem tw_429 : Cond.code yX9_goneInAll cX9_goneInAll 3 (some .int) ∈ TT := tw_m 429 (by rfl) rfl
theorem tw_430 : Cond.methodLink RX11 176 yX0_part ∈ TT := tw_m 430 (by decide +kernel) rfl
theorem tw_431 : Cond.instanceMethod yX0_part ∈ TT := tw_m 431 (by decide +kernel) rfl
theorem tw_432 : Cond.selects RX0 yX0_part yX0_part ∈ TT := tw_m 432 (by decide +kernel) rfl
set_option maxRecDepth 100000 in
theorem tw_433 : Cond.code yX0_part cX0_part 2 (some .int) ∈ TT := tw_m 433 (by rfl) rfl
theorem tw_434 : Cond.methodLink RX0 28 yX0_partWithout ∈ TT := tw_m 434 (by decide +kernel) rfl
theorem tw_436 : Cond.instanceMethod yX0_partWithout ∈ TT := tw_m 436 (by decide +kernel) rfl
theorem tw_437 : Cond.instantiable RX0 7 ∈ TT := tw_m 437 (by decide +kernel) rfl
set_option maxRecDepth 100000 in
theorem tw_438 : Cond.code yX0_partWithout cX0_partWithout 2 (some .int) ∈ TT := tw_m 438 (by rfl) rfl
theorem tw_439 : Cond.methodLink RX0 32 yX0_partOf ∈ TT := tw_m 439 (by decide +kernel) rfl
theorem tw_440 : Cond.static yX0_partOf ∈ TT := tw_m 440 (by decide +kernel) rfl
set_option maxRecDepth 100000 in
theorem tw_441 : Cond.code yX0_partOf cX0_partOf 2 (some .int) ∈ TT := tw_m 441 (by rfl) rfl
theorem tw_442 : Cond.methodLink RX11 210 yX9_carriedOn ∈ TT := tw_m 442 (by decide +kernel) rfl
theorem tw_443 : Cond.instanceMethod yX9_carriedOn ∈ TT := tw_m 443 (by decide +kernel) rfl
theorem tw_444 : Cond.selects RX9 yX9_carriedOn yX9_carriedOn ∈ TT := tw_m 444 (by decide +kernel) rfl
set_option maxRecDepth 100000 in
theorem tw_445 : Cond.code yX9_carriedOn cX9_carriedOn 2 (some .int) ∈ TT := tw_m 445 (by rfl) rfl
theorem tw_446 : Cond.methodLink RX11 60 yX11_hostOf ∈ TT := tw_m 446 (by decide +kernel) rfl
theorem tw_448 : Cond.instanceMethod yX11_hostOf ∈ TT := tw_m 448 (by decide +kernel) rfl
set_option maxRecDepth 100000 in
theorem tw_449 : Cond.code yX11_hostOf cX11_hostOf 3 (some (.object "SeamarkNet$Host")) ∈ TT := tw_m 449 (by rfl) rfl
theorem tw_450 : Cond.methodLink RX11 261 yX9_host ∈ TT := tw_m 450 (by decide +kernel) rfl
theorem tw_451 : Cond.instanceMethod yX9_host ∈ TT := tw_m 451 (by decide +kernel) rfl
theorem tw_452 : Cond.selects RX9 yX9_host yX9_host ∈ TT := tw_m 452 (by decide +kernel) rfl
set_option maxRecDepth 100000 in
theorem tw_453 : Cond.code yX9_host cX9_host 2 (some (.object "SeamarkNet$Host")) ∈ TT := tw_m 453 (by rfl) rfl
theorem tw_454 : Cond.classLink RX11 167 "java/lang/IndexOutOfBoundsException" ∈ TT := tw_m 454 (by decide +kernel) rfl
theorem tw_470 : Cond.methodLink RX11 250 yX11_digestHost ∈ TT := tw_m 470 (by decide +kernel) rfl
theorem tw_472 : Cond.instanceMethod yX11_digestHost ∈ TT := tw_m 472 (by decide +kernel) rfl
set_option maxRecDepth 100000 in
theorem tw_473 : Cond.code yX11_digestHost cX11_digestHost 8 (some .long) ∈ TT := tw_m 473 (by rfl) rfl
theorem tw_474 : Cond.methodLink RX11 193 yX2_isTold ∈ TT := tw_m 474 (by decide +kernel) rfl
theorem tw_475 : Cond.instanceMethod yX2_isTold ∈ TT := tw_m 475 (by decide +kernel) rfl
theorem tw_476 : Cond.selects RX2 yX2_isTold yX2_isTold ∈ TT := tw_m 476 (by decide +kernel) rfl
set_option maxRecDepth 100000 in
theorem tw_477 : Cond.code yX2_isTold cX2_isTold 2 (some .boolean) ∈ TT := tw_m 477 (by rfl) rfl
theorem tw_478 : Cond.methodLink RX11 198 yX2_notePart ∈ TT := tw_m 478 (by decide +kernel) rfl
theorem tw_479 : Cond.instanceMethod yX2_notePart ∈ TT := tw_m 479 (by decide +kernel) rfl
theorem tw_480 : Cond.selects RX2 yX2_notePart yX2_notePart ∈ TT := tw_m 480 (by decide +kernel) rfl
set_option maxRecDepth 100000 in
theorem tw_481 : Cond.code yX2_notePart cX2_notePart 3 (some .int) ∈ TT := tw_m 481 (by rfl) rfl
theorem tw_482 : Cond.methodLink RX2 129 yX2_isTold ∈ TT := tw_m 482 (by decide +kernel) rfl
theorem tw_483 : Cond.methodLink RX11 254 yX5_portWithMark ∈ TT := tw_m 483 (by decide +kernel) rfl
theorem tw_484 : Cond.instanceMethod yX5_portWithMark ∈ TT := tw_m 484 (by decide +kernel) rfl
theorem tw_485 : Cond.selects RX5 yX5_portWithMark yX5_portWithMark ∈ TT := tw_m 485 (by decide +kernel) rfl
set_option maxRecDepth 100000 in
theorem tw_486 : Cond.code yX5_portWithMark cX5_portWithMark 2 (some (.object "SeamarkNet$Port")) ∈ TT := tw_m 486 (by rfl) rfl
theorem tw_487 : Cond.methodLink RX5 53 yX3_port ∈ TT := tw_m 487 (by decide +kernel) rfl
theorem tw_488 : Cond.instanceMethod yX3_port ∈ TT := tw_m 488 (by decide +kernel) rfl
theorem tw_489 : Cond.selects RX3 yX3_port yX3_port ∈ TT := tw_m 489 (by decide +kernel) rfl
set_option maxRecDepth 100000 in
theorem tw_490 : Cond.code yX3_port cX3_port 2 (some (.object "SeamarkNet$Port")) ∈ TT := tw_m 490 (by rfl) rfl
theorem tw_491 : Cond.methodLink RX11 181 yX2_knownMark ∈ TT := tw_m 491 (by decide +kernel) rfl
theorem tw_492 : Cond.instanceMethod yX2_knownMark ∈ TT := tw_m 492 (by decide +kernel) rfl
theorem tw_493 : Cond.selects RX2 yX2_knownMark yX2_knownMark ∈ TT := tw_m 493 (by decide +kernel) rfl
set_option maxRecDepth 100000 in
theorem tw_494 : Cond.code yX2_knownMark cX2_knownMark 2 (some .int) ∈ TT := tw_m 494 (by rfl) rfl
theorem tw_495 : Cond.methodLink RL 20 yL_below ∈ TT := tw_m 495 (by decide +kernel) rfl
theorem tw_496 : Cond.static yL_below ∈ TT := tw_m 496 (by decide +kernel) rfl
set_option maxRecDepth 100000 in
theorem tw_497 : Cond.code yL_below cL_below 2 (some .int) ∈ TT := tw_m 497 (by rfl) rfl
theorem tw_498 : Cond.constant RL 7 (2147483647) ∈ TT := tw_m 498 (by decide +kernel) rfl
theorem tw_499 : Cond.methodLink RL 14 yL_cell ∈ TT := tw_m 499 (by decide +kernel) rfl
theorem tw_500 : Cond.static yL_cell ∈ TT := tw_m 500 (by decide +kernel) rfl
set_option maxRecDepth 100000 in
theorem tw_501 : Cond.code yL_cell cL_cell 2 (some .int) ∈ TT := tw_m 501 (by rfl) rfl
theorem tw_502 : Cond.constant RL 8 (790386105) ∈ TT := tw_m 502 (by decide +kernel) rfl
theorem tw_503 : Cond.methodLink RL 32 yL_act ∈ TT := tw_m 503 (by decide +kernel) rfl
theorem tw_504 : Cond.static yL_act ∈ TT := tw_m 504 (by decide +kernel) rfl
set_option maxRecDepth 100000 in
theorem tw_505 : Cond.codeWith yL_act cL_act 16 (some .boolean) [(30, 155, 688, 103), (156, 173, 688, 103), (174, 215, 688, 103), (216, 260, 688, 103), (261, 408, 688, 103), (409, 493, 688, 103), (494, 526, 688, 103), (527, 577, 688, 103), (578, 623, 688, 103), (624, 685, 688, 103), (30, 155, 714, 105), (156, 173, 714, 105), (174, 215, 714, 105), (216, 260, 714, 105), (261, 408, 714, 105), (409, 493, 714, 105), (494, 526, 714, 105), (527, 577, 714, 105), (578, 623, 714, 105), (624, 685, 714, 105), (30, 155, 740, 107), (156, 173, 740, 107), (174, 215, 740, 107), (216, 260, 740, 107), (261, 408, 740, 107), (409, 493, 740, 107), (494, 526, 740, 107), (527, 577, 740, 107), (578, 623, 740, 107), (624, 685, 740, 107)] ∈ TT := tw_m 505 (by rfl) rfl
theorem tw_506 : Cond.classLink RL 103 "java/lang/IndexOutOfBoundsException" ∈ TT := tw_m 506 (by decide +kernel) rfl
theorem tw_507 : Cond.classLink RL 105 "java/lang/IllegalArgumentException" ∈ TT := tw_m 507 (by decide +kernel) rfl
theorem tw_508 : Cond.classLink RL 107 "java/lang/IllegalStateException" ∈ TT := tw_m 508 (by decide +kernel) rfl
theorem tw_509 : Cond.methodLink RL 50 yX11_machines ∈ TT := tw_m 509 (by decide +kernel) rfl
theorem tw_510 : Cond.instanceMethod yX11_machines ∈ TT := tw_m 510 (by decide +kernel) rfl
theorem tw_511 : Cond.selects RX11 yX11_machines yX11_machines ∈ TT := tw_m 511 (by decide +kernel) rfl
set_option maxRecDepth 100000 in
theorem tw_512 : Cond.code yX11_machines cX11_machines 1 (some .int) ∈ TT := tw_m 512 (by rfl) rfl
theorem tw_513 : Cond.methodLink RL 54 yX11_packets ∈ TT := tw_m 513 (by decide +kernel) rfl
theorem tw_514 : Cond.instanceMethod yX11_packets ∈ TT := tw_m 514 (by decide +kernel) rfl
theorem tw_515 : Cond.selects RX11 yX11_packets yX11_packets ∈ TT := tw_m 515 (by decide +kernel) rfl
set_option maxRecDepth 100000 in
theorem tw_516 : Cond.code yX11_packets cX11_packets 1 (some .int) ∈ TT := tw_m 516 (by rfl) rfl
theorem tw_517 : Cond.methodLink RL 57 yX11_frames ∈ TT := tw_m 517 (by decide +kernel) rfl
theorem tw_518 : Cond.instanceMethod yX11_frames ∈ TT := tw_m 518 (by decide +kernel) rfl
theorem tw_519 : Cond.selects RX11 yX11_frames yX11_frames ∈ TT := tw_m 519 (by decide +kernel) rfl
set_option maxRecDepth 100000 in
theorem tw_520 : Cond.code yX11_frames cX11_frames 1 (some .int) ∈ TT := tw_m 520 (by rfl) rfl
theorem tw_521 : Cond.methodLink RL 60 yX11_steps ∈ TT := tw_m 521 (by decide +kernel) rfl
theorem tw_522 : Cond.instanceMethod yX11_steps ∈ TT := tw_m 522 (by decide +kernel) rfl
theorem tw_523 : Cond.selects RX11 yX11_steps yX11_steps ∈ TT := tw_m 523 (by decide +kernel) rfl
set_option maxRecDepth 100000 in
theorem tw_524 : Cond.code yX11_steps cX11_steps 1 (some .int) ∈ TT := tw_m 524 (by rfl) rfl
theorem tw_525 : Cond.methodLink RL 63 yX11_addPort ∈ TT := tw_m 525 (by decide +kernel) rfl
theorem tw_526 : Cond.instanceMethod yX11_addPort ∈ TT := tw_m 526 (by decide +kernel) rfl
theorem tw_527 : Cond.selects RX11 yX11_addPort yX11_addPort ∈ TT := tw_m 527 (by decide +kernel) rfl
set_option maxRecDepth 100000 in
theorem tw_528 : Cond.code yX11_addPort cX11_addPort 7 (some .int) ∈ TT := tw_m 528 (by rfl) rfl
theorem tw_529 : Cond.methodLink RX11 47 yX11_needCable ∈ TT := tw_m 529 (by decide +kernel) rfl
theorem tw_531 : Cond.instanceMethod yX11_needCable ∈ TT := tw_m 531 (by decide +kernel) rfl
set_option maxRecDepth 100000 in
theorem tw_532 : Cond.code yX11_needCable cX11_needCable 2 none ∈ TT := tw_m 532 (by rfl) rfl
theorem tw_534 : Cond.methodLink RX11 70 yX11_needAddress ∈ TT := tw_m 534 (by decide +kernel) rfl
theorem tw_535 : Cond.static yX11_needAddress ∈ TT := tw_m 535 (by decide +kernel) rfl
set_option maxRecDepth 100000 in
theorem tw_536 : Cond.code yX11_needAddress cX11_needAddress 1 none ∈ TT := tw_m 536 (by rfl) rfl
theorem tw_538 : Cond.methodLink RX11 73 yX11_needLength ∈ TT := tw_m 538 (by decide +kernel) rfl
theorem tw_539 : Cond.static yX11_needLength ∈ TT := tw_m 539 (by decide +kernel) rfl
set_option maxRecDepth 100000 in
theorem tw_540 : Cond.code yX11_needLength cX11_needLength 1 none ∈ TT := tw_m 540 (by rfl) rfl
theorem tw_542 : Cond.methodLink RX11 76 yX5_putPort ∈ TT := tw_m 542 (by decide +kernel) rfl
theorem tw_543 : Cond.instanceMethod yX5_putPort ∈ TT := tw_m 543 (by decide +kernel) rfl
theorem tw_544 : Cond.selects RX5 yX5_putPort yX5_putPort ∈ TT := tw_m 544 (by decide +kernel) rfl
set_option maxRecDepth 100000 in
theorem tw_545 : Cond.code yX5_putPort cX5_putPort 6 (some (.object "SeamarkNet$Port")) ∈ TT := tw_m 545 (by rfl) rfl
theorem tw_546 : Cond.methodLink RX5 45 yX5_portWithAddress ∈ TT := tw_m 546 (by decide +kernel) rfl
theorem tw_547 : Cond.instanceMethod yX5_portWithAddress ∈ TT := tw_m 547 (by decide +kernel) rfl
theorem tw_548 : Cond.selects RX5 yX5_portWithAddress yX5_portWithAddress ∈ TT := tw_m 548 (by decide +kernel) rfl
set_option maxRecDepth 100000 in
theorem tw_549 : Cond.code yX5_portWithAddress cX5_portWithAddress 2 (some (.object "SeamarkNet$Port")) ∈ TT := tw_m 549 (by rfl) rfl
theorem tw_550 : Cond.methodLink RX5 49 yX3_addNextPort ∈ TT := tw_m 550 (by decide +kernel) rfl
theorem tw_551 : Cond.instanceMethod yX3_addNextPort ∈ TT := tw_m 551 (by decide +kernel) rfl
theorem tw_552 : Cond.selects RX3 yX3_addNextPort yX3_addNextPort ∈ TT := tw_m 552 (by decide +kernel) rfl
set_option maxRecDepth 100000 in
theorem tw_553 : Cond.code yX3_addNextPort cX3_addNextPort 5 (some (.object "SeamarkNet$Port")) ∈ TT := tw_m 553 (by rfl) rfl
theorem tw_554 : Cond.instantiable RX7 4 ∈ TT := tw_m 554 (by decide +kernel) rfl
theorem tw_555 : Cond.methodLink RX3 52 yX7_init ∈ TT := tw_m 555 (by decide +kernel) rfl
theorem tw_556 : Cond.instanceMethod yX7_init ∈ TT := tw_m 556 (by decide +kernel) rfl
set_option maxRecDepth 100000 in
theorem tw_557 : Cond.code yX7_init cX7_init 5 none ∈ TT := tw_m 557 (by rfl) rfl
theorem tw_558 : Cond.methodLink RX7 1 objectInit ∈ TT := tw_m 558 (by decide +kernel) rfl
theorem tw_559 : Cond.fieldLink RX7 7 "SeamarkNet$Port" "mark" "I" ∈ TT := tw_m 559 (by decide +kernel) rfl
theorem tw_560 : Cond.fieldLink RX8 29 "SeamarkNet$Port" "mark" "I" ∈ TT := tw_m 560 (by decide +kernel) rfl
theorem tw_561 : Cond.fieldLink RX11 82 "SeamarkNet$Port" "mark" "I" ∈ TT := tw_m 561 (by decide +kernel) rfl
theorem tw_562 : Cond.fieldLink RX9 257 "SeamarkNet$Port" "mark" "I" ∈ TT := tw_m 562 (by decide +kernel) rfl
theorem tw_563 : Cond.fieldLink RX7 13 "SeamarkNet$Port" "cable" "I" ∈ TT := tw_m 563 (by decide +kernel) rfl
theorem tw_564 : Cond.fieldLink RX8 23 "SeamarkNet$Port" "cable" "I" ∈ TT := tw_m 564 (by decide +kernel) rfl
theorem tw_565 : Cond.fieldLink RX9 171 "SeamarkNet$Port" "cable" "I" ∈ TT := tw_m 565 (by decide +kernel) rfl
theorem tw_566 : Cond.fieldLink RX7 16 "SeamarkNet$Port" "address" "I" ∈ TT := tw_m 566 (by decide +kernel) rfl
theorem tw_567 : Cond.fieldLink RX3 64 "SeamarkNet$Port" "address" "I" ∈ TT := tw_m 567 (by decide +kernel) rfl
theorem tw_568 : Cond.fieldLink RX9 149 "SeamarkNet$Port" "address" "I" ∈ TT := tw_m 568 (by decide +kernel) rfl
theorem tw_569 : Cond.fieldLink RX11 258 "SeamarkNet$Port" "address" "I" ∈ TT := tw_m 569 (by decide +kernel) rfl
theorem tw_570 : Cond.fieldLink RX7 19 "SeamarkNet$Port" "length" "I" ∈ TT := tw_m 570 (by decide +kernel) rfl
theorem tw_571 : Cond.fieldLink RX3 75 "SeamarkNet$Port" "length" "I" ∈ TT := tw_m 571 (by decide +kernel) rfl
theorem tw_581 : Cond.methodLink RX3 55 yX3_layWays ∈ TT := tw_m 581 (by decide +kernel) rfl
theorem tw_583 : Cond.instanceMethod yX3_layWays ∈ TT := tw_m 583 (by decide +kernel) rfl
set_option maxRecDepth 100000 in
theorem tw_584 : Cond.code yX3_layWays cX3_layWays 6 none ∈ TT := tw_m 584 (by rfl) rfl
theorem tw_585 : Cond.methodLink RX3 67 yX3_portWithNetOf ∈ TT := tw_m 585 (by decide +kernel) rfl
theorem tw_587 : Cond.instanceMethod yX3_portWithNetOf ∈ TT := tw_m 587 (by decide +kernel) rfl
set_option maxRecDepth 100000 in
theorem tw_588 : Cond.code yX3_portWithNetOf cX3_portWithNetOf 6 (some .int) ∈ TT := tw_m 588 (by rfl) rfl
theorem tw_589 : Cond.methodLink RX3 88 yX3_netHas ∈ TT := tw_m 589 (by decide +kernel) rfl
theorem tw_590 : Cond.static yX3_netHas ∈ TT := tw_m 590 (by decide +kernel) rfl
set_option maxRecDepth 100000 in
theorem tw_591 : Cond.code yX3_netHas cX3_netHas 3 (some .boolean) ∈ TT := tw_m 591 (by rfl) rfl
theorem tw_592 : Cond.methodLink RX3 71 yX3_port ∈ TT := tw_m 592 (by decide +kernel) rfl
theorem tw_593 : Cond.methodLink RX3 78 yX3_routeFor ∈ TT := tw_m 593 (by decide +kernel) rfl
theorem tw_595 : Cond.instanceMethod yX3_routeFor ∈ TT := tw_m 595 (by decide +kernel) rfl
set_option maxRecDepth 100000 in
theorem tw_596 : Cond.code yX3_routeFor cX3_routeFor 5 (some .int) ∈ TT := tw_m 596 (by rfl) rfl
theorem tw_597 : Cond.methodLink RX3 81 yX3_layByRoute ∈ TT := tw_m 597 (by decide +kernel) rfl
theorem tw_599 : Cond.instanceMethod yX3_layByRoute ∈ TT := tw_m 599 (by decide +kernel) rfl
set_option maxRecDepth 100000 in
theorem tw_600 : Cond.code yX3_layByRoute cX3_layByRoute 5 none ∈ TT := tw_m 600 (by rfl) rfl
theorem tw_601 : Cond.methodLink RX3 85 yX3_layWay ∈ TT := tw_m 601 (by decide +kernel) rfl
theorem tw_603 : Cond.instanceMethod yX3_layWay ∈ TT := tw_m 603 (by decide +kernel) rfl
set_option maxRecDepth 100000 in
theorem tw_604 : Cond.code yX3_layWay cX3_layWay 5 none ∈ TT := tw_m 604 (by rfl) rfl
theorem tw_606 : Cond.methodLink RL 67 yL_addressOf ∈ TT := tw_m 606 (by decide +kernel) rfl
theorem tw_607 : Cond.static yL_addressOf ∈ TT := tw_m 607 (by decide +kernel) rfl
set_option maxRecDepth 100000 in
theorem tw_608 : Cond.code yL_addressOf cL_addressOf 3 (some .int) ∈ TT := tw_m 608 (by rfl) rfl
theorem tw_609 : Cond.methodLink RL 71 yX11_addRoute ∈ TT := tw_m 609 (by decide +kernel) rfl
theorem tw_610 : Cond.instanceMethod yX11_addRoute ∈ TT := tw_m 610 (by decide +kernel) rfl
theorem tw_611 : Cond.selects RX11 yX11_addRoute yX11_addRoute ∈ TT := tw_m 611 (by decide +kernel) rfl
set_option maxRecDepth 100000 in
theorem tw_612 : Cond.code yX11_addRoute cX11_addRoute 7 (some .int) ∈ TT := tw_m 612 (by rfl) rfl
theorem tw_613 : Cond.methodLink RX11 95 yX3_mayLeadVia ∈ TT := tw_m 613 (by decide +kernel) rfl
theorem tw_614 : Cond.instanceMethod yX3_mayLeadVia ∈ TT := tw_m 614 (by decide +kernel) rfl
theorem tw_615 : Cond.selects RX3 yX3_mayLeadVia yX3_mayLeadVia ∈ TT := tw_m 615 (by decide +kernel) rfl
set_option maxRecDepth 100000 in
theorem tw_616 : Cond.code yX3_mayLeadVia cX3_mayLeadVia 2 (some .boolean) ∈ TT := tw_m 616 (by rfl) rfl
theorem tw_618 : Cond.methodLink RX11 104 yX3_putRoute ∈ TT := tw_m 618 (by decide +kernel) rfl
theorem tw_619 : Cond.instanceMethod yX3_putRoute ∈ TT := tw_m 619 (by decide +kernel) rfl
theorem tw_620 : Cond.selects RX3 yX3_putRoute yX3_putRoute ∈ TT := tw_m 620 (by decide +kernel) rfl
set_option maxRecDepth 100000 in
theorem tw_621 : Cond.code yX3_putRoute cX3_putRoute 4 (some .int) ∈ TT := tw_m 621 (by rfl) rfl
theorem tw_623 : Cond.methodLink RL 74 yX11_addTunnel ∈ TT := tw_m 623 (by decide +kernel) rfl
theorem tw_624 : Cond.instanceMethod yX11_addTunnel ∈ TT := tw_m 624 (by decide +kernel) rfl
theorem tw_625 : Cond.selects RX11 yX11_addTunnel yX11_addTunnel ∈ TT := tw_m 625 (by decide +kernel) rfl
set_option maxRecDepth 100000 in
theorem tw_626 : Cond.code yX11_addTunnel cX11_addTunnel 5 (some .int) ∈ TT := tw_m 626 (by rfl) rfl
theorem tw_627 : Cond.methodLink RX11 88 yX3_putTunnel ∈ TT := tw_m 627 (by decide +kernel) rfl
theorem tw_628 : Cond.instanceMethod yX3_putTunnel ∈ TT := tw_m 628 (by decide +kernel) rfl
theorem tw_629 : Cond.selects RX3 yX3_putTunnel yX3_putTunnel ∈ TT := tw_m 629 (by decide +kernel) rfl
set_option maxRecDepth 100000 in
theorem tw_630 : Cond.code yX3_putTunnel cX3_putTunnel 2 (some .int) ∈ TT := tw_m 630 (by rfl) rfl
theorem tw_632 : Cond.methodLink RL 77 yX11_send ∈ TT := tw_m 632 (by decide +kernel) rfl
theorem tw_633 : Cond.instanceMethod yX11_send ∈ TT := tw_m 633 (by decide +kernel) rfl
theorem tw_634 : Cond.selects RX11 yX11_send yX11_send ∈ TT := tw_m 634 (by decide +kernel) rfl
set_option maxRecDepth 100000 in
theorem tw_635 : Cond.code yX11_send cX11_send 8 (some .int) ∈ TT := tw_m 635 (by rfl) rfl
theorem tw_637 : Cond.methodLink RX11 122 yX11_needTtl ∈ TT := tw_m 637 (by decide +kernel) rfl
theorem tw_638 : Cond.static yX11_needTtl ∈ TT := tw_m 638 (by decide +kernel) rfl
set_option maxRecDepth 100000 in
theorem tw_639 : Cond.code yX11_needTtl cX11_needTtl 1 none ∈ TT := tw_m 639 (by rfl) rfl
theorem tw_641 : Cond.methodLink RX11 125 yX9_launch ∈ TT := tw_m 641 (by decide +kernel) rfl
theorem tw_642 : Cond.instanceMethod yX9_launch ∈ TT := tw_m 642 (by decide +kernel) rfl
theorem tw_643 : Cond.selects RX9 yX9_launch yX9_launch ∈ TT := tw_m 643 (by decide +kernel) rfl
set_option maxRecDepth 100000 in
theorem tw_644 : Cond.code yX9_launch cX9_launch 10 (some .int) ∈ TT := tw_m 644 (by rfl) rfl
theorem tw_645 : Cond.methodLink RX9 76 yX9_sourceFor ∈ TT := tw_m 645 (by decide +kernel) rfl
theorem tw_646 : Cond.static yX9_sourceFor ∈ TT := tw_m 646 (by decide +kernel) rfl
set_option maxRecDepth 100000 in
theorem tw_647 : Cond.code yX9_sourceFor cX9_sourceFor 4 (some .int) ∈ TT := tw_m 647 (by rfl) rfl
theorem tw_648 : Cond.methodLink RX9 129 yX3_owns ∈ TT := tw_m 648 (by decide +kernel) rfl
theorem tw_649 : Cond.instanceMethod yX3_owns ∈ TT := tw_m 649 (by decide +kernel) rfl
theorem tw_650 : Cond.selects RX3 yX3_owns yX3_owns ∈ TT := tw_m 650 (by decide +kernel) rfl
set_option maxRecDepth 100000 in
theorem tw_651 : Cond.code yX3_owns cX3_owns 4 (some .boolean) ∈ TT := tw_m 651 (by rfl) rfl
theorem tw_652 : Cond.methodLink RX9 135 yX3_portTo ∈ TT := tw_m 652 (by decide +kernel) rfl
theorem tw_653 : Cond.instanceMethod yX3_portTo ∈ TT := tw_m 653 (by decide +kernel) rfl
theorem tw_654 : Cond.selects RX3 yX3_portTo yX3_portTo ∈ TT := tw_m 654 (by decide +kernel) rfl
set_option maxRecDepth 100000 in
theorem tw_655 : Cond.code yX3_portTo cX3_portTo 2 (some .int) ∈ TT := tw_m 655 (by rfl) rfl
theorem tw_656 : Cond.methodLink RX9 139 yX3_hopTo ∈ TT := tw_m 656 (by decide +kernel) rfl
theorem tw_657 : Cond.instanceMethod yX3_hopTo ∈ TT := tw_m 657 (by decide +kernel) rfl
theorem tw_658 : Cond.selects RX3 yX3_hopTo yX3_hopTo ∈ TT := tw_m 658 (by decide +kernel) rfl
set_option maxRecDepth 100000 in
theorem tw_659 : Cond.code yX3_hopTo cX3_hopTo 2 (some .int) ∈ TT := tw_m 659 (by rfl) rfl
theorem tw_660 : Cond.methodLink RX9 142 yX3_farOf ∈ TT := tw_m 660 (by decide +kernel) rfl
theorem tw_661 : Cond.instanceMethod yX3_farOf ∈ TT := tw_m 661 (by decide +kernel) rfl
theorem tw_662 : Cond.selects RX3 yX3_farOf yX3_farOf ∈ TT := tw_m 662 (by decide +kernel) rfl
set_option maxRecDepth 100000 in
theorem tw_663 : Cond.code yX3_farOf cX3_farOf 2 (some .int) ∈ TT := tw_m 663 (by rfl) rfl
theorem tw_664 : Cond.methodLink RX9 145 yX3_port ∈ TT := tw_m 664 (by decide +kernel) rfl
theorem tw_665 : Cond.methodLink RX9 80 yX9_bear ∈ TT := tw_m 665 (by decide +kernel) rfl
theorem tw_667 : Cond.instanceMethod yX9_bear ∈ TT := tw_m 667 (by decide +kernel) rfl
set_option maxRecDepth 100000 in
theorem tw_668 : Cond.code yX9_bear cX9_bear 6 (some (.object "SeamarkNet$Packet")) ∈ TT := tw_m 668 (by rfl) rfl
theorem tw_669 : Cond.methodLink RX9 100 yX6_take ∈ TT := tw_m 669 (by decide +kernel) rfl
theorem tw_670 : Cond.instanceMethod yX6_take ∈ TT := tw_m 670 (by decide +kernel) rfl
theorem tw_671 : Cond.selects RX6 yX6_take yX6_take ∈ TT := tw_m 671 (by decide +kernel) rfl
set_option maxRecDepth 100000 in
theorem tw_672 : Cond.code yX6_take cX6_take 2 (some (.object "SeamarkNet$Packet")) ∈ TT := tw_m 672 (by rfl) rfl
theorem tw_673 : Cond.classLink RX6 17 RX4 ∈ TT := tw_m 673 (by decide +kernel) rfl
theorem tw_674 : Cond.instantiable RX4 15 ∈ TT := tw_m 674 (by decide +kernel) rfl
theorem tw_676 : Cond.instanceMethod yX4_init ∈ TT := tw_m 676 (by decide +kernel) rfl
set_option maxRecDepth 100000 in
theorem tw_677 : Cond.code yX4_init cX4_init 1 none ∈ TT := tw_m 677 (by rfl) rfl
theorem tw_678 : Cond.methodLink RX4 3 objectInit ∈ TT := tw_m 678 (by decide +kernel) rfl
theorem tw_679 : Cond.fieldLink RX4 19 "SeamarkNet$Packet" "kind" "I" ∈ TT := tw_m 679 (by decide +kernel) rfl
theorem tw_680 : Cond.fieldLink RX0 50 "SeamarkNet$Packet" "kind" "I" ∈ TT := tw_m 680 (by decide +kernel) rfl
theorem tw_681 : Cond.fieldLink RX9 104 "SeamarkNet$Packet" "kind" "I" ∈ TT := tw_m 681 (by decide +kernel) rfl
theorem tw_682 : Cond.fieldLink RX2 120 "SeamarkNet$Packet" "kind" "I" ∈ TT := tw_m 682 (by decide +kernel) rfl
theorem tw_683 : Cond.fieldLink RX1 9 "SeamarkNet$Packet" "from" "I" ∈ TT := tw_m 683 (by decide +kernel) rfl
theorem tw_684 : Cond.fieldLink RX4 25 "SeamarkNet$Packet" "from" "I" ∈ TT := tw_m 684 (by decide +kernel) rfl
theorem tw_685 : Cond.fieldLink RX9 107 "SeamarkNet$Packet" "from" "I" ∈ TT := tw_m 685 (by decide +kernel) rfl
theorem tw_686 : Cond.fieldLink RX2 99 "SeamarkNet$Packet" "from" "I" ∈ TT := tw_m 686 (by decide +kernel) rfl
theorem tw_687 : Cond.fieldLink RX4 28 "SeamarkNet$Packet" "to" "I" ∈ TT := tw_m 687 (by decide +kernel) rfl
theorem tw_688 : Cond.fieldLink RX9 110 "SeamarkNet$Packet" "to" "I" ∈ TT := tw_m 688 (by decide +kernel) rfl
theorem tw_689 : Cond.fieldLink RX4 22 "SeamarkNet$Packet" "size" "I" ∈ TT := tw_m 689 (by decide +kernel) rfl
theorem tw_690 : Cond.fieldLink RX1 32 "SeamarkNet$Packet" "size" "I" ∈ TT := tw_m 690 (by decide +kernel) rfl
theorem tw_691 : Cond.fieldLink RX0 44 "SeamarkNet$Packet" "size" "I" ∈ TT := tw_m 691 (by decide +kernel) rfl
theorem tw_692 : Cond.fieldLink RX9 113 "SeamarkNet$Packet" "size" "I" ∈ TT := tw_m 692 (by decide +kernel) rfl
theorem tw_693 : Cond.fieldLink RX2 90 "SeamarkNet$Packet" "size" "I" ∈ TT := tw_m 693 (by decide +kernel) rfl
theorem tw_694 : Cond.fieldLink RX4 37 "SeamarkNet$Packet" "ttl" "I" ∈ TT := tw_m 694 (by decide +kernel) rfl
theorem tw_695 : Cond.fieldLink RX9 84 "SeamarkNet$Packet" "ttl" "I" ∈ TT := tw_m 695 (by decide +kernel) rfl
theorem tw_696 : Cond.fieldLink RX2 123 "SeamarkNet$Packet" "ttl" "I" ∈ TT := tw_m 696 (by decide +kernel) rfl
theorem tw_697 : Cond.fieldLink RX1 18 "SeamarkNet$Packet" "number" "I" ∈ TT := tw_m 697 (by decide +kernel) rfl
theorem tw_698 : Cond.fieldLink RX0 39 "SeamarkNet$Packet" "number" "I" ∈ TT := tw_m 698 (by decide +kernel) rfl
theorem tw_699 : Cond.fieldLink RX4 40 "SeamarkNet$Packet" "number" "I" ∈ TT := tw_m 699 (by decide +kernel) rfl
theorem tw_700 : Cond.fieldLink RX9 93 "SeamarkNet$Packet" "number" "I" ∈ TT := tw_m 700 (by decide +kernel) rfl
theorem tw_701 : Cond.fieldLink RX2 103 "SeamarkNet$Packet" "number" "I" ∈ TT := tw_m 701 (by decide +kernel) rfl
theorem tw_702 : Cond.fieldLink RX4 43 "SeamarkNet$Packet" "about" "I" ∈ TT := tw_m 702 (by decide +kernel) rfl
theorem tw_703 : Cond.fieldLink RX9 116 "SeamarkNet$Packet" "about" "I" ∈ TT := tw_m 703 (by decide +kernel) rfl
theorem tw_704 : Cond.fieldLink RX2 126 "SeamarkNet$Packet" "about" "I" ∈ TT := tw_m 704 (by decide +kernel) rfl
theorem tw_705 : Cond.fieldLink RX4 9 "SeamarkNet$Packet" "place" "I" ∈ TT := tw_m 705 (by decide +kernel) rfl
theorem tw_706 : Cond.fieldLink RX1 26 "SeamarkNet$Packet" "place" "I" ∈ TT := tw_m 706 (by decide +kernel) rfl
theorem tw_707 : Cond.fieldLink RX0 47 "SeamarkNet$Packet" "place" "I" ∈ TT := tw_m 707 (by decide +kernel) rfl
theorem tw_708 : Cond.fieldLink RX9 119 "SeamarkNet$Packet" "place" "I" ∈ TT := tw_m 708 (by decide +kernel) rfl
theorem tw_709 : Cond.fieldLink RX2 83 "SeamarkNet$Packet" "place" "I" ∈ TT := tw_m 709 (by decide +kernel) rfl
theorem tw_710 : Cond.fieldLink RX4 46 "SeamarkNet$Packet" "isWhole" "Z" ∈ TT := tw_m 710 (by decide +kernel) rfl
theorem tw_711 : Cond.fieldLink RX9 89 "SeamarkNet$Packet" "isWhole" "Z" ∈ TT := tw_m 711 (by decide +kernel) rfl
theorem tw_712 : Cond.fieldLink RX4 15 "SeamarkNet$Packet" "hasMore" "Z" ∈ TT := tw_m 712 (by decide +kernel) rfl
theorem tw_713 : Cond.fieldLink RX1 35 "SeamarkNet$Packet" "hasMore" "Z" ∈ TT := tw_m 713 (by decide +kernel) rfl
theorem tw_714 : Cond.fieldLink RX9 122 "SeamarkNet$Packet" "hasMore" "Z" ∈ TT := tw_m 714 (by decide +kernel) rfl
theorem tw_715 : Cond.fieldLink RX2 86 "SeamarkNet$Packet" "hasMore" "Z" ∈ TT := tw_m 715 (by decide +kernel) rfl
theorem tw_716 : Cond.fieldLink RX4 49 "SeamarkNet$Packet" "inside" "LSeamarkNet$Packet;" ∈ TT := tw_m 716 (by decide +kernel) rfl
theorem tw_717 : Cond.fieldLink RX9 125 "SeamarkNet$Packet" "inside" "LSeamarkNet$Packet;" ∈ TT := tw_m 717 (by decide +kernel) rfl
theorem tw_718 : Cond.fieldLink RX2 114 "SeamarkNet$Packet" "inside" "LSeamarkNet$Packet;" ∈ TT := tw_m 718 (by decide +kernel) rfl
theorem tw_719 : Cond.fieldLink RX2 57 "SeamarkNet$Packet" "hop" "I" ∈ TT := tw_m 719 (by decide +kernel) rfl
theorem tw_720 : Cond.fieldLink RX9 195 "SeamarkNet$Packet" "hop" "I" ∈ TT := tw_m 720 (by decide +kernel) rfl
theorem tw_721 : Cond.fieldLink RX9 198 "SeamarkNet$Packet" "by" "LSeamarkNet$Port;" ∈ TT := tw_m 721 (by decide +kernel) rfl
theorem tw_722 : Cond.fieldLink RX1 29 "SeamarkNet$Packet" "next" "LSeamarkNet$Packet;" ∈ TT := tw_m 722 (by decide +kernel) rfl
theorem tw_723 : Cond.fieldLink RX2 45 "SeamarkNet$Packet" "next" "LSeamarkNet$Packet;" ∈ TT := tw_m 723 (by decide +kernel) rfl
theorem tw_724 : Cond.fieldLink RX9 267 "SeamarkNet$Packet" "next" "LSeamarkNet$Packet;" ∈ TT := tw_m 724 (by decide +kernel) rfl
theorem tw_725 : Cond.fieldLink RX6 16 "SeamarkNet$Packet" "made" "LSeamarkNet$Packet;" ∈ TT := tw_m 725 (by decide +kernel) rfl
theorem tw_757 : Cond.methodLink RX9 96 yX9_goOut ∈ TT := tw_m 757 (by decide +kernel) rfl
theorem tw_759 : Cond.instanceMethod yX9_goOut ∈ TT := tw_m 759 (by decide +kernel) rfl
set_option maxRecDepth 100000 in
theorem tw_760 : Cond.code yX9_goOut cX9_goOut 8 none ∈ TT := tw_m 760 (by rfl) rfl
theorem tw_761 : Cond.constant RX9 154 (1000000) ∈ TT := tw_m 761 (by decide +kernel) rfl
theorem tw_762 : Cond.methodLink RX9 155 yX9_accept ∈ TT := tw_m 762 (by decide +kernel) rfl
theorem tw_764 : Cond.instanceMethod yX9_accept ∈ TT := tw_m 764 (by decide +kernel) rfl
set_option maxRecDepth 100000 in
theorem tw_765 : Cond.code yX9_accept cX9_accept 4 (some (.object "SeamarkNet$Packet")) ∈ TT := tw_m 765 (by rfl) rfl
theorem tw_766 : Cond.methodLink RX9 280 yX2_writeNote ∈ TT := tw_m 766 (by decide +kernel) rfl
theorem tw_767 : Cond.instanceMethod yX2_writeNote ∈ TT := tw_m 767 (by decide +kernel) rfl
theorem tw_768 : Cond.selects RX2 yX2_writeNote yX2_writeNote ∈ TT := tw_m 768 (by decide +kernel) rfl
set_option maxRecDepth 100000 in
theorem tw_769 : Cond.code yX2_writeNote cX2_writeNote 3 none ∈ TT := tw_m 769 (by rfl) rfl
theorem tw_770 : Cond.methodLink RX9 159 yX9_canWrap ∈ TT := tw_m 770 (by decide +kernel) rfl
theorem tw_771 : Cond.static yX9_canWrap ∈ TT := tw_m 771 (by decide +kernel) rfl
set_option maxRecDepth 100000 in
theorem tw_772 : Cond.code yX9_canWrap cX9_canWrap 3 (some .boolean) ∈ TT := tw_m 772 (by rfl) rfl
theorem tw_773 : Cond.methodLink RX9 163 yX9_wrap ∈ TT := tw_m 773 (by decide +kernel) rfl
theorem tw_775 : Cond.instanceMethod yX9_wrap ∈ TT := tw_m 775 (by decide +kernel) rfl
set_option maxRecDepth 100000 in
theorem tw_776 : Cond.code yX9_wrap cX9_wrap 5 (some (.object "SeamarkNet$Packet")) ∈ TT := tw_m 776 (by rfl) rfl
theorem tw_777 : Cond.methodLink RX9 167 yX9_complain ∈ TT := tw_m 777 (by decide +kernel) rfl
theorem tw_779 : Cond.instanceMethod yX9_complain ∈ TT := tw_m 779 (by decide +kernel) rfl
set_option maxRecDepth 100000 in
theorem tw_780 : Cond.code yX9_complain cX9_complain 7 (some (.object "SeamarkNet$Packet")) ∈ TT := tw_m 780 (by rfl) rfl
theorem tw_781 : Cond.methodLink RX9 209 yX4_isComplaint ∈ TT := tw_m 781 (by decide +kernel) rfl
theorem tw_782 : Cond.instanceMethod yX4_isComplaint ∈ TT := tw_m 782 (by decide +kernel) rfl
theorem tw_783 : Cond.selects RX4 yX4_isComplaint yX4_isComplaint ∈ TT := tw_m 783 (by decide +kernel) rfl
set_option maxRecDepth 100000 in
theorem tw_784 : Cond.code yX4_isComplaint cX4_isComplaint 1 (some .boolean) ∈ TT := tw_m 784 (by rfl) rfl
theorem tw_785 : Cond.methodLink RX9 174 yX5_widthOf ∈ TT := tw_m 785 (by decide +kernel) rfl
theorem tw_786 : Cond.instanceMethod yX5_widthOf ∈ TT := tw_m 786 (by decide +kernel) rfl
theorem tw_787 : Cond.selects RX5 yX5_widthOf yX5_widthOf ∈ TT := tw_m 787 (by decide +kernel) rfl
set_option maxRecDepth 100000 in
theorem tw_788 : Cond.code yX5_widthOf cX5_widthOf 2 (some .int) ∈ TT := tw_m 788 (by rfl) rfl
theorem tw_789 : Cond.methodLink RX9 177 yX9_goByPort ∈ TT := tw_m 789 (by decide +kernel) rfl
theorem tw_791 : Cond.instanceMethod yX9_goByPort ∈ TT := tw_m 791 (by decide +kernel) rfl
set_option maxRecDepth 100000 in
theorem tw_792 : Cond.code yX9_goByPort cX9_goByPort 8 none ∈ TT := tw_m 792 (by rfl) rfl
theorem tw_793 : Cond.methodLink RX9 181 yX9_goToHop ∈ TT := tw_m 793 (by decide +kernel) rfl
theorem tw_795 : Cond.instanceMethod yX9_goToHop ∈ TT := tw_m 795 (by decide +kernel) rfl
set_option maxRecDepth 100000 in
theorem tw_796 : Cond.code yX9_goToHop cX9_goToHop 6 none ∈ TT := tw_m 796 (by rfl) rfl
theorem tw_797 : Cond.methodLink RX9 188 yX2_knownMark ∈ TT := tw_m 797 (by decide +kernel) rfl
theorem tw_798 : Cond.methodLink RX9 191 yX8_add ∈ TT := tw_m 798 (by decide +kernel) rfl
theorem tw_799 : Cond.instanceMethod yX8_add ∈ TT := tw_m 799 (by decide +kernel) rfl
theorem tw_800 : Cond.selects RX8 yX8_add yX8_add ∈ TT := tw_m 800 (by decide +kernel) rfl
set_option maxRecDepth 100000 in
theorem tw_801 : Cond.code yX8_add cX8_add 7 none ∈ TT := tw_m 801 (by rfl) rfl
theorem tw_802 : Cond.classLink RX8 13 RX0 ∈ TT := tw_m 802 (by decide +kernel) rfl
theorem tw_804 : Cond.instanceMethod yX0_init ∈ TT := tw_m 804 (by decide +kernel) rfl
set_option maxRecDepth 100000 in
theorem tw_805 : Cond.code yX0_init cX0_init 1 none ∈ TT := tw_m 805 (by rfl) rfl
theorem tw_806 : Cond.methodLink RX0 3 objectInit ∈ TT := tw_m 806 (by decide +kernel) rfl
theorem tw_807 : Cond.fieldLink RX0 9 "SeamarkNet$Frame" "cable" "I" ∈ TT := tw_m 807 (by decide +kernel) rfl
theorem tw_808 : Cond.fieldLink RX8 28 "SeamarkNet$Frame" "cable" "I" ∈ TT := tw_m 808 (by decide +kernel) rfl
theorem tw_809 : Cond.fieldLink RX9 220 "SeamarkNet$Frame" "cable" "I" ∈ TT := tw_m 809 (by decide +kernel) rfl
theorem tw_810 : Cond.fieldLink RX0 15 "SeamarkNet$Frame" "from" "I" ∈ TT := tw_m 810 (by decide +kernel) rfl
theorem tw_811 : Cond.fieldLink RX8 32 "SeamarkNet$Frame" "from" "I" ∈ TT := tw_m 811 (by decide +kernel) rfl
theorem tw_812 : Cond.fieldLink RX9 253 "SeamarkNet$Frame" "from" "I" ∈ TT := tw_m 812 (by decide +kernel) rfl
theorem tw_813 : Cond.fieldLink RX0 18 "SeamarkNet$Frame" "to" "I" ∈ TT := tw_m 813 (by decide +kernel) rfl
theorem tw_814 : Cond.fieldLink RX8 35 "SeamarkNet$Frame" "to" "I" ∈ TT := tw_m 814 (by decide +kernel) rfl
theorem tw_815 : Cond.fieldLink RX9 236 "SeamarkNet$Frame" "to" "I" ∈ TT := tw_m 815 (by decide +kernel) rfl
theorem tw_816 : Cond.fieldLink RX8 19 "SeamarkNet$Frame" "sort" "I" ∈ TT := tw_m 816 (by decide +kernel) rfl
theorem tw_817 : Cond.fieldLink RX0 21 "SeamarkNet$Frame" "sort" "I" ∈ TT := tw_m 817 (by decide +kernel) rfl
theorem tw_818 : Cond.fieldLink RX9 223 "SeamarkNet$Frame" "sort" "I" ∈ TT := tw_m 818 (by decide +kernel) rfl
theorem tw_819 : Cond.fieldLink RX8 38 "SeamarkNet$Frame" "address" "I" ∈ TT := tw_m 819 (by decide +kernel) rfl
theorem tw_820 : Cond.fieldLink RX0 36 "SeamarkNet$Frame" "address" "I" ∈ TT := tw_m 820 (by decide +kernel) rfl
theorem tw_821 : Cond.fieldLink RX9 249 "SeamarkNet$Frame" "address" "I" ∈ TT := tw_m 821 (by decide +kernel) rfl
theorem tw_822 : Cond.fieldLink RX0 24 "SeamarkNet$Frame" "packet" "LSeamarkNet$Packet;" ∈ TT := tw_m 822 (by decide +kernel) rfl
theorem tw_823 : Cond.fieldLink RX8 41 "SeamarkNet$Frame" "packet" "LSeamarkNet$Packet;" ∈ TT := tw_m 823 (by decide +kernel) rfl
theorem tw_824 : Cond.fieldLink RX9 240 "SeamarkNet$Frame" "packet" "LSeamarkNet$Packet;" ∈ TT := tw_m 824 (by decide +kernel) rfl
theorem tw_825 : Cond.fieldLink RX8 16 "SeamarkNet$Frame" "next" "LSeamarkNet$Frame;" ∈ TT := tw_m 825 (by decide +kernel) rfl
theorem tw_826 : Cond.fieldLink RX11 244 "SeamarkNet$Frame" "next" "LSeamarkNet$Frame;" ∈ TT := tw_m 826 (by decide +kernel) rfl
theorem tw_842 : Cond.methodLink RX9 202 yX2_putToWait ∈ TT := tw_m 842 (by decide +kernel) rfl
theorem tw_843 : Cond.instanceMethod yX2_putToWait ∈ TT := tw_m 843 (by decide +kernel) rfl
theorem tw_844 : Cond.selects RX2 yX2_putToWait yX2_putToWait ∈ TT := tw_m 844 (by decide +kernel) rfl
set_option maxRecDepth 100000 in
theorem tw_845 : Cond.code yX2_putToWait cX2_putToWait 2 none ∈ TT := tw_m 845 (by rfl) rfl
theorem tw_846 : Cond.methodLink RX2 39 yX2_dropFirstWaiting ∈ TT := tw_m 846 (by decide +kernel) rfl
theorem tw_848 : Cond.instanceMethod yX2_dropFirstWaiting ∈ TT := tw_m 848 (by decide +kernel) rfl
set_option maxRecDepth 100000 in
theorem tw_849 : Cond.code yX2_dropFirstWaiting cX2_dropFirstWaiting 1 none ∈ TT := tw_m 849 (by rfl) rfl
theorem tw_850 : Cond.methodLink RX9 206 yX2_countWaitingFor ∈ TT := tw_m 850 (by decide +kernel) rfl
theorem tw_851 : Cond.instanceMethod yX2_countWaitingFor ∈ TT := tw_m 851 (by decide +kernel) rfl
theorem tw_852 : Cond.selects RX2 yX2_countWaitingFor yX2_countWaitingFor ∈ TT := tw_m 852 (by decide +kernel) rfl
set_option maxRecDepth 100000 in
theorem tw_853 : Cond.code yX2_countWaitingFor cX2_countWaitingFor 4 (some .int) ∈ TT := tw_m 853 (by rfl) rfl
theorem tw_854 : Cond.methodLink RX9 184 yX4_cutFrom ∈ TT := tw_m 854 (by decide +kernel) rfl
theorem tw_855 : Cond.instanceMethod yX4_cutFrom ∈ TT := tw_m 855 (by decide +kernel) rfl
theorem tw_856 : Cond.selects RX4 yX4_cutFrom yX4_cutFrom ∈ TT := tw_m 856 (by decide +kernel) rfl
set_option maxRecDepth 100000 in
theorem tw_857 : Cond.code yX4_cutFrom cX4_cutFrom 5 none ∈ TT := tw_m 857 (by rfl) rfl
theorem tw_858 : Cond.methodLink RX4 31 Lib.Math.min.name ∈ TT := tw_m 858 (by decide +kernel) rfl
theorem tw_859 : Cond.static Lib.Math.min.name ∈ TT := tw_m 859 (by decide +kernel) rfl
set_option maxRecDepth 100000 in
theorem tw_860 : Cond.code Lib.Math.min.name Lib.Math.min.code 2 (some .int) ∈ TT := tw_m 860 (by rfl) rfl
theorem tw_861 : Cond.methodLink RL 81 yX11_step ∈ TT := tw_m 861 (by decide +kernel) rfl
theorem tw_862 : Cond.instanceMethod yX11_step ∈ TT := tw_m 862 (by decide +kernel) rfl
theorem tw_863 : Cond.selects RX11 yX11_step yX11_step ∈ TT := tw_m 863 (by decide +kernel) rfl
set_option maxRecDepth 100000 in
theorem tw_864 : Cond.code yX11_step cX11_step 3 (some .int) ∈ TT := tw_m 864 (by rfl) rfl
theorem tw_866 : Cond.methodLink RX11 140 yX9_deliverNext ∈ TT := tw_m 866 (by decide +kernel) rfl
theorem tw_867 : Cond.instanceMethod yX9_deliverNext ∈ TT := tw_m 867 (by decide +kernel) rfl
theorem tw_868 : Cond.selects RX9 yX9_deliverNext yX9_deliverNext ∈ TT := tw_m 868 (by decide +kernel) rfl
set_option maxRecDepth 100000 in
theorem tw_869 : Cond.code yX9_deliverNext cX9_deliverNext 3 (some .boolean) ∈ TT := tw_m 869 (by rfl) rfl
theorem tw_870 : Cond.methodLink RX9 213 yX8_takeFirst ∈ TT := tw_m 870 (by decide +kernel) rfl
theorem tw_871 : Cond.instanceMethod yX8_takeFirst ∈ TT := tw_m 871 (by decide +kernel) rfl
theorem tw_872 : Cond.selects RX8 yX8_takeFirst yX8_takeFirst ∈ TT := tw_m 872 (by decide +kernel) rfl
set_option maxRecDepth 100000 in
theorem tw_873 : Cond.code yX8_takeFirst cX8_takeFirst 2 (some (.object "SeamarkNet$Frame")) ∈ TT := tw_m 873 (by rfl) rfl
theorem tw_874 : Cond.methodLink RX9 226 yX9_hearQuestion ∈ TT := tw_m 874 (by decide +kernel) rfl
theorem tw_876 : Cond.instanceMethod yX9_hearQuestion ∈ TT := tw_m 876 (by decide +kernel) rfl
set_option maxRecDepth 100000 in
theorem tw_877 : Cond.code yX9_hearQuestion cX9_hearQuestion 5 none ∈ TT := tw_m 877 (by rfl) rfl
theorem tw_878 : Cond.methodLink RX9 250 yX5_portWithAddress ∈ TT := tw_m 878 (by decide +kernel) rfl
theorem tw_879 : Cond.methodLink RX9 254 yX5_portWithMark ∈ TT := tw_m 879 (by decide +kernel) rfl
theorem tw_880 : Cond.methodLink RX9 237 yX9_hostWithMark ∈ TT := tw_m 880 (by decide +kernel) rfl
theorem tw_882 : Cond.instanceMethod yX9_hostWithMark ∈ TT := tw_m 882 (by decide +kernel) rfl
set_option maxRecDepth 100000 in
theorem tw_883 : Cond.code yX9_hostWithMark cX9_hostWithMark 2 (some (.object "SeamarkNet$Host")) ∈ TT := tw_m 883 (by rfl) rfl
theorem tw_884 : Cond.methodLink RX9 48 yX9_host ∈ TT := tw_m 884 (by decide +kernel) rfl
theorem tw_885 : Cond.methodLink RX9 260 yX2_learn ∈ TT := tw_m 885 (by decide +kernel) rfl
theorem tw_886 : Cond.instanceMethod yX2_learn ∈ TT := tw_m 886 (by decide +kernel) rfl
theorem tw_887 : Cond.selects RX2 yX2_learn yX2_learn ∈ TT := tw_m 887 (by decide +kernel) rfl
set_option maxRecDepth 100000 in
theorem tw_888 : Cond.code yX2_learn cX2_learn 3 none ∈ TT := tw_m 888 (by rfl) rfl
theorem tw_889 : Cond.methodLink RX9 230 yX9_hearReply ∈ TT := tw_m 889 (by decide +kernel) rfl
theorem tw_891 : Cond.instanceMethod yX9_hearReply ∈ TT := tw_m 891 (by decide +kernel) rfl
set_option maxRecDepth 100000 in
theorem tw_892 : Cond.code yX9_hearReply cX9_hearReply 5 none ∈ TT := tw_m 892 (by rfl) rfl
theorem tw_893 : Cond.methodLink RX9 264 yX2_takeWaiting ∈ TT := tw_m 893 (by decide +kernel) rfl
theorem tw_894 : Cond.instanceMethod yX2_takeWaiting ∈ TT := tw_m 894 (by decide +kernel) rfl
theorem tw_895 : Cond.selects RX2 yX2_takeWaiting yX2_takeWaiting ∈ TT := tw_m 895 (by decide +kernel) rfl
set_option maxRecDepth 100000 in
theorem tw_896 : Cond.code yX2_takeWaiting cX2_takeWaiting 2 (some (.object "SeamarkNet$Packet")) ∈ TT := tw_m 896 (by rfl) rfl
theorem tw_897 : Cond.methodLink RX9 243 yX9_come ∈ TT := tw_m 897 (by decide +kernel) rfl
theorem tw_899 : Cond.instanceMethod yX9_come ∈ TT := tw_m 899 (by decide +kernel) rfl
set_option maxRecDepth 100000 in
theorem tw_900 : Cond.code yX9_come cX9_come 6 (some (.object "SeamarkNet$Packet")) ∈ TT := tw_m 900 (by rfl) rfl
theorem tw_901 : Cond.methodLink RX9 273 yX2_gather ∈ TT := tw_m 901 (by decide +kernel) rfl
theorem tw_902 : Cond.instanceMethod yX2_gather ∈ TT := tw_m 902 (by decide +kernel) rfl
theorem tw_903 : Cond.selects RX2 yX2_gather yX2_gather ∈ TT := tw_m 903 (by decide +kernel) rfl
set_option maxRecDepth 100000 in
theorem tw_904 : Cond.code yX2_gather cX2_gather 5 (some (.object "SeamarkNet$Packet")) ∈ TT := tw_m 904 (by rfl) rfl
theorem tw_905 : Cond.methodLink RX2 60 yX4_isPiece ∈ TT := tw_m 905 (by decide +kernel) rfl
theorem tw_906 : Cond.instanceMethod yX4_isPiece ∈ TT := tw_m 906 (by decide +kernel) rfl
theorem tw_907 : Cond.selects RX4 yX4_isPiece yX4_isPiece ∈ TT := tw_m 907 (by decide +kernel) rfl
set_option maxRecDepth 100000 in
theorem tw_908 : Cond.code yX4_isPiece cX4_isPiece 1 (some .boolean) ∈ TT := tw_m 908 (by rfl) rfl
theorem tw_909 : Cond.methodLink RX2 64 yX2_findHeap ∈ TT := tw_m 909 (by decide +kernel) rfl
theorem tw_911 : Cond.instanceMethod yX2_findHeap ∈ TT := tw_m 911 (by decide +kernel) rfl
set_option maxRecDepth 100000 in
theorem tw_912 : Cond.code yX2_findHeap cX2_findHeap 3 (some .int) ∈ TT := tw_m 912 (by rfl) rfl
theorem tw_913 : Cond.methodLink RX2 68 yX2_beginHeap ∈ TT := tw_m 913 (by decide +kernel) rfl
theorem tw_915 : Cond.instanceMethod yX2_beginHeap ∈ TT := tw_m 915 (by decide +kernel) rfl
set_option maxRecDepth 100000 in
theorem tw_916 : Cond.code yX2_beginHeap cX2_beginHeap 3 (some .int) ∈ TT := tw_m 916 (by rfl) rfl
theorem tw_917 : Cond.methodLink RX2 79 yX2_dropHeap ∈ TT := tw_m 917 (by decide +kernel) rfl
theorem tw_919 : Cond.instanceMethod yX2_dropHeap ∈ TT := tw_m 919 (by decide +kernel) rfl
set_option maxRecDepth 100000 in
theorem tw_920 : Cond.code yX2_dropHeap cX2_dropHeap 4 none ∈ TT := tw_m 920 (by rfl) rfl
theorem tw_921 : Cond.methodLink RX2 104 yX1_begin ∈ TT := tw_m 921 (by decide +kernel) rfl
theorem tw_922 : Cond.instanceMethod yX1_begin ∈ TT := tw_m 922 (by decide +kernel) rfl
theorem tw_923 : Cond.selects RX1 yX1_begin yX1_begin ∈ TT := tw_m 923 (by decide +kernel) rfl
set_option maxRecDepth 100000 in
theorem tw_924 : Cond.code yX1_begin cX1_begin 2 none ∈ TT := tw_m 924 (by rfl) rfl
theorem tw_925 : Cond.methodLink RX2 71 yX1_put ∈ TT := tw_m 925 (by decide +kernel) rfl
theorem tw_926 : Cond.instanceMethod yX1_put ∈ TT := tw_m 926 (by decide +kernel) rfl
theorem tw_927 : Cond.selects RX1 yX1_put yX1_put ∈ TT := tw_m 927 (by decide +kernel) rfl
set_option maxRecDepth 100000 in
theorem tw_928 : Cond.code yX1_put cX1_put 4 (some .boolean) ∈ TT := tw_m 928 (by rfl) rfl
theorem tw_929 : Cond.methodLink RX2 75 yX1_wholeSize ∈ TT := tw_m 929 (by decide +kernel) rfl
theorem tw_930 : Cond.instanceMethod yX1_wholeSize ∈ TT := tw_m 930 (by decide +kernel) rfl
theorem tw_931 : Cond.selects RX1 yX1_wholeSize yX1_wholeSize ∈ TT := tw_m 931 (by decide +kernel) rfl
set_option maxRecDepth 100000 in
theorem tw_932 : Cond.code yX1_wholeSize cX1_wholeSize 3 (some .int) ∈ TT := tw_m 932 (by rfl) rfl
theorem tw_933 : Cond.methodLink RX9 277 yX2_unwrap ∈ TT := tw_m 933 (by decide +kernel) rfl
theorem tw_934 : Cond.instanceMethod yX2_unwrap ∈ TT := tw_m 934 (by decide +kernel) rfl
theorem tw_935 : Cond.selects RX2 yX2_unwrap yX2_unwrap ∈ TT := tw_m 935 (by decide +kernel) rfl
set_option maxRecDepth 100000 in
theorem tw_936 : Cond.code yX2_unwrap cX2_unwrap 2 (some (.object "SeamarkNet$Packet")) ∈ TT := tw_m 936 (by rfl) rfl
theorem tw_937 : Cond.methodLink RX2 108 yX3_hasTunnelTo ∈ TT := tw_m 937 (by decide +kernel) rfl
theorem tw_938 : Cond.instanceMethod yX3_hasTunnelTo ∈ TT := tw_m 938 (by decide +kernel) rfl
theorem tw_939 : Cond.selects RX3 yX3_hasTunnelTo yX3_hasTunnelTo ∈ TT := tw_m 939 (by decide +kernel) rfl
set_option maxRecDepth 100000 in
theorem tw_940 : Cond.code yX3_hasTunnelTo cX3_hasTunnelTo 3 (some .boolean) ∈ TT := tw_m 940 (by rfl) rfl
theorem tw_941 : Cond.methodLink RX9 246 yX8_reuse ∈ TT := tw_m 941 (by decide +kernel) rfl
theorem tw_942 : Cond.instanceMethod yX8_reuse ∈ TT := tw_m 942 (by decide +kernel) rfl
theorem tw_943 : Cond.selects RX8 yX8_reuse yX8_reuse ∈ TT := tw_m 943 (by decide +kernel) rfl
set_option maxRecDepth 100000 in
theorem tw_944 : Cond.code yX8_reuse cX8_reuse 2 none ∈ TT := tw_m 944 (by rfl) rfl
theorem tw_945 : Cond.methodLink RL 84 yX11_forget ∈ TT := tw_m 945 (by decide +kernel) rfl
theorem tw_946 : Cond.instanceMethod yX11_forget ∈ TT := tw_m 946 (by decide +kernel) rfl
theorem tw_947 : Cond.selects RX11 yX11_forget yX11_forget ∈ TT := tw_m 947 (by decide +kernel) rfl
set_option maxRecDepth 100000 in
theorem tw_948 : Cond.code yX11_forget cX11_forget 2 (some .int) ∈ TT := tw_m 948 (by rfl) rfl
theorem tw_949 : Cond.methodLink RX11 144 yX2_clearKnown ∈ TT := tw_m 949 (by decide +kernel) rfl
theorem tw_950 : Cond.instanceMethod yX2_clearKnown ∈ TT := tw_m 950 (by decide +kernel) rfl
theorem tw_951 : Cond.selects RX2 yX2_clearKnown yX2_clearKnown ∈ TT := tw_m 951 (by decide +kernel) rfl
set_option maxRecDepth 100000 in
theorem tw_952 : Cond.code yX2_clearKnown cX2_clearKnown 3 (some .int) ∈ TT := tw_m 952 (by rfl) rfl
theorem tw_953 : Cond.methodLink RL 87 yX11_waiting ∈ TT := tw_m 953 (by decide +kernel) rfl
theorem tw_954 : Cond.instanceMethod yX11_waiting ∈ TT := tw_m 954 (by decide +kernel) rfl
theorem tw_955 : Cond.selects RX11 yX11_waiting yX11_waiting ∈ TT := tw_m 955 (by decide +kernel) rfl
set_option maxRecDepth 100000 in
theorem tw_956 : Cond.code yX11_waiting cX11_waiting 2 (some .int) ∈ TT := tw_m 956 (by rfl) rfl
theorem tw_957 : Cond.methodLink RL 90 yX11_gone ∈ TT := tw_m 957 (by decide +kernel) rfl
theorem tw_958 : Cond.instanceMethod yX11_gone ∈ TT := tw_m 958 (by decide +kernel) rfl
theorem tw_959 : Cond.selects RX11 yX11_gone yX11_gone ∈ TT := tw_m 959 (by decide +kernel) rfl
set_option maxRecDepth 100000 in
theorem tw_960 : Cond.code yX11_gone cX11_gone 1 (some .int) ∈ TT := tw_m 960 (by rfl) rfl
theorem tw_961 : Cond.methodLink RL 93 yX11_giveUp ∈ TT := tw_m 961 (by decide +kernel) rfl
theorem tw_962 : Cond.instanceMethod yX11_giveUp ∈ TT := tw_m 962 (by decide +kernel) rfl
theorem tw_963 : Cond.selects RX11 yX11_giveUp yX11_giveUp ∈ TT := tw_m 963 (by decide +kernel) rfl
set_option maxRecDepth 100000 in
theorem tw_964 : Cond.code yX11_giveUp cX11_giveUp 2 (some .int) ∈ TT := tw_m 964 (by rfl) rfl
theorem tw_965 : Cond.methodLink RX11 147 yX9_complainOfWaiting ∈ TT := tw_m 965 (by decide +kernel) rfl
theorem tw_966 : Cond.instanceMethod yX9_complainOfWaiting ∈ TT := tw_m 966 (by decide +kernel) rfl
theorem tw_967 : Cond.selects RX9 yX9_complainOfWaiting yX9_complainOfWaiting ∈ TT := tw_m 967 (by decide +kernel) rfl
set_option maxRecDepth 100000 in
theorem tw_968 : Cond.code yX9_complainOfWaiting cX9_complainOfWaiting 5 (some .int) ∈ TT := tw_m 968 (by rfl) rfl
theorem tw_969 : Cond.methodLink RL 96 yX11_setWidth ∈ TT := tw_m 969 (by decide +kernel) rfl
theorem tw_970 : Cond.instanceMethod yX11_setWidth ∈ TT := tw_m 970 (by decide +kernel) rfl
theorem tw_971 : Cond.selects RX11 yX11_setWidth yX11_setWidth ∈ TT := tw_m 971 (by decide +kernel) rfl
set_option maxRecDepth 100000 in
theorem tw_972 : Cond.code yX11_setWidth cX11_setWidth 3 (some .int) ∈ TT := tw_m 972 (by rfl) rfl
theorem tw_973 : Cond.methodLink RX11 50 yX5_changeWidth ∈ TT := tw_m 973 (by decide +kernel) rfl
theorem tw_974 : Cond.instanceMethod yX5_changeWidth ∈ TT := tw_m 974 (by decide +kernel) rfl
theorem tw_975 : Cond.selects RX5 yX5_changeWidth yX5_changeWidth ∈ TT := tw_m 975 (by decide +kernel) rfl
set_option maxRecDepth 100000 in
theorem tw_976 : Cond.code yX5_changeWidth cX5_changeWidth 4 (some .int) ∈ TT := tw_m 976 (by rfl) rfl
theorem tw_977 : Cond.methodLink RX5 34 yX5_widthOf ∈ TT := tw_m 977 (by decide +kernel) rfl
theorem tw_978 : Cond.methodLink RL 99 yX11_setForwarding ∈ TT := tw_m 978 (by decide +kernel) rfl
theorem tw_979 : Cond.instanceMethod yX11_setForwarding ∈ TT := tw_m 979 (by decide +kernel) rfl
theorem tw_980 : Cond.selects RX11 yX11_setForwarding yX11_setForwarding ∈ TT := tw_m 980 (by decide +kernel) rfl
set_option maxRecDepth 100000 in
theorem tw_981 : Cond.code yX11_setForwarding cX11_setForwarding 5 (some .boolean) ∈ TT := tw_m 981 (by rfl) rfl
theorem tw_982 : Cond.methodLink RL 40 yL_areMachinesRight ∈ TT := tw_m 982 (by decide +kernel) rfl
theorem tw_983 : Cond.static yL_areMachinesRight ∈ TT := tw_m 983 (by decide +kernel) rfl
set_option maxRecDepth 100000 in
theorem tw_984 : Cond.code yL_areMachinesRight cL_areMachinesRight 6 (some .boolean) ∈ TT := tw_m 984 (by rfl) rfl
theorem tw_985 : Cond.methodLink RL 109 yX11_carried ∈ TT := tw_m 985 (by decide +kernel) rfl
theorem tw_986 : Cond.instanceMethod yX11_carried ∈ TT := tw_m 986 (by decide +kernel) rfl
theorem tw_987 : Cond.selects RX11 yX11_carried yX11_carried ∈ TT := tw_m 987 (by decide +kernel) rfl
set_option maxRecDepth 100000 in
theorem tw_988 : Cond.code yX11_carried cX11_carried 2 (some .int) ∈ TT := tw_m 988 (by rfl) rfl
theorem tw_989 : Cond.methodLink RL 112 yX11_use ∈ TT := tw_m 989 (by decide +kernel) rfl
theorem tw_990 : Cond.instanceMethod yX11_use ∈ TT := tw_m 990 (by decide +kernel) rfl
theorem tw_991 : Cond.selects RX11 yX11_use yX11_use ∈ TT := tw_m 991 (by decide +kernel) rfl
set_option maxRecDepth 100000 in
theorem tw_992 : Cond.code yX11_use cX11_use 1 (some .double) ∈ TT := tw_m 992 (by rfl) rfl
theorem tw_993 : Cond.methodLink RL 116 yX11_heaps ∈ TT := tw_m 993 (by decide +kernel) rfl
theorem tw_994 : Cond.instanceMethod yX11_heaps ∈ TT := tw_m 994 (by decide +kernel) rfl
theorem tw_995 : Cond.selects RX11 yX11_heaps yX11_heaps ∈ TT := tw_m 995 (by decide +kernel) rfl
set_option maxRecDepth 100000 in
theorem tw_996 : Cond.code yX11_heaps cX11_heaps 2 (some .int) ∈ TT := tw_m 996 (by rfl) rfl
theorem tw_997 : Cond.methodLink RL 119 yX11_noted ∈ TT := tw_m 997 (by decide +kernel) rfl
theorem tw_998 : Cond.instanceMethod yX11_noted ∈ TT := tw_m 998 (by decide +kernel) rfl
theorem tw_999 : Cond.selects RX11 yX11_noted yX11_noted ∈ TT := tw_m 999 (by decide +kernel) rfl
set_option maxRecDepth 100000 in
theorem tw_1000 : Cond.code yX11_noted cX11_noted 2 (some .int) ∈ TT := tw_m 1000 (by rfl) rfl
theorem tw_1001 : Cond.methodLink RL 122 Lib.Math.min.name ∈ TT := tw_m 1001 (by decide +kernel) rfl
theorem tw_1002 : Cond.methodLink RL 127 yX11_note ∈ TT := tw_m 1002 (by decide +kernel) rfl
theorem tw_1003 : Cond.instanceMethod yX11_note ∈ TT := tw_m 1003 (by decide +kernel) rfl
theorem tw_1004 : Cond.selects RX11 yX11_note yX11_note ∈ TT := tw_m 1004 (by decide +kernel) rfl
set_option maxRecDepth 100000 in
theorem tw_1005 : Cond.code yX11_note cX11_note 5 (some .int) ∈ TT := tw_m 1005 (by rfl) rfl
theorem tw_1007 : Cond.methodLink RX11 172 yX11_needPart ∈ TT := tw_m 1007 (by decide +kernel) rfl
theorem tw_1008 : Cond.static yX11_needPart ∈ TT := tw_m 1008 (by decide +kernel) rfl
set_option maxRecDepth 100000 in
theorem tw_1009 : Cond.code yX11_needPart cX11_needPart 2 none ∈ TT := tw_m 1009 (by rfl) rfl
theorem tw_1011 : Cond.methodLink RL 131 yX11_knows ∈ TT := tw_m 1011 (by decide +kernel) rfl
theorem tw_1012 : Cond.instanceMethod yX11_knows ∈ TT := tw_m 1012 (by decide +kernel) rfl
theorem tw_1013 : Cond.selects RX11 yX11_knows yX11_knows ∈ TT := tw_m 1013 (by decide +kernel) rfl
set_option maxRecDepth 100000 in
theorem tw_1014 : Cond.code yX11_knows cX11_knows 4 (some .int) ∈ TT := tw_m 1014 (by rfl) rfl
theorem tw_1015 : Cond.methodLink RL 134 yX11_way ∈ TT := tw_m 1015 (by decide +kernel) rfl
theorem tw_1016 : Cond.instanceMethod yX11_way ∈ TT := tw_m 1016 (by decide +kernel) rfl
theorem tw_1017 : Cond.selects RX11 yX11_way yX11_way ∈ TT := tw_m 1017 (by decide +kernel) rfl
set_option maxRecDepth 100000 in
theorem tw_1018 : Cond.code yX11_way cX11_way 5 (some .int) ∈ TT := tw_m 1018 (by rfl) rfl
theorem tw_1019 : Cond.methodLink RX11 201 yX3_portTo ∈ TT := tw_m 1019 (by decide +kernel) rfl
theorem tw_1020 : Cond.methodLink RX11 204 yX3_hopTo ∈ TT := tw_m 1020 (by decide +kernel) rfl
theorem tw_1021 : Cond.methodLink RX11 207 yX3_lengthTo ∈ TT := tw_m 1021 (by decide +kernel) rfl
theorem tw_1022 : Cond.instanceMethod yX3_lengthTo ∈ TT := tw_m 1022 (by decide +kernel) rfl
theorem tw_1023 : Cond.selects RX3 yX3_lengthTo yX3_lengthTo ∈ TT := tw_m 1023 (by decide +kernel) rfl
set_option maxRecDepth 100000 in
theorem tw_1024 : Cond.code yX3_lengthTo cX3_lengthTo 2 (some .int) ∈ TT := tw_m 1024 (by rfl) rfl
theorem tw_1025 : Cond.methodLink RL 44 yL_areFramesRight ∈ TT := tw_m 1025 (by decide +kernel) rfl
theorem tw_1026 : Cond.static yL_areFramesRight ∈ TT := tw_m 1026 (by decide +kernel) rfl
set_option maxRecDepth 100000 in
theorem tw_1027 : Cond.code yL_areFramesRight cL_areFramesRight 6 (some .boolean) ∈ TT := tw_m 1027 (by rfl) rfl
theorem tw_1028 : Cond.methodLink RL 137 yX11_frame ∈ TT := tw_m 1028 (by decide +kernel) rfl
theorem tw_1029 : Cond.instanceMethod yX11_frame ∈ TT := tw_m 1029 (by decide +kernel) rfl
theorem tw_1030 : Cond.selects RX11 yX11_frame yX11_frame ∈ TT := tw_m 1030 (by decide +kernel) rfl
set_option maxRecDepth 100000 in
theorem tw_1031 : Cond.code yX11_frame cX11_frame 4 (some .int) ∈ TT := tw_m 1031 (by rfl) rfl
theorem tw_1032 : Cond.methodLink RX11 163 yX8_find ∈ TT := tw_m 1032 (by decide +kernel) rfl
theorem tw_1033 : Cond.instanceMethod yX8_find ∈ TT := tw_m 1033 (by decide +kernel) rfl
theorem tw_1034 : Cond.selects RX8 yX8_find yX8_find ∈ TT := tw_m 1034 (by decide +kernel) rfl
set_option maxRecDepth 100000 in
theorem tw_1035 : Cond.code yX8_find cX8_find 4 (some (.object "SeamarkNet$Frame")) ∈ TT := tw_m 1035 (by rfl) rfl
theorem tw_1037 : Cond.methodLink RL 47 yL_areTriedRight ∈ TT := tw_m 1037 (by decide +kernel) rfl
theorem tw_1038 : Cond.static yL_areTriedRight ∈ TT := tw_m 1038 (by decide +kernel) rfl
set_option maxRecDepth 100000 in
theorem tw_1039 : Cond.code yL_areTriedRight cL_areTriedRight 9 (some .boolean) ∈ TT := tw_m 1039 (by rfl) rfl
theorem tw_1040 : Cond.methodLink RL 140 yX11_hops ∈ TT := tw_m 1040 (by decide +kernel) rfl
theorem tw_1041 : Cond.instanceMethod yX11_hops ∈ TT := tw_m 1041 (by decide +kernel) rfl
theorem tw_1042 : Cond.selects RX11 yX11_hops yX11_hops ∈ TT := tw_m 1042 (by decide +kernel) rfl
set_option maxRecDepth 100000 in
theorem tw_1043 : Cond.code yX11_hops cX11_hops 4 (some .int) ∈ TT := tw_m 1043 (by rfl) rfl
theorem tw_1044 : Cond.methodLink RX11 216 yX10_begin ∈ TT := tw_m 1044 (by decide +kernel) rfl
theorem tw_1045 : Cond.instanceMethod yX10_begin ∈ TT := tw_m 1045 (by decide +kernel) rfl
theorem tw_1046 : Cond.selects RX10 yX10_begin yX10_begin ∈ TT := tw_m 1046 (by decide +kernel) rfl
set_option maxRecDepth 100000 in
theorem tw_1047 : Cond.code yX10_begin cX10_begin 2 none ∈ TT := tw_m 1047 (by rfl) rfl
theorem tw_1048 : Cond.methodLink RX10 20 yX9_takeOver ∈ TT := tw_m 1048 (by decide +kernel) rfl
theorem tw_1049 : Cond.instanceMethod yX9_takeOver ∈ TT := tw_m 1049 (by decide +kernel) rfl
theorem tw_1050 : Cond.selects RX9 yX9_takeOver yX9_takeOver ∈ TT := tw_m 1050 (by decide +kernel) rfl
set_option maxRecDepth 100000 in
theorem tw_1051 : Cond.code yX9_takeOver cX9_takeOver 3 none ∈ TT := tw_m 1051 (by rfl) rfl
theorem tw_1052 : Cond.methodLink RX9 59 yX2_learnAllOf ∈ TT := tw_m 1052 (by decide +kernel) rfl
theorem tw_1053 : Cond.instanceMethod yX2_learnAllOf ∈ TT := tw_m 1053 (by decide +kernel) rfl
theorem tw_1054 : Cond.selects RX2 yX2_learnAllOf yX2_learnAllOf ∈ TT := tw_m 1054 (by decide +kernel) rfl
set_option maxRecDepth 100000 in
theorem tw_1055 : Cond.code yX2_learnAllOf cX2_learnAllOf 2 none ∈ TT := tw_m 1055 (by rfl) rfl
theorem tw_1056 : Cond.methodLink RX2 136 arraycopyName ∈ TT := tw_m 1056 (by decide +kernel) rfl
theorem tw_1057 : Cond.static arraycopyName ∈ TT := tw_m 1057 (by decide +kernel) rfl
theorem tw_1058 : Cond.native arraycopyName ∈ TT := tw_m 1058 (by decide +kernel) rfl
theorem tw_1059 : Cond.methodLink RX11 220 yX10_ask ∈ TT := tw_m 1059 (by decide +kernel) rfl
theorem tw_1060 : Cond.instanceMethod yX10_ask ∈ TT := tw_m 1060 (by decide +kernel) rfl
theorem tw_1061 : Cond.selects RX10 yX10_ask yX10_ask ∈ TT := tw_m 1061 (by decide +kernel) rfl
set_option maxRecDepth 100000 in
theorem tw_1062 : Cond.code yX10_ask cX10_ask 8 none ∈ TT := tw_m 1062 (by rfl) rfl
theorem tw_1063 : Cond.methodLink RX10 38 yX9_dropAllUnderWay ∈ TT := tw_m 1063 (by decide +kernel) rfl
theorem tw_1064 : Cond.instanceMethod yX9_dropAllUnderWay ∈ TT := tw_m 1064 (by decide +kernel) rfl
theorem tw_1065 : Cond.selects RX9 yX9_dropAllUnderWay yX9_dropAllUnderWay ∈ TT := tw_m 1065 (by decide +kernel) rfl
set_option maxRecDepth 100000 in
theorem tw_1066 : Cond.code yX9_dropAllUnderWay cX9_dropAllUnderWay 2 none ∈ TT := tw_m 1066 (by rfl) rfl
theorem tw_1067 : Cond.methodLink RX9 63 yX8_clear ∈ TT := tw_m 1067 (by decide +kernel) rfl
theorem tw_1068 : Cond.instanceMethod yX8_clear ∈ TT := tw_m 1068 (by decide +kernel) rfl
theorem tw_1069 : Cond.selects RX8 yX8_clear yX8_clear ∈ TT := tw_m 1069 (by decide +kernel) rfl
set_option maxRecDepth 100000 in
theorem tw_1070 : Cond.code yX8_clear cX8_clear 1 none ∈ TT := tw_m 1070 (by rfl) rfl
theorem tw_1071 : Cond.methodLink RX9 66 yX2_dropWaitingAndKept ∈ TT := tw_m 1071 (by decide +kernel) rfl
theorem tw_1072 : Cond.instanceMethod yX2_dropWaitingAndKept ∈ TT := tw_m 1072 (by decide +kernel) rfl
theorem tw_1073 : Cond.selects RX2 yX2_dropWaitingAndKept yX2_dropWaitingAndKept ∈ TT := tw_m 1073 (by decide +kernel) rfl
set_option maxRecDepth 100000 in
theorem tw_1074 : Cond.code yX2_dropWaitingAndKept cX2_dropWaitingAndKept 1 none ∈ TT := tw_m 1074 (by rfl) rfl
theorem tw_1075 : Cond.methodLink RX2 132 yX2_takeWaiting ∈ TT := tw_m 1075 (by decide +kernel) rfl
theorem tw_1076 : Cond.methodLink RX9 69 yX6_takeBackAll ∈ TT := tw_m 1076 (by decide +kernel) rfl
theorem tw_1077 : Cond.instanceMethod yX6_takeBackAll ∈ TT := tw_m 1077 (by decide +kernel) rfl
theorem tw_1078 : Cond.selects RX6 yX6_takeBackAll yX6_takeBackAll ∈ TT := tw_m 1078 (by decide +kernel) rfl
set_option maxRecDepth 100000 in
theorem tw_1079 : Cond.code yX6_takeBackAll cX6_takeBackAll 1 none ∈ TT := tw_m 1079 (by rfl) rfl
theorem tw_1080 : Cond.methodLink RX10 41 yX9_host ∈ TT := tw_m 1080 (by decide +kernel) rfl
theorem tw_1081 : Cond.methodLink RX10 53 yX9_launch ∈ TT := tw_m 1081 (by decide +kernel) rfl
theorem tw_1082 : Cond.methodLink RX10 60 yX10_look ∈ TT := tw_m 1082 (by decide +kernel) rfl
theorem tw_1084 : Cond.instanceMethod yX10_look ∈ TT := tw_m 1084 (by decide +kernel) rfl
set_option maxRecDepth 100000 in
theorem tw_1085 : Cond.code yX10_look cX10_look 6 none ∈ TT := tw_m 1085 (by rfl) rfl
theorem tw_1086 : Cond.methodLink RX10 68 yX2_notePart ∈ TT := tw_m 1086 (by decide +kernel) rfl
theorem tw_1087 : Cond.methodLink RX10 64 yX9_deliverNext ∈ TT := tw_m 1087 (by decide +kernel) rfl
theorem tw_1088 : Cond.methodLink RL 143 yX11_widest ∈ TT := tw_m 1088 (by decide +kernel) rfl
theorem tw_1089 : Cond.instanceMethod yX11_widest ∈ TT := tw_m 1089 (by decide +kernel) rfl
theorem tw_1090 : Cond.selects RX11 yX11_widest yX11_widest ∈ TT := tw_m 1090 (by decide +kernel) rfl
set_option maxRecDepth 100000 in
theorem tw_1091 : Cond.code yX11_widest cX11_widest 5 (some .int) ∈ TT := tw_m 1091 (by rfl) rfl
theorem tw_1092 : Cond.methodLink RL 146 yX11_whoTells ∈ TT := tw_m 1092 (by decide +kernel) rfl
theorem tw_1093 : Cond.instanceMethod yX11_whoTells ∈ TT := tw_m 1093 (by decide +kernel) rfl
theorem tw_1094 : Cond.selects RX11 yX11_whoTells yX11_whoTells ∈ TT := tw_m 1094 (by decide +kernel) rfl
set_option maxRecDepth 100000 in
theorem tw_1095 : Cond.code yX11_whoTells cX11_whoTells 4 (some .int) ∈ TT := tw_m 1095 (by rfl) rfl
theorem tw_1096 : Cond.classLink RL 12 "[[I" ∈ TT := tw_m 1096 (by decide +kernel) rfl
theorem tl_0 : ∀ w ∈ wsX00, w ∈ TT := tw_l (by decide +kernel) (by decide +kernel)
theorem tl_1 : ∀ w ∈ wsX10, w ∈ TT := tw_l (by decide +kernel) (by decide +kernel)
theorem tl_2 : ∀ w ∈ wsX20, w ∈ TT := tw_l (by decide +kernel) (by decide +kernel)
theorem tl_3 : ∀ w ∈ wsX30, w ∈ TT := tw_l (by decide +kernel) (by decide +kernel)
theorem tl_4 : ∀ w ∈ wsX40, w ∈ TT := tw_l (by decide +kernel) (by decide +kernel)
theorem tl_5 : ∀ w ∈ wsX50, w ∈ TT := tw_l (by decide +kernel) (by decide +kernel)
theorem tl_6 : ∀ w ∈ wsX60, w ∈ TT := tw_l (by decide +kernel) (by decide +kernel)
theorem tl_7 : ∀ w ∈ wsX70, w ∈ TT := tw_l (by decide +kernel) (by decide +kernel)
theorem tl_8 : ∀ w ∈ wsX80, w ∈ TT := tw_l (by decide +kernel) (by decide +kernel)
theorem tl_9 : ∀ w ∈ wsX90, w ∈ TT := tw_l (by decide +kernel) (by decide +kernel)
theorem tl_10 : ∀ w ∈ wsX100, w ∈ TT := tw_l (by decide +kernel) (by decide +kernel)
theorem tl_11 : ∀ w ∈ wsX110, w ∈ TT := tw_l (by decide +kernel) (by decide +kernel)
