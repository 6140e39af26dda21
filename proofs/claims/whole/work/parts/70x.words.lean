set_option maxRecDepth 20000 in
theorem wd_151 : (.initialized "java/lang/System" : Cond) ∈ sv_tb := sv_ink sv_t1 21 rfl rfl
set_option maxRecDepth 20000 in
theorem wd_154 : (.classLink RL 7 RX12 : Cond) ∈ sv_tb := sv_ink sv_t1 24 rfl rfl
set_option maxRecDepth 20000 in
theorem wd_155 : (.instantiable RX12 11 : Cond) ∈ sv_tb := sv_ink sv_t1 25 rfl rfl
set_option maxRecDepth 20000 in
theorem wd_156 : (.methodLink RL 9 yX12_init : Cond) ∈ sv_tb := sv_ink sv_t1 26 rfl rfl
set_option maxRecDepth 20000 in
theorem wd_157 : (.instanceMethod yX12_init : Cond) ∈ sv_tb := sv_ink sv_t1 27 rfl rfl
set_option maxRecDepth 20000 in
theorem wd_158 : (.code yX12_init cX12_init 2 none : Cond) ∈ sv_tb := sv_ink sv_t1 28 rfl rfl
set_option maxRecDepth 20000 in
theorem wd_162 : (.classLink RX12 7 RX0 : Cond) ∈ sv_tb := sv_ink sv_t1 32 rfl rfl
set_option maxRecDepth 20000 in
theorem wd_163 : (.instantiable RX0 2 : Cond) ∈ sv_tb := sv_ink sv_t1 33 rfl rfl
set_option maxRecDepth 20000 in
theorem wd_165 : (.instanceMethod yX0_init : Cond) ∈ sv_tb := sv_ink sv_t1 35 rfl rfl
set_option maxRecDepth 20000 in
theorem wd_166 : (.code yX0_init cX0_init 1 none : Cond) ∈ sv_tb := sv_ink sv_t1 36 rfl rfl
set_option maxRecDepth 20000 in
theorem wd_182 : (.arrayClass .int : Cond) ∈ sv_tb := sv_ink sv_t1 52 rfl rfl
set_option maxRecDepth 20000 in
theorem wd_183 : (.classLink RX12 19 RX4 : Cond) ∈ sv_tb := sv_ink sv_t1 53 rfl rfl
set_option maxRecDepth 20000 in
theorem wd_184 : (.instantiable RX4 4 : Cond) ∈ sv_tb := sv_ink sv_t1 54 rfl rfl
set_option maxRecDepth 20000 in
theorem wd_185 : (.methodLink RX12 21 yX4_init : Cond) ∈ sv_tb := sv_ink sv_t1 55 rfl rfl
set_option maxRecDepth 20000 in
theorem wd_186 : (.instanceMethod yX4_init : Cond) ∈ sv_tb := sv_ink sv_t1 56 rfl rfl
set_option maxRecDepth 20000 in
theorem wd_187 : (.code yX4_init cX4_init 2 none : Cond) ∈ sv_tb := sv_ink sv_t1 57 rfl rfl
set_option maxRecDepth 20000 in
theorem wd_208 : (.classLink RX12 28 RX8 : Cond) ∈ sv_tb := sv_ink sv_t1 78 rfl rfl
set_option maxRecDepth 20000 in
theorem wd_209 : (.instantiable RX8 18 : Cond) ∈ sv_tb := sv_ink sv_t1 79 rfl rfl
set_option maxRecDepth 20000 in
theorem wd_211 : (.instanceMethod yX8_init : Cond) ∈ sv_tb := sv_ink sv_t1 81 rfl rfl
set_option maxRecDepth 20000 in
theorem wd_212 : (.code yX8_init cX8_init 1 none : Cond) ∈ sv_tb := sv_ink sv_t1 82 rfl rfl
set_option maxRecDepth 20000 in
theorem wd_214 : (.classLink RX8 9 RX1 : Cond) ∈ sv_tb := sv_ink sv_t1 84 rfl rfl
set_option maxRecDepth 20000 in
theorem wd_215 : (.instantiable RX1 7 : Cond) ∈ sv_tb := sv_ink sv_t1 85 rfl rfl
set_option maxRecDepth 20000 in
theorem wd_217 : (.instanceMethod yX1_init : Cond) ∈ sv_tb := sv_ink sv_t1 87 rfl rfl
set_option maxRecDepth 20000 in
theorem wd_218 : (.code yX1_init cX1_init 1 none : Cond) ∈ sv_tb := sv_ink sv_t1 88 rfl rfl
set_option maxRecDepth 20000 in
theorem wd_244 : (.arrayClass .long : Cond) ∈ sv_tb := sv_ink sv_t1 114 rfl rfl
set_option maxRecDepth 20000 in
theorem wd_308 : (.arrayClass .boolean : Cond) ∈ sv_tb := sv_ink sv_t1 178 rfl rfl
set_option maxRecDepth 20000 in
theorem wd_309 : (.classLink RX12 35 RX2 : Cond) ∈ sv_tb := sv_ink sv_t1 179 rfl rfl
set_option maxRecDepth 20000 in
theorem wd_310 : (.instantiable RX2 13 : Cond) ∈ sv_tb := sv_ink sv_t1 180 rfl rfl
set_option maxRecDepth 20000 in
theorem wd_311 : (.methodLink RX12 37 yX2_init : Cond) ∈ sv_tb := sv_ink sv_t1 181 rfl rfl
set_option maxRecDepth 20000 in
theorem wd_312 : (.instanceMethod yX2_init : Cond) ∈ sv_tb := sv_ink sv_t1 182 rfl rfl
set_option maxRecDepth 20000 in
theorem wd_313 : (.code yX2_init cX2_init 2 none : Cond) ∈ sv_tb := sv_ink sv_t1 183 rfl rfl
set_option maxRecDepth 20000 in
theorem wd_314 : (.methodLink RX2 3 objectInit : Cond) ∈ sv_tb := sv_ink sv_t1 184 rfl rfl
set_option maxRecDepth 20000 in
theorem wd_315 : (.classLink RX2 9 RX0 : Cond) ∈ sv_tb := sv_ink sv_t1 185 rfl rfl
set_option maxRecDepth 20000 in
theorem wd_317 : (.classLink RX2 18 RX7 : Cond) ∈ sv_tb := sv_ink sv_t1 187 rfl rfl
set_option maxRecDepth 20000 in
theorem wd_318 : (.instantiable RX7 4 : Cond) ∈ sv_tb := sv_ink sv_t1 188 rfl rfl
set_option maxRecDepth 20000 in
theorem wd_320 : (.instanceMethod yX7_init : Cond) ∈ sv_tb := sv_ink sv_t1 190 rfl rfl
set_option maxRecDepth 20000 in
theorem wd_321 : (.code yX7_init cX7_init 1 none : Cond) ∈ sv_tb := sv_ink sv_t1 191 rfl rfl
set_option maxRecDepth 20000 in
theorem wd_349 : (.classLink RX2 41 RX6 : Cond) ∈ sv_tb := sv_ink sv_t1 219 rfl rfl
set_option maxRecDepth 20000 in
theorem wd_350 : (.arrayOver (.object RX6) : Cond) ∈ sv_tb := sorry
set_option maxRecDepth 20000 in
theorem wd_351 : (.classLink RX2 47 RX11 : Cond) ∈ sv_tb := sv_ink sv_t1 221 rfl rfl
set_option maxRecDepth 20000 in
theorem wd_352 : (.arrayOver (.object RX11) : Cond) ∈ sv_tb := sorry
set_option maxRecDepth 20000 in
theorem wd_353 : (.instantiable RX6 14 : Cond) ∈ sv_tb := sv_ink sv_t1 223 rfl rfl
set_option maxRecDepth 20000 in
theorem wd_355 : (.instanceMethod yX6_init : Cond) ∈ sv_tb := sv_ink sv_t1 225 rfl rfl
set_option maxRecDepth 20000 in
theorem wd_356 : (.code yX6_init cX6_init 1 none : Cond) ∈ sv_tb := sv_ink sv_t1 226 rfl rfl
set_option maxRecDepth 20000 in
theorem wd_417 : (.instantiable RX11 12 : Cond) ∈ sv_tb := sv_ink sv_t2 47 rfl rfl
set_option maxRecDepth 20000 in
theorem wd_419 : (.instanceMethod yX11_init : Cond) ∈ sv_tb := sv_ink sv_t2 49 rfl rfl
set_option maxRecDepth 20000 in
theorem wd_420 : (.code yX11_init cX11_init 1 none : Cond) ∈ sv_tb := sv_ink sv_t2 50 rfl rfl
set_option maxRecDepth 20000 in
theorem wd_453 : (.fieldLink RX11 7 "SectorView$Wall" "textures" "[I" : Cond) ∈ sv_tb := sv_ink sv_t2 83 rfl rfl
set_option maxRecDepth 20000 in
theorem wd_537 : (.classLink RX12 45 RX3 : Cond) ∈ sv_tb := sv_ink sv_t2 167 rfl rfl
set_option maxRecDepth 20000 in
theorem wd_538 : (.instantiable RX3 11 : Cond) ∈ sv_tb := sv_ink sv_t2 168 rfl rfl
set_option maxRecDepth 20000 in
theorem wd_540 : (.instanceMethod yX3_init : Cond) ∈ sv_tb := sv_ink sv_t2 170 rfl rfl
set_option maxRecDepth 20000 in
theorem wd_541 : (.code yX3_init cX3_init 1 none : Cond) ∈ sv_tb := sv_ink sv_t2 171 rfl rfl
set_option maxRecDepth 20000 in
theorem wd_591 : (.classLink RX12 48 RX10 : Cond) ∈ sv_tb := sv_ink sv_t2 221 rfl rfl
set_option maxRecDepth 20000 in
theorem wd_592 : (.instantiable RX10 7 : Cond) ∈ sv_tb := sv_ink sv_t2 222 rfl rfl
set_option maxRecDepth 20000 in
theorem wd_593 : (.methodLink RX12 50 yX10_init : Cond) ∈ sv_tb := sv_ink sv_t2 223 rfl rfl
set_option maxRecDepth 20000 in
theorem wd_594 : (.instanceMethod yX10_init : Cond) ∈ sv_tb := sv_ink sv_t2 224 rfl rfl
set_option maxRecDepth 20000 in
theorem wd_595 : (.code yX10_init cX10_init 3 none : Cond) ∈ sv_tb := sv_ink sv_t2 225 rfl rfl
set_option maxRecDepth 20000 in
theorem wd_629 : (.classLink RX12 57 RX9 : Cond) ∈ sv_tb := sv_ink sv_t3 19 rfl rfl
set_option maxRecDepth 20000 in
theorem wd_630 : (.instantiable RX9 8 : Cond) ∈ sv_tb := sv_ink sv_t3 20 rfl rfl
set_option maxRecDepth 20000 in
theorem wd_631 : (.methodLink RX12 59 yX9_init : Cond) ∈ sv_tb := sv_ink sv_t3 21 rfl rfl
set_option maxRecDepth 20000 in
theorem wd_632 : (.instanceMethod yX9_init : Cond) ∈ sv_tb := sv_ink sv_t3 22 rfl rfl
set_option maxRecDepth 20000 in
theorem wd_633 : (.code yX9_init cX9_init 2 none : Cond) ∈ sv_tb := sv_ink sv_t3 23 rfl rfl
set_option maxRecDepth 20000 in
theorem wd_664 : (.classLink RX12 66 RX5 : Cond) ∈ sv_tb := sv_ink sv_t3 54 rfl rfl
set_option maxRecDepth 20000 in
theorem wd_665 : (.instantiable RX5 3 : Cond) ∈ sv_tb := sv_ink sv_t3 55 rfl rfl
set_option maxRecDepth 20000 in
theorem wd_667 : (.instanceMethod yX5_init : Cond) ∈ sv_tb := sv_ink sv_t3 57 rfl rfl
set_option maxRecDepth 20000 in
theorem wd_668 : (.code yX5_init cX5_init 1 none : Cond) ∈ sv_tb := sv_ink sv_t3 58 rfl rfl
set_option maxRecDepth 20000 in
theorem wd_670 : (.classLink RX5 9 RX7 : Cond) ∈ sv_tb := sv_ink sv_t3 60 rfl rfl
set_option maxRecDepth 20000 in
theorem wd_719 : (.methodLink RL 15 yX12_giveBytes : Cond) ∈ sv_tb := sv_ink sv_t3 109 rfl rfl
set_option maxRecDepth 20000 in
theorem wd_720 : (.instanceMethod yX12_giveBytes : Cond) ∈ sv_tb := sv_ink sv_t3 110 rfl rfl
set_option maxRecDepth 20000 in
theorem wd_721 : (.selects RX12 yX12_giveBytes yX12_giveBytes : Cond) ∈ sv_tb := sv_ink sv_t3 111 rfl rfl
set_option maxRecDepth 20000 in
theorem wd_722 : (.code yX12_giveBytes cX12_giveBytes 5 (some .boolean) : Cond) ∈ sv_tb := sv_ink sv_t3 112 rfl rfl
set_option maxRecDepth 20000 in
theorem wd_741 : (.methodLink RJ7 304 Lib.Math.min.name : Cond) ∈ sv_tb := sv_ink sv_t3 131 rfl rfl
set_option maxRecDepth 20000 in
theorem wd_744 : (.methodLink RJ7 150 arraycopyName : Cond) ∈ sv_tb := sv_ink sv_t3 134 rfl rfl
set_option maxRecDepth 20000 in
theorem wd_745 : (.static arraycopyName : Cond) ∈ sv_tb := sv_ink sv_t3 135 rfl rfl
set_option maxRecDepth 20000 in
theorem wd_746 : (.native arraycopyName : Cond) ∈ sv_tb := sv_ink sv_t3 136 rfl rfl
set_option maxRecDepth 20000 in
theorem wd_747 : (.methodLink RL 20 yX12_cutBytes : Cond) ∈ sv_tb := sv_ink sv_t3 137 rfl rfl
set_option maxRecDepth 20000 in
theorem wd_748 : (.instanceMethod yX12_cutBytes : Cond) ∈ sv_tb := sv_ink sv_t3 138 rfl rfl
set_option maxRecDepth 20000 in
theorem wd_749 : (.selects RX12 yX12_cutBytes yX12_cutBytes : Cond) ∈ sv_tb := sv_ink sv_t3 139 rfl rfl
set_option maxRecDepth 20000 in
theorem wd_750 : (.code yX12_cutBytes cX12_cutBytes 2 (some .boolean) : Cond) ∈ sv_tb := sv_ink sv_t3 140 rfl rfl
set_option maxRecDepth 20000 in
theorem wd_751 : (.methodLink RL 25 yX12_pokeByte : Cond) ∈ sv_tb := sv_ink sv_t3 141 rfl rfl
set_option maxRecDepth 20000 in
theorem wd_752 : (.instanceMethod yX12_pokeByte : Cond) ∈ sv_tb := sv_ink sv_t3 142 rfl rfl
set_option maxRecDepth 20000 in
theorem wd_753 : (.selects RX12 yX12_pokeByte yX12_pokeByte : Cond) ∈ sv_tb := sv_ink sv_t3 143 rfl rfl
set_option maxRecDepth 20000 in
theorem wd_754 : (.code yX12_pokeByte cX12_pokeByte 3 (some .boolean) : Cond) ∈ sv_tb := sv_ink sv_t3 144 rfl rfl
set_option maxRecDepth 20000 in
theorem wd_755 : (.methodLink RL 30 yX12_loadMap : Cond) ∈ sv_tb := sv_ink sv_t3 145 rfl rfl
set_option maxRecDepth 20000 in
theorem wd_756 : (.instanceMethod yX12_loadMap : Cond) ∈ sv_tb := sv_ink sv_t3 146 rfl rfl
set_option maxRecDepth 20000 in
theorem wd_757 : (.selects RX12 yX12_loadMap yX12_loadMap : Cond) ∈ sv_tb := sv_ink sv_t3 147 rfl rfl
set_option maxRecDepth 20000 in
theorem wd_758 : (.code yX12_loadMap cX12_loadMap 1 (some .int) : Cond) ∈ sv_tb := sv_ink sv_t3 148 rfl rfl
set_option maxRecDepth 20000 in
theorem wd_881 : (.methodLink RX0 26 arraycopyName : Cond) ∈ sv_tb := sv_ink sv_t4 31 rfl rfl
set_option maxRecDepth 20000 in
theorem wd_999 : (.methodLink RL 35 yX12_loadDemo : Cond) ∈ sv_tb := sv_ink sv_t4 149 rfl rfl
set_option maxRecDepth 20000 in
theorem wd_1000 : (.instanceMethod yX12_loadDemo : Cond) ∈ sv_tb := sv_ink sv_t4 150 rfl rfl
set_option maxRecDepth 20000 in
theorem wd_1001 : (.selects RX12 yX12_loadDemo yX12_loadDemo : Cond) ∈ sv_tb := sv_ink sv_t4 151 rfl rfl
set_option maxRecDepth 20000 in
theorem wd_1002 : (.code yX12_loadDemo cX12_loadDemo 1 (some .int) : Cond) ∈ sv_tb := sv_ink sv_t4 152 rfl rfl
set_option maxRecDepth 20000 in
theorem wd_1048 : (.methodLink RL 39 yX12_saveMap : Cond) ∈ sv_tb := sv_ink sv_t4 198 rfl rfl
set_option maxRecDepth 20000 in
theorem wd_1049 : (.instanceMethod yX12_saveMap : Cond) ∈ sv_tb := sv_ink sv_t4 199 rfl rfl
set_option maxRecDepth 20000 in
theorem wd_1050 : (.selects RX12 yX12_saveMap yX12_saveMap : Cond) ∈ sv_tb := sv_ink sv_t4 200 rfl rfl
set_option maxRecDepth 20000 in
theorem wd_1051 : (.code yX12_saveMap cX12_saveMap 1 (some .int) : Cond) ∈ sv_tb := sv_ink sv_t4 201 rfl rfl
set_option maxRecDepth 20000 in
theorem wd_1052 : (.methodLink RL 43 yX12_saveDemo : Cond) ∈ sv_tb := sv_ink sv_t4 202 rfl rfl
set_option maxRecDepth 20000 in
theorem wd_1053 : (.instanceMethod yX12_saveDemo : Cond) ∈ sv_tb := sv_ink sv_t4 203 rfl rfl
set_option maxRecDepth 20000 in
theorem wd_1054 : (.selects RX12 yX12_saveDemo yX12_saveDemo : Cond) ∈ sv_tb := sv_ink sv_t4 204 rfl rfl
set_option maxRecDepth 20000 in
theorem wd_1055 : (.code yX12_saveDemo cX12_saveDemo 1 (some .int) : Cond) ∈ sv_tb := sv_ink sv_t4 205 rfl rfl
set_option maxRecDepth 20000 in
theorem wd_1081 : (.methodLink RL 47 yX12_turnBytes : Cond) ∈ sv_tb := sv_ink sv_t4 231 rfl rfl
set_option maxRecDepth 20000 in
theorem wd_1082 : (.instanceMethod yX12_turnBytes : Cond) ∈ sv_tb := sv_ink sv_t4 232 rfl rfl
set_option maxRecDepth 20000 in
theorem wd_1083 : (.selects RX12 yX12_turnBytes yX12_turnBytes : Cond) ∈ sv_tb := sv_ink sv_t4 233 rfl rfl
set_option maxRecDepth 20000 in
theorem wd_1084 : (.code yX12_turnBytes cX12_turnBytes 1 none : Cond) ∈ sv_tb := sv_ink sv_t4 234 rfl rfl
set_option maxRecDepth 20000 in
theorem wd_1085 : (.methodLink RL 51 yX12_startAt : Cond) ∈ sv_tb := sv_ink sv_t4 235 rfl rfl
set_option maxRecDepth 20000 in
theorem wd_1086 : (.instanceMethod yX12_startAt : Cond) ∈ sv_tb := sv_ink sv_t4 236 rfl rfl
set_option maxRecDepth 20000 in
theorem wd_1087 : (.selects RX12 yX12_startAt yX12_startAt : Cond) ∈ sv_tb := sv_ink sv_t4 237 rfl rfl
set_option maxRecDepth 20000 in
theorem wd_1088 : (.code yX12_startAt cX12_startAt 5 (some .boolean) : Cond) ∈ sv_tb := sv_ink sv_t4 238 rfl rfl
set_option maxRecDepth 20000 in
theorem wd_1097 : (.methodLink RL 56 yX12_addInput : Cond) ∈ sv_tb := sv_ink sv_t5 7 rfl rfl
set_option maxRecDepth 20000 in
theorem wd_1098 : (.instanceMethod yX12_addInput : Cond) ∈ sv_tb := sv_ink sv_t5 8 rfl rfl
set_option maxRecDepth 20000 in
theorem wd_1099 : (.selects RX12 yX12_addInput yX12_addInput : Cond) ∈ sv_tb := sv_ink sv_t5 9 rfl rfl
set_option maxRecDepth 20000 in
theorem wd_1100 : (.code yX12_addInput cX12_addInput 5 (some .int) : Cond) ∈ sv_tb := sv_ink sv_t5 10 rfl rfl
set_option maxRecDepth 20000 in
theorem wd_1106 : (.methodLink RL 61 yX12_dropInputs : Cond) ∈ sv_tb := sv_ink sv_t5 16 rfl rfl
set_option maxRecDepth 20000 in
theorem wd_1107 : (.instanceMethod yX12_dropInputs : Cond) ∈ sv_tb := sv_ink sv_t5 17 rfl rfl
set_option maxRecDepth 20000 in
theorem wd_1108 : (.selects RX12 yX12_dropInputs yX12_dropInputs : Cond) ∈ sv_tb := sv_ink sv_t5 18 rfl rfl
set_option maxRecDepth 20000 in
theorem wd_1109 : (.code yX12_dropInputs cX12_dropInputs 2 (some .boolean) : Cond) ∈ sv_tb := sv_ink sv_t5 19 rfl rfl
set_option maxRecDepth 20000 in
theorem wd_1110 : (.methodLink RL 65 yX12_playTo : Cond) ∈ sv_tb := sv_ink sv_t5 20 rfl rfl
set_option maxRecDepth 20000 in
theorem wd_1111 : (.instanceMethod yX12_playTo : Cond) ∈ sv_tb := sv_ink sv_t5 21 rfl rfl
set_option maxRecDepth 20000 in
theorem wd_1112 : (.selects RX12 yX12_playTo yX12_playTo : Cond) ∈ sv_tb := sv_ink sv_t5 22 rfl rfl
set_option maxRecDepth 20000 in
theorem wd_1113 : (.code yX12_playTo cX12_playTo 4 (some .int) : Cond) ∈ sv_tb := sv_ink sv_t5 23 rfl rfl
set_option maxRecDepth 20000 in
theorem wd_1249 : (.methodLink RL 70 yX12_stepBy : Cond) ∈ sv_tb := sv_ink sv_t5 159 rfl rfl
set_option maxRecDepth 20000 in
theorem wd_1250 : (.instanceMethod yX12_stepBy : Cond) ∈ sv_tb := sv_ink sv_t5 160 rfl rfl
set_option maxRecDepth 20000 in
theorem wd_1251 : (.selects RX12 yX12_stepBy yX12_stepBy : Cond) ∈ sv_tb := sv_ink sv_t5 161 rfl rfl
set_option maxRecDepth 20000 in
theorem wd_1252 : (.code yX12_stepBy cX12_stepBy 5 (some .int) : Cond) ∈ sv_tb := sv_ink sv_t5 162 rfl rfl
set_option maxRecDepth 20000 in
theorem wd_1253 : (.methodLink RL 74 yX12_walkerOf : Cond) ∈ sv_tb := sv_ink sv_t5 163 rfl rfl
set_option maxRecDepth 20000 in
theorem wd_1254 : (.instanceMethod yX12_walkerOf : Cond) ∈ sv_tb := sv_ink sv_t5 164 rfl rfl
set_option maxRecDepth 20000 in
theorem wd_1255 : (.selects RX12 yX12_walkerOf yX12_walkerOf : Cond) ∈ sv_tb := sv_ink sv_t5 165 rfl rfl
set_option maxRecDepth 20000 in
theorem wd_1256 : (.code yX12_walkerOf cX12_walkerOf 2 (some .int) : Cond) ∈ sv_tb := sv_ink sv_t5 166 rfl rfl
set_option maxRecDepth 20000 in
theorem wd_1262 : (.methodLink RL 78 yX12_sectorOf : Cond) ∈ sv_tb := sv_ink sv_t5 172 rfl rfl
set_option maxRecDepth 20000 in
theorem wd_1263 : (.instanceMethod yX12_sectorOf : Cond) ∈ sv_tb := sv_ink sv_t5 173 rfl rfl
set_option maxRecDepth 20000 in
theorem wd_1264 : (.selects RX12 yX12_sectorOf yX12_sectorOf : Cond) ∈ sv_tb := sv_ink sv_t5 174 rfl rfl
set_option maxRecDepth 20000 in
theorem wd_1265 : (.code yX12_sectorOf cX12_sectorOf 4 (some .int) : Cond) ∈ sv_tb := sv_ink sv_t5 175 rfl rfl
set_option maxRecDepth 20000 in
theorem wd_1274 : (.methodLink RL 83 yX12_pixelAt : Cond) ∈ sv_tb := sv_ink sv_t5 184 rfl rfl
set_option maxRecDepth 20000 in
theorem wd_1275 : (.instanceMethod yX12_pixelAt : Cond) ∈ sv_tb := sv_ink sv_t5 185 rfl rfl
set_option maxRecDepth 20000 in
theorem wd_1276 : (.selects RX12 yX12_pixelAt yX12_pixelAt : Cond) ∈ sv_tb := sv_ink sv_t5 186 rfl rfl
set_option maxRecDepth 20000 in
theorem wd_1277 : (.code yX12_pixelAt cX12_pixelAt 3 (some .int) : Cond) ∈ sv_tb := sv_ink sv_t5 187 rfl rfl
set_option maxRecDepth 20000 in
theorem wd_1360 : (.methodLink RL 87 yX12_surfaceAt : Cond) ∈ sv_tb := sv_ink sv_t6 30 rfl rfl
set_option maxRecDepth 20000 in
theorem wd_1361 : (.instanceMethod yX12_surfaceAt : Cond) ∈ sv_tb := sv_ink sv_t6 31 rfl rfl
set_option maxRecDepth 20000 in
theorem wd_1362 : (.selects RX12 yX12_surfaceAt yX12_surfaceAt : Cond) ∈ sv_tb := sv_ink sv_t6 32 rfl rfl
set_option maxRecDepth 20000 in
theorem wd_1363 : (.code yX12_surfaceAt cX12_surfaceAt 3 (some .int) : Cond) ∈ sv_tb := sv_ink sv_t6 33 rfl rfl
set_option maxRecDepth 20000 in
theorem wd_1364 : (.methodLink RL 91 yX12_metAt : Cond) ∈ sv_tb := sv_ink sv_t6 34 rfl rfl
set_option maxRecDepth 20000 in
theorem wd_1365 : (.instanceMethod yX12_metAt : Cond) ∈ sv_tb := sv_ink sv_t6 35 rfl rfl
set_option maxRecDepth 20000 in
theorem wd_1366 : (.selects RX12 yX12_metAt yX12_metAt : Cond) ∈ sv_tb := sv_ink sv_t6 36 rfl rfl
set_option maxRecDepth 20000 in
theorem wd_1367 : (.code yX12_metAt cX12_metAt 3 (some .int) : Cond) ∈ sv_tb := sv_ink sv_t6 37 rfl rfl
set_option maxRecDepth 20000 in
theorem wd_1368 : (.methodLink RL 95 yX12_frameOf : Cond) ∈ sv_tb := sv_ink sv_t6 38 rfl rfl
set_option maxRecDepth 20000 in
theorem wd_1369 : (.instanceMethod yX12_frameOf : Cond) ∈ sv_tb := sv_ink sv_t6 39 rfl rfl
set_option maxRecDepth 20000 in
theorem wd_1370 : (.selects RX12 yX12_frameOf yX12_frameOf : Cond) ∈ sv_tb := sv_ink sv_t6 40 rfl rfl
set_option maxRecDepth 20000 in
theorem wd_1371 : (.code yX12_frameOf cX12_frameOf 9 (some .long) : Cond) ∈ sv_tb := sv_ink sv_t6 41 rfl rfl
set_option maxRecDepth 20000 in
theorem wd_1373 : (.methodLink RL 100 yX12_nodeOf : Cond) ∈ sv_tb := sv_ink sv_t6 43 rfl rfl
set_option maxRecDepth 20000 in
theorem wd_1374 : (.instanceMethod yX12_nodeOf : Cond) ∈ sv_tb := sv_ink sv_t6 44 rfl rfl
set_option maxRecDepth 20000 in
theorem wd_1375 : (.selects RX12 yX12_nodeOf yX12_nodeOf : Cond) ∈ sv_tb := sv_ink sv_t6 45 rfl rfl
set_option maxRecDepth 20000 in
theorem wd_1376 : (.code yX12_nodeOf cX12_nodeOf 3 (some .int) : Cond) ∈ sv_tb := sv_ink sv_t6 46 rfl rfl
set_option maxRecDepth 20000 in
theorem wd_1378 : (.methodLink RL 104 yX12_leafOf : Cond) ∈ sv_tb := sv_ink sv_t6 48 rfl rfl
set_option maxRecDepth 20000 in
theorem wd_1379 : (.instanceMethod yX12_leafOf : Cond) ∈ sv_tb := sv_ink sv_t6 49 rfl rfl
set_option maxRecDepth 20000 in
theorem wd_1380 : (.selects RX12 yX12_leafOf yX12_leafOf : Cond) ∈ sv_tb := sv_ink sv_t6 50 rfl rfl
set_option maxRecDepth 20000 in
theorem wd_1381 : (.code yX12_leafOf cX12_leafOf 3 (some .int) : Cond) ∈ sv_tb := sv_ink sv_t6 51 rfl rfl
set_option maxRecDepth 20000 in
theorem wd_1387 : (.methodLink RL 108 yX12_byteOf : Cond) ∈ sv_tb := sv_ink sv_t6 57 rfl rfl
set_option maxRecDepth 20000 in
theorem wd_1388 : (.instanceMethod yX12_byteOf : Cond) ∈ sv_tb := sv_ink sv_t6 58 rfl rfl
set_option maxRecDepth 20000 in
theorem wd_1389 : (.selects RX12 yX12_byteOf yX12_byteOf : Cond) ∈ sv_tb := sv_ink sv_t6 59 rfl rfl
set_option maxRecDepth 20000 in
theorem wd_1390 : (.code yX12_byteOf cX12_byteOf 4 (some .int) : Cond) ∈ sv_tb := sv_ink sv_t6 60 rfl rfl
set_option maxRecDepth 20000 in
theorem wd_1391 : (.methodLink RL 113 yX12_lookAt : Cond) ∈ sv_tb := sv_ink sv_t6 61 rfl rfl
set_option maxRecDepth 20000 in
theorem wd_1392 : (.instanceMethod yX12_lookAt : Cond) ∈ sv_tb := sv_ink sv_t6 62 rfl rfl
set_option maxRecDepth 20000 in
theorem wd_1393 : (.selects RX12 yX12_lookAt yX12_lookAt : Cond) ∈ sv_tb := sv_ink sv_t6 63 rfl rfl
set_option maxRecDepth 20000 in
theorem wd_1394 : (.code yX12_lookAt cX12_lookAt 2 (some .int) : Cond) ∈ sv_tb := sv_ink sv_t6 64 rfl rfl
set_option maxRecDepth 20000 in
theorem wd_1396 : (.classLink RL 10 RX17 : Cond) ∈ sv_tb := sv_ink sv_t6 66 rfl rfl
set_option maxRecDepth 20000 in
theorem wd_1397 : (.instantiable RX17 29 : Cond) ∈ sv_tb := sv_ink sv_t6 67 rfl rfl
set_option maxRecDepth 20000 in
theorem wd_1398 : (.methodLink RL 12 yX17_init : Cond) ∈ sv_tb := sv_ink sv_t6 68 rfl rfl
set_option maxRecDepth 20000 in
theorem wd_1399 : (.instanceMethod yX17_init : Cond) ∈ sv_tb := sv_ink sv_t6 69 rfl rfl
set_option maxRecDepth 20000 in
theorem wd_1400 : (.code yX17_init cX17_init 1 none : Cond) ∈ sv_tb := sv_ink sv_t6 70 rfl rfl
set_option maxRecDepth 20000 in
theorem wd_1402 : (.classLink RX17 7 RX14 : Cond) ∈ sv_tb := sv_ink sv_t6 72 rfl rfl
set_option maxRecDepth 20000 in
theorem wd_1403 : (.instantiable RX14 10 : Cond) ∈ sv_tb := sv_ink sv_t6 73 rfl rfl
set_option maxRecDepth 20000 in
theorem wd_1405 : (.instanceMethod yX14_init : Cond) ∈ sv_tb := sv_ink sv_t6 75 rfl rfl
set_option maxRecDepth 20000 in
theorem wd_1406 : (.code yX14_init cX14_init 1 none : Cond) ∈ sv_tb := sv_ink sv_t6 76 rfl rfl
set_option maxRecDepth 20000 in
theorem wd_1444 : (.arrayClass .byte : Cond) ∈ sv_tb := sv_ink sv_t6 114 rfl rfl
set_option maxRecDepth 20000 in
theorem wd_1445 : (.classLink RX17 16 RX15 : Cond) ∈ sv_tb := sv_ink sv_t6 115 rfl rfl
set_option maxRecDepth 20000 in
theorem wd_1446 : (.instantiable RX15 21 : Cond) ∈ sv_tb := sv_ink sv_t6 116 rfl rfl
set_option maxRecDepth 20000 in
theorem wd_1448 : (.instanceMethod yX15_init : Cond) ∈ sv_tb := sv_ink sv_t6 118 rfl rfl
set_option maxRecDepth 20000 in
theorem wd_1449 : (.code yX15_init cX15_init 1 none : Cond) ∈ sv_tb := sv_ink sv_t6 119 rfl rfl
set_option maxRecDepth 20000 in
theorem wd_1525 : (.classLink RX17 23 RX13 : Cond) ∈ sv_tb := sv_ink sv_t6 195 rfl rfl
set_option maxRecDepth 20000 in
theorem wd_1526 : (.instantiable RX13 18 : Cond) ∈ sv_tb := sv_ink sv_t6 196 rfl rfl
set_option maxRecDepth 20000 in
theorem wd_1528 : (.instanceMethod yX13_init : Cond) ∈ sv_tb := sv_ink sv_t6 198 rfl rfl
set_option maxRecDepth 20000 in
theorem wd_1529 : (.code yX13_init cX13_init 1 none : Cond) ∈ sv_tb := sv_ink sv_t6 199 rfl rfl
set_option maxRecDepth 20000 in
theorem wd_1591 : (.classLink RX17 30 RX16 : Cond) ∈ sv_tb := sv_ink sv_t7 21 rfl rfl
set_option maxRecDepth 20000 in
theorem wd_1592 : (.instantiable RX16 28 : Cond) ∈ sv_tb := sv_ink sv_t7 22 rfl rfl
set_option maxRecDepth 20000 in
theorem wd_1594 : (.instanceMethod yX16_init : Cond) ∈ sv_tb := sv_ink sv_t7 24 rfl rfl
set_option maxRecDepth 20000 in
theorem wd_1595 : (.code yX16_init cX16_init 1 none : Cond) ∈ sv_tb := sv_ink sv_t7 25 rfl rfl
set_option maxRecDepth 20000 in
theorem wd_1597 : (.constant RX16 44 34000 : Cond) ∈ sv_tb := sv_ink sv_t7 27 rfl rfl
set_option maxRecDepth 20000 in
theorem wd_1779 : (.methodLink RL 19 yX17_giveBytes : Cond) ∈ sv_tb := sv_ink sv_t7 209 rfl rfl
set_option maxRecDepth 20000 in
theorem wd_1780 : (.instanceMethod yX17_giveBytes : Cond) ∈ sv_tb := sv_ink sv_t7 210 rfl rfl
set_option maxRecDepth 20000 in
theorem wd_1781 : (.selects RX17 yX17_giveBytes yX17_giveBytes : Cond) ∈ sv_tb := sv_ink sv_t7 211 rfl rfl
set_option maxRecDepth 20000 in
theorem wd_1782 : (.code yX17_giveBytes cX17_giveBytes 5 (some .boolean) : Cond) ∈ sv_tb := sv_ink sv_t7 212 rfl rfl
set_option maxRecDepth 20000 in
theorem wd_1783 : (.methodLink RL 24 yX17_cutBytes : Cond) ∈ sv_tb := sv_ink sv_t7 213 rfl rfl
set_option maxRecDepth 20000 in
theorem wd_1784 : (.instanceMethod yX17_cutBytes : Cond) ∈ sv_tb := sv_ink sv_t7 214 rfl rfl
set_option maxRecDepth 20000 in
theorem wd_1785 : (.selects RX17 yX17_cutBytes yX17_cutBytes : Cond) ∈ sv_tb := sv_ink sv_t7 215 rfl rfl
set_option maxRecDepth 20000 in
theorem wd_1786 : (.code yX17_cutBytes cX17_cutBytes 2 (some .boolean) : Cond) ∈ sv_tb := sv_ink sv_t7 216 rfl rfl
set_option maxRecDepth 20000 in
theorem wd_1787 : (.methodLink RL 29 yX17_pokeByte : Cond) ∈ sv_tb := sv_ink sv_t7 217 rfl rfl
set_option maxRecDepth 20000 in
theorem wd_1788 : (.instanceMethod yX17_pokeByte : Cond) ∈ sv_tb := sv_ink sv_t7 218 rfl rfl
set_option maxRecDepth 20000 in
theorem wd_1789 : (.selects RX17 yX17_pokeByte yX17_pokeByte : Cond) ∈ sv_tb := sv_ink sv_t7 219 rfl rfl
set_option maxRecDepth 20000 in
theorem wd_1790 : (.code yX17_pokeByte cX17_pokeByte 3 (some .boolean) : Cond) ∈ sv_tb := sv_ink sv_t7 220 rfl rfl
set_option maxRecDepth 20000 in
theorem wd_1791 : (.methodLink RL 34 yX17_loadMap : Cond) ∈ sv_tb := sv_ink sv_t7 221 rfl rfl
set_option maxRecDepth 20000 in
theorem wd_1792 : (.instanceMethod yX17_loadMap : Cond) ∈ sv_tb := sv_ink sv_t7 222 rfl rfl
set_option maxRecDepth 20000 in
theorem wd_1793 : (.selects RX17 yX17_loadMap yX17_loadMap : Cond) ∈ sv_tb := sv_ink sv_t7 223 rfl rfl
set_option maxRecDepth 20000 in
theorem wd_1794 : (.code yX17_loadMap cX17_loadMap 2 (some .int) : Cond) ∈ sv_tb := sv_ink sv_t7 224 rfl rfl
set_option maxRecDepth 20000 in
theorem wd_1941 : (.methodLink RL 38 yX17_loadDemo : Cond) ∈ sv_tb := sv_ink sv_t8 131 rfl rfl
set_option maxRecDepth 20000 in
theorem wd_1942 : (.instanceMethod yX17_loadDemo : Cond) ∈ sv_tb := sv_ink sv_t8 132 rfl rfl
set_option maxRecDepth 20000 in
theorem wd_1943 : (.selects RX17 yX17_loadDemo yX17_loadDemo : Cond) ∈ sv_tb := sv_ink sv_t8 133 rfl rfl
set_option maxRecDepth 20000 in
theorem wd_1944 : (.code yX17_loadDemo cX17_loadDemo 2 (some .int) : Cond) ∈ sv_tb := sv_ink sv_t8 134 rfl rfl
set_option maxRecDepth 20000 in
theorem wd_1979 : (.methodLink RL 42 yX17_saveMap : Cond) ∈ sv_tb := sv_ink sv_t8 169 rfl rfl
set_option maxRecDepth 20000 in
theorem wd_1980 : (.instanceMethod yX17_saveMap : Cond) ∈ sv_tb := sv_ink sv_t8 170 rfl rfl
set_option maxRecDepth 20000 in
theorem wd_1981 : (.selects RX17 yX17_saveMap yX17_saveMap : Cond) ∈ sv_tb := sv_ink sv_t8 171 rfl rfl
set_option maxRecDepth 20000 in
theorem wd_1982 : (.code yX17_saveMap cX17_saveMap 2 (some .int) : Cond) ∈ sv_tb := sv_ink sv_t8 172 rfl rfl
set_option maxRecDepth 20000 in
theorem wd_1983 : (.methodLink RL 46 yX17_saveDemo : Cond) ∈ sv_tb := sv_ink sv_t8 173 rfl rfl
set_option maxRecDepth 20000 in
theorem wd_1984 : (.instanceMethod yX17_saveDemo : Cond) ∈ sv_tb := sv_ink sv_t8 174 rfl rfl
set_option maxRecDepth 20000 in
theorem wd_1985 : (.selects RX17 yX17_saveDemo yX17_saveDemo : Cond) ∈ sv_tb := sv_ink sv_t8 175 rfl rfl
set_option maxRecDepth 20000 in
theorem wd_1986 : (.code yX17_saveDemo cX17_saveDemo 2 (some .int) : Cond) ∈ sv_tb := sv_ink sv_t8 176 rfl rfl
set_option maxRecDepth 20000 in
theorem wd_2003 : (.methodLink RL 50 yX17_turnBytes : Cond) ∈ sv_tb := sv_ink sv_t8 193 rfl rfl
set_option maxRecDepth 20000 in
theorem wd_2004 : (.instanceMethod yX17_turnBytes : Cond) ∈ sv_tb := sv_ink sv_t8 194 rfl rfl
set_option maxRecDepth 20000 in
theorem wd_2005 : (.selects RX17 yX17_turnBytes yX17_turnBytes : Cond) ∈ sv_tb := sv_ink sv_t8 195 rfl rfl
set_option maxRecDepth 20000 in
theorem wd_2006 : (.code yX17_turnBytes cX17_turnBytes 2 none : Cond) ∈ sv_tb := sv_ink sv_t8 196 rfl rfl
set_option maxRecDepth 20000 in
theorem wd_2007 : (.methodLink RL 112 yX17_byteOf : Cond) ∈ sv_tb := sv_ink sv_t8 197 rfl rfl
set_option maxRecDepth 20000 in
theorem wd_2008 : (.instanceMethod yX17_byteOf : Cond) ∈ sv_tb := sv_ink sv_t8 198 rfl rfl
set_option maxRecDepth 20000 in
theorem wd_2009 : (.selects RX17 yX17_byteOf yX17_byteOf : Cond) ∈ sv_tb := sv_ink sv_t8 199 rfl rfl
set_option maxRecDepth 20000 in
theorem wd_2010 : (.code yX17_byteOf cX17_byteOf 3 (some .int) : Cond) ∈ sv_tb := sv_ink sv_t8 200 rfl rfl
set_option maxRecDepth 20000 in
theorem wd_2011 : (.methodLink RL 86 yX17_pixelAt : Cond) ∈ sv_tb := sv_ink sv_t8 201 rfl rfl
set_option maxRecDepth 20000 in
theorem wd_2012 : (.instanceMethod yX17_pixelAt : Cond) ∈ sv_tb := sv_ink sv_t8 202 rfl rfl
set_option maxRecDepth 20000 in
theorem wd_2013 : (.selects RX17 yX17_pixelAt yX17_pixelAt : Cond) ∈ sv_tb := sv_ink sv_t8 203 rfl rfl
set_option maxRecDepth 20000 in
theorem wd_2014 : (.code yX17_pixelAt cX17_pixelAt 3 (some .int) : Cond) ∈ sv_tb := sv_ink sv_t8 204 rfl rfl
set_option maxRecDepth 20000 in
theorem wd_2124 : (.methodLink RL 90 yX17_surfaceAt : Cond) ∈ sv_tb := sv_ink sv_t9 74 rfl rfl
set_option maxRecDepth 20000 in
theorem wd_2125 : (.instanceMethod yX17_surfaceAt : Cond) ∈ sv_tb := sv_ink sv_t9 75 rfl rfl
set_option maxRecDepth 20000 in
theorem wd_2126 : (.selects RX17 yX17_surfaceAt yX17_surfaceAt : Cond) ∈ sv_tb := sv_ink sv_t9 76 rfl rfl
set_option maxRecDepth 20000 in
theorem wd_2127 : (.code yX17_surfaceAt cX17_surfaceAt 3 (some .int) : Cond) ∈ sv_tb := sv_ink sv_t9 77 rfl rfl
set_option maxRecDepth 20000 in
theorem wd_2128 : (.methodLink RL 94 yX17_metAt : Cond) ∈ sv_tb := sv_ink sv_t9 78 rfl rfl
set_option maxRecDepth 20000 in
theorem wd_2129 : (.instanceMethod yX17_metAt : Cond) ∈ sv_tb := sv_ink sv_t9 79 rfl rfl
set_option maxRecDepth 20000 in
theorem wd_2130 : (.selects RX17 yX17_metAt yX17_metAt : Cond) ∈ sv_tb := sv_ink sv_t9 80 rfl rfl
set_option maxRecDepth 20000 in
theorem wd_2131 : (.code yX17_metAt cX17_metAt 3 (some .int) : Cond) ∈ sv_tb := sv_ink sv_t9 81 rfl rfl
set_option maxRecDepth 20000 in
theorem wd_2132 : (.methodLink RL 99 yX17_frameOf : Cond) ∈ sv_tb := sv_ink sv_t9 82 rfl rfl
set_option maxRecDepth 20000 in
theorem wd_2133 : (.instanceMethod yX17_frameOf : Cond) ∈ sv_tb := sv_ink sv_t9 83 rfl rfl
set_option maxRecDepth 20000 in
theorem wd_2134 : (.selects RX17 yX17_frameOf yX17_frameOf : Cond) ∈ sv_tb := sv_ink sv_t9 84 rfl rfl
set_option maxRecDepth 20000 in
theorem wd_2135 : (.code yX17_frameOf cX17_frameOf 4 (some .long) : Cond) ∈ sv_tb := sv_ink sv_t9 85 rfl rfl
set_option maxRecDepth 20000 in
theorem wd_2137 : (.methodLink RL 55 yX17_startAt : Cond) ∈ sv_tb := sv_ink sv_t9 87 rfl rfl
set_option maxRecDepth 20000 in
theorem wd_2138 : (.instanceMethod yX17_startAt : Cond) ∈ sv_tb := sv_ink sv_t9 88 rfl rfl
set_option maxRecDepth 20000 in
theorem wd_2139 : (.selects RX17 yX17_startAt yX17_startAt : Cond) ∈ sv_tb := sv_ink sv_t9 89 rfl rfl
set_option maxRecDepth 20000 in
theorem wd_2140 : (.code yX17_startAt cX17_startAt 5 (some .boolean) : Cond) ∈ sv_tb := sv_ink sv_t9 90 rfl rfl
set_option maxRecDepth 20000 in
theorem wd_2145 : (.methodLink RL 60 yX17_addInput : Cond) ∈ sv_tb := sv_ink sv_t9 95 rfl rfl
set_option maxRecDepth 20000 in
theorem wd_2146 : (.instanceMethod yX17_addInput : Cond) ∈ sv_tb := sv_ink sv_t9 96 rfl rfl
set_option maxRecDepth 20000 in
theorem wd_2147 : (.selects RX17 yX17_addInput yX17_addInput : Cond) ∈ sv_tb := sv_ink sv_t9 97 rfl rfl
set_option maxRecDepth 20000 in
theorem wd_2148 : (.code yX17_addInput cX17_addInput 5 (some .int) : Cond) ∈ sv_tb := sv_ink sv_t9 98 rfl rfl
set_option maxRecDepth 20000 in
theorem wd_2156 : (.methodLink RL 64 yX17_dropInputs : Cond) ∈ sv_tb := sv_ink sv_t9 106 rfl rfl
set_option maxRecDepth 20000 in
theorem wd_2157 : (.instanceMethod yX17_dropInputs : Cond) ∈ sv_tb := sv_ink sv_t9 107 rfl rfl
set_option maxRecDepth 20000 in
theorem wd_2158 : (.selects RX17 yX17_dropInputs yX17_dropInputs : Cond) ∈ sv_tb := sv_ink sv_t9 108 rfl rfl
set_option maxRecDepth 20000 in
theorem wd_2159 : (.code yX17_dropInputs cX17_dropInputs 2 (some .boolean) : Cond) ∈ sv_tb := sv_ink sv_t9 109 rfl rfl
set_option maxRecDepth 20000 in
theorem wd_2164 : (.methodLink RL 69 yX17_playTo : Cond) ∈ sv_tb := sv_ink sv_t9 114 rfl rfl
set_option maxRecDepth 20000 in
theorem wd_2165 : (.instanceMethod yX17_playTo : Cond) ∈ sv_tb := sv_ink sv_t9 115 rfl rfl
set_option maxRecDepth 20000 in
theorem wd_2166 : (.selects RX17 yX17_playTo yX17_playTo : Cond) ∈ sv_tb := sv_ink sv_t9 116 rfl rfl
set_option maxRecDepth 20000 in
theorem wd_2167 : (.code yX17_playTo cX17_playTo 4 (some .int) : Cond) ∈ sv_tb := sv_ink sv_t9 117 rfl rfl
set_option maxRecDepth 20000 in
theorem wd_2219 : (.methodLink RL 73 yX17_stepBy : Cond) ∈ sv_tb := sv_ink sv_t9 169 rfl rfl
set_option maxRecDepth 20000 in
theorem wd_2220 : (.instanceMethod yX17_stepBy : Cond) ∈ sv_tb := sv_ink sv_t9 170 rfl rfl
set_option maxRecDepth 20000 in
theorem wd_2221 : (.selects RX17 yX17_stepBy yX17_stepBy : Cond) ∈ sv_tb := sv_ink sv_t9 171 rfl rfl
set_option maxRecDepth 20000 in
theorem wd_2222 : (.code yX17_stepBy cX17_stepBy 6 (some .int) : Cond) ∈ sv_tb := sv_ink sv_t9 172 rfl rfl
set_option maxRecDepth 20000 in
theorem wd_2224 : (.methodLink RL 77 yX17_walkerOf : Cond) ∈ sv_tb := sv_ink sv_t9 174 rfl rfl
set_option maxRecDepth 20000 in
theorem wd_2225 : (.instanceMethod yX17_walkerOf : Cond) ∈ sv_tb := sv_ink sv_t9 175 rfl rfl
set_option maxRecDepth 20000 in
theorem wd_2226 : (.selects RX17 yX17_walkerOf yX17_walkerOf : Cond) ∈ sv_tb := sv_ink sv_t9 176 rfl rfl
set_option maxRecDepth 20000 in
theorem wd_2227 : (.code yX17_walkerOf cX17_walkerOf 2 (some .int) : Cond) ∈ sv_tb := sv_ink sv_t9 177 rfl rfl
set_option maxRecDepth 20000 in
theorem wd_2229 : (.methodLink RL 82 yX17_sectorOf : Cond) ∈ sv_tb := sv_ink sv_t9 179 rfl rfl
set_option maxRecDepth 20000 in
theorem wd_2230 : (.instanceMethod yX17_sectorOf : Cond) ∈ sv_tb := sv_ink sv_t9 180 rfl rfl
set_option maxRecDepth 20000 in
theorem wd_2231 : (.selects RX17 yX17_sectorOf yX17_sectorOf : Cond) ∈ sv_tb := sv_ink sv_t9 181 rfl rfl
set_option maxRecDepth 20000 in
theorem wd_2232 : (.code yX17_sectorOf cX17_sectorOf 3 (some .int) : Cond) ∈ sv_tb := sv_ink sv_t9 182 rfl rfl
set_option maxRecDepth 20000 in
theorem wd_2233 : (.methodLink RL 103 yX17_nodeOf : Cond) ∈ sv_tb := sv_ink sv_t9 183 rfl rfl
set_option maxRecDepth 20000 in
theorem wd_2234 : (.instanceMethod yX17_nodeOf : Cond) ∈ sv_tb := sv_ink sv_t9 184 rfl rfl
set_option maxRecDepth 20000 in
theorem wd_2235 : (.selects RX17 yX17_nodeOf yX17_nodeOf : Cond) ∈ sv_tb := sv_ink sv_t9 185 rfl rfl
set_option maxRecDepth 20000 in
theorem wd_2236 : (.code yX17_nodeOf cX17_nodeOf 3 (some .int) : Cond) ∈ sv_tb := sv_ink sv_t9 186 rfl rfl
set_option maxRecDepth 20000 in
theorem wd_2298 : (.methodLink RL 107 yX17_leafOf : Cond) ∈ sv_tb := sv_ink sv_t10 8 rfl rfl
set_option maxRecDepth 20000 in
theorem wd_2299 : (.instanceMethod yX17_leafOf : Cond) ∈ sv_tb := sv_ink sv_t10 9 rfl rfl
set_option maxRecDepth 20000 in
theorem wd_2300 : (.selects RX17 yX17_leafOf yX17_leafOf : Cond) ∈ sv_tb := sv_ink sv_t10 10 rfl rfl
set_option maxRecDepth 20000 in
theorem wd_2301 : (.code yX17_leafOf cX17_leafOf 3 (some .int) : Cond) ∈ sv_tb := sv_ink sv_t10 11 rfl rfl
set_option maxRecDepth 20000 in
theorem wd_2313 : (.methodLink RL 116 yX17_lookAt : Cond) ∈ sv_tb := sv_ink sv_t10 23 rfl rfl
set_option maxRecDepth 20000 in
theorem wd_2314 : (.instanceMethod yX17_lookAt : Cond) ∈ sv_tb := sv_ink sv_t10 24 rfl rfl
set_option maxRecDepth 20000 in
theorem wd_2315 : (.selects RX17 yX17_lookAt yX17_lookAt : Cond) ∈ sv_tb := sv_ink sv_t10 25 rfl rfl
set_option maxRecDepth 20000 in
theorem wd_2316 : (.code yX17_lookAt cX17_lookAt 2 (some .int) : Cond) ∈ sv_tb := sv_ink sv_t10 26 rfl rfl
set_option maxRecDepth 20000 in
theorem wd_2319 : (.constantLong RL 13 4294967295 : Cond) ∈ sv_tb := sv_ink sv_t10 29 rfl rfl
