theorem ml_L_100 : Cond.methodLink RL 100 yX9_meet ∈ vz_tbl := vz_tb (tb5 (List.mem_of_getElem? (i := 215) rfl)) rfl
theorem ml_L_101 : Cond.methodLink RL 101 yX8_best ∈ vz_tbl := vz_tb (tb3 (List.mem_of_getElem? (i := 172) rfl)) rfl
theorem ml_L_104 : Cond.methodLink RL 104 yX9_best ∈ vz_tbl := vz_tb (tb5 (List.mem_of_getElem? (i := 219) rfl)) rfl
theorem ml_L_105 : Cond.methodLink RL 105 yX8_late ∈ vz_tbl := vz_tb (tb3 (List.mem_of_getElem? (i := 190) rfl)) rfl
theorem ml_L_108 : Cond.methodLink RL 108 yX9_late ∈ vz_tbl := vz_tb (tb5 (List.mem_of_getElem? (i := 231) rfl)) rfl
theorem ml_L_109 : Cond.methodLink RL 109 yX8_soon ∈ vz_tbl := vz_tb (tb3 (List.mem_of_getElem? (i := 201) rfl)) rfl
theorem ml_L_112 : Cond.methodLink RL 112 yX9_soon ∈ vz_tbl := vz_tb (tb5 (List.mem_of_getElem? (i := 235) rfl)) rfl
theorem ml_L_113 : Cond.methodLink RL 113 yX8_begin ∈ vz_tbl := vz_tb (tb3 (List.mem_of_getElem? (i := 205) rfl)) rfl
theorem ml_L_116 : Cond.methodLink RL 116 yX9_begin ∈ vz_tbl := vz_tb (tb5 (List.mem_of_getElem? (i := 239) rfl)) rfl
theorem ml_L_117 : Cond.methodLink RL 117 yX8_kind ∈ vz_tbl := vz_tb (tb3 (List.mem_of_getElem? (i := 209) rfl)) rfl
theorem ml_L_120 : Cond.methodLink RL 120 yX9_kind ∈ vz_tbl := vz_tb (tb6 (List.mem_of_getElem? (i := 3) rfl)) rfl
theorem ml_L_121 : Cond.methodLink RL 121 yX8_swap ∈ vz_tbl := vz_tb (tb3 (List.mem_of_getElem? (i := 213) rfl)) rfl
theorem ml_L_124 : Cond.methodLink RL 124 yX9_swap ∈ vz_tbl := vz_tb (tb6 (List.mem_of_getElem? (i := 7) rfl)) rfl
theorem ml_L_125 : Cond.methodLink RL 125 yX8_spoil ∈ vz_tbl := vz_tb (tb3 (List.mem_of_getElem? (i := 222) rfl)) rfl
theorem ml_L_128 : Cond.methodLink RL 128 yX9_spoil ∈ vz_tbl := vz_tb (tb6 (List.mem_of_getElem? (i := 11) rfl)) rfl
theorem ml_L_129 : Cond.methodLink RL 129 yX8_luck ∈ vz_tbl := vz_tb (tb3 (List.mem_of_getElem? (i := 230) rfl)) rfl
theorem ml_L_13 : Cond.methodLink RL 13 yX8_feed ∈ vz_tbl := vz_tb (tb2 (List.mem_of_getElem? (i := 34) rfl)) rfl
theorem ml_L_133 : Cond.methodLink RL 133 yX9_luck ∈ vz_tbl := vz_tb (tb6 (List.mem_of_getElem? (i := 15) rfl)) rfl
theorem ml_L_134 : Cond.methodLink RL 134 yX8_mean ∈ vz_tbl := vz_tb (tb4 (List.mem_of_getElem? (i := 10) rfl)) rfl
theorem ml_L_138 : Cond.methodLink RL 138 yX9_mean ∈ vz_tbl := vz_tb (tb6 (List.mem_of_getElem? (i := 28) rfl)) rfl
theorem ml_L_139 : Cond.methodLink RL 139 yX8_see ∈ vz_tbl := vz_tb (tb4 (List.mem_of_getElem? (i := 14) rfl)) rfl
theorem ml_L_143 : Cond.methodLink RL 143 yX9_see ∈ vz_tbl := vz_tb (tb6 (List.mem_of_getElem? (i := 32) rfl)) rfl
theorem ml_L_144 : Cond.methodLink RL 144 yX8_forget ∈ vz_tbl := vz_tb (tb4 (List.mem_of_getElem? (i := 22) rfl)) rfl
theorem ml_L_147 : Cond.methodLink RL 147 yX9_forget ∈ vz_tbl := vz_tb (tb6 (List.mem_of_getElem? (i := 36) rfl)) rfl
theorem ml_L_148 : Cond.methodLink RL 148 yX8_kinds ∈ vz_tbl := vz_tb (tb4 (List.mem_of_getElem? (i := 26) rfl)) rfl
theorem ml_L_151 : Cond.methodLink RL 151 yX9_kinds ∈ vz_tbl := vz_tb (tb6 (List.mem_of_getElem? (i := 40) rfl)) rfl
theorem ml_L_152 : Cond.methodLink RL 152 yX8_news ∈ vz_tbl := vz_tb (tb4 (List.mem_of_getElem? (i := 41) rfl)) rfl
theorem ml_L_155 : Cond.methodLink RL 155 yX9_news ∈ vz_tbl := vz_tb (tb6 (List.mem_of_getElem? (i := 52) rfl)) rfl
theorem ml_L_156 : Cond.methodLink RL 156 yX8_ask ∈ vz_tbl := vz_tb (tb4 (List.mem_of_getElem? (i := 45) rfl)) rfl
theorem ml_L_159 : Cond.methodLink RL 159 yX9_ask ∈ vz_tbl := vz_tb (tb6 (List.mem_of_getElem? (i := 56) rfl)) rfl
theorem ml_L_160 : Cond.methodLink RL 160 yX8_drift ∈ vz_tbl := vz_tb (tb4 (List.mem_of_getElem? (i := 58) rfl)) rfl
theorem ml_L_163 : Cond.methodLink RL 163 yX9_drift ∈ vz_tbl := vz_tb (tb6 (List.mem_of_getElem? (i := 60) rfl)) rfl
theorem ml_L_164 : Cond.methodLink RL 164 yX8_keep ∈ vz_tbl := vz_tb (tb4 (List.mem_of_getElem? (i := 68) rfl)) rfl
theorem ml_L_167 : Cond.methodLink RL 167 yX9_keep ∈ vz_tbl := vz_tb (tb6 (List.mem_of_getElem? (i := 66) rfl)) rfl
theorem ml_L_168 : Cond.methodLink RL 168 yX8_back ∈ vz_tbl := vz_tb (tb4 (List.mem_of_getElem? (i := 72) rfl)) rfl
theorem ml_L_17 : Cond.methodLink RL 17 yX9_feed ∈ vz_tbl := vz_tb (tb5 (List.mem_of_getElem? (i := 0) rfl)) rfl
theorem ml_L_171 : Cond.methodLink RL 171 yX9_back ∈ vz_tbl := vz_tb (tb6 (List.mem_of_getElem? (i := 70) rfl)) rfl
theorem ml_L_172 : Cond.methodLink RL 172 yX8_sheet ∈ vz_tbl := vz_tb (tb4 (List.mem_of_getElem? (i := 76) rfl)) rfl
theorem ml_L_175 : Cond.methodLink RL 175 yX9_sheet ∈ vz_tbl := vz_tb (tb6 (List.mem_of_getElem? (i := 74) rfl)) rfl
theorem ml_L_176 : Cond.methodLink RL 176 yX8_lay ∈ vz_tbl := vz_tb (tb4 (List.mem_of_getElem? (i := 90) rfl)) rfl
theorem ml_L_179 : Cond.methodLink RL 179 yX9_lay ∈ vz_tbl := vz_tb (tb6 (List.mem_of_getElem? (i := 78) rfl)) rfl
theorem ml_L_18 : Cond.methodLink RL 18 yX8_end ∈ vz_tbl := vz_tb (tb2 (List.mem_of_getElem? (i := 45) rfl)) rfl
theorem ml_L_180 : Cond.methodLink RL 180 yX8_read ∈ vz_tbl := vz_tb (tb4 (List.mem_of_getElem? (i := 106) rfl)) rfl
theorem ml_L_184 : Cond.methodLink RL 184 yX9_read ∈ vz_tbl := vz_tb (tb6 (List.mem_of_getElem? (i := 82) rfl)) rfl
theorem ml_L_185 : Cond.methodLink RL 185 yX8_torn ∈ vz_tbl := vz_tb (tb4 (List.mem_of_getElem? (i := 124) rfl)) rfl
theorem ml_L_188 : Cond.methodLink RL 188 yX9_torn ∈ vz_tbl := vz_tb (tb6 (List.mem_of_getElem? (i := 87) rfl)) rfl
theorem ml_L_189 : Cond.methodLink RL 189 yX8_count ∈ vz_tbl := vz_tb (tb4 (List.mem_of_getElem? (i := 128) rfl)) rfl
theorem ml_L_192 : Cond.methodLink RL 192 yX9_count ∈ vz_tbl := vz_tb (tb6 (List.mem_of_getElem? (i := 91) rfl)) rfl
theorem ml_L_21 : Cond.methodLink RL 21 yX9_end ∈ vz_tbl := vz_tb (tb5 (List.mem_of_getElem? (i := 8) rfl)) rfl
theorem ml_L_22 : Cond.methodLink RL 22 yX8_text ∈ vz_tbl := vz_tb (tb2 (List.mem_of_getElem? (i := 49) rfl)) rfl
theorem ml_L_26 : Cond.methodLink RL 26 yX9_text ∈ vz_tbl := vz_tb (tb5 (List.mem_of_getElem? (i := 12) rfl)) rfl
theorem ml_L_27 : Cond.methodLink RL 27 yX8_fault ∈ vz_tbl := vz_tb (tb2 (List.mem_of_getElem? (i := 223) rfl)) rfl
theorem ml_L_30 : Cond.methodLink RL 30 yX9_fault ∈ vz_tbl := vz_tb (tb5 (List.mem_of_getElem? (i := 77) rfl)) rfl
theorem ml_L_31 : Cond.methodLink RL 31 yX8_rule ∈ vz_tbl := vz_tb (tb2 (List.mem_of_getElem? (i := 227) rfl)) rfl
theorem ml_L_34 : Cond.methodLink RL 34 yX9_rule ∈ vz_tbl := vz_tb (tb5 (List.mem_of_getElem? (i := 81) rfl)) rfl
theorem ml_L_35 : Cond.methodLink RL 35 yX8_man ∈ vz_tbl := vz_tb (tb3 (List.mem_of_getElem? (i := 30) rfl)) rfl
theorem ml_L_39 : Cond.methodLink RL 39 yX9_man ∈ vz_tbl := vz_tb (tb5 (List.mem_of_getElem? (i := 117) rfl)) rfl
theorem ml_L_40 : Cond.methodLink RL 40 yX8_walk ∈ vz_tbl := vz_tb (tb3 (List.mem_of_getElem? (i := 46) rfl)) rfl
theorem ml_L_43 : Cond.methodLink RL 43 yX9_walk ∈ vz_tbl := vz_tb (tb5 (List.mem_of_getElem? (i := 125) rfl)) rfl
theorem ml_L_44 : Cond.methodLink RL 44 yX8_street ∈ vz_tbl := vz_tb (tb3 (List.mem_of_getElem? (i := 54) rfl)) rfl
theorem ml_L_47 : Cond.methodLink RL 47 yX9_street ∈ vz_tbl := vz_tb (tb5 (List.mem_of_getElem? (i := 133) rfl)) rfl
theorem ml_L_48 : Cond.methodLink RL 48 yX8_reader ∈ vz_tbl := vz_tb (tb3 (List.mem_of_getElem? (i := 61) rfl)) rfl
theorem ml_L_51 : Cond.methodLink RL 51 yX9_reader ∈ vz_tbl := vz_tb (tb5 (List.mem_of_getElem? (i := 137) rfl)) rfl
theorem ml_L_52 : Cond.methodLink RL 52 yX8_alter ∈ vz_tbl := vz_tb (tb3 (List.mem_of_getElem? (i := 69) rfl)) rfl
theorem ml_L_56 : Cond.methodLink RL 56 yX9_alter ∈ vz_tbl := vz_tb (tb5 (List.mem_of_getElem? (i := 146) rfl)) rfl
theorem ml_L_57 : Cond.methodLink RL 57 yX8_detour ∈ vz_tbl := vz_tb (tb3 (List.mem_of_getElem? (i := 76) rfl)) rfl
theorem ml_L_60 : Cond.methodLink RL 60 yX9_detour ∈ vz_tbl := vz_tb (tb5 (List.mem_of_getElem? (i := 156) rfl)) rfl
theorem ml_L_61 : Cond.methodLink RL 61 yX8_shift ∈ vz_tbl := vz_tb (tb3 (List.mem_of_getElem? (i := 82) rfl)) rfl
theorem ml_L_64 : Cond.methodLink RL 64 yX9_shift ∈ vz_tbl := vz_tb (tb5 (List.mem_of_getElem? (i := 164) rfl)) rfl
theorem ml_L_65 : Cond.methodLink RL 65 yX8_stand ∈ vz_tbl := vz_tb (tb3 (List.mem_of_getElem? (i := 94) rfl)) rfl
theorem ml_L_68 : Cond.methodLink RL 68 yX9_stand ∈ vz_tbl := vz_tb (tb5 (List.mem_of_getElem? (i := 172) rfl)) rfl
theorem ml_L_69 : Cond.methodLink RL 69 yX8_rain ∈ vz_tbl := vz_tb (tb3 (List.mem_of_getElem? (i := 110) rfl)) rfl
theorem ml_L_72 : Cond.methodLink RL 72 yX9_rain ∈ vz_tbl := vz_tb (tb5 (List.mem_of_getElem? (i := 184) rfl)) rfl
theorem ml_L_73 : Cond.methodLink RL 73 yX8_pave ∈ vz_tbl := vz_tb (tb3 (List.mem_of_getElem? (i := 118) rfl)) rfl
theorem ml_L_76 : Cond.methodLink RL 76 yX9_pave ∈ vz_tbl := vz_tb (tb5 (List.mem_of_getElem? (i := 188) rfl)) rfl
theorem ml_L_77 : Cond.methodLink RL 77 yX8_at ∈ vz_tbl := vz_tb (tb3 (List.mem_of_getElem? (i := 123) rfl)) rfl
theorem ml_L_80 : Cond.methodLink RL 80 yX9_at ∈ vz_tbl := vz_tb (tb5 (List.mem_of_getElem? (i := 192) rfl)) rfl
theorem ml_L_81 : Cond.methodLink RL 81 yX8_reads ∈ vz_tbl := vz_tb (tb3 (List.mem_of_getElem? (i := 131) rfl)) rfl
theorem ml_L_84 : Cond.methodLink RL 84 yX9_reads ∈ vz_tbl := vz_tb (tb5 (List.mem_of_getElem? (i := 196) rfl)) rfl
theorem ml_L_85 : Cond.methodLink RL 85 yX8_knows ∈ vz_tbl := vz_tb (tb3 (List.mem_of_getElem? (i := 139) rfl)) rfl
theorem ml_L_88 : Cond.methodLink RL 88 yX9_knows ∈ vz_tbl := vz_tb (tb5 (List.mem_of_getElem? (i := 200) rfl)) rfl
theorem ml_L_89 : Cond.methodLink RL 89 yX8_first ∈ vz_tbl := vz_tb (tb3 (List.mem_of_getElem? (i := 146) rfl)) rfl
theorem ml_L_92 : Cond.methodLink RL 92 yX9_first ∈ vz_tbl := vz_tb (tb5 (List.mem_of_getElem? (i := 204) rfl)) rfl
theorem ml_L_93 : Cond.methodLink RL 93 yX8_all ∈ vz_tbl := vz_tb (tb3 (List.mem_of_getElem? (i := 164) rfl)) rfl
theorem ml_L_96 : Cond.methodLink RL 96 yX9_all ∈ vz_tbl := vz_tb (tb5 (List.mem_of_getElem? (i := 211) rfl)) rfl
theorem ml_L_97 : Cond.methodLink RL 97 yX8_meet ∈ vz_tbl := vz_tb (tb3 (List.mem_of_getElem? (i := 168) rfl)) rfl
theorem mt_X8_all : vz_MV 8 yX8_all cX8_all 4 (some .int) 1 := ⟨⟨vz_tb (tb3 (List.mem_of_getElem? (i := 167) rfl)) rfl, vz_tb (tb1 (List.mem_of_getElem? (i := 1) rfl)) rfl, by decide, by decide +kernel, by decide +kernel, by decide +kernel⟩, vz_tb (tb3 (List.mem_of_getElem? (i := 165) rfl)) rfl, vz_tb (tb3 (List.mem_of_getElem? (i := 166) rfl)) rfl, by decide, TX8, 11, rfl⟩
theorem mt_X8_alter : vz_MV 8 yX8_alter cX8_alter 6 (some .int) 3 := ⟨⟨vz_tb (tb3 (List.mem_of_getElem? (i := 72) rfl)) rfl, vz_tb (tb1 (List.mem_of_getElem? (i := 1) rfl)) rfl, by decide, by decide +kernel, by decide +kernel, by decide +kernel⟩, vz_tb (tb3 (List.mem_of_getElem? (i := 70) rfl)) rfl, vz_tb (tb3 (List.mem_of_getElem? (i := 71) rfl)) rfl, by decide, TX8, 11, rfl⟩
theorem mt_X8_ask : vz_MV 8 yX8_ask cX8_ask 8 (some .int) 2 := ⟨⟨vz_tb (tb4 (List.mem_of_getElem? (i := 48) rfl)) rfl, vz_tb (tb1 (List.mem_of_getElem? (i := 1) rfl)) rfl, by decide, by decide +kernel, by decide +kernel, by decide +kernel⟩, vz_tb (tb4 (List.mem_of_getElem? (i := 46) rfl)) rfl, vz_tb (tb4 (List.mem_of_getElem? (i := 47) rfl)) rfl, by decide, TX8, 11, rfl⟩
theorem mt_X8_at : vz_MV 8 yX8_at cX8_at 4 (some .int) 2 := ⟨⟨vz_tb (tb3 (List.mem_of_getElem? (i := 126) rfl)) rfl, vz_tb (tb1 (List.mem_of_getElem? (i := 1) rfl)) rfl, by decide, by decide +kernel, by decide +kernel, by decide +kernel⟩, vz_tb (tb3 (List.mem_of_getElem? (i := 124) rfl)) rfl, vz_tb (tb3 (List.mem_of_getElem? (i := 125) rfl)) rfl, by decide, TX8, 11, rfl⟩
theorem mt_X8_back : vz_MV 8 yX8_back cX8_back 2 (some .int) 1 := ⟨⟨vz_tb (tb4 (List.mem_of_getElem? (i := 75) rfl)) rfl, vz_tb (tb1 (List.mem_of_getElem? (i := 1) rfl)) rfl, by decide, by decide +kernel, by decide +kernel, by decide +kernel⟩, vz_tb (tb4 (List.mem_of_getElem? (i := 73) rfl)) rfl, vz_tb (tb4 (List.mem_of_getElem? (i := 74) rfl)) rfl, by decide, TX8, 11, rfl⟩
theorem mt_X8_begin : vz_MV 8 yX8_begin cX8_begin 5 (some .int) 2 := ⟨⟨vz_tb (tb3 (List.mem_of_getElem? (i := 208) rfl)) rfl, vz_tb (tb1 (List.mem_of_getElem? (i := 1) rfl)) rfl, by decide, by decide +kernel, by decide +kernel, by decide +kernel⟩, vz_tb (tb3 (List.mem_of_getElem? (i := 206) rfl)) rfl, vz_tb (tb3 (List.mem_of_getElem? (i := 207) rfl)) rfl, by decide, TX8, 11, rfl⟩
theorem mt_X8_best : vz_MV 8 yX8_best cX8_best 5 (some .int) 2 := ⟨⟨vz_tb (tb3 (List.mem_of_getElem? (i := 175) rfl)) rfl, vz_tb (tb1 (List.mem_of_getElem? (i := 1) rfl)) rfl, by decide, by decide +kernel, by decide +kernel, by decide +kernel⟩, vz_tb (tb3 (List.mem_of_getElem? (i := 173) rfl)) rfl, vz_tb (tb3 (List.mem_of_getElem? (i := 174) rfl)) rfl, by decide, TX8, 11, rfl⟩
theorem mt_X8_count : vz_MV 8 yX8_count cX8_count 2 (some .int) 1 := ⟨⟨vz_tb (tb4 (List.mem_of_getElem? (i := 131) rfl)) rfl, vz_tb (tb1 (List.mem_of_getElem? (i := 1) rfl)) rfl, by decide, by decide +kernel, by decide +kernel, by decide +kernel⟩, vz_tb (tb4 (List.mem_of_getElem? (i := 129) rfl)) rfl, vz_tb (tb4 (List.mem_of_getElem? (i := 130) rfl)) rfl, by decide, TX8, 11, rfl⟩
theorem mt_X8_detour : vz_MV 8 yX8_detour cX8_detour 6 (some .int) 3 := ⟨⟨vz_tb (tb3 (List.mem_of_getElem? (i := 79) rfl)) rfl, vz_tb (tb1 (List.mem_of_getElem? (i := 1) rfl)) rfl, by decide, by decide +kernel, by decide +kernel, by decide +kernel⟩, vz_tb (tb3 (List.mem_of_getElem? (i := 77) rfl)) rfl, vz_tb (tb3 (List.mem_of_getElem? (i := 78) rfl)) rfl, by decide, TX8, 11, rfl⟩
theorem mt_X8_drift : vz_MV 8 yX8_drift cX8_drift 7 (some .int) 3 := ⟨⟨vz_tb (tb4 (List.mem_of_getElem? (i := 61) rfl)) rfl, vz_tb (tb1 (List.mem_of_getElem? (i := 1) rfl)) rfl, by decide, by decide +kernel, by decide +kernel, by decide +kernel⟩, vz_tb (tb4 (List.mem_of_getElem? (i := 59) rfl)) rfl, vz_tb (tb4 (List.mem_of_getElem? (i := 60) rfl)) rfl, by decide, TX8, 11, rfl⟩
theorem mt_X8_end : vz_MV 8 yX8_end cX8_end 3 (some .int) 1 := ⟨⟨vz_tb (tb2 (List.mem_of_getElem? (i := 48) rfl)) rfl, vz_tb (tb1 (List.mem_of_getElem? (i := 1) rfl)) rfl, by decide, by decide +kernel, by decide +kernel, by decide +kernel⟩, vz_tb (tb2 (List.mem_of_getElem? (i := 46) rfl)) rfl, vz_tb (tb2 (List.mem_of_getElem? (i := 47) rfl)) rfl, by decide, TX8, 11, rfl⟩
theorem mt_X8_fault : vz_MV 8 yX8_fault cX8_fault 1 (some .int) 0 := ⟨⟨vz_tb (tb2 (List.mem_of_getElem? (i := 226) rfl)) rfl, vz_tb (tb1 (List.mem_of_getElem? (i := 1) rfl)) rfl, by decide, by decide +kernel, by decide +kernel, by decide +kernel⟩, vz_tb (tb2 (List.mem_of_getElem? (i := 224) rfl)) rfl, vz_tb (tb2 (List.mem_of_getElem? (i := 225) rfl)) rfl, by decide, TX8, 11, rfl⟩
theorem mt_X8_feed : vz_MV 8 yX8_feed cX8_feed 2 (some .int) 1 := ⟨⟨vz_tb (tb2 (List.mem_of_getElem? (i := 37) rfl)) rfl, vz_tb (tb1 (List.mem_of_getElem? (i := 1) rfl)) rfl, by decide, by decide +kernel, by decide +kernel, by decide +kernel⟩, vz_tb (tb2 (List.mem_of_getElem? (i := 35) rfl)) rfl, vz_tb (tb2 (List.mem_of_getElem? (i := 36) rfl)) rfl, by decide, TX8, 11, rfl⟩
theorem mt_X8_first : vz_MV 8 yX8_first cX8_first 4 (some .int) 2 := ⟨⟨vz_tb (tb3 (List.mem_of_getElem? (i := 149) rfl)) rfl, vz_tb (tb1 (List.mem_of_getElem? (i := 1) rfl)) rfl, by decide, by decide +kernel, by decide +kernel, by decide +kernel⟩, vz_tb (tb3 (List.mem_of_getElem? (i := 147) rfl)) rfl, vz_tb (tb3 (List.mem_of_getElem? (i := 148) rfl)) rfl, by decide, TX8, 11, rfl⟩
theorem mt_X8_forget : vz_MV 8 yX8_forget cX8_forget 3 (some .int) 1 := ⟨⟨vz_tb (tb4 (List.mem_of_getElem? (i := 25) rfl)) rfl, vz_tb (tb1 (List.mem_of_getElem? (i := 1) rfl)) rfl, by decide, by decide +kernel, by decide +kernel, by decide +kernel⟩, vz_tb (tb4 (List.mem_of_getElem? (i := 23) rfl)) rfl, vz_tb (tb4 (List.mem_of_getElem? (i := 24) rfl)) rfl, by decide, TX8, 11, rfl⟩
theorem mt_X8_keep : vz_MV 8 yX8_keep cX8_keep 3 (some .int) 1 := ⟨⟨vz_tb (tb4 (List.mem_of_getElem? (i := 71) rfl)) rfl, vz_tb (tb1 (List.mem_of_getElem? (i := 1) rfl)) rfl, by decide, by decide +kernel, by decide +kernel, by decide +kernel⟩, vz_tb (tb4 (List.mem_of_getElem? (i := 69) rfl)) rfl, vz_tb (tb4 (List.mem_of_getElem? (i := 70) rfl)) rfl, by decide, TX8, 11, rfl⟩
theorem mt_X8_kind : vz_MV 8 yX8_kind cX8_kind 5 (some .int) 2 := ⟨⟨vz_tb (tb3 (List.mem_of_getElem? (i := 212) rfl)) rfl, vz_tb (tb1 (List.mem_of_getElem? (i := 1) rfl)) rfl, by decide, by decide +kernel, by decide +kernel, by decide +kernel⟩, vz_tb (tb3 (List.mem_of_getElem? (i := 210) rfl)) rfl, vz_tb (tb3 (List.mem_of_getElem? (i := 211) rfl)) rfl, by decide, TX8, 11, rfl⟩
theorem mt_X8_kinds : vz_MV 8 yX8_kinds cX8_kinds 2 (some .int) 1 := ⟨⟨vz_tb (tb4 (List.mem_of_getElem? (i := 29) rfl)) rfl, vz_tb (tb1 (List.mem_of_getElem? (i := 1) rfl)) rfl, by decide, by decide +kernel, by decide +kernel, by decide +kernel⟩, vz_tb (tb4 (List.mem_of_getElem? (i := 27) rfl)) rfl, vz_tb (tb4 (List.mem_of_getElem? (i := 28) rfl)) rfl, by decide, TX8, 11, rfl⟩
theorem mt_X8_knows : vz_MV 8 yX8_knows cX8_knows 7 (some .int) 3 := ⟨⟨vz_tb (tb3 (List.mem_of_getElem? (i := 142) rfl)) rfl, vz_tb (tb1 (List.mem_of_getElem? (i := 1) rfl)) rfl, by decide, by decide +kernel, by decide +kernel, by decide +kernel⟩, vz_tb (tb3 (List.mem_of_getElem? (i := 140) rfl)) rfl, vz_tb (tb3 (List.mem_of_getElem? (i := 141) rfl)) rfl, by decide, TX8, 11, rfl⟩
theorem mt_X8_late : vz_MV 8 yX8_late cX8_late 6 (some .int) 2 := ⟨⟨vz_tb (tb3 (List.mem_of_getElem? (i := 193) rfl)) rfl, vz_tb (tb1 (List.mem_of_getElem? (i := 1) rfl)) rfl, by decide, by decide +kernel, by decide +kernel, by decide +kernel⟩, vz_tb (tb3 (List.mem_of_getElem? (i := 191) rfl)) rfl, vz_tb (tb3 (List.mem_of_getElem? (i := 192) rfl)) rfl, by decide, TX8, 11, rfl⟩
theorem mt_X8_lay : vz_MV 8 yX8_lay cX8_lay 6 (some .int) 3 := ⟨⟨vz_tb (tb4 (List.mem_of_getElem? (i := 93) rfl)) rfl, vz_tb (tb1 (List.mem_of_getElem? (i := 1) rfl)) rfl, by decide, by decide +kernel, by decide +kernel, by decide +kernel⟩, vz_tb (tb4 (List.mem_of_getElem? (i := 91) rfl)) rfl, vz_tb (tb4 (List.mem_of_getElem? (i := 92) rfl)) rfl, by decide, TX8, 11, rfl⟩
theorem mt_X8_luck : vz_MV 8 yX8_luck cX8_luck 9 (some .long) 4 := ⟨⟨vz_tb (tb3 (List.mem_of_getElem? (i := 233) rfl)) rfl, vz_tb (tb1 (List.mem_of_getElem? (i := 1) rfl)) rfl, by decide, by decide +kernel, by decide +kernel, by decide +kernel⟩, vz_tb (tb3 (List.mem_of_getElem? (i := 231) rfl)) rfl, vz_tb (tb3 (List.mem_of_getElem? (i := 232) rfl)) rfl, by decide, TX8, 11, rfl⟩
theorem mt_X8_man : vz_MV 8 yX8_man cX8_man 4 (some .int) 2 := ⟨⟨vz_tb (tb3 (List.mem_of_getElem? (i := 33) rfl)) rfl, vz_tb (tb1 (List.mem_of_getElem? (i := 1) rfl)) rfl, by decide, by decide +kernel, by decide +kernel, by decide +kernel⟩, vz_tb (tb3 (List.mem_of_getElem? (i := 31) rfl)) rfl, vz_tb (tb3 (List.mem_of_getElem? (i := 32) rfl)) rfl, by decide, TX8, 11, rfl⟩
theorem mt_X8_mean : vz_MV 8 yX8_mean cX8_mean 6 (some .long) 2 := ⟨⟨vz_tb (tb4 (List.mem_of_getElem? (i := 13) rfl)) rfl, vz_tb (tb1 (List.mem_of_getElem? (i := 1) rfl)) rfl, by decide, by decide +kernel, by decide +kernel, by decide +kernel⟩, vz_tb (tb4 (List.mem_of_getElem? (i := 11) rfl)) rfl, vz_tb (tb4 (List.mem_of_getElem? (i := 12) rfl)) rfl, by decide, TX8, 11, rfl⟩
theorem mt_X8_meet : vz_MV 8 yX8_meet cX8_meet 7 (some .int) 2 := ⟨⟨vz_tb (tb3 (List.mem_of_getElem? (i := 171) rfl)) rfl, vz_tb (tb1 (List.mem_of_getElem? (i := 1) rfl)) rfl, by decide, by decide +kernel, by decide +kernel, by decide +kernel⟩, vz_tb (tb3 (List.mem_of_getElem? (i := 169) rfl)) rfl, vz_tb (tb3 (List.mem_of_getElem? (i := 170) rfl)) rfl, by decide, TX8, 11, rfl⟩
theorem mt_X8_news : vz_MV 8 yX8_news cX8_news 5 (some .int) 1 := ⟨⟨vz_tb (tb4 (List.mem_of_getElem? (i := 44) rfl)) rfl, vz_tb (tb1 (List.mem_of_getElem? (i := 1) rfl)) rfl, by decide, by decide +kernel, by decide +kernel, by decide +kernel⟩, vz_tb (tb4 (List.mem_of_getElem? (i := 42) rfl)) rfl, vz_tb (tb4 (List.mem_of_getElem? (i := 43) rfl)) rfl, by decide, TX8, 11, rfl⟩
theorem mt_X8_pave : vz_MV 8 yX8_pave cX8_pave 3 (some .int) 2 := ⟨⟨vz_tb (tb3 (List.mem_of_getElem? (i := 121) rfl)) rfl, vz_tb (tb1 (List.mem_of_getElem? (i := 1) rfl)) rfl, by decide, by decide +kernel, by decide +kernel, by decide +kernel⟩, vz_tb (tb3 (List.mem_of_getElem? (i := 119) rfl)) rfl, vz_tb (tb3 (List.mem_of_getElem? (i := 120) rfl)) rfl, by decide, TX8, 11, rfl⟩
theorem mt_X8_rain : vz_MV 8 yX8_rain cX8_rain 4 (some .int) 2 := ⟨⟨vz_tb (tb3 (List.mem_of_getElem? (i := 113) rfl)) rfl, vz_tb (tb1 (List.mem_of_getElem? (i := 1) rfl)) rfl, by decide, by decide +kernel, by decide +kernel, by decide +kernel⟩, vz_tb (tb3 (List.mem_of_getElem? (i := 111) rfl)) rfl, vz_tb (tb3 (List.mem_of_getElem? (i := 112) rfl)) rfl, by decide, TX8, 11, rfl⟩
theorem mt_X8_read : vz_MV 8 yX8_read cX8_read 9 (some .int) 4 := ⟨⟨vz_tb (tb4 (List.mem_of_getElem? (i := 109) rfl)) rfl, vz_tb (tb1 (List.mem_of_getElem? (i := 1) rfl)) rfl, by decide, by decide +kernel, by decide +kernel, by decide +kernel⟩, vz_tb (tb4 (List.mem_of_getElem? (i := 107) rfl)) rfl, vz_tb (tb4 (List.mem_of_getElem? (i := 108) rfl)) rfl, by decide, TX8, 11, rfl⟩
theorem mt_X8_reader : vz_MV 8 yX8_reader cX8_reader 4 (some .int) 2 := ⟨⟨vz_tb (tb3 (List.mem_of_getElem? (i := 64) rfl)) rfl, vz_tb (tb1 (List.mem_of_getElem? (i := 1) rfl)) rfl, by decide, by decide +kernel, by decide +kernel, by decide +kernel⟩, vz_tb (tb3 (List.mem_of_getElem? (i := 62) rfl)) rfl, vz_tb (tb3 (List.mem_of_getElem? (i := 63) rfl)) rfl, by decide, TX8, 11, rfl⟩
theorem mt_X8_reads : vz_MV 8 yX8_reads cX8_reads 5 (some .int) 3 := ⟨⟨vz_tb (tb3 (List.mem_of_getElem? (i := 134) rfl)) rfl, vz_tb (tb1 (List.mem_of_getElem? (i := 1) rfl)) rfl, by decide, by decide +kernel, by decide +kernel, by decide +kernel⟩, vz_tb (tb3 (List.mem_of_getElem? (i := 132) rfl)) rfl, vz_tb (tb3 (List.mem_of_getElem? (i := 133) rfl)) rfl, by decide, TX8, 11, rfl⟩
theorem mt_X8_rule : vz_MV 8 yX8_rule cX8_rule 2 (some .int) 1 := ⟨⟨vz_tb (tb2 (List.mem_of_getElem? (i := 230) rfl)) rfl, vz_tb (tb1 (List.mem_of_getElem? (i := 1) rfl)) rfl, by decide, by decide +kernel, by decide +kernel, by decide +kernel⟩, vz_tb (tb2 (List.mem_of_getElem? (i := 228) rfl)) rfl, vz_tb (tb2 (List.mem_of_getElem? (i := 229) rfl)) rfl, by decide, TX8, 11, rfl⟩
theorem mt_X8_see : vz_MV 8 yX8_see cX8_see 5 (some .int) 4 := ⟨⟨vz_tb (tb4 (List.mem_of_getElem? (i := 17) rfl)) rfl, vz_tb (tb1 (List.mem_of_getElem? (i := 1) rfl)) rfl, by decide, by decide +kernel, by decide +kernel, by decide +kernel⟩, vz_tb (tb4 (List.mem_of_getElem? (i := 15) rfl)) rfl, vz_tb (tb4 (List.mem_of_getElem? (i := 16) rfl)) rfl, by decide, TX8, 11, rfl⟩
theorem mt_X8_sheet : vz_MV 8 yX8_sheet cX8_sheet 4 (some .int) 3 := ⟨⟨vz_tb (tb4 (List.mem_of_getElem? (i := 79) rfl)) rfl, vz_tb (tb1 (List.mem_of_getElem? (i := 1) rfl)) rfl, by decide, by decide +kernel, by decide +kernel, by decide +kernel⟩, vz_tb (tb4 (List.mem_of_getElem? (i := 77) rfl)) rfl, vz_tb (tb4 (List.mem_of_getElem? (i := 78) rfl)) rfl, by decide, TX8, 11, rfl⟩
theorem mt_X8_shift : vz_MV 8 yX8_shift cX8_shift 5 (some .int) 2 := ⟨⟨vz_tb (tb3 (List.mem_of_getElem? (i := 85) rfl)) rfl, vz_tb (tb1 (List.mem_of_getElem? (i := 1) rfl)) rfl, by decide, by decide +kernel, by decide +kernel, by decide +kernel⟩, vz_tb (tb3 (List.mem_of_getElem? (i := 83) rfl)) rfl, vz_tb (tb3 (List.mem_of_getElem? (i := 84) rfl)) rfl, by decide, TX8, 11, rfl⟩
theorem mt_X8_soon : vz_MV 8 yX8_soon cX8_soon 4 (some .int) 2 := ⟨⟨vz_tb (tb3 (List.mem_of_getElem? (i := 204) rfl)) rfl, vz_tb (tb1 (List.mem_of_getElem? (i := 1) rfl)) rfl, by decide, by decide +kernel, by decide +kernel, by decide +kernel⟩, vz_tb (tb3 (List.mem_of_getElem? (i := 202) rfl)) rfl, vz_tb (tb3 (List.mem_of_getElem? (i := 203) rfl)) rfl, by decide, TX8, 11, rfl⟩
theorem mt_X8_spoil : vz_MV 8 yX8_spoil cX8_spoil 4 (some .int) 2 := ⟨⟨vz_tb (tb3 (List.mem_of_getElem? (i := 225) rfl)) rfl, vz_tb (tb1 (List.mem_of_getElem? (i := 1) rfl)) rfl, by decide, by decide +kernel, by decide +kernel, by decide +kernel⟩, vz_tb (tb3 (List.mem_of_getElem? (i := 223) rfl)) rfl, vz_tb (tb3 (List.mem_of_getElem? (i := 224) rfl)) rfl, by decide, TX8, 11, rfl⟩
theorem mt_X8_street : vz_MV 8 yX8_street cX8_street 3 (some .int) 2 := ⟨⟨vz_tb (tb3 (List.mem_of_getElem? (i := 57) rfl)) rfl, vz_tb (tb1 (List.mem_of_getElem? (i := 1) rfl)) rfl, by decide, by decide +kernel, by decide +kernel, by decide +kernel⟩, vz_tb (tb3 (List.mem_of_getElem? (i := 55) rfl)) rfl, vz_tb (tb3 (List.mem_of_getElem? (i := 56) rfl)) rfl, by decide, TX8, 11, rfl⟩
theorem mt_X8_swap : vz_MV 8 yX8_swap cX8_swap 4 (some .int) 1 := ⟨⟨vz_tb (tb3 (List.mem_of_getElem? (i := 216) rfl)) rfl, vz_tb (tb1 (List.mem_of_getElem? (i := 1) rfl)) rfl, by decide, by decide +kernel, by decide +kernel, by decide +kernel⟩, vz_tb (tb3 (List.mem_of_getElem? (i := 214) rfl)) rfl, vz_tb (tb3 (List.mem_of_getElem? (i := 215) rfl)) rfl, by decide, TX8, 11, rfl⟩
theorem mt_X8_text : vz_MV 8 yX8_text cX8_text 3 (some .int) 0 := ⟨⟨vz_tb (tb2 (List.mem_of_getElem? (i := 52) rfl)) rfl, vz_tb (tb1 (List.mem_of_getElem? (i := 1) rfl)) rfl, by decide, by decide +kernel, by decide +kernel, by decide +kernel⟩, vz_tb (tb2 (List.mem_of_getElem? (i := 50) rfl)) rfl, vz_tb (tb2 (List.mem_of_getElem? (i := 51) rfl)) rfl, by decide, TX8, 11, rfl⟩
theorem mt_X8_torn : vz_MV 8 yX8_torn cX8_torn 1 (some .int) 0 := ⟨⟨vz_tb (tb4 (List.mem_of_getElem? (i := 127) rfl)) rfl, vz_tb (tb1 (List.mem_of_getElem? (i := 1) rfl)) rfl, by decide, by decide +kernel, by decide +kernel, by decide +kernel⟩, vz_tb (tb4 (List.mem_of_getElem? (i := 125) rfl)) rfl, vz_tb (tb4 (List.mem_of_getElem? (i := 126) rfl)) rfl, by decide, TX8, 11, rfl⟩
theorem mt_X8_walk : vz_MV 8 yX8_walk cX8_walk 4 (some .int) 2 := ⟨⟨vz_tb (tb3 (List.mem_of_getElem? (i := 49) rfl)) rfl, vz_tb (tb1 (List.mem_of_getElem? (i := 1) rfl)) rfl, by decide, by decide +kernel, by decide +kernel, by decide +kernel⟩, vz_tb (tb3 (List.mem_of_getElem? (i := 47) rfl)) rfl, vz_tb (tb3 (List.mem_of_getElem? (i := 48) rfl)) rfl, by decide, TX8, 11, rfl⟩
theorem mt_X9_all : vz_MV 9 yX9_all cX9_all 4 (some .int) 1 := ⟨⟨vz_tb (tb5 (List.mem_of_getElem? (i := 214) rfl)) rfl, vz_tb (tb1 (List.mem_of_getElem? (i := 10) rfl)) rfl, by decide, by decide +kernel, by decide +kernel, by decide +kernel⟩, vz_tb (tb5 (List.mem_of_getElem? (i := 212) rfl)) rfl, vz_tb (tb5 (List.mem_of_getElem? (i := 213) rfl)) rfl, by decide, TX9, 31, rfl⟩
theorem mt_X9_alter : vz_MV 9 yX9_alter cX9_alter 4 (some .int) 3 := ⟨⟨vz_tb (tb5 (List.mem_of_getElem? (i := 149) rfl)) rfl, vz_tb (tb1 (List.mem_of_getElem? (i := 10) rfl)) rfl, by decide, by decide +kernel, by decide +kernel, by decide +kernel⟩, vz_tb (tb5 (List.mem_of_getElem? (i := 147) rfl)) rfl, vz_tb (tb5 (List.mem_of_getElem? (i := 148) rfl)) rfl, by decide, TX9, 31, rfl⟩
theorem mt_X9_ask : vz_MV 9 yX9_ask cX9_ask 11 (some .int) 2 := ⟨⟨vz_tb (tb6 (List.mem_of_getElem? (i := 59) rfl)) rfl, vz_tb (tb1 (List.mem_of_getElem? (i := 10) rfl)) rfl, by decide, by decide +kernel, by decide +kernel, by decide +kernel⟩, vz_tb (tb6 (List.mem_of_getElem? (i := 57) rfl)) rfl, vz_tb (tb6 (List.mem_of_getElem? (i := 58) rfl)) rfl, by decide, TX9, 31, rfl⟩
theorem mt_X9_at : vz_MV 9 yX9_at cX9_at 3 (some .int) 2 := ⟨⟨vz_tb (tb5 (List.mem_of_getElem? (i := 195) rfl)) rfl, vz_tb (tb1 (List.mem_of_getElem? (i := 10) rfl)) rfl, by decide, by decide +kernel, by decide +kernel, by decide +kernel⟩, vz_tb (tb5 (List.mem_of_getElem? (i := 193) rfl)) rfl, vz_tb (tb5 (List.mem_of_getElem? (i := 194) rfl)) rfl, by decide, TX9, 31, rfl⟩
theorem mt_X9_back : vz_MV 9 yX9_back cX9_back 2 (some .int) 1 := ⟨⟨vz_tb (tb6 (List.mem_of_getElem? (i := 73) rfl)) rfl, vz_tb (tb1 (List.mem_of_getElem? (i := 10) rfl)) rfl, by decide, by decide +kernel, by decide +kernel, by decide +kernel⟩, vz_tb (tb6 (List.mem_of_getElem? (i := 71) rfl)) rfl, vz_tb (tb6 (List.mem_of_getElem? (i := 72) rfl)) rfl, by decide, TX9, 31, rfl⟩
theorem mt_X9_begin : vz_MV 9 yX9_begin cX9_begin 5 (some .int) 2 := ⟨⟨vz_tb (tb6 (List.mem_of_getElem? (i := 2) rfl)) rfl, vz_tb (tb1 (List.mem_of_getElem? (i := 10) rfl)) rfl, by decide, by decide +kernel, by decide +kernel, by decide +kernel⟩, vz_tb (tb6 (List.mem_of_getElem? (i := 0) rfl)) rfl, vz_tb (tb6 (List.mem_of_getElem? (i := 1) rfl)) rfl, by decide, TX9, 31, rfl⟩
theorem mt_X9_best : vz_MV 9 yX9_best cX9_best 5 (some .int) 2 := ⟨⟨vz_tb (tb5 (List.mem_of_getElem? (i := 222) rfl)) rfl, vz_tb (tb1 (List.mem_of_getElem? (i := 10) rfl)) rfl, by decide, by decide +kernel, by decide +kernel, by decide +kernel⟩, vz_tb (tb5 (List.mem_of_getElem? (i := 220) rfl)) rfl, vz_tb (tb5 (List.mem_of_getElem? (i := 221) rfl)) rfl, by decide, TX9, 31, rfl⟩
theorem mt_X9_count : vz_MV 9 yX9_count cX9_count 5 (some .int) 1 := ⟨⟨vz_tb (tb6 (List.mem_of_getElem? (i := 94) rfl)) rfl, vz_tb (tb1 (List.mem_of_getElem? (i := 10) rfl)) rfl, by decide, by decide +kernel, by decide +kernel, by decide +kernel⟩, vz_tb (tb6 (List.mem_of_getElem? (i := 92) rfl)) rfl, vz_tb (tb6 (List.mem_of_getElem? (i := 93) rfl)) rfl, by decide, TX9, 31, rfl⟩
theorem mt_X9_detour : vz_MV 9 yX9_detour cX9_detour 5 (some .int) 3 := ⟨⟨vz_tb (tb5 (List.mem_of_getElem? (i := 159) rfl)) rfl, vz_tb (tb1 (List.mem_of_getElem? (i := 10) rfl)) rfl, by decide, by decide +kernel, by decide +kernel, by decide +kernel⟩, vz_tb (tb5 (List.mem_of_getElem? (i := 157) rfl)) rfl, vz_tb (tb5 (List.mem_of_getElem? (i := 158) rfl)) rfl, by decide, TX9, 31, rfl⟩
theorem mt_X9_drift : vz_MV 9 yX9_drift cX9_drift 10 (some .int) 3 := ⟨⟨vz_tb (tb6 (List.mem_of_getElem? (i := 63) rfl)) rfl, vz_tb (tb1 (List.mem_of_getElem? (i := 10) rfl)) rfl, by decide, by decide +kernel, by decide +kernel, by decide +kernel⟩, vz_tb (tb6 (List.mem_of_getElem? (i := 61) rfl)) rfl, vz_tb (tb6 (List.mem_of_getElem? (i := 62) rfl)) rfl, by decide, TX9, 31, rfl⟩
theorem mt_X9_end : vz_MV 9 yX9_end cX9_end 3 (some .int) 1 := ⟨⟨vz_tb (tb5 (List.mem_of_getElem? (i := 11) rfl)) rfl, vz_tb (tb1 (List.mem_of_getElem? (i := 10) rfl)) rfl, by decide, by decide +kernel, by decide +kernel, by decide +kernel⟩, vz_tb (tb5 (List.mem_of_getElem? (i := 9) rfl)) rfl, vz_tb (tb5 (List.mem_of_getElem? (i := 10) rfl)) rfl, by decide, TX9, 31, rfl⟩
theorem mt_X9_fault : vz_MV 9 yX9_fault cX9_fault 1 (some .int) 0 := ⟨⟨vz_tb (tb5 (List.mem_of_getElem? (i := 80) rfl)) rfl, vz_tb (tb1 (List.mem_of_getElem? (i := 10) rfl)) rfl, by decide, by decide +kernel, by decide +kernel, by decide +kernel⟩, vz_tb (tb5 (List.mem_of_getElem? (i := 78) rfl)) rfl, vz_tb (tb5 (List.mem_of_getElem? (i := 79) rfl)) rfl, by decide, TX9, 31, rfl⟩
theorem mt_X9_feed : vz_MV 9 yX9_feed cX9_feed 2 (some .int) 1 := ⟨⟨vz_tb (tb5 (List.mem_of_getElem? (i := 3) rfl)) rfl, vz_tb (tb1 (List.mem_of_getElem? (i := 10) rfl)) rfl, by decide, by decide +kernel, by decide +kernel, by decide +kernel⟩, vz_tb (tb5 (List.mem_of_getElem? (i := 1) rfl)) rfl, vz_tb (tb5 (List.mem_of_getElem? (i := 2) rfl)) rfl, by decide, TX9, 31, rfl⟩
theorem mt_X9_first : vz_MV 9 yX9_first cX9_first 3 (some .int) 2 := ⟨⟨vz_tb (tb5 (List.mem_of_getElem? (i := 207) rfl)) rfl, vz_tb (tb1 (List.mem_of_getElem? (i := 10) rfl)) rfl, by decide, by decide +kernel, by decide +kernel, by decide +kernel⟩, vz_tb (tb5 (List.mem_of_getElem? (i := 205) rfl)) rfl, vz_tb (tb5 (List.mem_of_getElem? (i := 206) rfl)) rfl, by decide, TX9, 31, rfl⟩
theorem mt_X9_forget : vz_MV 9 yX9_forget cX9_forget 3 (some .int) 1 := ⟨⟨vz_tb (tb6 (List.mem_of_getElem? (i := 39) rfl)) rfl, vz_tb (tb1 (List.mem_of_getElem? (i := 10) rfl)) rfl, by decide, by decide +kernel, by decide +kernel, by decide +kernel⟩, vz_tb (tb6 (List.mem_of_getElem? (i := 37) rfl)) rfl, vz_tb (tb6 (List.mem_of_getElem? (i := 38) rfl)) rfl, by decide, TX9, 31, rfl⟩
theorem mt_X9_keep : vz_MV 9 yX9_keep cX9_keep 3 (some .int) 1 := ⟨⟨vz_tb (tb6 (List.mem_of_getElem? (i := 69) rfl)) rfl, vz_tb (tb1 (List.mem_of_getElem? (i := 10) rfl)) rfl, by decide, by decide +kernel, by decide +kernel, by decide +kernel⟩, vz_tb (tb6 (List.mem_of_getElem? (i := 67) rfl)) rfl, vz_tb (tb6 (List.mem_of_getElem? (i := 68) rfl)) rfl, by decide, TX9, 31, rfl⟩
theorem mt_X9_kind : vz_MV 9 yX9_kind cX9_kind 5 (some .int) 2 := ⟨⟨vz_tb (tb6 (List.mem_of_getElem? (i := 6) rfl)) rfl, vz_tb (tb1 (List.mem_of_getElem? (i := 10) rfl)) rfl, by decide, by decide +kernel, by decide +kernel, by decide +kernel⟩, vz_tb (tb6 (List.mem_of_getElem? (i := 4) rfl)) rfl, vz_tb (tb6 (List.mem_of_getElem? (i := 5) rfl)) rfl, by decide, TX9, 31, rfl⟩
theorem mt_X9_kinds : vz_MV 9 yX9_kinds cX9_kinds 2 (some .int) 1 := ⟨⟨vz_tb (tb6 (List.mem_of_getElem? (i := 43) rfl)) rfl, vz_tb (tb1 (List.mem_of_getElem? (i := 10) rfl)) rfl, by decide, by decide +kernel, by decide +kernel, by decide +kernel⟩, vz_tb (tb6 (List.mem_of_getElem? (i := 41) rfl)) rfl, vz_tb (tb6 (List.mem_of_getElem? (i := 42) rfl)) rfl, by decide, TX9, 31, rfl⟩
theorem mt_X9_knows : vz_MV 9 yX9_knows cX9_knows 7 (some .int) 3 := ⟨⟨vz_tb (tb5 (List.mem_of_getElem? (i := 203) rfl)) rfl, vz_tb (tb1 (List.mem_of_getElem? (i := 10) rfl)) rfl, by decide, by decide +kernel, by decide +kernel, by decide +kernel⟩, vz_tb (tb5 (List.mem_of_getElem? (i := 201) rfl)) rfl, vz_tb (tb5 (List.mem_of_getElem? (i := 202) rfl)) rfl, by decide, TX9, 31, rfl⟩
theorem mt_X9_late : vz_MV 9 yX9_late cX9_late 4 (some .int) 2 := ⟨⟨vz_tb (tb5 (List.mem_of_getElem? (i := 234) rfl)) rfl, vz_tb (tb1 (List.mem_of_getElem? (i := 10) rfl)) rfl, by decide, by decide +kernel, by decide +kernel, by decide +kernel⟩, vz_tb (tb5 (List.mem_of_getElem? (i := 232) rfl)) rfl, vz_tb (tb5 (List.mem_of_getElem? (i := 233) rfl)) rfl, by decide, TX9, 31, rfl⟩
theorem mt_X9_lay : vz_MV 9 yX9_lay cX9_lay 4 (some .int) 3 := ⟨⟨vz_tb (tb6 (List.mem_of_getElem? (i := 81) rfl)) rfl, vz_tb (tb1 (List.mem_of_getElem? (i := 10) rfl)) rfl, by decide, by decide +kernel, by decide +kernel, by decide +kernel⟩, vz_tb (tb6 (List.mem_of_getElem? (i := 79) rfl)) rfl, vz_tb (tb6 (List.mem_of_getElem? (i := 80) rfl)) rfl, by decide, TX9, 31, rfl⟩
theorem mt_X9_luck : vz_MV 9 yX9_luck cX9_luck 5 (some .long) 4 := ⟨⟨vz_tb (tb6 (List.mem_of_getElem? (i := 18) rfl)) rfl, vz_tb (tb1 (List.mem_of_getElem? (i := 10) rfl)) rfl, by decide, by decide +kernel, by decide +kernel, by decide +kernel⟩, vz_tb (tb6 (List.mem_of_getElem? (i := 16) rfl)) rfl, vz_tb (tb6 (List.mem_of_getElem? (i := 17) rfl)) rfl, by decide, TX9, 31, rfl⟩
theorem mt_X9_man : vz_MV 9 yX9_man cX9_man 3 (some .int) 2 := ⟨⟨vz_tb (tb5 (List.mem_of_getElem? (i := 120) rfl)) rfl, vz_tb (tb1 (List.mem_of_getElem? (i := 10) rfl)) rfl, by decide, by decide +kernel, by decide +kernel, by decide +kernel⟩, vz_tb (tb5 (List.mem_of_getElem? (i := 118) rfl)) rfl, vz_tb (tb5 (List.mem_of_getElem? (i := 119) rfl)) rfl, by decide, TX9, 31, rfl⟩
theorem mt_X9_mean : vz_MV 9 yX9_mean cX9_mean 3 (some .long) 2 := ⟨⟨vz_tb (tb6 (List.mem_of_getElem? (i := 31) rfl)) rfl, vz_tb (tb1 (List.mem_of_getElem? (i := 10) rfl)) rfl, by decide, by decide +kernel, by decide +kernel, by decide +kernel⟩, vz_tb (tb6 (List.mem_of_getElem? (i := 29) rfl)) rfl, vz_tb (tb6 (List.mem_of_getElem? (i := 30) rfl)) rfl, by decide, TX9, 31, rfl⟩
theorem mt_X9_meet : vz_MV 9 yX9_meet cX9_meet 5 (some .int) 2 := ⟨⟨vz_tb (tb5 (List.mem_of_getElem? (i := 218) rfl)) rfl, vz_tb (tb1 (List.mem_of_getElem? (i := 10) rfl)) rfl, by decide, by decide +kernel, by decide +kernel, by decide +kernel⟩, vz_tb (tb5 (List.mem_of_getElem? (i := 216) rfl)) rfl, vz_tb (tb5 (List.mem_of_getElem? (i := 217) rfl)) rfl, by decide, TX9, 31, rfl⟩
theorem mt_X9_news : vz_MV 9 yX9_news cX9_news 4 (some .int) 1 := ⟨⟨vz_tb (tb6 (List.mem_of_getElem? (i := 55) rfl)) rfl, vz_tb (tb1 (List.mem_of_getElem? (i := 10) rfl)) rfl, by decide, by decide +kernel, by decide +kernel, by decide +kernel⟩, vz_tb (tb6 (List.mem_of_getElem? (i := 53) rfl)) rfl, vz_tb (tb6 (List.mem_of_getElem? (i := 54) rfl)) rfl, by decide, TX9, 31, rfl⟩
theorem mt_X9_pave : vz_MV 9 yX9_pave cX9_pave 4 (some .int) 2 := ⟨⟨vz_tb (tb5 (List.mem_of_getElem? (i := 191) rfl)) rfl, vz_tb (tb1 (List.mem_of_getElem? (i := 10) rfl)) rfl, by decide, by decide +kernel, by decide +kernel, by decide +kernel⟩, vz_tb (tb5 (List.mem_of_getElem? (i := 189) rfl)) rfl, vz_tb (tb5 (List.mem_of_getElem? (i := 190) rfl)) rfl, by decide, TX9, 31, rfl⟩
theorem mt_X9_rain : vz_MV 9 yX9_rain cX9_rain 3 (some .int) 2 := ⟨⟨vz_tb (tb5 (List.mem_of_getElem? (i := 187) rfl)) rfl, vz_tb (tb1 (List.mem_of_getElem? (i := 10) rfl)) rfl, by decide, by decide +kernel, by decide +kernel, by decide +kernel⟩, vz_tb (tb5 (List.mem_of_getElem? (i := 185) rfl)) rfl, vz_tb (tb5 (List.mem_of_getElem? (i := 186) rfl)) rfl, by decide, TX9, 31, rfl⟩
theorem mt_X9_read : vz_MV 9 yX9_read cX9_read 9 (some .int) 4 := ⟨⟨vz_tb (tb6 (List.mem_of_getElem? (i := 85) rfl)) rfl, vz_tb (tb1 (List.mem_of_getElem? (i := 10) rfl)) rfl, by decide, by decide +kernel, by decide +kernel, by decide +kernel⟩, vz_tb (tb6 (List.mem_of_getElem? (i := 83) rfl)) rfl, vz_tb (tb6 (List.mem_of_getElem? (i := 84) rfl)) rfl, by decide, TX9, 31, rfl⟩
theorem mt_X9_reader : vz_MV 9 yX9_reader cX9_reader 3 (some .int) 2 := ⟨⟨vz_tb (tb5 (List.mem_of_getElem? (i := 140) rfl)) rfl, vz_tb (tb1 (List.mem_of_getElem? (i := 10) rfl)) rfl, by decide, by decide +kernel, by decide +kernel, by decide +kernel⟩, vz_tb (tb5 (List.mem_of_getElem? (i := 138) rfl)) rfl, vz_tb (tb5 (List.mem_of_getElem? (i := 139) rfl)) rfl, by decide, TX9, 31, rfl⟩
theorem mt_X9_reads : vz_MV 9 yX9_reads cX9_reads 6 (some .int) 3 := ⟨⟨vz_tb (tb5 (List.mem_of_getElem? (i := 199) rfl)) rfl, vz_tb (tb1 (List.mem_of_getElem? (i := 10) rfl)) rfl, by decide, by decide +kernel, by decide +kernel, by decide +kernel⟩, vz_tb (tb5 (List.mem_of_getElem? (i := 197) rfl)) rfl, vz_tb (tb5 (List.mem_of_getElem? (i := 198) rfl)) rfl, by decide, TX9, 31, rfl⟩
theorem mt_X9_rule : vz_MV 9 yX9_rule cX9_rule 2 (some .int) 1 := ⟨⟨vz_tb (tb5 (List.mem_of_getElem? (i := 84) rfl)) rfl, vz_tb (tb1 (List.mem_of_getElem? (i := 10) rfl)) rfl, by decide, by decide +kernel, by decide +kernel, by decide +kernel⟩, vz_tb (tb5 (List.mem_of_getElem? (i := 82) rfl)) rfl, vz_tb (tb5 (List.mem_of_getElem? (i := 83) rfl)) rfl, by decide, TX9, 31, rfl⟩
theorem mt_X9_see : vz_MV 9 yX9_see cX9_see 5 (some .int) 4 := ⟨⟨vz_tb (tb6 (List.mem_of_getElem? (i := 35) rfl)) rfl, vz_tb (tb1 (List.mem_of_getElem? (i := 10) rfl)) rfl, by decide, by decide +kernel, by decide +kernel, by decide +kernel⟩, vz_tb (tb6 (List.mem_of_getElem? (i := 33) rfl)) rfl, vz_tb (tb6 (List.mem_of_getElem? (i := 34) rfl)) rfl, by decide, TX9, 31, rfl⟩
theorem mt_X9_sheet : vz_MV 9 yX9_sheet cX9_sheet 5 (some .int) 3 := ⟨⟨vz_tb (tb6 (List.mem_of_getElem? (i := 77) rfl)) rfl, vz_tb (tb1 (List.mem_of_getElem? (i := 10) rfl)) rfl, by decide, by decide +kernel, by decide +kernel, by decide +kernel⟩, vz_tb (tb6 (List.mem_of_getElem? (i := 75) rfl)) rfl, vz_tb (tb6 (List.mem_of_getElem? (i := 76) rfl)) rfl, by decide, TX9, 31, rfl⟩
theorem mt_X9_shift : vz_MV 9 yX9_shift cX9_shift 4 (some .int) 2 := ⟨⟨vz_tb (tb5 (List.mem_of_getElem? (i := 167) rfl)) rfl, vz_tb (tb1 (List.mem_of_getElem? (i := 10) rfl)) rfl, by decide, by decide +kernel, by decide +kernel, by decide +kernel⟩, vz_tb (tb5 (List.mem_of_getElem? (i := 165) rfl)) rfl, vz_tb (tb5 (List.mem_of_getElem? (i := 166) rfl)) rfl, by decide, TX9, 31, rfl⟩
theorem mt_X9_soon : vz_MV 9 yX9_soon cX9_soon 4 (some .int) 2 := ⟨⟨vz_tb (tb5 (List.mem_of_getElem? (i := 238) rfl)) rfl, vz_tb (tb1 (List.mem_of_getElem? (i := 10) rfl)) rfl, by decide, by decide +kernel, by decide +kernel, by decide +kernel⟩, vz_tb (tb5 (List.mem_of_getElem? (i := 236) rfl)) rfl, vz_tb (tb5 (List.mem_of_getElem? (i := 237) rfl)) rfl, by decide, TX9, 31, rfl⟩
theorem mt_X9_spoil : vz_MV 9 yX9_spoil cX9_spoil 7 (some .int) 2 := ⟨⟨vz_tb (tb6 (List.mem_of_getElem? (i := 14) rfl)) rfl, vz_tb (tb1 (List.mem_of_getElem? (i := 10) rfl)) rfl, by decide, by decide +kernel, by decide +kernel, by decide +kernel⟩, vz_tb (tb6 (List.mem_of_getElem? (i := 12) rfl)) rfl, vz_tb (tb6 (List.mem_of_getElem? (i := 13) rfl)) rfl, by decide, TX9, 31, rfl⟩
theorem mt_X9_stand : vz_MV 9 yX9_stand cX9_stand 4 (some .int) 3 := ⟨⟨vz_tb (tb5 (List.mem_of_getElem? (i := 175) rfl)) rfl, vz_tb (tb1 (List.mem_of_getElem? (i := 10) rfl)) rfl, by decide, by decide +kernel, by decide +kernel, by decide +kernel⟩, vz_tb (tb5 (List.mem_of_getElem? (i := 173) rfl)) rfl, vz_tb (tb5 (List.mem_of_getElem? (i := 174) rfl)) rfl, by decide, TX9, 31, rfl⟩
theorem mt_X9_street : vz_MV 9 yX9_street cX9_street 3 (some .int) 2 := ⟨⟨vz_tb (tb5 (List.mem_of_getElem? (i := 136) rfl)) rfl, vz_tb (tb1 (List.mem_of_getElem? (i := 10) rfl)) rfl, by decide, by decide +kernel, by decide +kernel, by decide +kernel⟩, vz_tb (tb5 (List.mem_of_getElem? (i := 134) rfl)) rfl, vz_tb (tb5 (List.mem_of_getElem? (i := 135) rfl)) rfl, by decide, TX9, 31, rfl⟩
theorem mt_X9_swap : vz_MV 9 yX9_swap cX9_swap 5 (some .int) 1 := ⟨⟨vz_tb (tb6 (List.mem_of_getElem? (i := 10) rfl)) rfl, vz_tb (tb1 (List.mem_of_getElem? (i := 10) rfl)) rfl, by decide, by decide +kernel, by decide +kernel, by decide +kernel⟩, vz_tb (tb6 (List.mem_of_getElem? (i := 8) rfl)) rfl, vz_tb (tb6 (List.mem_of_getElem? (i := 9) rfl)) rfl, by decide, TX9, 31, rfl⟩
theorem mt_X9_text : vz_MV 9 yX9_text cX9_text 3 (some .int) 0 := ⟨⟨vz_tb (tb5 (List.mem_of_getElem? (i := 15) rfl)) rfl, vz_tb (tb1 (List.mem_of_getElem? (i := 10) rfl)) rfl, by decide, by decide +kernel, by decide +kernel, by decide +kernel⟩, vz_tb (tb5 (List.mem_of_getElem? (i := 13) rfl)) rfl, vz_tb (tb5 (List.mem_of_getElem? (i := 14) rfl)) rfl, by decide, TX9, 31, rfl⟩
theorem mt_X9_torn : vz_MV 9 yX9_torn cX9_torn 1 (some .int) 0 := ⟨⟨vz_tb (tb6 (List.mem_of_getElem? (i := 90) rfl)) rfl, vz_tb (tb1 (List.mem_of_getElem? (i := 10) rfl)) rfl, by decide, by decide +kernel, by decide +kernel, by decide +kernel⟩, vz_tb (tb6 (List.mem_of_getElem? (i := 88) rfl)) rfl, vz_tb (tb6 (List.mem_of_getElem? (i := 89) rfl)) rfl, by decide, TX9, 31, rfl⟩
theorem mt_X9_walk : vz_MV 9 yX9_walk cX9_walk 3 (some .int) 2 := ⟨⟨vz_tb (tb5 (List.mem_of_getElem? (i := 128) rfl)) rfl, vz_tb (tb1 (List.mem_of_getElem? (i := 10) rfl)) rfl, by decide, by decide +kernel, by decide +kernel, by decide +kernel⟩, vz_tb (tb5 (List.mem_of_getElem? (i := 126) rfl)) rfl, vz_tb (tb5 (List.mem_of_getElem? (i := 127) rfl)) rfl, by decide, TX9, 31, rfl⟩
set_option maxRecDepth 20000 in
set_option maxHeartbeats 1000000 in
theorem vl_c0 {p : Program} {l : Launch} {e : Env} {s : State} {m : MethodId} {below : List Frame} {meth : Method} {c : Code} {b Ln i : Nat} {xs : Nat → Int32} {z : vz_Z} {Rl : vz_I → Prop} (hs : sim_feed Rl) (hc : vz_C z (vl_M p l e s m below meth c b) code RL 12 4) (hX : vl_X z (vl_M p l e s m below meth c b) b Ln xs) (hL : Ln ≤ 2560) (hi5 : i + 5 ≤ Ln) {σ : vz_I} (hR0 : Rl σ) (hnext : ∀ σ, Rl σ → vz_V z (vl_M p l e s m below meth c b) 123 1687 1627 [(0, some (.ref 1048583)), (1, some (.ref 0)), (2, some (.ref 108)), (3, some (.int (nI i)))] [] vz_G0 σ vz_N0) : vz_V z (vl_M p l e s m below meth c b) 123 1687 220 [(0, some (.ref 1048583)), (1, some (.ref 0)), (2, some (.ref 108)), (3, some (.int (nI i)))] [] vz_G0 σ vz_N0 := by
  obtain ⟨r, σ1, σ2, h1, h2, hR⟩ := hs σ hR0 (xs (nI i + (1 : Int32)).toNatClampNeg)
  refine vr_aload_n (pc := 220) hc dL_law_220 rfl ?_
  refine vr_aload_n (pc := 221) hc dL_law_221 rfl ?_
  refine vr_iload_n (pc := 222) hc dL_law_222 rfl ?_
  refine vr_iconst (pc := 223) hc dL_law_223 (1 : Int32) (by decide) ?_
  refine vr_iadd (pc := 224) hc dL_law_224 ?_
  refine vl_ld (pc := 225) hc hX dL_law_225 (vl_ix (k := 1) hi5 (by decide) hL (1 : Int32) (by decide)) ?_
  refine vl_call (pc := 226) hc dL_law_226 mt_X8_feed ml_L_13 gc_0 (w_X8_feed z _ (xs (nI i + (1 : Int32)).toNatClampNeg) σ h1) rfl (by decide) rfl (Nat.le_of_ble_eq_true rfl) ⟨Nat.le_of_ble_eq_true rfl, Nat.le_of_ble_eq_true rfl⟩ ?_
  refine vr_aload_n (pc := 229) hc dL_law_229 rfl ?_
  refine vr_aload_n (pc := 230) hc dL_law_230 rfl ?_
  refine vr_iload_n (pc := 231) hc dL_law_231 rfl ?_
  refine vr_iconst (pc := 232) hc dL_law_232 (1 : Int32) (by decide) ?_
  refine vr_iadd (pc := 233) hc dL_law_233 ?_
  refine vl_ld (pc := 234) hc hX dL_law_234 (vl_ix (k := 1) hi5 (by decide) hL (1 : Int32) (by decide)) ?_
  refine vl_call (pc := 235) hc dL_law_235 mt_X9_feed ml_L_17 gc_108 (w_X9_feed z _ (xs (nI i + (1 : Int32)).toNatClampNeg) σ1 h2) rfl (by decide) rfl (Nat.le_of_ble_eq_true rfl) ⟨Nat.le_of_ble_eq_true rfl, Nat.le_of_ble_eq_true rfl⟩ ?_
  refine vr_icmp_eq (pc := 238) hc 1627 dL_law_238 (by decide) (fun _ => ?_) (fun q => absurd rfl q)
  exact hnext _ hR
set_option maxRecDepth 20000 in
set_option maxHeartbeats 1000000 in
theorem vl_c1 {p : Program} {l : Launch} {e : Env} {s : State} {m : MethodId} {below : List Frame} {meth : Method} {c : Code} {b Ln i : Nat} {xs : Nat → Int32} {z : vz_Z} {Rl : vz_I → Prop} (hs : sim_end Rl) (hc : vz_C z (vl_M p l e s m below meth c b) code RL 12 4) (hX : vl_X z (vl_M p l e s m below meth c b) b Ln xs) (hL : Ln ≤ 2560) (hi5 : i + 5 ≤ Ln) {σ : vz_I} (hR0 : Rl σ) (hnext : ∀ σ, Rl σ → vz_V z (vl_M p l e s m below meth c b) 123 1687 1627 [(0, some (.ref 1048583)), (1, some (.ref 0)), (2, some (.ref 108)), (3, some (.int (nI i)))] [] vz_G0 σ vz_N0) : vz_V z (vl_M p l e s m below meth c b) 123 1687 243 [(0, some (.ref 1048583)), (1, some (.ref 0)), (2, some (.ref 108)), (3, some (.int (nI i)))] [] vz_G0 σ vz_N0 := by
  obtain ⟨r, σ1, σ2, h1, h2, hR⟩ := hs σ hR0 (xs (nI i + (1 : Int32)).toNatClampNeg)
  refine vr_aload_n (pc := 243) hc dL_law_243 rfl ?_
  refine vr_aload_n (pc := 244) hc dL_law_244 rfl ?_
  refine vr_iload_n (pc := 245) hc dL_law_245 rfl ?_
  refine vr_iconst (pc := 246) hc dL_law_246 (1 : Int32) (by decide) ?_
  refine vr_iadd (pc := 247) hc dL_law_247 ?_
  refine vl_ld (pc := 248) hc hX dL_law_248 (vl_ix (k := 1) hi5 (by decide) hL (1 : Int32) (by decide)) ?_
  refine vl_call (pc := 249) hc dL_law_249 mt_X8_end ml_L_18 gc_0 (w_X8_end z _ (xs (nI i + (1 : Int32)).toNatClampNeg) σ h1) rfl (by decide) rfl (Nat.le_of_ble_eq_true rfl) ⟨Nat.le_of_ble_eq_true rfl, Nat.le_of_ble_eq_true rfl⟩ ?_
  refine vr_aload_n (pc := 252) hc dL_law_252 rfl ?_
  refine vr_aload_n (pc := 253) hc dL_law_253 rfl ?_
  refine vr_iload_n (pc := 254) hc dL_law_254 rfl ?_
  refine vr_iconst (pc := 255) hc dL_law_255 (1 : Int32) (by decide) ?_
  refine vr_iadd (pc := 256) hc dL_law_256 ?_
  refine vl_ld (pc := 257) hc hX dL_law_257 (vl_ix (k := 1) hi5 (by decide) hL (1 : Int32) (by decide)) ?_
  refine vl_call (pc := 258) hc dL_law_258 mt_X9_end ml_L_21 gc_108 (w_X9_end z _ (xs (nI i + (1 : Int32)).toNatClampNeg) σ1 h2) rfl (by decide) rfl (Nat.le_of_ble_eq_true rfl) ⟨Nat.le_of_ble_eq_true rfl, Nat.le_of_ble_eq_true rfl⟩ ?_
  refine vr_icmp_eq (pc := 261) hc 1627 dL_law_261 (by decide) (fun _ => ?_) (fun q => absurd rfl q)
  exact hnext _ hR
set_option maxRecDepth 20000 in
set_option maxHeartbeats 1000000 in
theorem vl_c2 {p : Program} {l : Launch} {e : Env} {s : State} {m : MethodId} {below : List Frame} {meth : Method} {c : Code} {b Ln i : Nat} {xs : Nat → Int32} {z : vz_Z} {Rl : vz_I → Prop} (hs : sim_text Rl) (hc : vz_C z (vl_M p l e s m below meth c b) code RL 12 4) (hX : vl_X z (vl_M p l e s m below meth c b) b Ln xs) (hL : Ln ≤ 2560) (hi5 : i + 5 ≤ Ln) {σ : vz_I} (hR0 : Rl σ) (hnext : ∀ σ, Rl σ → vz_V z (vl_M p l e s m below meth c b) 123 1687 1627 [(0, some (.ref 1048583)), (1, some (.ref 0)), (2, some (.ref 108)), (3, some (.int (nI i)))] [] vz_G0 σ vz_N0) : vz_V z (vl_M p l e s m below meth c b) 123 1687 266 [(0, some (.ref 1048583)), (1, some (.ref 0)), (2, some (.ref 108)), (3, some (.int (nI i)))] [] vz_G0 σ vz_N0 := by
  obtain ⟨r, σ1, σ2, h1, h2, hR⟩ := hs σ hR0 
  refine vr_aload_n (pc := 266) hc dL_law_266 rfl ?_
  refine vl_call (pc := 267) hc dL_law_267 mt_X8_text ml_L_22 gc_0 (w_X8_text z _  σ h1) rfl (by decide) rfl (Nat.le_of_ble_eq_true rfl) ⟨Nat.le_of_ble_eq_true rfl, Nat.le_of_ble_eq_true rfl⟩ ?_
  refine vr_aload_n (pc := 270) hc dL_law_270 rfl ?_
  refine vl_call (pc := 271) hc dL_law_271 mt_X9_text ml_L_26 gc_108 (w_X9_text z _  σ1 h2) rfl (by decide) rfl (Nat.le_of_ble_eq_true rfl) ⟨Nat.le_of_ble_eq_true rfl, Nat.le_of_ble_eq_true rfl⟩ ?_
  refine vr_icmp_eq (pc := 274) hc 1627 dL_law_274 (by decide) (fun _ => ?_) (fun q => absurd rfl q)
  exact hnext _ hR
set_option maxRecDepth 20000 in
set_option maxHeartbeats 1000000 in
theorem vl_c3 {p : Program} {l : Launch} {e : Env} {s : State} {m : MethodId} {below : List Frame} {meth : Method} {c : Code} {b Ln i : Nat} {xs : Nat → Int32} {z : vz_Z} {Rl : vz_I → Prop} (hs : sim_fault Rl) (hc : vz_C z (vl_M p l e s m below meth c b) code RL 12 4) (hX : vl_X z (vl_M p l e s m below meth c b) b Ln xs) (hL : Ln ≤ 2560) (hi5 : i + 5 ≤ Ln) {σ : vz_I} (hR0 : Rl σ) (hnext : ∀ σ, Rl σ → vz_V z (vl_M p l e s m below meth c b) 123 1687 1627 [(0, some (.ref 1048583)), (1, some (.ref 0)), (2, some (.ref 108)), (3, some (.int (nI i)))] [] vz_G0 σ vz_N0) : vz_V z (vl_M p l e s m below meth c b) 123 1687 279 [(0, some (.ref 1048583)), (1, some (.ref 0)), (2, some (.ref 108)), (3, some (.int (nI i)))] [] vz_G0 σ vz_N0 := by
  obtain ⟨r, σ1, σ2, h1, h2, hR⟩ := hs σ hR0 
  refine vr_aload_n (pc := 279) hc dL_law_279 rfl ?_
  obtain ⟨h1, rfl⟩ := h1
  refine vl_call (pc := 280) hc dL_law_280 mt_X8_fault ml_L_27 gc_0 (w_X8_fault z _  σ h1) rfl (by decide) rfl (Nat.le_of_ble_eq_true rfl) ⟨Nat.le_of_ble_eq_true rfl, Nat.le_of_ble_eq_true rfl⟩ ?_
  refine vr_aload_n (pc := 283) hc dL_law_283 rfl ?_
  obtain ⟨h2, rfl⟩ := h2
  refine vl_call (pc := 284) hc dL_law_284 mt_X9_fault ml_L_30 gc_108 (w_X9_fault z _  σ h2) rfl (by decide) rfl (Nat.le_of_ble_eq_true rfl) ⟨Nat.le_of_ble_eq_true rfl, Nat.le_of_ble_eq_true rfl⟩ ?_
  refine vr_icmp_eq (pc := 287) hc 1627 dL_law_287 (by decide) (fun _ => ?_) (fun q => absurd rfl q)
  exact hnext _ hR
set_option maxRecDepth 20000 in
set_option maxHeartbeats 1000000 in
theorem vl_c4 {p : Program} {l : Launch} {e : Env} {s : State} {m : MethodId} {below : List Frame} {meth : Method} {c : Code} {b Ln i : Nat} {xs : Nat → Int32} {z : vz_Z} {Rl : vz_I → Prop} (hs : sim_rule Rl) (hc : vz_C z (vl_M p l e s m below meth c b) code RL 12 4) (hX : vl_X z (vl_M p l e s m below meth c b) b Ln xs) (hL : Ln ≤ 2560) (hi5 : i + 5 ≤ Ln) {σ : vz_I} (hR0 : Rl σ) (hnext : ∀ σ, Rl σ → vz_V z (vl_M p l e s m below meth c b) 123 1687 1627 [(0, some (.ref 1048583)), (1, some (.ref 0)), (2, some (.ref 108)), (3, some (.int (nI i)))] [] vz_G0 σ vz_N0) : vz_V z (vl_M p l e s m below meth c b) 123 1687 292 [(0, some (.ref 1048583)), (1, some (.ref 0)), (2, some (.ref 108)), (3, some (.int (nI i)))] [] vz_G0 σ vz_N0 := by
  obtain ⟨r, σ1, σ2, h1, h2, hR⟩ := hs σ hR0 (xs (nI i + (1 : Int32)).toNatClampNeg)
  refine vr_aload_n (pc := 292) hc dL_law_292 rfl ?_
  refine vr_aload_n (pc := 293) hc dL_law_293 rfl ?_
  refine vr_iload_n (pc := 294) hc dL_law_294 rfl ?_
  refine vr_iconst (pc := 295) hc dL_law_295 (1 : Int32) (by decide) ?_
  refine vr_iadd (pc := 296) hc dL_law_296 ?_
  refine vl_ld (pc := 297) hc hX dL_law_297 (vl_ix (k := 1) hi5 (by decide) hL (1 : Int32) (by decide)) ?_
  obtain ⟨h1, rfl⟩ := h1
  refine vl_call (pc := 298) hc dL_law_298 mt_X8_rule ml_L_31 gc_0 (w_X8_rule z _ (xs (nI i + (1 : Int32)).toNatClampNeg) σ h1) rfl (by decide) rfl (Nat.le_of_ble_eq_true rfl) ⟨Nat.le_of_ble_eq_true rfl, Nat.le_of_ble_eq_true rfl⟩ ?_
  refine vr_aload_n (pc := 301) hc dL_law_301 rfl ?_
  refine vr_aload_n (pc := 302) hc dL_law_302 rfl ?_
  refine vr_iload_n (pc := 303) hc dL_law_303 rfl ?_
  refine vr_iconst (pc := 304) hc dL_law_304 (1 : Int32) (by decide) ?_
  refine vr_iadd (pc := 305) hc dL_law_305 ?_
  refine vl_ld (pc := 306) hc hX dL_law_306 (vl_ix (k := 1) hi5 (by decide) hL (1 : Int32) (by decide)) ?_
  refine vl_call (pc := 307) hc dL_law_307 mt_X9_rule ml_L_34 gc_108 (w_X9_rule z _ (xs (nI i + (1 : Int32)).toNatClampNeg) σ h2) rfl (by decide) rfl (Nat.le_of_ble_eq_true rfl) ⟨Nat.le_of_ble_eq_true rfl, Nat.le_of_ble_eq_true rfl⟩ ?_
  refine vr_icmp_eq (pc := 310) hc 1627 dL_law_310 (by decide) (fun _ => ?_) (fun q => absurd rfl q)
  exact hnext _ hR
set_option maxRecDepth 20000 in
set_option maxHeartbeats 1000000 in
theorem vl_c5 {p : Program} {l : Launch} {e : Env} {s : State} {m : MethodId} {below : List Frame} {meth : Method} {c : Code} {b Ln i : Nat} {xs : Nat → Int32} {z : vz_Z} {Rl : vz_I → Prop} (hs : sim_man Rl) (hc : vz_C z (vl_M p l e s m below meth c b) code RL 12 4) (hX : vl_X z (vl_M p l e s m below meth c b) b Ln xs) (hL : Ln ≤ 2560) (hi5 : i + 5 ≤ Ln) {σ : vz_I} (hR0 : Rl σ) (hnext : ∀ σ, Rl σ → vz_V z (vl_M p l e s m below meth c b) 123 1687 1627 [(0, some (.ref 1048583)), (1, some (.ref 0)), (2, some (.ref 108)), (3, some (.int (nI i)))] [] vz_G0 σ vz_N0) : vz_V z (vl_M p l e s m below meth c b) 123 1687 315 [(0, some (.ref 1048583)), (1, some (.ref 0)), (2, some (.ref 108)), (3, some (.int (nI i)))] [] vz_G0 σ vz_N0 := by
  obtain ⟨r, σ1, σ2, h1, h2, hR⟩ := hs σ hR0 (xs (nI i + (1 : Int32)).toNatClampNeg) (xs (nI i + (2 : Int32)).toNatClampNeg)
  refine vr_aload_n (pc := 315) hc dL_law_315 rfl ?_
  refine vr_aload_n (pc := 316) hc dL_law_316 rfl ?_
  refine vr_iload_n (pc := 317) hc dL_law_317 rfl ?_
  refine vr_iconst (pc := 318) hc dL_law_318 (1 : Int32) (by decide) ?_
  refine vr_iadd (pc := 319) hc dL_law_319 ?_
  refine vl_ld (pc := 320) hc hX dL_law_320 (vl_ix (k := 1) hi5 (by decide) hL (1 : Int32) (by decide)) ?_
  refine vr_aload_n (pc := 321) hc dL_law_321 rfl ?_
  refine vr_iload_n (pc := 322) hc dL_law_322 rfl ?_
  refine vr_iconst (pc := 323) hc dL_law_323 (2 : Int32) (by decide) ?_
  refine vr_iadd (pc := 324) hc dL_law_324 ?_
  refine vl_ld (pc := 325) hc hX dL_law_325 (vl_ix (k := 2) hi5 (by decide) hL (2 : Int32) (by decide)) ?_
  obtain ⟨h1, rfl⟩ := h1
  refine vl_call (pc := 326) hc dL_law_326 mt_X8_man ml_L_35 gc_0 (w_X8_man z _ (xs (nI i + (1 : Int32)).toNatClampNeg) (xs (nI i + (2 : Int32)).toNatClampNeg) σ h1) rfl (by decide) rfl (Nat.le_of_ble_eq_true rfl) ⟨Nat.le_of_ble_eq_true rfl, Nat.le_of_ble_eq_true rfl⟩ ?_
  refine vr_aload_n (pc := 329) hc dL_law_329 rfl ?_
  refine vr_aload_n (pc := 330) hc dL_law_330 rfl ?_
  refine vr_iload_n (pc := 331) hc dL_law_331 rfl ?_
  refine vr_iconst (pc := 332) hc dL_law_332 (1 : Int32) (by decide) ?_
  refine vr_iadd (pc := 333) hc dL_law_333 ?_
  refine vl_ld (pc := 334) hc hX dL_law_334 (vl_ix (k := 1) hi5 (by decide) hL (1 : Int32) (by decide)) ?_
  refine vr_aload_n (pc := 335) hc dL_law_335 rfl ?_
  refine vr_iload_n (pc := 336) hc dL_law_336 rfl ?_
  refine vr_iconst (pc := 337) hc dL_law_337 (2 : Int32) (by decide) ?_
  refine vr_iadd (pc := 338) hc dL_law_338 ?_
  refine vl_ld (pc := 339) hc hX dL_law_339 (vl_ix (k := 2) hi5 (by decide) hL (2 : Int32) (by decide)) ?_
  obtain ⟨h2, rfl⟩ := h2
  refine vl_call (pc := 340) hc dL_law_340 mt_X9_man ml_L_39 gc_108 (w_X9_man z _ (xs (nI i + (1 : Int32)).toNatClampNeg) (xs (nI i + (2 : Int32)).toNatClampNeg) σ h2) rfl (by decide) rfl (Nat.le_of_ble_eq_true rfl) ⟨Nat.le_of_ble_eq_true rfl, Nat.le_of_ble_eq_true rfl⟩ ?_
  refine vr_icmp_eq (pc := 343) hc 1627 dL_law_343 (by decide) (fun _ => ?_) (fun q => absurd rfl q)
  exact hnext _ hR
set_option maxRecDepth 20000 in
set_option maxHeartbeats 1000000 in
theorem vl_c6 {p : Program} {l : Launch} {e : Env} {s : State} {m : MethodId} {below : List Frame} {meth : Method} {c : Code} {b Ln i : Nat} {xs : Nat → Int32} {z : vz_Z} {Rl : vz_I → Prop} (hs : sim_walk Rl) (hc : vz_C z (vl_M p l e s m below meth c b) code RL 12 4) (hX : vl_X z (vl_M p l e s m below meth c b) b Ln xs) (hL : Ln ≤ 2560) (hi5 : i + 5 ≤ Ln) {σ : vz_I} (hR0 : Rl σ) (hnext : ∀ σ, Rl σ → vz_V z (vl_M p l e s m below meth c b) 123 1687 1627 [(0, some (.ref 1048583)), (1, some (.ref 0)), (2, some (.ref 108)), (3, some (.int (nI i)))] [] vz_G0 σ vz_N0) : vz_V z (vl_M p l e s m below meth c b) 123 1687 348 [(0, some (.ref 1048583)), (1, some (.ref 0)), (2, some (.ref 108)), (3, some (.int (nI i)))] [] vz_G0 σ vz_N0 := by
  obtain ⟨r, σ1, σ2, h1, h2, hR⟩ := hs σ hR0 (xs (nI i + (1 : Int32)).toNatClampNeg) (xs (nI i + (2 : Int32)).toNatClampNeg)
  refine vr_aload_n (pc := 348) hc dL_law_348 rfl ?_
  refine vr_aload_n (pc := 349) hc dL_law_349 rfl ?_
  refine vr_iload_n (pc := 350) hc dL_law_350 rfl ?_
  refine vr_iconst (pc := 351) hc dL_law_351 (1 : Int32) (by decide) ?_
  refine vr_iadd (pc := 352) hc dL_law_352 ?_
  refine vl_ld (pc := 353) hc hX dL_law_353 (vl_ix (k := 1) hi5 (by decide) hL (1 : Int32) (by decide)) ?_
  refine vr_aload_n (pc := 354) hc dL_law_354 rfl ?_
  refine vr_iload_n (pc := 355) hc dL_law_355 rfl ?_
  refine vr_iconst (pc := 356) hc dL_law_356 (2 : Int32) (by decide) ?_
  refine vr_iadd (pc := 357) hc dL_law_357 ?_
  refine vl_ld (pc := 358) hc hX dL_law_358 (vl_ix (k := 2) hi5 (by decide) hL (2 : Int32) (by decide)) ?_
  obtain ⟨h1, rfl⟩ := h1
  refine vl_call (pc := 359) hc dL_law_359 mt_X8_walk ml_L_40 gc_0 (w_X8_walk z _ (xs (nI i + (1 : Int32)).toNatClampNeg) (xs (nI i + (2 : Int32)).toNatClampNeg) σ h1) rfl (by decide) rfl (Nat.le_of_ble_eq_true rfl) ⟨Nat.le_of_ble_eq_true rfl, Nat.le_of_ble_eq_true rfl⟩ ?_
  refine vr_aload_n (pc := 362) hc dL_law_362 rfl ?_
  refine vr_aload_n (pc := 363) hc dL_law_363 rfl ?_
  refine vr_iload_n (pc := 364) hc dL_law_364 rfl ?_
  refine vr_iconst (pc := 365) hc dL_law_365 (1 : Int32) (by decide) ?_
  refine vr_iadd (pc := 366) hc dL_law_366 ?_
  refine vl_ld (pc := 367) hc hX dL_law_367 (vl_ix (k := 1) hi5 (by decide) hL (1 : Int32) (by decide)) ?_
  refine vr_aload_n (pc := 368) hc dL_law_368 rfl ?_
  refine vr_iload_n (pc := 369) hc dL_law_369 rfl ?_
  refine vr_iconst (pc := 370) hc dL_law_370 (2 : Int32) (by decide) ?_
  refine vr_iadd (pc := 371) hc dL_law_371 ?_
  refine vl_ld (pc := 372) hc hX dL_law_372 (vl_ix (k := 2) hi5 (by decide) hL (2 : Int32) (by decide)) ?_
  obtain ⟨h2, rfl⟩ := h2
  refine vl_call (pc := 373) hc dL_law_373 mt_X9_walk ml_L_43 gc_108 (w_X9_walk z _ (xs (nI i + (1 : Int32)).toNatClampNeg) (xs (nI i + (2 : Int32)).toNatClampNeg) σ h2) rfl (by decide) rfl (Nat.le_of_ble_eq_true rfl) ⟨Nat.le_of_ble_eq_true rfl, Nat.le_of_ble_eq_true rfl⟩ ?_
  refine vr_icmp_eq (pc := 376) hc 1627 dL_law_376 (by decide) (fun _ => ?_) (fun q => absurd rfl q)
  exact hnext _ hR
set_option maxRecDepth 20000 in
set_option maxHeartbeats 1000000 in
theorem vl_c7 {p : Program} {l : Launch} {e : Env} {s : State} {m : MethodId} {below : List Frame} {meth : Method} {c : Code} {b Ln i : Nat} {xs : Nat → Int32} {z : vz_Z} {Rl : vz_I → Prop} (hs : sim_street Rl) (hc : vz_C z (vl_M p l e s m below meth c b) code RL 12 4) (hX : vl_X z (vl_M p l e s m below meth c b) b Ln xs) (hL : Ln ≤ 2560) (hi5 : i + 5 ≤ Ln) {σ : vz_I} (hR0 : Rl σ) (hnext : ∀ σ, Rl σ → vz_V z (vl_M p l e s m below meth c b) 123 1687 1627 [(0, some (.ref 1048583)), (1, some (.ref 0)), (2, some (.ref 108)), (3, some (.int (nI i)))] [] vz_G0 σ vz_N0) : vz_V z (vl_M p l e s m below meth c b) 123 1687 381 [(0, some (.ref 1048583)), (1, some (.ref 0)), (2, some (.ref 108)), (3, some (.int (nI i)))] [] vz_G0 σ vz_N0 := by
  obtain ⟨r, σ1, σ2, h1, h2, hR⟩ := hs σ hR0 (xs (nI i + (1 : Int32)).toNatClampNeg) (xs (nI i + (2 : Int32)).toNatClampNeg)
  refine vr_aload_n (pc := 381) hc dL_law_381 rfl ?_
  refine vr_aload_n (pc := 382) hc dL_law_382 rfl ?_
  refine vr_iload_n (pc := 383) hc dL_law_383 rfl ?_
  refine vr_iconst (pc := 384) hc dL_law_384 (1 : Int32) (by decide) ?_
  refine vr_iadd (pc := 385) hc dL_law_385 ?_
  refine vl_ld (pc := 386) hc hX dL_law_386 (vl_ix (k := 1) hi5 (by decide) hL (1 : Int32) (by decide)) ?_
  refine vr_aload_n (pc := 387) hc dL_law_387 rfl ?_
  refine vr_iload_n (pc := 388) hc dL_law_388 rfl ?_
  refine vr_iconst (pc := 389) hc dL_law_389 (2 : Int32) (by decide) ?_
  refine vr_iadd (pc := 390) hc dL_law_390 ?_
  refine vl_ld (pc := 391) hc hX dL_law_391 (vl_ix (k := 2) hi5 (by decide) hL (2 : Int32) (by decide)) ?_
  obtain ⟨h1, rfl⟩ := h1
  refine vl_call (pc := 392) hc dL_law_392 mt_X8_street ml_L_44 gc_0 (w_X8_street z _ (xs (nI i + (1 : Int32)).toNatClampNeg) (xs (nI i + (2 : Int32)).toNatClampNeg) σ h1) rfl (by decide) rfl (Nat.le_of_ble_eq_true rfl) ⟨Nat.le_of_ble_eq_true rfl, Nat.le_of_ble_eq_true rfl⟩ ?_
  refine vr_aload_n (pc := 395) hc dL_law_395 rfl ?_
  refine vr_aload_n (pc := 396) hc dL_law_396 rfl ?_
  refine vr_iload_n (pc := 397) hc dL_law_397 rfl ?_
  refine vr_iconst (pc := 398) hc dL_law_398 (1 : Int32) (by decide) ?_
  refine vr_iadd (pc := 399) hc dL_law_399 ?_
  refine vl_ld (pc := 400) hc hX dL_law_400 (vl_ix (k := 1) hi5 (by decide) hL (1 : Int32) (by decide)) ?_
  refine vr_aload_n (pc := 401) hc dL_law_401 rfl ?_
  refine vr_iload_n (pc := 402) hc dL_law_402 rfl ?_
  refine vr_iconst (pc := 403) hc dL_law_403 (2 : Int32) (by decide) ?_
  refine vr_iadd (pc := 404) hc dL_law_404 ?_
  refine vl_ld (pc := 405) hc hX dL_law_405 (vl_ix (k := 2) hi5 (by decide) hL (2 : Int32) (by decide)) ?_
  obtain ⟨h2, rfl⟩ := h2
  refine vl_call (pc := 406) hc dL_law_406 mt_X9_street ml_L_47 gc_108 (w_X9_street z _ (xs (nI i + (1 : Int32)).toNatClampNeg) (xs (nI i + (2 : Int32)).toNatClampNeg) σ h2) rfl (by decide) rfl (Nat.le_of_ble_eq_true rfl) ⟨Nat.le_of_ble_eq_true rfl, Nat.le_of_ble_eq_true rfl⟩ ?_
  refine vr_icmp_eq (pc := 409) hc 1627 dL_law_409 (by decide) (fun _ => ?_) (fun q => absurd rfl q)
  exact hnext _ hR
set_option maxRecDepth 20000 in
set_option maxHeartbeats 1000000 in
theorem vl_c8 {p : Program} {l : Launch} {e : Env} {s : State} {m : MethodId} {below : List Frame} {meth : Method} {c : Code} {b Ln i : Nat} {xs : Nat → Int32} {z : vz_Z} {Rl : vz_I → Prop} (hs : sim_reader Rl) (hc : vz_C z (vl_M p l e s m below meth c b) code RL 12 4) (hX : vl_X z (vl_M p l e s m below meth c b) b Ln xs) (hL : Ln ≤ 2560) (hi5 : i + 5 ≤ Ln) {σ : vz_I} (hR0 : Rl σ) (hnext : ∀ σ, Rl σ → vz_V z (vl_M p l e s m below meth c b) 123 1687 1627 [(0, some (.ref 1048583)), (1, some (.ref 0)), (2, some (.ref 108)), (3, some (.int (nI i)))] [] vz_G0 σ vz_N0) : vz_V z (vl_M p l e s m below meth c b) 123 1687 414 [(0, some (.ref 1048583)), (1, some (.ref 0)), (2, some (.ref 108)), (3, some (.int (nI i)))] [] vz_G0 σ vz_N0 := by
  obtain ⟨r, σ1, σ2, h1, h2, hR⟩ := hs σ hR0 (xs (nI i + (1 : Int32)).toNatClampNeg) (xs (nI i + (2 : Int32)).toNatClampNeg)
  refine vr_aload_n (pc := 414) hc dL_law_414 rfl ?_
  refine vr_aload_n (pc := 415) hc dL_law_415 rfl ?_
  refine vr_iload_n (pc := 416) hc dL_law_416 rfl ?_
  refine vr_iconst (pc := 417) hc dL_law_417 (1 : Int32) (by decide) ?_
  refine vr_iadd (pc := 418) hc dL_law_418 ?_
  refine vl_ld (pc := 419) hc hX dL_law_419 (vl_ix (k := 1) hi5 (by decide) hL (1 : Int32) (by decide)) ?_
  refine vr_aload_n (pc := 420) hc dL_law_420 rfl ?_
  refine vr_iload_n (pc := 421) hc dL_law_421 rfl ?_
  refine vr_iconst (pc := 422) hc dL_law_422 (2 : Int32) (by decide) ?_
  refine vr_iadd (pc := 423) hc dL_law_423 ?_
  refine vl_ld (pc := 424) hc hX dL_law_424 (vl_ix (k := 2) hi5 (by decide) hL (2 : Int32) (by decide)) ?_
  obtain ⟨h1, rfl⟩ := h1
  refine vl_call (pc := 425) hc dL_law_425 mt_X8_reader ml_L_48 gc_0 (w_X8_reader z _ (xs (nI i + (1 : Int32)).toNatClampNeg) (xs (nI i + (2 : Int32)).toNatClampNeg) σ h1) rfl (by decide) rfl (Nat.le_of_ble_eq_true rfl) ⟨Nat.le_of_ble_eq_true rfl, Nat.le_of_ble_eq_true rfl⟩ ?_
  refine vr_aload_n (pc := 428) hc dL_law_428 rfl ?_
  refine vr_aload_n (pc := 429) hc dL_law_429 rfl ?_
  refine vr_iload_n (pc := 430) hc dL_law_430 rfl ?_
  refine vr_iconst (pc := 431) hc dL_law_431 (1 : Int32) (by decide) ?_
  refine vr_iadd (pc := 432) hc dL_law_432 ?_
  refine vl_ld (pc := 433) hc hX dL_law_433 (vl_ix (k := 1) hi5 (by decide) hL (1 : Int32) (by decide)) ?_
  refine vr_aload_n (pc := 434) hc dL_law_434 rfl ?_
  refine vr_iload_n (pc := 435) hc dL_law_435 rfl ?_
  refine vr_iconst (pc := 436) hc dL_law_436 (2 : Int32) (by decide) ?_
  refine vr_iadd (pc := 437) hc dL_law_437 ?_
  refine vl_ld (pc := 438) hc hX dL_law_438 (vl_ix (k := 2) hi5 (by decide) hL (2 : Int32) (by decide)) ?_
  obtain ⟨h2, rfl⟩ := h2
  refine vl_call (pc := 439) hc dL_law_439 mt_X9_reader ml_L_51 gc_108 (w_X9_reader z _ (xs (nI i + (1 : Int32)).toNatClampNeg) (xs (nI i + (2 : Int32)).toNatClampNeg) σ h2) rfl (by decide) rfl (Nat.le_of_ble_eq_true rfl) ⟨Nat.le_of_ble_eq_true rfl, Nat.le_of_ble_eq_true rfl⟩ ?_
  refine vr_icmp_eq (pc := 442) hc 1627 dL_law_442 (by decide) (fun _ => ?_) (fun q => absurd rfl q)
  exact hnext _ hR
set_option maxRecDepth 20000 in
set_option maxHeartbeats 1000000 in
theorem vl_c9 {p : Program} {l : Launch} {e : Env} {s : State} {m : MethodId} {below : List Frame} {meth : Method} {c : Code} {b Ln i : Nat} {xs : Nat → Int32} {z : vz_Z} {Rl : vz_I → Prop} (hs : sim_alter Rl) (hc : vz_C z (vl_M p l e s m below meth c b) code RL 12 4) (hX : vl_X z (vl_M p l e s m below meth c b) b Ln xs) (hL : Ln ≤ 2560) (hi5 : i + 5 ≤ Ln) {σ : vz_I} (hR0 : Rl σ) (hnext : ∀ σ, Rl σ → vz_V z (vl_M p l e s m below meth c b) 123 1687 1627 [(0, some (.ref 1048583)), (1, some (.ref 0)), (2, some (.ref 108)), (3, some (.int (nI i)))] [] vz_G0 σ vz_N0) : vz_V z (vl_M p l e s m below meth c b) 123 1687 447 [(0, some (.ref 1048583)), (1, some (.ref 0)), (2, some (.ref 108)), (3, some (.int (nI i)))] [] vz_G0 σ vz_N0 := by
  obtain ⟨r, σ1, σ2, h1, h2, hR⟩ := hs σ hR0 (xs (nI i + (1 : Int32)).toNatClampNeg) (xs (nI i + (2 : Int32)).toNatClampNeg) (xs (nI i + (3 : Int32)).toNatClampNeg)
  refine vr_aload_n (pc := 447) hc dL_law_447 rfl ?_
  refine vr_aload_n (pc := 448) hc dL_law_448 rfl ?_
  refine vr_iload_n (pc := 449) hc dL_law_449 rfl ?_
  refine vr_iconst (pc := 450) hc dL_law_450 (1 : Int32) (by decide) ?_
  refine vr_iadd (pc := 451) hc dL_law_451 ?_
  refine vl_ld (pc := 452) hc hX dL_law_452 (vl_ix (k := 1) hi5 (by decide) hL (1 : Int32) (by decide)) ?_
  refine vr_aload_n (pc := 453) hc dL_law_453 rfl ?_
  refine vr_iload_n (pc := 454) hc dL_law_454 rfl ?_
  refine vr_iconst (pc := 455) hc dL_law_455 (2 : Int32) (by decide) ?_
  refine vr_iadd (pc := 456) hc dL_law_456 ?_
  refine vl_ld (pc := 457) hc hX dL_law_457 (vl_ix (k := 2) hi5 (by decide) hL (2 : Int32) (by decide)) ?_
  refine vr_aload_n (pc := 458) hc dL_law_458 rfl ?_
  refine vr_iload_n (pc := 459) hc dL_law_459 rfl ?_
  refine vr_iconst (pc := 460) hc dL_law_460 (3 : Int32) (by decide) ?_
  refine vr_iadd (pc := 461) hc dL_law_461 ?_
  refine vl_ld (pc := 462) hc hX dL_law_462 (vl_ix (k := 3) hi5 (by decide) hL (3 : Int32) (by decide)) ?_
  refine vl_call (pc := 463) hc dL_law_463 mt_X8_alter ml_L_52 gc_0 (w_X8_alter z _ (xs (nI i + (1 : Int32)).toNatClampNeg) (xs (nI i + (2 : Int32)).toNatClampNeg) (xs (nI i + (3 : Int32)).toNatClampNeg) σ h1) rfl (by decide) rfl (Nat.le_of_ble_eq_true rfl) ⟨Nat.le_of_ble_eq_true rfl, Nat.le_of_ble_eq_true rfl⟩ ?_
  refine vr_aload_n (pc := 466) hc dL_law_466 rfl ?_
  refine vr_aload_n (pc := 467) hc dL_law_467 rfl ?_
  refine vr_iload_n (pc := 468) hc dL_law_468 rfl ?_
  refine vr_iconst (pc := 469) hc dL_law_469 (1 : Int32) (by decide) ?_
  refine vr_iadd (pc := 470) hc dL_law_470 ?_
  refine vl_ld (pc := 471) hc hX dL_law_471 (vl_ix (k := 1) hi5 (by decide) hL (1 : Int32) (by decide)) ?_
  refine vr_aload_n (pc := 472) hc dL_law_472 rfl ?_
  refine vr_iload_n (pc := 473) hc dL_law_473 rfl ?_
  refine vr_iconst (pc := 474) hc dL_law_474 (2 : Int32) (by decide) ?_
  refine vr_iadd (pc := 475) hc dL_law_475 ?_
  refine vl_ld (pc := 476) hc hX dL_law_476 (vl_ix (k := 2) hi5 (by decide) hL (2 : Int32) (by decide)) ?_
  refine vr_aload_n (pc := 477) hc dL_law_477 rfl ?_
  refine vr_iload_n (pc := 478) hc dL_law_478 rfl ?_
  refine vr_iconst (pc := 479) hc dL_law_479 (3 : Int32) (by decide) ?_
  refine vr_iadd (pc := 480) hc dL_law_480 ?_
  refine vl_ld (pc := 481) hc hX dL_law_481 (vl_ix (k := 3) hi5 (by decide) hL (3 : Int32) (by decide)) ?_
  refine vl_call (pc := 482) hc dL_law_482 mt_X9_alter ml_L_56 gc_108 (w_X9_alter z _ (xs (nI i + (1 : Int32)).toNatClampNeg) (xs (nI i + (2 : Int32)).toNatClampNeg) (xs (nI i + (3 : Int32)).toNatClampNeg) σ1 h2) rfl (by decide) rfl (Nat.le_of_ble_eq_true rfl) ⟨Nat.le_of_ble_eq_true rfl, Nat.le_of_ble_eq_true rfl⟩ ?_
  refine vr_icmp_eq (pc := 485) hc 1627 dL_law_485 (by decide) (fun _ => ?_) (fun q => absurd rfl q)
  exact hnext _ hR
set_option maxRecDepth 20000 in
set_option maxHeartbeats 1000000 in
theorem vl_c10 {p : Program} {l : Launch} {e : Env} {s : State} {m : MethodId} {below : List Frame} {meth : Method} {c : Code} {b Ln i : Nat} {xs : Nat → Int32} {z : vz_Z} {Rl : vz_I → Prop} (hs : sim_detour Rl) (hc : vz_C z (vl_M p l e s m below meth c b) code RL 12 4) (hX : vl_X z (vl_M p l e s m below meth c b) b Ln xs) (hL : Ln ≤ 2560) (hi5 : i + 5 ≤ Ln) {σ : vz_I} (hR0 : Rl σ) (hnext : ∀ σ, Rl σ → vz_V z (vl_M p l e s m below meth c b) 123 1687 1627 [(0, some (.ref 1048583)), (1, some (.ref 0)), (2, some (.ref 108)), (3, some (.int (nI i)))] [] vz_G0 σ vz_N0) : vz_V z (vl_M p l e s m below meth c b) 123 1687 490 [(0, some (.ref 1048583)), (1, some (.ref 0)), (2, some (.ref 108)), (3, some (.int (nI i)))] [] vz_G0 σ vz_N0 := by
  obtain ⟨r, σ1, σ2, h1, h2, hR⟩ := hs σ hR0 (xs (nI i + (1 : Int32)).toNatClampNeg) (xs (nI i + (2 : Int32)).toNatClampNeg) (xs (nI i + (3 : Int32)).toNatClampNeg)
  refine vr_aload_n (pc := 490) hc dL_law_490 rfl ?_
  refine vr_aload_n (pc := 491) hc dL_law_491 rfl ?_
  refine vr_iload_n (pc := 492) hc dL_law_492 rfl ?_
  refine vr_iconst (pc := 493) hc dL_law_493 (1 : Int32) (by decide) ?_
  refine vr_iadd (pc := 494) hc dL_law_494 ?_
  refine vl_ld (pc := 495) hc hX dL_law_495 (vl_ix (k := 1) hi5 (by decide) hL (1 : Int32) (by decide)) ?_
  refine vr_aload_n (pc := 496) hc dL_law_496 rfl ?_
  refine vr_iload_n (pc := 497) hc dL_law_497 rfl ?_
  refine vr_iconst (pc := 498) hc dL_law_498 (2 : Int32) (by decide) ?_
  refine vr_iadd (pc := 499) hc dL_law_499 ?_
  refine vl_ld (pc := 500) hc hX dL_law_500 (vl_ix (k := 2) hi5 (by decide) hL (2 : Int32) (by decide)) ?_
  refine vr_aload_n (pc := 501) hc dL_law_501 rfl ?_
  refine vr_iload_n (pc := 502) hc dL_law_502 rfl ?_
  refine vr_iconst (pc := 503) hc dL_law_503 (3 : Int32) (by decide) ?_
  refine vr_iadd (pc := 504) hc dL_law_504 ?_
  refine vl_ld (pc := 505) hc hX dL_law_505 (vl_ix (k := 3) hi5 (by decide) hL (3 : Int32) (by decide)) ?_
  refine vl_call (pc := 506) hc dL_law_506 mt_X8_detour ml_L_57 gc_0 (w_X8_detour z _ (xs (nI i + (1 : Int32)).toNatClampNeg) (xs (nI i + (2 : Int32)).toNatClampNeg) (xs (nI i + (3 : Int32)).toNatClampNeg) σ h1) rfl (by decide) rfl (Nat.le_of_ble_eq_true rfl) ⟨Nat.le_of_ble_eq_true rfl, Nat.le_of_ble_eq_true rfl⟩ ?_
  refine vr_aload_n (pc := 509) hc dL_law_509 rfl ?_
  refine vr_aload_n (pc := 510) hc dL_law_510 rfl ?_
  refine vr_iload_n (pc := 511) hc dL_law_511 rfl ?_
  refine vr_iconst (pc := 512) hc dL_law_512 (1 : Int32) (by decide) ?_
  refine vr_iadd (pc := 513) hc dL_law_513 ?_
  refine vl_ld (pc := 514) hc hX dL_law_514 (vl_ix (k := 1) hi5 (by decide) hL (1 : Int32) (by decide)) ?_
  refine vr_aload_n (pc := 515) hc dL_law_515 rfl ?_
  refine vr_iload_n (pc := 516) hc dL_law_516 rfl ?_
  refine vr_iconst (pc := 517) hc dL_law_517 (2 : Int32) (by decide) ?_
  refine vr_iadd (pc := 518) hc dL_law_518 ?_
  refine vl_ld (pc := 519) hc hX dL_law_519 (vl_ix (k := 2) hi5 (by decide) hL (2 : Int32) (by decide)) ?_
  refine vr_aload_n (pc := 520) hc dL_law_520 rfl ?_
  refine vr_iload_n (pc := 521) hc dL_law_521 rfl ?_
  refine vr_iconst (pc := 522) hc dL_law_522 (3 : Int32) (by decide) ?_
  refine vr_iadd (pc := 523) hc dL_law_523 ?_
  refine vl_ld (pc := 524) hc hX dL_law_524 (vl_ix (k := 3) hi5 (by decide) hL (3 : Int32) (by decide)) ?_
  refine vl_call (pc := 525) hc dL_law_525 mt_X9_detour ml_L_60 gc_108 (w_X9_detour z _ (xs (nI i + (1 : Int32)).toNatClampNeg) (xs (nI i + (2 : Int32)).toNatClampNeg) (xs (nI i + (3 : Int32)).toNatClampNeg) σ1 h2) rfl (by decide) rfl (Nat.le_of_ble_eq_true rfl) ⟨Nat.le_of_ble_eq_true rfl, Nat.le_of_ble_eq_true rfl⟩ ?_
  refine vr_icmp_eq (pc := 528) hc 1627 dL_law_528 (by decide) (fun _ => ?_) (fun q => absurd rfl q)
  exact hnext _ hR
set_option maxRecDepth 20000 in
set_option maxHeartbeats 1000000 in
theorem vl_c11 {p : Program} {l : Launch} {e : Env} {s : State} {m : MethodId} {below : List Frame} {meth : Method} {c : Code} {b Ln i : Nat} {xs : Nat → Int32} {z : vz_Z} {Rl : vz_I → Prop} (hs : sim_shift Rl) (hc : vz_C z (vl_M p l e s m below meth c b) code RL 12 4) (hX : vl_X z (vl_M p l e s m below meth c b) b Ln xs) (hL : Ln ≤ 2560) (hi5 : i + 5 ≤ Ln) {σ : vz_I} (hR0 : Rl σ) (hnext : ∀ σ, Rl σ → vz_V z (vl_M p l e s m below meth c b) 123 1687 1627 [(0, some (.ref 1048583)), (1, some (.ref 0)), (2, some (.ref 108)), (3, some (.int (nI i)))] [] vz_G0 σ vz_N0) : vz_V z (vl_M p l e s m below meth c b) 123 1687 533 [(0, some (.ref 1048583)), (1, some (.ref 0)), (2, some (.ref 108)), (3, some (.int (nI i)))] [] vz_G0 σ vz_N0 := by
  obtain ⟨r, σ1, σ2, h1, h2, hR⟩ := hs σ hR0 (xs (nI i + (1 : Int32)).toNatClampNeg) (xs (nI i + (2 : Int32)).toNatClampNeg)
  refine vr_aload_n (pc := 533) hc dL_law_533 rfl ?_
  refine vr_aload_n (pc := 534) hc dL_law_534 rfl ?_
  refine vr_iload_n (pc := 535) hc dL_law_535 rfl ?_
  refine vr_iconst (pc := 536) hc dL_law_536 (1 : Int32) (by decide) ?_
  refine vr_iadd (pc := 537) hc dL_law_537 ?_
  refine vl_ld (pc := 538) hc hX dL_law_538 (vl_ix (k := 1) hi5 (by decide) hL (1 : Int32) (by decide)) ?_
  refine vr_aload_n (pc := 539) hc dL_law_539 rfl ?_
  refine vr_iload_n (pc := 540) hc dL_law_540 rfl ?_
  refine vr_iconst (pc := 541) hc dL_law_541 (2 : Int32) (by decide) ?_
  refine vr_iadd (pc := 542) hc dL_law_542 ?_
  refine vl_ld (pc := 543) hc hX dL_law_543 (vl_ix (k := 2) hi5 (by decide) hL (2 : Int32) (by decide)) ?_
  refine vl_call (pc := 544) hc dL_law_544 mt_X8_shift ml_L_61 gc_0 (w_X8_shift z _ (xs (nI i + (1 : Int32)).toNatClampNeg) (xs (nI i + (2 : Int32)).toNatClampNeg) σ h1) rfl (by decide) rfl (Nat.le_of_ble_eq_true rfl) ⟨Nat.le_of_ble_eq_true rfl, Nat.le_of_ble_eq_true rfl⟩ ?_
  refine vr_aload_n (pc := 547) hc dL_law_547 rfl ?_
  refine vr_aload_n (pc := 548) hc dL_law_548 rfl ?_
  refine vr_iload_n (pc := 549) hc dL_law_549 rfl ?_
  refine vr_iconst (pc := 550) hc dL_law_550 (1 : Int32) (by decide) ?_
  refine vr_iadd (pc := 551) hc dL_law_551 ?_
  refine vl_ld (pc := 552) hc hX dL_law_552 (vl_ix (k := 1) hi5 (by decide) hL (1 : Int32) (by decide)) ?_
  refine vr_aload_n (pc := 553) hc dL_law_553 rfl ?_
  refine vr_iload_n (pc := 554) hc dL_law_554 rfl ?_
  refine vr_iconst (pc := 555) hc dL_law_555 (2 : Int32) (by decide) ?_
  refine vr_iadd (pc := 556) hc dL_law_556 ?_
  refine vl_ld (pc := 557) hc hX dL_law_557 (vl_ix (k := 2) hi5 (by decide) hL (2 : Int32) (by decide)) ?_
  refine vl_call (pc := 558) hc dL_law_558 mt_X9_shift ml_L_64 gc_108 (w_X9_shift z _ (xs (nI i + (1 : Int32)).toNatClampNeg) (xs (nI i + (2 : Int32)).toNatClampNeg) σ1 h2) rfl (by decide) rfl (Nat.le_of_ble_eq_true rfl) ⟨Nat.le_of_ble_eq_true rfl, Nat.le_of_ble_eq_true rfl⟩ ?_
  refine vr_icmp_eq (pc := 561) hc 1627 dL_law_561 (by decide) (fun _ => ?_) (fun q => absurd rfl q)
  exact hnext _ hR
set_option maxRecDepth 20000 in
set_option maxHeartbeats 1000000 in
theorem vl_c12 {p : Program} {l : Launch} {e : Env} {s : State} {m : MethodId} {below : List Frame} {meth : Method} {c : Code} {b Ln i : Nat} {xs : Nat → Int32} {z : vz_Z} {Rl : vz_I → Prop} (hs : sim_stand Rl) (hc : vz_C z (vl_M p l e s m below meth c b) code RL 12 4) (hX : vl_X z (vl_M p l e s m below meth c b) b Ln xs) (hL : Ln ≤ 2560) (hi5 : i + 5 ≤ Ln) {σ : vz_I} (hR0 : Rl σ) (hnext : ∀ σ, Rl σ → vz_V z (vl_M p l e s m below meth c b) 123 1687 1627 [(0, some (.ref 1048583)), (1, some (.ref 0)), (2, some (.ref 108)), (3, some (.int (nI i)))] [] vz_G0 σ vz_N0) : vz_V z (vl_M p l e s m below meth c b) 123 1687 566 [(0, some (.ref 1048583)), (1, some (.ref 0)), (2, some (.ref 108)), (3, some (.int (nI i)))] [] vz_G0 σ vz_N0 := by
  obtain ⟨r, σ1, σ2, h1, h2, hR⟩ := hs σ hR0 (xs (nI i + (1 : Int32)).toNatClampNeg) (xs (nI i + (2 : Int32)).toNatClampNeg) (xs (nI i + (3 : Int32)).toNatClampNeg)
  refine vr_aload_n (pc := 566) hc dL_law_566 rfl ?_
  refine vr_aload_n (pc := 567) hc dL_law_567 rfl ?_
  refine vr_iload_n (pc := 568) hc dL_law_568 rfl ?_
  refine vr_iconst (pc := 569) hc dL_law_569 (1 : Int32) (by decide) ?_
  refine vr_iadd (pc := 570) hc dL_law_570 ?_
  refine vl_ld (pc := 571) hc hX dL_law_571 (vl_ix (k := 1) hi5 (by decide) hL (1 : Int32) (by decide)) ?_
  refine vr_aload_n (pc := 572) hc dL_law_572 rfl ?_
  refine vr_iload_n (pc := 573) hc dL_law_573 rfl ?_
  refine vr_iconst (pc := 574) hc dL_law_574 (2 : Int32) (by decide) ?_
  refine vr_iadd (pc := 575) hc dL_law_575 ?_
  refine vl_ld (pc := 576) hc hX dL_law_576 (vl_ix (k := 2) hi5 (by decide) hL (2 : Int32) (by decide)) ?_
  refine vr_aload_n (pc := 577) hc dL_law_577 rfl ?_
  refine vr_iload_n (pc := 578) hc dL_law_578 rfl ?_
  refine vr_iconst (pc := 579) hc dL_law_579 (3 : Int32) (by decide) ?_
  refine vr_iadd (pc := 580) hc dL_law_580 ?_
  refine vl_ld (pc := 581) hc hX dL_law_581 (vl_ix (k := 3) hi5 (by decide) hL (3 : Int32) (by decide)) ?_
  refine vl_call (pc := 582) hc dL_law_582 mt_X8_stand ml_L_65 gc_0 (w_X8_stand z _ (xs (nI i + (1 : Int32)).toNatClampNeg) (xs (nI i + (2 : Int32)).toNatClampNeg) (xs (nI i + (3 : Int32)).toNatClampNeg) σ h1) rfl (by decide) rfl (Nat.le_of_ble_eq_true rfl) ⟨Nat.le_of_ble_eq_true rfl, Nat.le_of_ble_eq_true rfl⟩ ?_
  refine vr_aload_n (pc := 585) hc dL_law_585 rfl ?_
  refine vr_aload_n (pc := 586) hc dL_law_586 rfl ?_
  refine vr_iload_n (pc := 587) hc dL_law_587 rfl ?_
  refine vr_iconst (pc := 588) hc dL_law_588 (1 : Int32) (by decide) ?_
  refine vr_iadd (pc := 589) hc dL_law_589 ?_
  refine vl_ld (pc := 590) hc hX dL_law_590 (vl_ix (k := 1) hi5 (by decide) hL (1 : Int32) (by decide)) ?_
  refine vr_aload_n (pc := 591) hc dL_law_591 rfl ?_
  refine vr_iload_n (pc := 592) hc dL_law_592 rfl ?_
  refine vr_iconst (pc := 593) hc dL_law_593 (2 : Int32) (by decide) ?_
  refine vr_iadd (pc := 594) hc dL_law_594 ?_
  refine vl_ld (pc := 595) hc hX dL_law_595 (vl_ix (k := 2) hi5 (by decide) hL (2 : Int32) (by decide)) ?_
  refine vr_aload_n (pc := 596) hc dL_law_596 rfl ?_
  refine vr_iload_n (pc := 597) hc dL_law_597 rfl ?_
  refine vr_iconst (pc := 598) hc dL_law_598 (3 : Int32) (by decide) ?_
  refine vr_iadd (pc := 599) hc dL_law_599 ?_
  refine vl_ld (pc := 600) hc hX dL_law_600 (vl_ix (k := 3) hi5 (by decide) hL (3 : Int32) (by decide)) ?_
  refine vl_call (pc := 601) hc dL_law_601 mt_X9_stand ml_L_68 gc_108 (w_X9_stand z _ (xs (nI i + (1 : Int32)).toNatClampNeg) (xs (nI i + (2 : Int32)).toNatClampNeg) (xs (nI i + (3 : Int32)).toNatClampNeg) σ1 h2) rfl (by decide) rfl (Nat.le_of_ble_eq_true rfl) ⟨Nat.le_of_ble_eq_true rfl, Nat.le_of_ble_eq_true rfl⟩ ?_
  refine vr_icmp_eq (pc := 604) hc 1627 dL_law_604 (by decide) (fun _ => ?_) (fun q => absurd rfl q)
  exact hnext _ hR
set_option maxRecDepth 20000 in
set_option maxHeartbeats 1000000 in
theorem vl_c13 {p : Program} {l : Launch} {e : Env} {s : State} {m : MethodId} {below : List Frame} {meth : Method} {c : Code} {b Ln i : Nat} {xs : Nat → Int32} {z : vz_Z} {Rl : vz_I → Prop} (hs : sim_rain Rl) (hc : vz_C z (vl_M p l e s m below meth c b) code RL 12 4) (hX : vl_X z (vl_M p l e s m below meth c b) b Ln xs) (hL : Ln ≤ 2560) (hi5 : i + 5 ≤ Ln) {σ : vz_I} (hR0 : Rl σ) (hnext : ∀ σ, Rl σ → vz_V z (vl_M p l e s m below meth c b) 123 1687 1627 [(0, some (.ref 1048583)), (1, some (.ref 0)), (2, some (.ref 108)), (3, some (.int (nI i)))] [] vz_G0 σ vz_N0) : vz_V z (vl_M p l e s m below meth c b) 123 1687 609 [(0, some (.ref 1048583)), (1, some (.ref 0)), (2, some (.ref 108)), (3, some (.int (nI i)))] [] vz_G0 σ vz_N0 := by
  obtain ⟨r, σ1, σ2, h1, h2, hR⟩ := hs σ hR0 (xs (nI i + (1 : Int32)).toNatClampNeg) (xs (nI i + (2 : Int32)).toNatClampNeg)
  refine vr_aload_n (pc := 609) hc dL_law_609 rfl ?_
  refine vr_aload_n (pc := 610) hc dL_law_610 rfl ?_
  refine vr_iload_n (pc := 611) hc dL_law_611 rfl ?_
  refine vr_iconst (pc := 612) hc dL_law_612 (1 : Int32) (by decide) ?_
  refine vr_iadd (pc := 613) hc dL_law_613 ?_
  refine vl_ld (pc := 614) hc hX dL_law_614 (vl_ix (k := 1) hi5 (by decide) hL (1 : Int32) (by decide)) ?_
  refine vr_aload_n (pc := 615) hc dL_law_615 rfl ?_
  refine vr_iload_n (pc := 616) hc dL_law_616 rfl ?_
  refine vr_iconst (pc := 617) hc dL_law_617 (2 : Int32) (by decide) ?_
  refine vr_iadd (pc := 618) hc dL_law_618 ?_
  refine vl_ld (pc := 619) hc hX dL_law_619 (vl_ix (k := 2) hi5 (by decide) hL (2 : Int32) (by decide)) ?_
  refine vl_call (pc := 620) hc dL_law_620 mt_X8_rain ml_L_69 gc_0 (w_X8_rain z _ (xs (nI i + (1 : Int32)).toNatClampNeg) (xs (nI i + (2 : Int32)).toNatClampNeg) σ h1) rfl (by decide) rfl (Nat.le_of_ble_eq_true rfl) ⟨Nat.le_of_ble_eq_true rfl, Nat.le_of_ble_eq_true rfl⟩ ?_
  refine vr_aload_n (pc := 623) hc dL_law_623 rfl ?_
  refine vr_aload_n (pc := 624) hc dL_law_624 rfl ?_
  refine vr_iload_n (pc := 625) hc dL_law_625 rfl ?_
  refine vr_iconst (pc := 626) hc dL_law_626 (1 : Int32) (by decide) ?_
  refine vr_iadd (pc := 627) hc dL_law_627 ?_
  refine vl_ld (pc := 628) hc hX dL_law_628 (vl_ix (k := 1) hi5 (by decide) hL (1 : Int32) (by decide)) ?_
  refine vr_aload_n (pc := 629) hc dL_law_629 rfl ?_
  refine vr_iload_n (pc := 630) hc dL_law_630 rfl ?_
  refine vr_iconst (pc := 631) hc dL_law_631 (2 : Int32) (by decide) ?_
  refine vr_iadd (pc := 632) hc dL_law_632 ?_
  refine vl_ld (pc := 633) hc hX dL_law_633 (vl_ix (k := 2) hi5 (by decide) hL (2 : Int32) (by decide)) ?_
  refine vl_call (pc := 634) hc dL_law_634 mt_X9_rain ml_L_72 gc_108 (w_X9_rain z _ (xs (nI i + (1 : Int32)).toNatClampNeg) (xs (nI i + (2 : Int32)).toNatClampNeg) σ1 h2) rfl (by decide) rfl (Nat.le_of_ble_eq_true rfl) ⟨Nat.le_of_ble_eq_true rfl, Nat.le_of_ble_eq_true rfl⟩ ?_
  refine vr_icmp_eq (pc := 637) hc 1627 dL_law_637 (by decide) (fun _ => ?_) (fun q => absurd rfl q)
  exact hnext _ hR
set_option maxRecDepth 20000 in
set_option maxHeartbeats 1000000 in
theorem vl_c14 {p : Program} {l : Launch} {e : Env} {s : State} {m : MethodId} {below : List Frame} {meth : Method} {c : Code} {b Ln i : Nat} {xs : Nat → Int32} {z : vz_Z} {Rl : vz_I → Prop} (hs : sim_pave Rl) (hc : vz_C z (vl_M p l e s m below meth c b) code RL 12 4) (hX : vl_X z (vl_M p l e s m below meth c b) b Ln xs) (hL : Ln ≤ 2560) (hi5 : i + 5 ≤ Ln) {σ : vz_I} (hR0 : Rl σ) (hnext : ∀ σ, Rl σ → vz_V z (vl_M p l e s m below meth c b) 123 1687 1627 [(0, some (.ref 1048583)), (1, some (.ref 0)), (2, some (.ref 108)), (3, some (.int (nI i)))] [] vz_G0 σ vz_N0) : vz_V z (vl_M p l e s m below meth c b) 123 1687 642 [(0, some (.ref 1048583)), (1, some (.ref 0)), (2, some (.ref 108)), (3, some (.int (nI i)))] [] vz_G0 σ vz_N0 := by
  obtain ⟨r, σ1, σ2, h1, h2, hR⟩ := hs σ hR0 (xs (nI i + (1 : Int32)).toNatClampNeg) (xs (nI i + (2 : Int32)).toNatClampNeg)
  refine vr_aload_n (pc := 642) hc dL_law_642 rfl ?_
  refine vr_aload_n (pc := 643) hc dL_law_643 rfl ?_
  refine vr_iload_n (pc := 644) hc dL_law_644 rfl ?_
  refine vr_iconst (pc := 645) hc dL_law_645 (1 : Int32) (by decide) ?_
  refine vr_iadd (pc := 646) hc dL_law_646 ?_
  refine vl_ld (pc := 647) hc hX dL_law_647 (vl_ix (k := 1) hi5 (by decide) hL (1 : Int32) (by decide)) ?_
  refine vr_aload_n (pc := 648) hc dL_law_648 rfl ?_
  refine vr_iload_n (pc := 649) hc dL_law_649 rfl ?_
  refine vr_iconst (pc := 650) hc dL_law_650 (2 : Int32) (by decide) ?_
  refine vr_iadd (pc := 651) hc dL_law_651 ?_
  refine vl_ld (pc := 652) hc hX dL_law_652 (vl_ix (k := 2) hi5 (by decide) hL (2 : Int32) (by decide)) ?_
  refine vl_call (pc := 653) hc dL_law_653 mt_X8_pave ml_L_73 gc_0 (w_X8_pave z _ (xs (nI i + (1 : Int32)).toNatClampNeg) (xs (nI i + (2 : Int32)).toNatClampNeg) σ h1) rfl (by decide) rfl (Nat.le_of_ble_eq_true rfl) ⟨Nat.le_of_ble_eq_true rfl, Nat.le_of_ble_eq_true rfl⟩ ?_
  refine vr_aload_n (pc := 656) hc dL_law_656 rfl ?_
  refine vr_aload_n (pc := 657) hc dL_law_657 rfl ?_
  refine vr_iload_n (pc := 658) hc dL_law_658 rfl ?_
  refine vr_iconst (pc := 659) hc dL_law_659 (1 : Int32) (by decide) ?_
  refine vr_iadd (pc := 660) hc dL_law_660 ?_
  refine vl_ld (pc := 661) hc hX dL_law_661 (vl_ix (k := 1) hi5 (by decide) hL (1 : Int32) (by decide)) ?_
  refine vr_aload_n (pc := 662) hc dL_law_662 rfl ?_
  refine vr_iload_n (pc := 663) hc dL_law_663 rfl ?_
  refine vr_iconst (pc := 664) hc dL_law_664 (2 : Int32) (by decide) ?_
  refine vr_iadd (pc := 665) hc dL_law_665 ?_
  refine vl_ld (pc := 666) hc hX dL_law_666 (vl_ix (k := 2) hi5 (by decide) hL (2 : Int32) (by decide)) ?_
  refine vl_call (pc := 667) hc dL_law_667 mt_X9_pave ml_L_76 gc_108 (w_X9_pave z _ (xs (nI i + (1 : Int32)).toNatClampNeg) (xs (nI i + (2 : Int32)).toNatClampNeg) σ1 h2) rfl (by decide) rfl (Nat.le_of_ble_eq_true rfl) ⟨Nat.le_of_ble_eq_true rfl, Nat.le_of_ble_eq_true rfl⟩ ?_
  refine vr_icmp_eq (pc := 670) hc 1627 dL_law_670 (by decide) (fun _ => ?_) (fun q => absurd rfl q)
  exact hnext _ hR
set_option maxRecDepth 20000 in
set_option maxHeartbeats 1000000 in
theorem vl_c15 {p : Program} {l : Launch} {e : Env} {s : State} {m : MethodId} {below : List Frame} {meth : Method} {c : Code} {b Ln i : Nat} {xs : Nat → Int32} {z : vz_Z} {Rl : vz_I → Prop} (hs : sim_at Rl) (hc : vz_C z (vl_M p l e s m below meth c b) code RL 12 4) (hX : vl_X z (vl_M p l e s m below meth c b) b Ln xs) (hL : Ln ≤ 2560) (hi5 : i + 5 ≤ Ln) {σ : vz_I} (hR0 : Rl σ) (hnext : ∀ σ, Rl σ → vz_V z (vl_M p l e s m below meth c b) 123 1687 1627 [(0, some (.ref 1048583)), (1, some (.ref 0)), (2, some (.ref 108)), (3, some (.int (nI i)))] [] vz_G0 σ vz_N0) : vz_V z (vl_M p l e s m below meth c b) 123 1687 675 [(0, some (.ref 1048583)), (1, some (.ref 0)), (2, some (.ref 108)), (3, some (.int (nI i)))] [] vz_G0 σ vz_N0 := by
  obtain ⟨r, σ1, σ2, h1, h2, hR⟩ := hs σ hR0 (xs (nI i + (1 : Int32)).toNatClampNeg) (xs (nI i + (2 : Int32)).toNatClampNeg)
  refine vr_aload_n (pc := 675) hc dL_law_675 rfl ?_
  refine vr_aload_n (pc := 676) hc dL_law_676 rfl ?_
  refine vr_iload_n (pc := 677) hc dL_law_677 rfl ?_
  refine vr_iconst (pc := 678) hc dL_law_678 (1 : Int32) (by decide) ?_
  refine vr_iadd (pc := 679) hc dL_law_679 ?_
  refine vl_ld (pc := 680) hc hX dL_law_680 (vl_ix (k := 1) hi5 (by decide) hL (1 : Int32) (by decide)) ?_
  refine vr_aload_n (pc := 681) hc dL_law_681 rfl ?_
  refine vr_iload_n (pc := 682) hc dL_law_682 rfl ?_
  refine vr_iconst (pc := 683) hc dL_law_683 (2 : Int32) (by decide) ?_
  refine vr_iadd (pc := 684) hc dL_law_684 ?_
  refine vl_ld (pc := 685) hc hX dL_law_685 (vl_ix (k := 2) hi5 (by decide) hL (2 : Int32) (by decide)) ?_
  obtain ⟨h1, rfl⟩ := h1
  refine vl_call (pc := 686) hc dL_law_686 mt_X8_at ml_L_77 gc_0 (w_X8_at z _ (xs (nI i + (1 : Int32)).toNatClampNeg) (xs (nI i + (2 : Int32)).toNatClampNeg) σ h1) rfl (by decide) rfl (Nat.le_of_ble_eq_true rfl) ⟨Nat.le_of_ble_eq_true rfl, Nat.le_of_ble_eq_true rfl⟩ ?_
  refine vr_aload_n (pc := 689) hc dL_law_689 rfl ?_
  refine vr_aload_n (pc := 690) hc dL_law_690 rfl ?_
  refine vr_iload_n (pc := 691) hc dL_law_691 rfl ?_
  refine vr_iconst (pc := 692) hc dL_law_692 (1 : Int32) (by decide) ?_
  refine vr_iadd (pc := 693) hc dL_law_693 ?_
  refine vl_ld (pc := 694) hc hX dL_law_694 (vl_ix (k := 1) hi5 (by decide) hL (1 : Int32) (by decide)) ?_
  refine vr_aload_n (pc := 695) hc dL_law_695 rfl ?_
  refine vr_iload_n (pc := 696) hc dL_law_696 rfl ?_
  refine vr_iconst (pc := 697) hc dL_law_697 (2 : Int32) (by decide) ?_
  refine vr_iadd (pc := 698) hc dL_law_698 ?_
  refine vl_ld (pc := 699) hc hX dL_law_699 (vl_ix (k := 2) hi5 (by decide) hL (2 : Int32) (by decide)) ?_
  obtain ⟨h2, rfl⟩ := h2
  refine vl_call (pc := 700) hc dL_law_700 mt_X9_at ml_L_80 gc_108 (w_X9_at z _ (xs (nI i + (1 : Int32)).toNatClampNeg) (xs (nI i + (2 : Int32)).toNatClampNeg) σ h2) rfl (by decide) rfl (Nat.le_of_ble_eq_true rfl) ⟨Nat.le_of_ble_eq_true rfl, Nat.le_of_ble_eq_true rfl⟩ ?_
  refine vr_icmp_eq (pc := 703) hc 1627 dL_law_703 (by decide) (fun _ => ?_) (fun q => absurd rfl q)
  exact hnext _ hR
set_option maxRecDepth 20000 in
set_option maxHeartbeats 1000000 in
theorem vl_c16 {p : Program} {l : Launch} {e : Env} {s : State} {m : MethodId} {below : List Frame} {meth : Method} {c : Code} {b Ln i : Nat} {xs : Nat → Int32} {z : vz_Z} {Rl : vz_I → Prop} (hs : sim_reads Rl) (hc : vz_C z (vl_M p l e s m below meth c b) code RL 12 4) (hX : vl_X z (vl_M p l e s m below meth c b) b Ln xs) (hL : Ln ≤ 2560) (hi5 : i + 5 ≤ Ln) {σ : vz_I} (hR0 : Rl σ) (hnext : ∀ σ, Rl σ → vz_V z (vl_M p l e s m below meth c b) 123 1687 1627 [(0, some (.ref 1048583)), (1, some (.ref 0)), (2, some (.ref 108)), (3, some (.int (nI i)))] [] vz_G0 σ vz_N0) : vz_V z (vl_M p l e s m below meth c b) 123 1687 708 [(0, some (.ref 1048583)), (1, some (.ref 0)), (2, some (.ref 108)), (3, some (.int (nI i)))] [] vz_G0 σ vz_N0 := by
  obtain ⟨r, σ1, σ2, h1, h2, hR⟩ := hs σ hR0 (xs (nI i + (1 : Int32)).toNatClampNeg) (xs (nI i + (2 : Int32)).toNatClampNeg) (xs (nI i + (3 : Int32)).toNatClampNeg)
  refine vr_aload_n (pc := 708) hc dL_law_708 rfl ?_
  refine vr_aload_n (pc := 709) hc dL_law_709 rfl ?_
  refine vr_iload_n (pc := 710) hc dL_law_710 rfl ?_
  refine vr_iconst (pc := 711) hc dL_law_711 (1 : Int32) (by decide) ?_
  refine vr_iadd (pc := 712) hc dL_law_712 ?_
  refine vl_ld (pc := 713) hc hX dL_law_713 (vl_ix (k := 1) hi5 (by decide) hL (1 : Int32) (by decide)) ?_
  refine vr_aload_n (pc := 714) hc dL_law_714 rfl ?_
  refine vr_iload_n (pc := 715) hc dL_law_715 rfl ?_
  refine vr_iconst (pc := 716) hc dL_law_716 (2 : Int32) (by decide) ?_
  refine vr_iadd (pc := 717) hc dL_law_717 ?_
  refine vl_ld (pc := 718) hc hX dL_law_718 (vl_ix (k := 2) hi5 (by decide) hL (2 : Int32) (by decide)) ?_
  refine vr_aload_n (pc := 719) hc dL_law_719 rfl ?_
  refine vr_iload_n (pc := 720) hc dL_law_720 rfl ?_
  refine vr_iconst (pc := 721) hc dL_law_721 (3 : Int32) (by decide) ?_
  refine vr_iadd (pc := 722) hc dL_law_722 ?_
  refine vl_ld (pc := 723) hc hX dL_law_723 (vl_ix (k := 3) hi5 (by decide) hL (3 : Int32) (by decide)) ?_
  obtain ⟨h1, rfl⟩ := h1
  refine vl_call (pc := 724) hc dL_law_724 mt_X8_reads ml_L_81 gc_0 (w_X8_reads z _ (xs (nI i + (1 : Int32)).toNatClampNeg) (xs (nI i + (2 : Int32)).toNatClampNeg) (xs (nI i + (3 : Int32)).toNatClampNeg) σ h1) rfl (by decide) rfl (Nat.le_of_ble_eq_true rfl) ⟨Nat.le_of_ble_eq_true rfl, Nat.le_of_ble_eq_true rfl⟩ ?_
  refine vr_aload_n (pc := 727) hc dL_law_727 rfl ?_
  refine vr_aload_n (pc := 728) hc dL_law_728 rfl ?_
  refine vr_iload_n (pc := 729) hc dL_law_729 rfl ?_
  refine vr_iconst (pc := 730) hc dL_law_730 (1 : Int32) (by decide) ?_
  refine vr_iadd (pc := 731) hc dL_law_731 ?_
  refine vl_ld (pc := 732) hc hX dL_law_732 (vl_ix (k := 1) hi5 (by decide) hL (1 : Int32) (by decide)) ?_
  refine vr_aload_n (pc := 733) hc dL_law_733 rfl ?_
  refine vr_iload_n (pc := 734) hc dL_law_734 rfl ?_
  refine vr_iconst (pc := 735) hc dL_law_735 (2 : Int32) (by decide) ?_
  refine vr_iadd (pc := 736) hc dL_law_736 ?_
  refine vl_ld (pc := 737) hc hX dL_law_737 (vl_ix (k := 2) hi5 (by decide) hL (2 : Int32) (by decide)) ?_
  refine vr_aload_n (pc := 738) hc dL_law_738 rfl ?_
  refine vr_iload_n (pc := 739) hc dL_law_739 rfl ?_
  refine vr_iconst (pc := 740) hc dL_law_740 (3 : Int32) (by decide) ?_
  refine vr_iadd (pc := 741) hc dL_law_741 ?_
  refine vl_ld (pc := 742) hc hX dL_law_742 (vl_ix (k := 3) hi5 (by decide) hL (3 : Int32) (by decide)) ?_
  obtain ⟨h2, rfl⟩ := h2
  refine vl_call (pc := 743) hc dL_law_743 mt_X9_reads ml_L_84 gc_108 (w_X9_reads z _ (xs (nI i + (1 : Int32)).toNatClampNeg) (xs (nI i + (2 : Int32)).toNatClampNeg) (xs (nI i + (3 : Int32)).toNatClampNeg) σ h2) rfl (by decide) rfl (Nat.le_of_ble_eq_true rfl) ⟨Nat.le_of_ble_eq_true rfl, Nat.le_of_ble_eq_true rfl⟩ ?_
  refine vr_icmp_eq (pc := 746) hc 1627 dL_law_746 (by decide) (fun _ => ?_) (fun q => absurd rfl q)
  exact hnext _ hR
set_option maxRecDepth 20000 in
set_option maxHeartbeats 1000000 in
theorem vl_c17 {p : Program} {l : Launch} {e : Env} {s : State} {m : MethodId} {below : List Frame} {meth : Method} {c : Code} {b Ln i : Nat} {xs : Nat → Int32} {z : vz_Z} {Rl : vz_I → Prop} (hs : sim_knows Rl) (hc : vz_C z (vl_M p l e s m below meth c b) code RL 12 4) (hX : vl_X z (vl_M p l e s m below meth c b) b Ln xs) (hL : Ln ≤ 2560) (hi5 : i + 5 ≤ Ln) {σ : vz_I} (hR0 : Rl σ) (hnext : ∀ σ, Rl σ → vz_V z (vl_M p l e s m below meth c b) 123 1687 1627 [(0, some (.ref 1048583)), (1, some (.ref 0)), (2, some (.ref 108)), (3, some (.int (nI i)))] [] vz_G0 σ vz_N0) : vz_V z (vl_M p l e s m below meth c b) 123 1687 751 [(0, some (.ref 1048583)), (1, some (.ref 0)), (2, some (.ref 108)), (3, some (.int (nI i)))] [] vz_G0 σ vz_N0 := by
  obtain ⟨r, σ1, σ2, h1, h2, hR⟩ := hs σ hR0 (xs (nI i + (1 : Int32)).toNatClampNeg) (xs (nI i + (2 : Int32)).toNatClampNeg) (xs (nI i + (3 : Int32)).toNatClampNeg)
  refine vr_aload_n (pc := 751) hc dL_law_751 rfl ?_
  refine vr_aload_n (pc := 752) hc dL_law_752 rfl ?_
  refine vr_iload_n (pc := 753) hc dL_law_753 rfl ?_
  refine vr_iconst (pc := 754) hc dL_law_754 (1 : Int32) (by decide) ?_
  refine vr_iadd (pc := 755) hc dL_law_755 ?_
  refine vl_ld (pc := 756) hc hX dL_law_756 (vl_ix (k := 1) hi5 (by decide) hL (1 : Int32) (by decide)) ?_
  refine vr_aload_n (pc := 757) hc dL_law_757 rfl ?_
  refine vr_iload_n (pc := 758) hc dL_law_758 rfl ?_
  refine vr_iconst (pc := 759) hc dL_law_759 (2 : Int32) (by decide) ?_
  refine vr_iadd (pc := 760) hc dL_law_760 ?_
  refine vl_ld (pc := 761) hc hX dL_law_761 (vl_ix (k := 2) hi5 (by decide) hL (2 : Int32) (by decide)) ?_
  refine vr_aload_n (pc := 762) hc dL_law_762 rfl ?_
  refine vr_iload_n (pc := 763) hc dL_law_763 rfl ?_
  refine vr_iconst (pc := 764) hc dL_law_764 (3 : Int32) (by decide) ?_
  refine vr_iadd (pc := 765) hc dL_law_765 ?_
  refine vl_ld (pc := 766) hc hX dL_law_766 (vl_ix (k := 3) hi5 (by decide) hL (3 : Int32) (by decide)) ?_
  obtain ⟨h1, rfl⟩ := h1
  refine vl_call (pc := 767) hc dL_law_767 mt_X8_knows ml_L_85 gc_0 (w_X8_knows z _ (xs (nI i + (1 : Int32)).toNatClampNeg) (xs (nI i + (2 : Int32)).toNatClampNeg) (xs (nI i + (3 : Int32)).toNatClampNeg) σ h1) rfl (by decide) rfl (Nat.le_of_ble_eq_true rfl) ⟨Nat.le_of_ble_eq_true rfl, Nat.le_of_ble_eq_true rfl⟩ ?_
  refine vr_aload_n (pc := 770) hc dL_law_770 rfl ?_
  refine vr_aload_n (pc := 771) hc dL_law_771 rfl ?_
  refine vr_iload_n (pc := 772) hc dL_law_772 rfl ?_
  refine vr_iconst (pc := 773) hc dL_law_773 (1 : Int32) (by decide) ?_
  refine vr_iadd (pc := 774) hc dL_law_774 ?_
  refine vl_ld (pc := 775) hc hX dL_law_775 (vl_ix (k := 1) hi5 (by decide) hL (1 : Int32) (by decide)) ?_
  refine vr_aload_n (pc := 776) hc dL_law_776 rfl ?_
  refine vr_iload_n (pc := 777) hc dL_law_777 rfl ?_
  refine vr_iconst (pc := 778) hc dL_law_778 (2 : Int32) (by decide) ?_
  refine vr_iadd (pc := 779) hc dL_law_779 ?_
  refine vl_ld (pc := 780) hc hX dL_law_780 (vl_ix (k := 2) hi5 (by decide) hL (2 : Int32) (by decide)) ?_
  refine vr_aload_n (pc := 781) hc dL_law_781 rfl ?_
  refine vr_iload_n (pc := 782) hc dL_law_782 rfl ?_
  refine vr_iconst (pc := 783) hc dL_law_783 (3 : Int32) (by decide) ?_
  refine vr_iadd (pc := 784) hc dL_law_784 ?_
  refine vl_ld (pc := 785) hc hX dL_law_785 (vl_ix (k := 3) hi5 (by decide) hL (3 : Int32) (by decide)) ?_
  refine vl_call (pc := 786) hc dL_law_786 mt_X9_knows ml_L_88 gc_108 (w_X9_knows z _ (xs (nI i + (1 : Int32)).toNatClampNeg) (xs (nI i + (2 : Int32)).toNatClampNeg) (xs (nI i + (3 : Int32)).toNatClampNeg) σ h2) rfl (by decide) rfl (Nat.le_of_ble_eq_true rfl) ⟨Nat.le_of_ble_eq_true rfl, Nat.le_of_ble_eq_true rfl⟩ ?_
  refine vr_icmp_eq (pc := 789) hc 1627 dL_law_789 (by decide) (fun _ => ?_) (fun q => absurd rfl q)
  exact hnext _ hR
set_option maxRecDepth 20000 in
set_option maxHeartbeats 1000000 in
theorem vl_c18 {p : Program} {l : Launch} {e : Env} {s : State} {m : MethodId} {below : List Frame} {meth : Method} {c : Code} {b Ln i : Nat} {xs : Nat → Int32} {z : vz_Z} {Rl : vz_I → Prop} (hs : sim_first Rl) (hc : vz_C z (vl_M p l e s m below meth c b) code RL 12 4) (hX : vl_X z (vl_M p l e s m below meth c b) b Ln xs) (hL : Ln ≤ 2560) (hi5 : i + 5 ≤ Ln) {σ : vz_I} (hR0 : Rl σ) (hnext : ∀ σ, Rl σ → vz_V z (vl_M p l e s m below meth c b) 123 1687 1627 [(0, some (.ref 1048583)), (1, some (.ref 0)), (2, some (.ref 108)), (3, some (.int (nI i)))] [] vz_G0 σ vz_N0) : vz_V z (vl_M p l e s m below meth c b) 123 1687 794 [(0, some (.ref 1048583)), (1, some (.ref 0)), (2, some (.ref 108)), (3, some (.int (nI i)))] [] vz_G0 σ vz_N0 := by
  obtain ⟨r, σ1, σ2, h1, h2, hR⟩ := hs σ hR0 (xs (nI i + (1 : Int32)).toNatClampNeg) (xs (nI i + (2 : Int32)).toNatClampNeg)
  refine vr_aload_n (pc := 794) hc dL_law_794 rfl ?_
  refine vr_aload_n (pc := 795) hc dL_law_795 rfl ?_
  refine vr_iload_n (pc := 796) hc dL_law_796 rfl ?_
  refine vr_iconst (pc := 797) hc dL_law_797 (1 : Int32) (by decide) ?_
  refine vr_iadd (pc := 798) hc dL_law_798 ?_
  refine vl_ld (pc := 799) hc hX dL_law_799 (vl_ix (k := 1) hi5 (by decide) hL (1 : Int32) (by decide)) ?_
  refine vr_aload_n (pc := 800) hc dL_law_800 rfl ?_
  refine vr_iload_n (pc := 801) hc dL_law_801 rfl ?_
  refine vr_iconst (pc := 802) hc dL_law_802 (2 : Int32) (by decide) ?_
  refine vr_iadd (pc := 803) hc dL_law_803 ?_
  refine vl_ld (pc := 804) hc hX dL_law_804 (vl_ix (k := 2) hi5 (by decide) hL (2 : Int32) (by decide)) ?_
  obtain ⟨h1, rfl⟩ := h1
  refine vl_call (pc := 805) hc dL_law_805 mt_X8_first ml_L_89 gc_0 (w_X8_first z _ (xs (nI i + (1 : Int32)).toNatClampNeg) (xs (nI i + (2 : Int32)).toNatClampNeg) σ h1) rfl (by decide) rfl (Nat.le_of_ble_eq_true rfl) ⟨Nat.le_of_ble_eq_true rfl, Nat.le_of_ble_eq_true rfl⟩ ?_
  refine vr_aload_n (pc := 808) hc dL_law_808 rfl ?_
  refine vr_aload_n (pc := 809) hc dL_law_809 rfl ?_
  refine vr_iload_n (pc := 810) hc dL_law_810 rfl ?_
  refine vr_iconst (pc := 811) hc dL_law_811 (1 : Int32) (by decide) ?_
  refine vr_iadd (pc := 812) hc dL_law_812 ?_
  refine vl_ld (pc := 813) hc hX dL_law_813 (vl_ix (k := 1) hi5 (by decide) hL (1 : Int32) (by decide)) ?_
  refine vr_aload_n (pc := 814) hc dL_law_814 rfl ?_
  refine vr_iload_n (pc := 815) hc dL_law_815 rfl ?_
  refine vr_iconst (pc := 816) hc dL_law_816 (2 : Int32) (by decide) ?_
  refine vr_iadd (pc := 817) hc dL_law_817 ?_
  refine vl_ld (pc := 818) hc hX dL_law_818 (vl_ix (k := 2) hi5 (by decide) hL (2 : Int32) (by decide)) ?_
  refine vl_call (pc := 819) hc dL_law_819 mt_X9_first ml_L_92 gc_108 (w_X9_first z _ (xs (nI i + (1 : Int32)).toNatClampNeg) (xs (nI i + (2 : Int32)).toNatClampNeg) σ h2) rfl (by decide) rfl (Nat.le_of_ble_eq_true rfl) ⟨Nat.le_of_ble_eq_true rfl, Nat.le_of_ble_eq_true rfl⟩ ?_
  refine vr_icmp_eq (pc := 822) hc 1627 dL_law_822 (by decide) (fun _ => ?_) (fun q => absurd rfl q)
  exact hnext _ hR
set_option maxRecDepth 20000 in
set_option maxHeartbeats 1000000 in
theorem vl_c19 {p : Program} {l : Launch} {e : Env} {s : State} {m : MethodId} {below : List Frame} {meth : Method} {c : Code} {b Ln i : Nat} {xs : Nat → Int32} {z : vz_Z} {Rl : vz_I → Prop} (hs : sim_all Rl) (hc : vz_C z (vl_M p l e s m below meth c b) code RL 12 4) (hX : vl_X z (vl_M p l e s m below meth c b) b Ln xs) (hL : Ln ≤ 2560) (hi5 : i + 5 ≤ Ln) {σ : vz_I} (hR0 : Rl σ) (hnext : ∀ σ, Rl σ → vz_V z (vl_M p l e s m below meth c b) 123 1687 1627 [(0, some (.ref 1048583)), (1, some (.ref 0)), (2, some (.ref 108)), (3, some (.int (nI i)))] [] vz_G0 σ vz_N0) : vz_V z (vl_M p l e s m below meth c b) 123 1687 827 [(0, some (.ref 1048583)), (1, some (.ref 0)), (2, some (.ref 108)), (3, some (.int (nI i)))] [] vz_G0 σ vz_N0 := by
  obtain ⟨r, σ1, σ2, h1, h2, hR⟩ := hs σ hR0 (xs (nI i + (1 : Int32)).toNatClampNeg)
  refine vr_aload_n (pc := 827) hc dL_law_827 rfl ?_
  refine vr_aload_n (pc := 828) hc dL_law_828 rfl ?_
  refine vr_iload_n (pc := 829) hc dL_law_829 rfl ?_
  refine vr_iconst (pc := 830) hc dL_law_830 (1 : Int32) (by decide) ?_
  refine vr_iadd (pc := 831) hc dL_law_831 ?_
  refine vl_ld (pc := 832) hc hX dL_law_832 (vl_ix (k := 1) hi5 (by decide) hL (1 : Int32) (by decide)) ?_
  obtain ⟨h1, rfl⟩ := h1
  refine vl_call (pc := 833) hc dL_law_833 mt_X8_all ml_L_93 gc_0 (w_X8_all z _ (xs (nI i + (1 : Int32)).toNatClampNeg) σ h1) rfl (by decide) rfl (Nat.le_of_ble_eq_true rfl) ⟨Nat.le_of_ble_eq_true rfl, Nat.le_of_ble_eq_true rfl⟩ ?_
  refine vr_aload_n (pc := 836) hc dL_law_836 rfl ?_
  refine vr_aload_n (pc := 837) hc dL_law_837 rfl ?_
  refine vr_iload_n (pc := 838) hc dL_law_838 rfl ?_
  refine vr_iconst (pc := 839) hc dL_law_839 (1 : Int32) (by decide) ?_
  refine vr_iadd (pc := 840) hc dL_law_840 ?_
  refine vl_ld (pc := 841) hc hX dL_law_841 (vl_ix (k := 1) hi5 (by decide) hL (1 : Int32) (by decide)) ?_
  refine vl_call (pc := 842) hc dL_law_842 mt_X9_all ml_L_96 gc_108 (w_X9_all z _ (xs (nI i + (1 : Int32)).toNatClampNeg) σ h2) rfl (by decide) rfl (Nat.le_of_ble_eq_true rfl) ⟨Nat.le_of_ble_eq_true rfl, Nat.le_of_ble_eq_true rfl⟩ ?_
  refine vr_icmp_eq (pc := 845) hc 1627 dL_law_845 (by decide) (fun _ => ?_) (fun q => absurd rfl q)
  exact hnext _ hR
set_option maxRecDepth 20000 in
set_option maxHeartbeats 1000000 in
theorem vl_c20 {p : Program} {l : Launch} {e : Env} {s : State} {m : MethodId} {below : List Frame} {meth : Method} {c : Code} {b Ln i : Nat} {xs : Nat → Int32} {z : vz_Z} {Rl : vz_I → Prop} (hs : sim_meet Rl) (hc : vz_C z (vl_M p l e s m below meth c b) code RL 12 4) (hX : vl_X z (vl_M p l e s m below meth c b) b Ln xs) (hL : Ln ≤ 2560) (hi5 : i + 5 ≤ Ln) {σ : vz_I} (hR0 : Rl σ) (hnext : ∀ σ, Rl σ → vz_V z (vl_M p l e s m below meth c b) 123 1687 1627 [(0, some (.ref 1048583)), (1, some (.ref 0)), (2, some (.ref 108)), (3, some (.int (nI i)))] [] vz_G0 σ vz_N0) : vz_V z (vl_M p l e s m below meth c b) 123 1687 850 [(0, some (.ref 1048583)), (1, some (.ref 0)), (2, some (.ref 108)), (3, some (.int (nI i)))] [] vz_G0 σ vz_N0 := by
  obtain ⟨r, σ1, σ2, h1, h2, hR⟩ := hs σ hR0 (xs (nI i + (1 : Int32)).toNatClampNeg) (xs (nI i + (2 : Int32)).toNatClampNeg)
  refine vr_aload_n (pc := 850) hc dL_law_850 rfl ?_
  refine vr_aload_n (pc := 851) hc dL_law_851 rfl ?_
  refine vr_iload_n (pc := 852) hc dL_law_852 rfl ?_
  refine vr_iconst (pc := 853) hc dL_law_853 (1 : Int32) (by decide) ?_
  refine vr_iadd (pc := 854) hc dL_law_854 ?_
  refine vl_ld (pc := 855) hc hX dL_law_855 (vl_ix (k := 1) hi5 (by decide) hL (1 : Int32) (by decide)) ?_
  refine vr_aload_n (pc := 856) hc dL_law_856 rfl ?_
  refine vr_iload_n (pc := 857) hc dL_law_857 rfl ?_
  refine vr_iconst (pc := 858) hc dL_law_858 (2 : Int32) (by decide) ?_
  refine vr_iadd (pc := 859) hc dL_law_859 ?_
  refine vl_ld (pc := 860) hc hX dL_law_860 (vl_ix (k := 2) hi5 (by decide) hL (2 : Int32) (by decide)) ?_
  obtain ⟨h1, rfl⟩ := h1
  refine vl_call (pc := 861) hc dL_law_861 mt_X8_meet ml_L_97 gc_0 (w_X8_meet z _ (xs (nI i + (1 : Int32)).toNatClampNeg) (xs (nI i + (2 : Int32)).toNatClampNeg) σ h1) rfl (by decide) rfl (Nat.le_of_ble_eq_true rfl) ⟨Nat.le_of_ble_eq_true rfl, Nat.le_of_ble_eq_true rfl⟩ ?_
  refine vr_aload_n (pc := 864) hc dL_law_864 rfl ?_
  refine vr_aload_n (pc := 865) hc dL_law_865 rfl ?_
  refine vr_iload_n (pc := 866) hc dL_law_866 rfl ?_
  refine vr_iconst (pc := 867) hc dL_law_867 (1 : Int32) (by decide) ?_
  refine vr_iadd (pc := 868) hc dL_law_868 ?_
  refine vl_ld (pc := 869) hc hX dL_law_869 (vl_ix (k := 1) hi5 (by decide) hL (1 : Int32) (by decide)) ?_
  refine vr_aload_n (pc := 870) hc dL_law_870 rfl ?_
  refine vr_iload_n (pc := 871) hc dL_law_871 rfl ?_
  refine vr_iconst (pc := 872) hc dL_law_872 (2 : Int32) (by decide) ?_
  refine vr_iadd (pc := 873) hc dL_law_873 ?_
  refine vl_ld (pc := 874) hc hX dL_law_874 (vl_ix (k := 2) hi5 (by decide) hL (2 : Int32) (by decide)) ?_
  obtain ⟨h2, rfl⟩ := h2
  refine vl_call (pc := 875) hc dL_law_875 mt_X9_meet ml_L_100 gc_108 (w_X9_meet z _ (xs (nI i + (1 : Int32)).toNatClampNeg) (xs (nI i + (2 : Int32)).toNatClampNeg) σ h2) rfl (by decide) rfl (Nat.le_of_ble_eq_true rfl) ⟨Nat.le_of_ble_eq_true rfl, Nat.le_of_ble_eq_true rfl⟩ ?_
  refine vr_icmp_eq (pc := 878) hc 1627 dL_law_878 (by decide) (fun _ => ?_) (fun q => absurd rfl q)
  exact hnext _ hR
set_option maxRecDepth 20000 in
set_option maxHeartbeats 1000000 in
theorem vl_c21 {p : Program} {l : Launch} {e : Env} {s : State} {m : MethodId} {below : List Frame} {meth : Method} {c : Code} {b Ln i : Nat} {xs : Nat → Int32} {z : vz_Z} {Rl : vz_I → Prop} (hs : sim_best Rl) (hc : vz_C z (vl_M p l e s m below meth c b) code RL 12 4) (hX : vl_X z (vl_M p l e s m below meth c b) b Ln xs) (hL : Ln ≤ 2560) (hi5 : i + 5 ≤ Ln) {σ : vz_I} (hR0 : Rl σ) (hnext : ∀ σ, Rl σ → vz_V z (vl_M p l e s m below meth c b) 123 1687 1627 [(0, some (.ref 1048583)), (1, some (.ref 0)), (2, some (.ref 108)), (3, some (.int (nI i)))] [] vz_G0 σ vz_N0) : vz_V z (vl_M p l e s m below meth c b) 123 1687 883 [(0, some (.ref 1048583)), (1, some (.ref 0)), (2, some (.ref 108)), (3, some (.int (nI i)))] [] vz_G0 σ vz_N0 := by
  obtain ⟨r, σ1, σ2, h1, h2, hR⟩ := hs σ hR0 (xs (nI i + (1 : Int32)).toNatClampNeg) (xs (nI i + (2 : Int32)).toNatClampNeg)
  refine vr_aload_n (pc := 883) hc dL_law_883 rfl ?_
  refine vr_aload_n (pc := 884) hc dL_law_884 rfl ?_
  refine vr_iload_n (pc := 885) hc dL_law_885 rfl ?_
  refine vr_iconst (pc := 886) hc dL_law_886 (1 : Int32) (by decide) ?_
  refine vr_iadd (pc := 887) hc dL_law_887 ?_
  refine vl_ld (pc := 888) hc hX dL_law_888 (vl_ix (k := 1) hi5 (by decide) hL (1 : Int32) (by decide)) ?_
  refine vr_aload_n (pc := 889) hc dL_law_889 rfl ?_
  refine vr_iload_n (pc := 890) hc dL_law_890 rfl ?_
  refine vr_iconst (pc := 891) hc dL_law_891 (2 : Int32) (by decide) ?_
  refine vr_iadd (pc := 892) hc dL_law_892 ?_
  refine vl_ld (pc := 893) hc hX dL_law_893 (vl_ix (k := 2) hi5 (by decide) hL (2 : Int32) (by decide)) ?_
  refine vl_call (pc := 894) hc dL_law_894 mt_X8_best ml_L_101 gc_0 (w_X8_best z _ (xs (nI i + (1 : Int32)).toNatClampNeg) (xs (nI i + (2 : Int32)).toNatClampNeg) σ h1) rfl (by decide) rfl (Nat.le_of_ble_eq_true rfl) ⟨Nat.le_of_ble_eq_true rfl, Nat.le_of_ble_eq_true rfl⟩ ?_
  refine vr_aload_n (pc := 897) hc dL_law_897 rfl ?_
  refine vr_aload_n (pc := 898) hc dL_law_898 rfl ?_
  refine vr_iload_n (pc := 899) hc dL_law_899 rfl ?_
  refine vr_iconst (pc := 900) hc dL_law_900 (1 : Int32) (by decide) ?_
  refine vr_iadd (pc := 901) hc dL_law_901 ?_
  refine vl_ld (pc := 902) hc hX dL_law_902 (vl_ix (k := 1) hi5 (by decide) hL (1 : Int32) (by decide)) ?_
  refine vr_aload_n (pc := 903) hc dL_law_903 rfl ?_
  refine vr_iload_n (pc := 904) hc dL_law_904 rfl ?_
  refine vr_iconst (pc := 905) hc dL_law_905 (2 : Int32) (by decide) ?_
  refine vr_iadd (pc := 906) hc dL_law_906 ?_
  refine vl_ld (pc := 907) hc hX dL_law_907 (vl_ix (k := 2) hi5 (by decide) hL (2 : Int32) (by decide)) ?_
  refine vl_call (pc := 908) hc dL_law_908 mt_X9_best ml_L_104 gc_108 (w_X9_best z _ (xs (nI i + (1 : Int32)).toNatClampNeg) (xs (nI i + (2 : Int32)).toNatClampNeg) σ1 h2) rfl (by decide) rfl (Nat.le_of_ble_eq_true rfl) ⟨Nat.le_of_ble_eq_true rfl, Nat.le_of_ble_eq_true rfl⟩ ?_
  refine vr_icmp_eq (pc := 911) hc 1627 dL_law_911 (by decide) (fun _ => ?_) (fun q => absurd rfl q)
  exact hnext _ hR
set_option maxRecDepth 20000 in
set_option maxHeartbeats 1000000 in
theorem vl_c22 {p : Program} {l : Launch} {e : Env} {s : State} {m : MethodId} {below : List Frame} {meth : Method} {c : Code} {b Ln i : Nat} {xs : Nat → Int32} {z : vz_Z} {Rl : vz_I → Prop} (hs : sim_late Rl) (hc : vz_C z (vl_M p l e s m below meth c b) code RL 12 4) (hX : vl_X z (vl_M p l e s m below meth c b) b Ln xs) (hL : Ln ≤ 2560) (hi5 : i + 5 ≤ Ln) {σ : vz_I} (hR0 : Rl σ) (hnext : ∀ σ, Rl σ → vz_V z (vl_M p l e s m below meth c b) 123 1687 1627 [(0, some (.ref 1048583)), (1, some (.ref 0)), (2, some (.ref 108)), (3, some (.int (nI i)))] [] vz_G0 σ vz_N0) : vz_V z (vl_M p l e s m below meth c b) 123 1687 916 [(0, some (.ref 1048583)), (1, some (.ref 0)), (2, some (.ref 108)), (3, some (.int (nI i)))] [] vz_G0 σ vz_N0 := by
  obtain ⟨r, σ1, σ2, h1, h2, hR⟩ := hs σ hR0 (xs (nI i + (1 : Int32)).toNatClampNeg) (xs (nI i + (2 : Int32)).toNatClampNeg)
  refine vr_aload_n (pc := 916) hc dL_law_916 rfl ?_
  refine vr_aload_n (pc := 917) hc dL_law_917 rfl ?_
  refine vr_iload_n (pc := 918) hc dL_law_918 rfl ?_
  refine vr_iconst (pc := 919) hc dL_law_919 (1 : Int32) (by decide) ?_
  refine vr_iadd (pc := 920) hc dL_law_920 ?_
  refine vl_ld (pc := 921) hc hX dL_law_921 (vl_ix (k := 1) hi5 (by decide) hL (1 : Int32) (by decide)) ?_
  refine vr_aload_n (pc := 922) hc dL_law_922 rfl ?_
  refine vr_iload_n (pc := 923) hc dL_law_923 rfl ?_
  refine vr_iconst (pc := 924) hc dL_law_924 (2 : Int32) (by decide) ?_
  refine vr_iadd (pc := 925) hc dL_law_925 ?_
  refine vl_ld (pc := 926) hc hX dL_law_926 (vl_ix (k := 2) hi5 (by decide) hL (2 : Int32) (by decide)) ?_
  refine vl_call (pc := 927) hc dL_law_927 mt_X8_late ml_L_105 gc_0 (w_X8_late z _ (xs (nI i + (1 : Int32)).toNatClampNeg) (xs (nI i + (2 : Int32)).toNatClampNeg) σ h1) rfl (by decide) rfl (Nat.le_of_ble_eq_true rfl) ⟨Nat.le_of_ble_eq_true rfl, Nat.le_of_ble_eq_true rfl⟩ ?_
  refine vr_aload_n (pc := 930) hc dL_law_930 rfl ?_
  refine vr_aload_n (pc := 931) hc dL_law_931 rfl ?_
  refine vr_iload_n (pc := 932) hc dL_law_932 rfl ?_
  refine vr_iconst (pc := 933) hc dL_law_933 (1 : Int32) (by decide) ?_
  refine vr_iadd (pc := 934) hc dL_law_934 ?_
  refine vl_ld (pc := 935) hc hX dL_law_935 (vl_ix (k := 1) hi5 (by decide) hL (1 : Int32) (by decide)) ?_
  refine vr_aload_n (pc := 936) hc dL_law_936 rfl ?_
  refine vr_iload_n (pc := 937) hc dL_law_937 rfl ?_
  refine vr_iconst (pc := 938) hc dL_law_938 (2 : Int32) (by decide) ?_
  refine vr_iadd (pc := 939) hc dL_law_939 ?_
  refine vl_ld (pc := 940) hc hX dL_law_940 (vl_ix (k := 2) hi5 (by decide) hL (2 : Int32) (by decide)) ?_
  refine vl_call (pc := 941) hc dL_law_941 mt_X9_late ml_L_108 gc_108 (w_X9_late z _ (xs (nI i + (1 : Int32)).toNatClampNeg) (xs (nI i + (2 : Int32)).toNatClampNeg) σ1 h2) rfl (by decide) rfl (Nat.le_of_ble_eq_true rfl) ⟨Nat.le_of_ble_eq_true rfl, Nat.le_of_ble_eq_true rfl⟩ ?_
  refine vr_icmp_eq (pc := 944) hc 1627 dL_law_944 (by decide) (fun _ => ?_) (fun q => absurd rfl q)
  exact hnext _ hR
set_option maxRecDepth 20000 in
set_option maxHeartbeats 1000000 in
theorem vl_c23 {p : Program} {l : Launch} {e : Env} {s : State} {m : MethodId} {below : List Frame} {meth : Method} {c : Code} {b Ln i : Nat} {xs : Nat → Int32} {z : vz_Z} {Rl : vz_I → Prop} (hs : sim_soon Rl) (hc : vz_C z (vl_M p l e s m below meth c b) code RL 12 4) (hX : vl_X z (vl_M p l e s m below meth c b) b Ln xs) (hL : Ln ≤ 2560) (hi5 : i + 5 ≤ Ln) {σ : vz_I} (hR0 : Rl σ) (hnext : ∀ σ, Rl σ → vz_V z (vl_M p l e s m below meth c b) 123 1687 1627 [(0, some (.ref 1048583)), (1, some (.ref 0)), (2, some (.ref 108)), (3, some (.int (nI i)))] [] vz_G0 σ vz_N0) : vz_V z (vl_M p l e s m below meth c b) 123 1687 949 [(0, some (.ref 1048583)), (1, some (.ref 0)), (2, some (.ref 108)), (3, some (.int (nI i)))] [] vz_G0 σ vz_N0 := by
  obtain ⟨r, σ1, σ2, h1, h2, hR⟩ := hs σ hR0 (xs (nI i + (1 : Int32)).toNatClampNeg) (xs (nI i + (2 : Int32)).toNatClampNeg)
  refine vr_aload_n (pc := 949) hc dL_law_949 rfl ?_
  refine vr_aload_n (pc := 950) hc dL_law_950 rfl ?_
  refine vr_iload_n (pc := 951) hc dL_law_951 rfl ?_
  refine vr_iconst (pc := 952) hc dL_law_952 (1 : Int32) (by decide) ?_
  refine vr_iadd (pc := 953) hc dL_law_953 ?_
  refine vl_ld (pc := 954) hc hX dL_law_954 (vl_ix (k := 1) hi5 (by decide) hL (1 : Int32) (by decide)) ?_
  refine vr_aload_n (pc := 955) hc dL_law_955 rfl ?_
  refine vr_iload_n (pc := 956) hc dL_law_956 rfl ?_
  refine vr_iconst (pc := 957) hc dL_law_957 (2 : Int32) (by decide) ?_
  refine vr_iadd (pc := 958) hc dL_law_958 ?_
  refine vl_ld (pc := 959) hc hX dL_law_959 (vl_ix (k := 2) hi5 (by decide) hL (2 : Int32) (by decide)) ?_
  refine vl_call (pc := 960) hc dL_law_960 mt_X8_soon ml_L_109 gc_0 (w_X8_soon z _ (xs (nI i + (1 : Int32)).toNatClampNeg) (xs (nI i + (2 : Int32)).toNatClampNeg) σ h1) rfl (by decide) rfl (Nat.le_of_ble_eq_true rfl) ⟨Nat.le_of_ble_eq_true rfl, Nat.le_of_ble_eq_true rfl⟩ ?_
  refine vr_aload_n (pc := 963) hc dL_law_963 rfl ?_
  refine vr_aload_n (pc := 964) hc dL_law_964 rfl ?_
  refine vr_iload_n (pc := 965) hc dL_law_965 rfl ?_
  refine vr_iconst (pc := 966) hc dL_law_966 (1 : Int32) (by decide) ?_
  refine vr_iadd (pc := 967) hc dL_law_967 ?_
  refine vl_ld (pc := 968) hc hX dL_law_968 (vl_ix (k := 1) hi5 (by decide) hL (1 : Int32) (by decide)) ?_
  refine vr_aload_n (pc := 969) hc dL_law_969 rfl ?_
  refine vr_iload_n (pc := 970) hc dL_law_970 rfl ?_
  refine vr_iconst (pc := 971) hc dL_law_971 (2 : Int32) (by decide) ?_
  refine vr_iadd (pc := 972) hc dL_law_972 ?_
  refine vl_ld (pc := 973) hc hX dL_law_973 (vl_ix (k := 2) hi5 (by decide) hL (2 : Int32) (by decide)) ?_
  refine vl_call (pc := 974) hc dL_law_974 mt_X9_soon ml_L_112 gc_108 (w_X9_soon z _ (xs (nI i + (1 : Int32)).toNatClampNeg) (xs (nI i + (2 : Int32)).toNatClampNeg) σ1 h2) rfl (by decide) rfl (Nat.le_of_ble_eq_true rfl) ⟨Nat.le_of_ble_eq_true rfl, Nat.le_of_ble_eq_true rfl⟩ ?_
  refine vr_icmp_eq (pc := 977) hc 1627 dL_law_977 (by decide) (fun _ => ?_) (fun q => absurd rfl q)
  exact hnext _ hR
set_option maxRecDepth 20000 in
set_option maxHeartbeats 1000000 in
theorem vl_c24 {p : Program} {l : Launch} {e : Env} {s : State} {m : MethodId} {below : List Frame} {meth : Method} {c : Code} {b Ln i : Nat} {xs : Nat → Int32} {z : vz_Z} {Rl : vz_I → Prop} (hs : sim_begin Rl) (hc : vz_C z (vl_M p l e s m below meth c b) code RL 12 4) (hX : vl_X z (vl_M p l e s m below meth c b) b Ln xs) (hL : Ln ≤ 2560) (hi5 : i + 5 ≤ Ln) {σ : vz_I} (hR0 : Rl σ) (hnext : ∀ σ, Rl σ → vz_V z (vl_M p l e s m below meth c b) 123 1687 1627 [(0, some (.ref 1048583)), (1, some (.ref 0)), (2, some (.ref 108)), (3, some (.int (nI i)))] [] vz_G0 σ vz_N0) : vz_V z (vl_M p l e s m below meth c b) 123 1687 982 [(0, some (.ref 1048583)), (1, some (.ref 0)), (2, some (.ref 108)), (3, some (.int (nI i)))] [] vz_G0 σ vz_N0 := by
  obtain ⟨r, σ1, σ2, h1, h2, hR⟩ := hs σ hR0 (xs (nI i + (1 : Int32)).toNatClampNeg) (xs (nI i + (2 : Int32)).toNatClampNeg)
  refine vr_aload_n (pc := 982) hc dL_law_982 rfl ?_
  refine vr_aload_n (pc := 983) hc dL_law_983 rfl ?_
  refine vr_iload_n (pc := 984) hc dL_law_984 rfl ?_
  refine vr_iconst (pc := 985) hc dL_law_985 (1 : Int32) (by decide) ?_
  refine vr_iadd (pc := 986) hc dL_law_986 ?_
  refine vl_ld (pc := 987) hc hX dL_law_987 (vl_ix (k := 1) hi5 (by decide) hL (1 : Int32) (by decide)) ?_
  refine vr_aload_n (pc := 988) hc dL_law_988 rfl ?_
  refine vr_iload_n (pc := 989) hc dL_law_989 rfl ?_
  refine vr_iconst (pc := 990) hc dL_law_990 (2 : Int32) (by decide) ?_
  refine vr_iadd (pc := 991) hc dL_law_991 ?_
  refine vl_ld (pc := 992) hc hX dL_law_992 (vl_ix (k := 2) hi5 (by decide) hL (2 : Int32) (by decide)) ?_
  refine vl_call (pc := 993) hc dL_law_993 mt_X8_begin ml_L_113 gc_0 (w_X8_begin z _ (xs (nI i + (1 : Int32)).toNatClampNeg) (xs (nI i + (2 : Int32)).toNatClampNeg) σ h1) rfl (by decide) rfl (Nat.le_of_ble_eq_true rfl) ⟨Nat.le_of_ble_eq_true rfl, Nat.le_of_ble_eq_true rfl⟩ ?_
  refine vr_aload_n (pc := 996) hc dL_law_996 rfl ?_
  refine vr_aload_n (pc := 997) hc dL_law_997 rfl ?_
  refine vr_iload_n (pc := 998) hc dL_law_998 rfl ?_
  refine vr_iconst (pc := 999) hc dL_law_999 (1 : Int32) (by decide) ?_
  refine vr_iadd (pc := 1000) hc dL_law_1000 ?_
  refine vl_ld (pc := 1001) hc hX dL_law_1001 (vl_ix (k := 1) hi5 (by decide) hL (1 : Int32) (by decide)) ?_
  refine vr_aload_n (pc := 1002) hc dL_law_1002 rfl ?_
  refine vr_iload_n (pc := 1003) hc dL_law_1003 rfl ?_
  refine vr_iconst (pc := 1004) hc dL_law_1004 (2 : Int32) (by decide) ?_
  refine vr_iadd (pc := 1005) hc dL_law_1005 ?_
  refine vl_ld (pc := 1006) hc hX dL_law_1006 (vl_ix (k := 2) hi5 (by decide) hL (2 : Int32) (by decide)) ?_
  refine vl_call (pc := 1007) hc dL_law_1007 mt_X9_begin ml_L_116 gc_108 (w_X9_begin z _ (xs (nI i + (1 : Int32)).toNatClampNeg) (xs (nI i + (2 : Int32)).toNatClampNeg) σ1 h2) rfl (by decide) rfl (Nat.le_of_ble_eq_true rfl) ⟨Nat.le_of_ble_eq_true rfl, Nat.le_of_ble_eq_true rfl⟩ ?_
  refine vr_icmp_eq (pc := 1010) hc 1627 dL_law_1010 (by decide) (fun _ => ?_) (fun q => absurd rfl q)
  exact hnext _ hR
set_option maxRecDepth 20000 in
set_option maxHeartbeats 1000000 in
theorem vl_c25 {p : Program} {l : Launch} {e : Env} {s : State} {m : MethodId} {below : List Frame} {meth : Method} {c : Code} {b Ln i : Nat} {xs : Nat → Int32} {z : vz_Z} {Rl : vz_I → Prop} (hs : sim_kind Rl) (hc : vz_C z (vl_M p l e s m below meth c b) code RL 12 4) (hX : vl_X z (vl_M p l e s m below meth c b) b Ln xs) (hL : Ln ≤ 2560) (hi5 : i + 5 ≤ Ln) {σ : vz_I} (hR0 : Rl σ) (hnext : ∀ σ, Rl σ → vz_V z (vl_M p l e s m below meth c b) 123 1687 1627 [(0, some (.ref 1048583)), (1, some (.ref 0)), (2, some (.ref 108)), (3, some (.int (nI i)))] [] vz_G0 σ vz_N0) : vz_V z (vl_M p l e s m below meth c b) 123 1687 1015 [(0, some (.ref 1048583)), (1, some (.ref 0)), (2, some (.ref 108)), (3, some (.int (nI i)))] [] vz_G0 σ vz_N0 := by
  obtain ⟨r, σ1, σ2, h1, h2, hR⟩ := hs σ hR0 (xs (nI i + (1 : Int32)).toNatClampNeg) (xs (nI i + (2 : Int32)).toNatClampNeg)
  refine vr_aload_n (pc := 1015) hc dL_law_1015 rfl ?_
  refine vr_aload_n (pc := 1016) hc dL_law_1016 rfl ?_
  refine vr_iload_n (pc := 1017) hc dL_law_1017 rfl ?_
  refine vr_iconst (pc := 1018) hc dL_law_1018 (1 : Int32) (by decide) ?_
  refine vr_iadd (pc := 1019) hc dL_law_1019 ?_
  refine vl_ld (pc := 1020) hc hX dL_law_1020 (vl_ix (k := 1) hi5 (by decide) hL (1 : Int32) (by decide)) ?_
  refine vr_aload_n (pc := 1021) hc dL_law_1021 rfl ?_
  refine vr_iload_n (pc := 1022) hc dL_law_1022 rfl ?_
  refine vr_iconst (pc := 1023) hc dL_law_1023 (2 : Int32) (by decide) ?_
  refine vr_iadd (pc := 1024) hc dL_law_1024 ?_
  refine vl_ld (pc := 1025) hc hX dL_law_1025 (vl_ix (k := 2) hi5 (by decide) hL (2 : Int32) (by decide)) ?_
  refine vl_call (pc := 1026) hc dL_law_1026 mt_X8_kind ml_L_117 gc_0 (w_X8_kind z _ (xs (nI i + (1 : Int32)).toNatClampNeg) (xs (nI i + (2 : Int32)).toNatClampNeg) σ h1) rfl (by decide) rfl (Nat.le_of_ble_eq_true rfl) ⟨Nat.le_of_ble_eq_true rfl, Nat.le_of_ble_eq_true rfl⟩ ?_
  refine vr_aload_n (pc := 1029) hc dL_law_1029 rfl ?_
  refine vr_aload_n (pc := 1030) hc dL_law_1030 rfl ?_
  refine vr_iload_n (pc := 1031) hc dL_law_1031 rfl ?_
  refine vr_iconst (pc := 1032) hc dL_law_1032 (1 : Int32) (by decide) ?_
  refine vr_iadd (pc := 1033) hc dL_law_1033 ?_
  refine vl_ld (pc := 1034) hc hX dL_law_1034 (vl_ix (k := 1) hi5 (by decide) hL (1 : Int32) (by decide)) ?_
  refine vr_aload_n (pc := 1035) hc dL_law_1035 rfl ?_
  refine vr_iload_n (pc := 1036) hc dL_law_1036 rfl ?_
  refine vr_iconst (pc := 1037) hc dL_law_1037 (2 : Int32) (by decide) ?_
  refine vr_iadd (pc := 1038) hc dL_law_1038 ?_
  refine vl_ld (pc := 1039) hc hX dL_law_1039 (vl_ix (k := 2) hi5 (by decide) hL (2 : Int32) (by decide)) ?_
  refine vl_call (pc := 1040) hc dL_law_1040 mt_X9_kind ml_L_120 gc_108 (w_X9_kind z _ (xs (nI i + (1 : Int32)).toNatClampNeg) (xs (nI i + (2 : Int32)).toNatClampNeg) σ1 h2) rfl (by decide) rfl (Nat.le_of_ble_eq_true rfl) ⟨Nat.le_of_ble_eq_true rfl, Nat.le_of_ble_eq_true rfl⟩ ?_
  refine vr_icmp_eq (pc := 1043) hc 1627 dL_law_1043 (by decide) (fun _ => ?_) (fun q => absurd rfl q)
  exact hnext _ hR
set_option maxRecDepth 20000 in
set_option maxHeartbeats 1000000 in
theorem vl_c26 {p : Program} {l : Launch} {e : Env} {s : State} {m : MethodId} {below : List Frame} {meth : Method} {c : Code} {b Ln i : Nat} {xs : Nat → Int32} {z : vz_Z} {Rl : vz_I → Prop} (hs : sim_swap Rl) (hc : vz_C z (vl_M p l e s m below meth c b) code RL 12 4) (hX : vl_X z (vl_M p l e s m below meth c b) b Ln xs) (hL : Ln ≤ 2560) (hi5 : i + 5 ≤ Ln) {σ : vz_I} (hR0 : Rl σ) (hnext : ∀ σ, Rl σ → vz_V z (vl_M p l e s m below meth c b) 123 1687 1627 [(0, some (.ref 1048583)), (1, some (.ref 0)), (2, some (.ref 108)), (3, some (.int (nI i)))] [] vz_G0 σ vz_N0) : vz_V z (vl_M p l e s m below meth c b) 123 1687 1048 [(0, some (.ref 1048583)), (1, some (.ref 0)), (2, some (.ref 108)), (3, some (.int (nI i)))] [] vz_G0 σ vz_N0 := by
  obtain ⟨r, σ1, σ2, h1, h2, hR⟩ := hs σ hR0 (xs (nI i + (1 : Int32)).toNatClampNeg)
  refine vr_aload_n (pc := 1048) hc dL_law_1048 rfl ?_
  refine vr_aload_n (pc := 1049) hc dL_law_1049 rfl ?_
  refine vr_iload_n (pc := 1050) hc dL_law_1050 rfl ?_
  refine vr_iconst (pc := 1051) hc dL_law_1051 (1 : Int32) (by decide) ?_
  refine vr_iadd (pc := 1052) hc dL_law_1052 ?_
  refine vl_ld (pc := 1053) hc hX dL_law_1053 (vl_ix (k := 1) hi5 (by decide) hL (1 : Int32) (by decide)) ?_
  refine vl_call (pc := 1054) hc dL_law_1054 mt_X8_swap ml_L_121 gc_0 (w_X8_swap z _ (xs (nI i + (1 : Int32)).toNatClampNeg) σ h1) rfl (by decide) rfl (Nat.le_of_ble_eq_true rfl) ⟨Nat.le_of_ble_eq_true rfl, Nat.le_of_ble_eq_true rfl⟩ ?_
  refine vr_aload_n (pc := 1057) hc dL_law_1057 rfl ?_
  refine vr_aload_n (pc := 1058) hc dL_law_1058 rfl ?_
  refine vr_iload_n (pc := 1059) hc dL_law_1059 rfl ?_
  refine vr_iconst (pc := 1060) hc dL_law_1060 (1 : Int32) (by decide) ?_
  refine vr_iadd (pc := 1061) hc dL_law_1061 ?_
  refine vl_ld (pc := 1062) hc hX dL_law_1062 (vl_ix (k := 1) hi5 (by decide) hL (1 : Int32) (by decide)) ?_
  refine vl_call (pc := 1063) hc dL_law_1063 mt_X9_swap ml_L_124 gc_108 (w_X9_swap z _ (xs (nI i + (1 : Int32)).toNatClampNeg) σ1 h2) rfl (by decide) rfl (Nat.le_of_ble_eq_true rfl) ⟨Nat.le_of_ble_eq_true rfl, Nat.le_of_ble_eq_true rfl⟩ ?_
  refine vr_icmp_eq (pc := 1066) hc 1627 dL_law_1066 (by decide) (fun _ => ?_) (fun q => absurd rfl q)
  exact hnext _ hR
set_option maxRecDepth 20000 in
set_option maxHeartbeats 1000000 in
theorem vl_c27 {p : Program} {l : Launch} {e : Env} {s : State} {m : MethodId} {below : List Frame} {meth : Method} {c : Code} {b Ln i : Nat} {xs : Nat → Int32} {z : vz_Z} {Rl : vz_I → Prop} (hs : sim_spoil Rl) (hc : vz_C z (vl_M p l e s m below meth c b) code RL 12 4) (hX : vl_X z (vl_M p l e s m below meth c b) b Ln xs) (hL : Ln ≤ 2560) (hi5 : i + 5 ≤ Ln) {σ : vz_I} (hR0 : Rl σ) (hnext : ∀ σ, Rl σ → vz_V z (vl_M p l e s m below meth c b) 123 1687 1627 [(0, some (.ref 1048583)), (1, some (.ref 0)), (2, some (.ref 108)), (3, some (.int (nI i)))] [] vz_G0 σ vz_N0) : vz_V z (vl_M p l e s m below meth c b) 123 1687 1071 [(0, some (.ref 1048583)), (1, some (.ref 0)), (2, some (.ref 108)), (3, some (.int (nI i)))] [] vz_G0 σ vz_N0 := by
  obtain ⟨r, σ1, σ2, h1, h2, hR⟩ := hs σ hR0 (xs (nI i + (1 : Int32)).toNatClampNeg) (xs (nI i + (2 : Int32)).toNatClampNeg)
  refine vr_aload_n (pc := 1071) hc dL_law_1071 rfl ?_
  refine vr_aload_n (pc := 1072) hc dL_law_1072 rfl ?_
  refine vr_iload_n (pc := 1073) hc dL_law_1073 rfl ?_
  refine vr_iconst (pc := 1074) hc dL_law_1074 (1 : Int32) (by decide) ?_
  refine vr_iadd (pc := 1075) hc dL_law_1075 ?_
  refine vl_ld (pc := 1076) hc hX dL_law_1076 (vl_ix (k := 1) hi5 (by decide) hL (1 : Int32) (by decide)) ?_
  refine vr_aload_n (pc := 1077) hc dL_law_1077 rfl ?_
  refine vr_iload_n (pc := 1078) hc dL_law_1078 rfl ?_
  refine vr_iconst (pc := 1079) hc dL_law_1079 (2 : Int32) (by decide) ?_
  refine vr_iadd (pc := 1080) hc dL_law_1080 ?_
  refine vl_ld (pc := 1081) hc hX dL_law_1081 (vl_ix (k := 2) hi5 (by decide) hL (2 : Int32) (by decide)) ?_
  refine vl_call (pc := 1082) hc dL_law_1082 mt_X8_spoil ml_L_125 gc_0 (w_X8_spoil z _ (xs (nI i + (1 : Int32)).toNatClampNeg) (xs (nI i + (2 : Int32)).toNatClampNeg) σ h1) rfl (by decide) rfl (Nat.le_of_ble_eq_true rfl) ⟨Nat.le_of_ble_eq_true rfl, Nat.le_of_ble_eq_true rfl⟩ ?_
  refine vr_aload_n (pc := 1085) hc dL_law_1085 rfl ?_
  refine vr_aload_n (pc := 1086) hc dL_law_1086 rfl ?_
  refine vr_iload_n (pc := 1087) hc dL_law_1087 rfl ?_
  refine vr_iconst (pc := 1088) hc dL_law_1088 (1 : Int32) (by decide) ?_
  refine vr_iadd (pc := 1089) hc dL_law_1089 ?_
  refine vl_ld (pc := 1090) hc hX dL_law_1090 (vl_ix (k := 1) hi5 (by decide) hL (1 : Int32) (by decide)) ?_
  refine vr_aload_n (pc := 1091) hc dL_law_1091 rfl ?_
  refine vr_iload_n (pc := 1092) hc dL_law_1092 rfl ?_
  refine vr_iconst (pc := 1093) hc dL_law_1093 (2 : Int32) (by decide) ?_
  refine vr_iadd (pc := 1094) hc dL_law_1094 ?_
  refine vl_ld (pc := 1095) hc hX dL_law_1095 (vl_ix (k := 2) hi5 (by decide) hL (2 : Int32) (by decide)) ?_
  refine vl_call (pc := 1096) hc dL_law_1096 mt_X9_spoil ml_L_128 gc_108 (w_X9_spoil z _ (xs (nI i + (1 : Int32)).toNatClampNeg) (xs (nI i + (2 : Int32)).toNatClampNeg) σ1 h2) rfl (by decide) rfl (Nat.le_of_ble_eq_true rfl) ⟨Nat.le_of_ble_eq_true rfl, Nat.le_of_ble_eq_true rfl⟩ ?_
  refine vr_icmp_eq (pc := 1099) hc 1627 dL_law_1099 (by decide) (fun _ => ?_) (fun q => absurd rfl q)
  exact hnext _ hR
set_option maxRecDepth 20000 in
set_option maxHeartbeats 1000000 in
theorem vl_c28 {p : Program} {l : Launch} {e : Env} {s : State} {m : MethodId} {below : List Frame} {meth : Method} {c : Code} {b Ln i : Nat} {xs : Nat → Int32} {z : vz_Z} {Rl : vz_I → Prop} (hs : sim_luck Rl) (hc : vz_C z (vl_M p l e s m below meth c b) code RL 12 4) (hX : vl_X z (vl_M p l e s m below meth c b) b Ln xs) (hL : Ln ≤ 2560) (hi5 : i + 5 ≤ Ln) {σ : vz_I} (hR0 : Rl σ) (hnext : ∀ σ, Rl σ → vz_V z (vl_M p l e s m below meth c b) 123 1687 1627 [(0, some (.ref 1048583)), (1, some (.ref 0)), (2, some (.ref 108)), (3, some (.int (nI i)))] [] vz_G0 σ vz_N0) : vz_V z (vl_M p l e s m below meth c b) 123 1687 1104 [(0, some (.ref 1048583)), (1, some (.ref 0)), (2, some (.ref 108)), (3, some (.int (nI i)))] [] vz_G0 σ vz_N0 := by
  obtain ⟨r, σ1, σ2, h1, h2, hR⟩ := hs σ hR0 (xs (nI i + (1 : Int32)).toNatClampNeg) (xs (nI i + (2 : Int32)).toNatClampNeg) (xs (nI i + (3 : Int32)).toNatClampNeg) (xs (nI i + (4 : Int32)).toNatClampNeg)
  refine vr_aload_n (pc := 1104) hc dL_law_1104 rfl ?_
  refine vr_aload_n (pc := 1105) hc dL_law_1105 rfl ?_
  refine vr_iload_n (pc := 1106) hc dL_law_1106 rfl ?_
  refine vr_iconst (pc := 1107) hc dL_law_1107 (1 : Int32) (by decide) ?_
  refine vr_iadd (pc := 1108) hc dL_law_1108 ?_
  refine vl_ld (pc := 1109) hc hX dL_law_1109 (vl_ix (k := 1) hi5 (by decide) hL (1 : Int32) (by decide)) ?_
  refine vr_aload_n (pc := 1110) hc dL_law_1110 rfl ?_
  refine vr_iload_n (pc := 1111) hc dL_law_1111 rfl ?_
  refine vr_iconst (pc := 1112) hc dL_law_1112 (2 : Int32) (by decide) ?_
  refine vr_iadd (pc := 1113) hc dL_law_1113 ?_
  refine vl_ld (pc := 1114) hc hX dL_law_1114 (vl_ix (k := 2) hi5 (by decide) hL (2 : Int32) (by decide)) ?_
  refine vr_aload_n (pc := 1115) hc dL_law_1115 rfl ?_
  refine vr_iload_n (pc := 1116) hc dL_law_1116 rfl ?_
  refine vr_iconst (pc := 1117) hc dL_law_1117 (3 : Int32) (by decide) ?_
  refine vr_iadd (pc := 1118) hc dL_law_1118 ?_
  refine vl_ld (pc := 1119) hc hX dL_law_1119 (vl_ix (k := 3) hi5 (by decide) hL (3 : Int32) (by decide)) ?_
  refine vr_aload_n (pc := 1120) hc dL_law_1120 rfl ?_
  refine vr_iload_n (pc := 1121) hc dL_law_1121 rfl ?_
  refine vr_iconst (pc := 1122) hc dL_law_1122 (4 : Int32) (by decide) ?_
  refine vr_iadd (pc := 1123) hc dL_law_1123 ?_
  refine vl_ld (pc := 1124) hc hX dL_law_1124 (vl_ix (k := 4) hi5 (by decide) hL (4 : Int32) (by decide)) ?_
  obtain ⟨h1, rfl⟩ := h1
  refine vl_call (pc := 1125) hc dL_law_1125 mt_X8_luck ml_L_129 gc_0 (w_X8_luck z _ (xs (nI i + (1 : Int32)).toNatClampNeg) (xs (nI i + (2 : Int32)).toNatClampNeg) (xs (nI i + (3 : Int32)).toNatClampNeg) (xs (nI i + (4 : Int32)).toNatClampNeg) σ h1) rfl (by decide) rfl (Nat.le_of_ble_eq_true rfl) ⟨Nat.le_of_ble_eq_true rfl, Nat.le_of_ble_eq_true rfl⟩ ?_
  refine vr_aload_n (pc := 1128) hc dL_law_1128 rfl ?_
  refine vr_aload_n (pc := 1129) hc dL_law_1129 rfl ?_
  refine vr_iload_n (pc := 1130) hc dL_law_1130 rfl ?_
  refine vr_iconst (pc := 1131) hc dL_law_1131 (1 : Int32) (by decide) ?_
  refine vr_iadd (pc := 1132) hc dL_law_1132 ?_
  refine vl_ld (pc := 1133) hc hX dL_law_1133 (vl_ix (k := 1) hi5 (by decide) hL (1 : Int32) (by decide)) ?_
  refine vr_aload_n (pc := 1134) hc dL_law_1134 rfl ?_
  refine vr_iload_n (pc := 1135) hc dL_law_1135 rfl ?_
  refine vr_iconst (pc := 1136) hc dL_law_1136 (2 : Int32) (by decide) ?_
  refine vr_iadd (pc := 1137) hc dL_law_1137 ?_
  refine vl_ld (pc := 1138) hc hX dL_law_1138 (vl_ix (k := 2) hi5 (by decide) hL (2 : Int32) (by decide)) ?_
  refine vr_aload_n (pc := 1139) hc dL_law_1139 rfl ?_
  refine vr_iload_n (pc := 1140) hc dL_law_1140 rfl ?_
  refine vr_iconst (pc := 1141) hc dL_law_1141 (3 : Int32) (by decide) ?_
  refine vr_iadd (pc := 1142) hc dL_law_1142 ?_
  refine vl_ld (pc := 1143) hc hX dL_law_1143 (vl_ix (k := 3) hi5 (by decide) hL (3 : Int32) (by decide)) ?_
  refine vr_aload_n (pc := 1144) hc dL_law_1144 rfl ?_
  refine vr_iload_n (pc := 1145) hc dL_law_1145 rfl ?_
  refine vr_iconst (pc := 1146) hc dL_law_1146 (4 : Int32) (by decide) ?_
  refine vr_iadd (pc := 1147) hc dL_law_1147 ?_
  refine vl_ld (pc := 1148) hc hX dL_law_1148 (vl_ix (k := 4) hi5 (by decide) hL (4 : Int32) (by decide)) ?_
  refine vl_call (pc := 1149) hc dL_law_1149 mt_X9_luck ml_L_133 gc_108 (w_X9_luck z _ (xs (nI i + (1 : Int32)).toNatClampNeg) (xs (nI i + (2 : Int32)).toNatClampNeg) (xs (nI i + (3 : Int32)).toNatClampNeg) (xs (nI i + (4 : Int32)).toNatClampNeg) σ h2) rfl (by decide) rfl (Nat.le_of_ble_eq_true rfl) ⟨Nat.le_of_ble_eq_true rfl, Nat.le_of_ble_eq_true rfl⟩ ?_
  refine vr_lcmp (pc := 1152) hc dL_law_1152 ?_
  refine vr_if_eq (pc := 1153) hc 1627 dL_law_1153 (by decide) (fun _ => ?_) (fun q => absurd (by simp [lg_cmp]) q)
  exact hnext _ hR
set_option maxRecDepth 20000 in
set_option maxHeartbeats 1000000 in
theorem vl_c29 {p : Program} {l : Launch} {e : Env} {s : State} {m : MethodId} {below : List Frame} {meth : Method} {c : Code} {b Ln i : Nat} {xs : Nat → Int32} {z : vz_Z} {Rl : vz_I → Prop} (hs : sim_mean Rl) (hc : vz_C z (vl_M p l e s m below meth c b) code RL 12 4) (hX : vl_X z (vl_M p l e s m below meth c b) b Ln xs) (hL : Ln ≤ 2560) (hi5 : i + 5 ≤ Ln) {σ : vz_I} (hR0 : Rl σ) (hnext : ∀ σ, Rl σ → vz_V z (vl_M p l e s m below meth c b) 123 1687 1627 [(0, some (.ref 1048583)), (1, some (.ref 0)), (2, some (.ref 108)), (3, some (.int (nI i)))] [] vz_G0 σ vz_N0) : vz_V z (vl_M p l e s m below meth c b) 123 1687 1158 [(0, some (.ref 1048583)), (1, some (.ref 0)), (2, some (.ref 108)), (3, some (.int (nI i)))] [] vz_G0 σ vz_N0 := by
  obtain ⟨r, σ1, σ2, h1, h2, hR⟩ := hs σ hR0 (xs (nI i + (1 : Int32)).toNatClampNeg) (xs (nI i + (2 : Int32)).toNatClampNeg)
  refine vr_aload_n (pc := 1158) hc dL_law_1158 rfl ?_
  refine vr_aload_n (pc := 1159) hc dL_law_1159 rfl ?_
  refine vr_iload_n (pc := 1160) hc dL_law_1160 rfl ?_
  refine vr_iconst (pc := 1161) hc dL_law_1161 (1 : Int32) (by decide) ?_
  refine vr_iadd (pc := 1162) hc dL_law_1162 ?_
  refine vl_ld (pc := 1163) hc hX dL_law_1163 (vl_ix (k := 1) hi5 (by decide) hL (1 : Int32) (by decide)) ?_
  refine vr_aload_n (pc := 1164) hc dL_law_1164 rfl ?_
  refine vr_iload_n (pc := 1165) hc dL_law_1165 rfl ?_
  refine vr_iconst (pc := 1166) hc dL_law_1166 (2 : Int32) (by decide) ?_
  refine vr_iadd (pc := 1167) hc dL_law_1167 ?_
  refine vl_ld (pc := 1168) hc hX dL_law_1168 (vl_ix (k := 2) hi5 (by decide) hL (2 : Int32) (by decide)) ?_
  obtain ⟨h1, rfl⟩ := h1
  refine vl_call (pc := 1169) hc dL_law_1169 mt_X8_mean ml_L_134 gc_0 (w_X8_mean z _ (xs (nI i + (1 : Int32)).toNatClampNeg) (xs (nI i + (2 : Int32)).toNatClampNeg) σ h1) rfl (by decide) rfl (Nat.le_of_ble_eq_true rfl) ⟨Nat.le_of_ble_eq_true rfl, Nat.le_of_ble_eq_true rfl⟩ ?_
  refine vr_aload_n (pc := 1172) hc dL_law_1172 rfl ?_
  refine vr_aload_n (pc := 1173) hc dL_law_1173 rfl ?_
  refine vr_iload_n (pc := 1174) hc dL_law_1174 rfl ?_
  refine vr_iconst (pc := 1175) hc dL_law_1175 (1 : Int32) (by decide) ?_
  refine vr_iadd (pc := 1176) hc dL_law_1176 ?_
  refine vl_ld (pc := 1177) hc hX dL_law_1177 (vl_ix (k := 1) hi5 (by decide) hL (1 : Int32) (by decide)) ?_
  refine vr_aload_n (pc := 1178) hc dL_law_1178 rfl ?_
  refine vr_iload_n (pc := 1179) hc dL_law_1179 rfl ?_
  refine vr_iconst (pc := 1180) hc dL_law_1180 (2 : Int32) (by decide) ?_
  refine vr_iadd (pc := 1181) hc dL_law_1181 ?_
  refine vl_ld (pc := 1182) hc hX dL_law_1182 (vl_ix (k := 2) hi5 (by decide) hL (2 : Int32) (by decide)) ?_
  refine vl_call (pc := 1183) hc dL_law_1183 mt_X9_mean ml_L_138 gc_108 (w_X9_mean z _ (xs (nI i + (1 : Int32)).toNatClampNeg) (xs (nI i + (2 : Int32)).toNatClampNeg) σ h2) rfl (by decide) rfl (Nat.le_of_ble_eq_true rfl) ⟨Nat.le_of_ble_eq_true rfl, Nat.le_of_ble_eq_true rfl⟩ ?_
  refine vr_lcmp (pc := 1186) hc dL_law_1186 ?_
  refine vr_if_eq (pc := 1187) hc 1627 dL_law_1187 (by decide) (fun _ => ?_) (fun q => absurd (by simp [lg_cmp]) q)
  exact hnext _ hR
set_option maxRecDepth 20000 in
set_option maxHeartbeats 1000000 in
theorem vl_c30 {p : Program} {l : Launch} {e : Env} {s : State} {m : MethodId} {below : List Frame} {meth : Method} {c : Code} {b Ln i : Nat} {xs : Nat → Int32} {z : vz_Z} {Rl : vz_I → Prop} (hs : sim_see Rl) (hc : vz_C z (vl_M p l e s m below meth c b) code RL 12 4) (hX : vl_X z (vl_M p l e s m below meth c b) b Ln xs) (hL : Ln ≤ 2560) (hi5 : i + 5 ≤ Ln) {σ : vz_I} (hR0 : Rl σ) (hnext : ∀ σ, Rl σ → vz_V z (vl_M p l e s m below meth c b) 123 1687 1627 [(0, some (.ref 1048583)), (1, some (.ref 0)), (2, some (.ref 108)), (3, some (.int (nI i)))] [] vz_G0 σ vz_N0) : vz_V z (vl_M p l e s m below meth c b) 123 1687 1192 [(0, some (.ref 1048583)), (1, some (.ref 0)), (2, some (.ref 108)), (3, some (.int (nI i)))] [] vz_G0 σ vz_N0 := by
  by_cases hq : (xs (nI i + (4 : Int32)).toNatClampNeg) = 0
  · obtain ⟨r, σ1, σ2, h1, h2, hR⟩ := hs σ hR0 (xs (nI i + (1 : Int32)).toNatClampNeg) (xs (nI i + (2 : Int32)).toNatClampNeg) (xs (nI i + (3 : Int32)).toNatClampNeg) 0 (Or.inl rfl)
    refine vr_aload_n (pc := 1192) hc dL_law_1192 rfl ?_
    refine vr_aload_n (pc := 1193) hc dL_law_1193 rfl ?_
    refine vr_iload_n (pc := 1194) hc dL_law_1194 rfl ?_
    refine vr_iconst (pc := 1195) hc dL_law_1195 (1 : Int32) (by decide) ?_
    refine vr_iadd (pc := 1196) hc dL_law_1196 ?_
    refine vl_ld (pc := 1197) hc hX dL_law_1197 (vl_ix (k := 1) hi5 (by decide) hL (1 : Int32) (by decide)) ?_
    refine vr_aload_n (pc := 1198) hc dL_law_1198 rfl ?_
    refine vr_iload_n (pc := 1199) hc dL_law_1199 rfl ?_
    refine vr_iconst (pc := 1200) hc dL_law_1200 (2 : Int32) (by decide) ?_
    refine vr_iadd (pc := 1201) hc dL_law_1201 ?_
    refine vl_ld (pc := 1202) hc hX dL_law_1202 (vl_ix (k := 2) hi5 (by decide) hL (2 : Int32) (by decide)) ?_
    refine vr_aload_n (pc := 1203) hc dL_law_1203 rfl ?_
    refine vr_iload_n (pc := 1204) hc dL_law_1204 rfl ?_
    refine vr_iconst (pc := 1205) hc dL_law_1205 (3 : Int32) (by decide) ?_
    refine vr_iadd (pc := 1206) hc dL_law_1206 ?_
    refine vl_ld (pc := 1207) hc hX dL_law_1207 (vl_ix (k := 3) hi5 (by decide) hL (3 : Int32) (by decide)) ?_
    refine vr_aload_n (pc := 1208) hc dL_law_1208 rfl ?_
    refine vr_iload_n (pc := 1209) hc dL_law_1209 rfl ?_
    refine vr_iconst (pc := 1210) hc dL_law_1210 (4 : Int32) (by decide) ?_
    refine vr_iadd (pc := 1211) hc dL_law_1211 ?_
    refine vl_ld (pc := 1212) hc hX dL_law_1212 (vl_ix (k := 4) hi5 (by decide) hL (4 : Int32) (by decide)) ?_
    refine vr_if_eq (pc := 1213) hc 1220 dL_law_1213 (by decide) (fun _ => ?_) (fun q => absurd hq q)
    refine vr_iconst (pc := 1220) hc dL_law_1220 (0 : Int32) (by decide) ?_
    refine vl_call (pc := 1221) hc dL_law_1221 mt_X8_see ml_L_139 gc_0 (w_X8_see z _ (xs (nI i + (1 : Int32)).toNatClampNeg) (xs (nI i + (2 : Int32)).toNatClampNeg) (xs (nI i + (3 : Int32)).toNatClampNeg) (0 : Int32) σ h1) rfl (by decide) rfl (Nat.le_of_ble_eq_true rfl) ⟨Nat.le_of_ble_eq_true rfl, Nat.le_of_ble_eq_true rfl⟩ ?_
    refine vr_aload_n (pc := 1224) hc dL_law_1224 rfl ?_
    refine vr_aload_n (pc := 1225) hc dL_law_1225 rfl ?_
    refine vr_iload_n (pc := 1226) hc dL_law_1226 rfl ?_
    refine vr_iconst (pc := 1227) hc dL_law_1227 (1 : Int32) (by decide) ?_
    refine vr_iadd (pc := 1228) hc dL_law_1228 ?_
    refine vl_ld (pc := 1229) hc hX dL_law_1229 (vl_ix (k := 1) hi5 (by decide) hL (1 : Int32) (by decide)) ?_
    refine vr_aload_n (pc := 1230) hc dL_law_1230 rfl ?_
    refine vr_iload_n (pc := 1231) hc dL_law_1231 rfl ?_
    refine vr_iconst (pc := 1232) hc dL_law_1232 (2 : Int32) (by decide) ?_
    refine vr_iadd (pc := 1233) hc dL_law_1233 ?_
    refine vl_ld (pc := 1234) hc hX dL_law_1234 (vl_ix (k := 2) hi5 (by decide) hL (2 : Int32) (by decide)) ?_
    refine vr_aload_n (pc := 1235) hc dL_law_1235 rfl ?_
    refine vr_iload_n (pc := 1236) hc dL_law_1236 rfl ?_
    refine vr_iconst (pc := 1237) hc dL_law_1237 (3 : Int32) (by decide) ?_
    refine vr_iadd (pc := 1238) hc dL_law_1238 ?_
    refine vl_ld (pc := 1239) hc hX dL_law_1239 (vl_ix (k := 3) hi5 (by decide) hL (3 : Int32) (by decide)) ?_
    refine vr_aload_n (pc := 1240) hc dL_law_1240 rfl ?_
    refine vr_iload_n (pc := 1241) hc dL_law_1241 rfl ?_
    refine vr_iconst (pc := 1242) hc dL_law_1242 (4 : Int32) (by decide) ?_
    refine vr_iadd (pc := 1243) hc dL_law_1243 ?_
    refine vl_ld (pc := 1244) hc hX dL_law_1244 (vl_ix (k := 4) hi5 (by decide) hL (4 : Int32) (by decide)) ?_
    refine vr_if_eq (pc := 1245) hc 1252 dL_law_1245 (by decide) (fun _ => ?_) (fun q => absurd hq q)
    refine vr_iconst (pc := 1252) hc dL_law_1252 (0 : Int32) (by decide) ?_
    refine vl_call (pc := 1253) hc dL_law_1253 mt_X9_see ml_L_143 gc_108 (w_X9_see z _ (xs (nI i + (1 : Int32)).toNatClampNeg) (xs (nI i + (2 : Int32)).toNatClampNeg) (xs (nI i + (3 : Int32)).toNatClampNeg) (0 : Int32) σ1 h2) rfl (by decide) rfl (Nat.le_of_ble_eq_true rfl) ⟨Nat.le_of_ble_eq_true rfl, Nat.le_of_ble_eq_true rfl⟩ ?_
    refine vr_icmp_eq (pc := 1256) hc 1627 dL_law_1256 (by decide) (fun _ => ?_) (fun q => absurd rfl q)
    exact hnext _ hR
  · obtain ⟨r, σ1, σ2, h1, h2, hR⟩ := hs σ hR0 (xs (nI i + (1 : Int32)).toNatClampNeg) (xs (nI i + (2 : Int32)).toNatClampNeg) (xs (nI i + (3 : Int32)).toNatClampNeg) 1 (Or.inr rfl)
    refine vr_aload_n (pc := 1192) hc dL_law_1192 rfl ?_
    refine vr_aload_n (pc := 1193) hc dL_law_1193 rfl ?_
    refine vr_iload_n (pc := 1194) hc dL_law_1194 rfl ?_
    refine vr_iconst (pc := 1195) hc dL_law_1195 (1 : Int32) (by decide) ?_
    refine vr_iadd (pc := 1196) hc dL_law_1196 ?_
    refine vl_ld (pc := 1197) hc hX dL_law_1197 (vl_ix (k := 1) hi5 (by decide) hL (1 : Int32) (by decide)) ?_
    refine vr_aload_n (pc := 1198) hc dL_law_1198 rfl ?_
    refine vr_iload_n (pc := 1199) hc dL_law_1199 rfl ?_
    refine vr_iconst (pc := 1200) hc dL_law_1200 (2 : Int32) (by decide) ?_
    refine vr_iadd (pc := 1201) hc dL_law_1201 ?_
    refine vl_ld (pc := 1202) hc hX dL_law_1202 (vl_ix (k := 2) hi5 (by decide) hL (2 : Int32) (by decide)) ?_
    refine vr_aload_n (pc := 1203) hc dL_law_1203 rfl ?_
    refine vr_iload_n (pc := 1204) hc dL_law_1204 rfl ?_
    refine vr_iconst (pc := 1205) hc dL_law_1205 (3 : Int32) (by decide) ?_
    refine vr_iadd (pc := 1206) hc dL_law_1206 ?_
    refine vl_ld (pc := 1207) hc hX dL_law_1207 (vl_ix (k := 3) hi5 (by decide) hL (3 : Int32) (by decide)) ?_
    refine vr_aload_n (pc := 1208) hc dL_law_1208 rfl ?_
    refine vr_iload_n (pc := 1209) hc dL_law_1209 rfl ?_
    refine vr_iconst (pc := 1210) hc dL_law_1210 (4 : Int32) (by decide) ?_
    refine vr_iadd (pc := 1211) hc dL_law_1211 ?_
    refine vl_ld (pc := 1212) hc hX dL_law_1212 (vl_ix (k := 4) hi5 (by decide) hL (4 : Int32) (by decide)) ?_
    refine vr_if_eq (pc := 1213) hc 1220 dL_law_1213 (by decide) (fun q => absurd q hq) (fun _ => ?_)
    refine vr_iconst (pc := 1216) hc dL_law_1216 (1 : Int32) (by decide) ?_
    refine vr_goto (pc := 1217) hc 1221 dL_law_1217 (by decide) ?_
    refine vl_call (pc := 1221) hc dL_law_1221 mt_X8_see ml_L_139 gc_0 (w_X8_see z _ (xs (nI i + (1 : Int32)).toNatClampNeg) (xs (nI i + (2 : Int32)).toNatClampNeg) (xs (nI i + (3 : Int32)).toNatClampNeg) (1 : Int32) σ h1) rfl (by decide) rfl (Nat.le_of_ble_eq_true rfl) ⟨Nat.le_of_ble_eq_true rfl, Nat.le_of_ble_eq_true rfl⟩ ?_
    refine vr_aload_n (pc := 1224) hc dL_law_1224 rfl ?_
    refine vr_aload_n (pc := 1225) hc dL_law_1225 rfl ?_
    refine vr_iload_n (pc := 1226) hc dL_law_1226 rfl ?_
    refine vr_iconst (pc := 1227) hc dL_law_1227 (1 : Int32) (by decide) ?_
    refine vr_iadd (pc := 1228) hc dL_law_1228 ?_
    refine vl_ld (pc := 1229) hc hX dL_law_1229 (vl_ix (k := 1) hi5 (by decide) hL (1 : Int32) (by decide)) ?_
    refine vr_aload_n (pc := 1230) hc dL_law_1230 rfl ?_
    refine vr_iload_n (pc := 1231) hc dL_law_1231 rfl ?_
    refine vr_iconst (pc := 1232) hc dL_law_1232 (2 : Int32) (by decide) ?_
    refine vr_iadd (pc := 1233) hc dL_law_1233 ?_
    refine vl_ld (pc := 1234) hc hX dL_law_1234 (vl_ix (k := 2) hi5 (by decide) hL (2 : Int32) (by decide)) ?_
    refine vr_aload_n (pc := 1235) hc dL_law_1235 rfl ?_
    refine vr_iload_n (pc := 1236) hc dL_law_1236 rfl ?_
    refine vr_iconst (pc := 1237) hc dL_law_1237 (3 : Int32) (by decide) ?_
    refine vr_iadd (pc := 1238) hc dL_law_1238 ?_
    refine vl_ld (pc := 1239) hc hX dL_law_1239 (vl_ix (k := 3) hi5 (by decide) hL (3 : Int32) (by decide)) ?_
    refine vr_aload_n (pc := 1240) hc dL_law_1240 rfl ?_
    refine vr_iload_n (pc := 1241) hc dL_law_1241 rfl ?_
    refine vr_iconst (pc := 1242) hc dL_law_1242 (4 : Int32) (by decide) ?_
    refine vr_iadd (pc := 1243) hc dL_law_1243 ?_
    refine vl_ld (pc := 1244) hc hX dL_law_1244 (vl_ix (k := 4) hi5 (by decide) hL (4 : Int32) (by decide)) ?_
    refine vr_if_eq (pc := 1245) hc 1252 dL_law_1245 (by decide) (fun q => absurd q hq) (fun _ => ?_)
    refine vr_iconst (pc := 1248) hc dL_law_1248 (1 : Int32) (by decide) ?_
    refine vr_goto (pc := 1249) hc 1253 dL_law_1249 (by decide) ?_
    refine vl_call (pc := 1253) hc dL_law_1253 mt_X9_see ml_L_143 gc_108 (w_X9_see z _ (xs (nI i + (1 : Int32)).toNatClampNeg) (xs (nI i + (2 : Int32)).toNatClampNeg) (xs (nI i + (3 : Int32)).toNatClampNeg) (1 : Int32) σ1 h2) rfl (by decide) rfl (Nat.le_of_ble_eq_true rfl) ⟨Nat.le_of_ble_eq_true rfl, Nat.le_of_ble_eq_true rfl⟩ ?_
    refine vr_icmp_eq (pc := 1256) hc 1627 dL_law_1256 (by decide) (fun _ => ?_) (fun q => absurd rfl q)
    exact hnext _ hR
set_option maxRecDepth 20000 in
set_option maxHeartbeats 1000000 in
theorem vl_c31 {p : Program} {l : Launch} {e : Env} {s : State} {m : MethodId} {below : List Frame} {meth : Method} {c : Code} {b Ln i : Nat} {xs : Nat → Int32} {z : vz_Z} {Rl : vz_I → Prop} (hs : sim_forget Rl) (hc : vz_C z (vl_M p l e s m below meth c b) code RL 12 4) (hX : vl_X z (vl_M p l e s m below meth c b) b Ln xs) (hL : Ln ≤ 2560) (hi5 : i + 5 ≤ Ln) {σ : vz_I} (hR0 : Rl σ) (hnext : ∀ σ, Rl σ → vz_V z (vl_M p l e s m below meth c b) 123 1687 1627 [(0, some (.ref 1048583)), (1, some (.ref 0)), (2, some (.ref 108)), (3, some (.int (nI i)))] [] vz_G0 σ vz_N0) : vz_V z (vl_M p l e s m below meth c b) 123 1687 1261 [(0, some (.ref 1048583)), (1, some (.ref 0)), (2, some (.ref 108)), (3, some (.int (nI i)))] [] vz_G0 σ vz_N0 := by
  obtain ⟨r, σ1, σ2, h1, h2, hR⟩ := hs σ hR0 (xs (nI i + (1 : Int32)).toNatClampNeg)
  refine vr_aload_n (pc := 1261) hc dL_law_1261 rfl ?_
  refine vr_aload_n (pc := 1262) hc dL_law_1262 rfl ?_
  refine vr_iload_n (pc := 1263) hc dL_law_1263 rfl ?_
  refine vr_iconst (pc := 1264) hc dL_law_1264 (1 : Int32) (by decide) ?_
  refine vr_iadd (pc := 1265) hc dL_law_1265 ?_
  refine vl_ld (pc := 1266) hc hX dL_law_1266 (vl_ix (k := 1) hi5 (by decide) hL (1 : Int32) (by decide)) ?_
  refine vl_call (pc := 1267) hc dL_law_1267 mt_X8_forget ml_L_144 gc_0 (w_X8_forget z _ (xs (nI i + (1 : Int32)).toNatClampNeg) σ h1) rfl (by decide) rfl (Nat.le_of_ble_eq_true rfl) ⟨Nat.le_of_ble_eq_true rfl, Nat.le_of_ble_eq_true rfl⟩ ?_
  refine vr_aload_n (pc := 1270) hc dL_law_1270 rfl ?_
  refine vr_aload_n (pc := 1271) hc dL_law_1271 rfl ?_
  refine vr_iload_n (pc := 1272) hc dL_law_1272 rfl ?_
  refine vr_iconst (pc := 1273) hc dL_law_1273 (1 : Int32) (by decide) ?_
  refine vr_iadd (pc := 1274) hc dL_law_1274 ?_
  refine vl_ld (pc := 1275) hc hX dL_law_1275 (vl_ix (k := 1) hi5 (by decide) hL (1 : Int32) (by decide)) ?_
  refine vl_call (pc := 1276) hc dL_law_1276 mt_X9_forget ml_L_147 gc_108 (w_X9_forget z _ (xs (nI i + (1 : Int32)).toNatClampNeg) σ1 h2) rfl (by decide) rfl (Nat.le_of_ble_eq_true rfl) ⟨Nat.le_of_ble_eq_true rfl, Nat.le_of_ble_eq_true rfl⟩ ?_
  refine vr_icmp_eq (pc := 1279) hc 1627 dL_law_1279 (by decide) (fun _ => ?_) (fun q => absurd rfl q)
  exact hnext _ hR
set_option maxRecDepth 20000 in
set_option maxHeartbeats 1000000 in
theorem vl_c32 {p : Program} {l : Launch} {e : Env} {s : State} {m : MethodId} {below : List Frame} {meth : Method} {c : Code} {b Ln i : Nat} {xs : Nat → Int32} {z : vz_Z} {Rl : vz_I → Prop} (hs : sim_kinds Rl) (hc : vz_C z (vl_M p l e s m below meth c b) code RL 12 4) (hX : vl_X z (vl_M p l e s m below meth c b) b Ln xs) (hL : Ln ≤ 2560) (hi5 : i + 5 ≤ Ln) {σ : vz_I} (hR0 : Rl σ) (hnext : ∀ σ, Rl σ → vz_V z (vl_M p l e s m below meth c b) 123 1687 1627 [(0, some (.ref 1048583)), (1, some (.ref 0)), (2, some (.ref 108)), (3, some (.int (nI i)))] [] vz_G0 σ vz_N0) : vz_V z (vl_M p l e s m below meth c b) 123 1687 1284 [(0, some (.ref 1048583)), (1, some (.ref 0)), (2, some (.ref 108)), (3, some (.int (nI i)))] [] vz_G0 σ vz_N0 := by
  obtain ⟨r, σ1, σ2, h1, h2, hR⟩ := hs σ hR0 (xs (nI i + (1 : Int32)).toNatClampNeg)
  refine vr_aload_n (pc := 1284) hc dL_law_1284 rfl ?_
  refine vr_aload_n (pc := 1285) hc dL_law_1285 rfl ?_
  refine vr_iload_n (pc := 1286) hc dL_law_1286 rfl ?_
  refine vr_iconst (pc := 1287) hc dL_law_1287 (1 : Int32) (by decide) ?_
  refine vr_iadd (pc := 1288) hc dL_law_1288 ?_
  refine vl_ld (pc := 1289) hc hX dL_law_1289 (vl_ix (k := 1) hi5 (by decide) hL (1 : Int32) (by decide)) ?_
  refine vl_call (pc := 1290) hc dL_law_1290 mt_X8_kinds ml_L_148 gc_0 (w_X8_kinds z _ (xs (nI i + (1 : Int32)).toNatClampNeg) σ h1) rfl (by decide) rfl (Nat.le_of_ble_eq_true rfl) ⟨Nat.le_of_ble_eq_true rfl, Nat.le_of_ble_eq_true rfl⟩ ?_
  refine vr_aload_n (pc := 1293) hc dL_law_1293 rfl ?_
  refine vr_aload_n (pc := 1294) hc dL_law_1294 rfl ?_
  refine vr_iload_n (pc := 1295) hc dL_law_1295 rfl ?_
  refine vr_iconst (pc := 1296) hc dL_law_1296 (1 : Int32) (by decide) ?_
  refine vr_iadd (pc := 1297) hc dL_law_1297 ?_
  refine vl_ld (pc := 1298) hc hX dL_law_1298 (vl_ix (k := 1) hi5 (by decide) hL (1 : Int32) (by decide)) ?_
  refine vl_call (pc := 1299) hc dL_law_1299 mt_X9_kinds ml_L_151 gc_108 (w_X9_kinds z _ (xs (nI i + (1 : Int32)).toNatClampNeg) σ1 h2) rfl (by decide) rfl (Nat.le_of_ble_eq_true rfl) ⟨Nat.le_of_ble_eq_true rfl, Nat.le_of_ble_eq_true rfl⟩ ?_
  refine vr_icmp_eq (pc := 1302) hc 1627 dL_law_1302 (by decide) (fun _ => ?_) (fun q => absurd rfl q)
  exact hnext _ hR
set_option maxRecDepth 20000 in
set_option maxHeartbeats 1000000 in
theorem vl_c33 {p : Program} {l : Launch} {e : Env} {s : State} {m : MethodId} {below : List Frame} {meth : Method} {c : Code} {b Ln i : Nat} {xs : Nat → Int32} {z : vz_Z} {Rl : vz_I → Prop} (hs : sim_news Rl) (hc : vz_C z (vl_M p l e s m below meth c b) code RL 12 4) (hX : vl_X z (vl_M p l e s m below meth c b) b Ln xs) (hL : Ln ≤ 2560) (hi5 : i + 5 ≤ Ln) {σ : vz_I} (hR0 : Rl σ) (hnext : ∀ σ, Rl σ → vz_V z (vl_M p l e s m below meth c b) 123 1687 1627 [(0, some (.ref 1048583)), (1, some (.ref 0)), (2, some (.ref 108)), (3, some (.int (nI i)))] [] vz_G0 σ vz_N0) : vz_V z (vl_M p l e s m below meth c b) 123 1687 1307 [(0, some (.ref 1048583)), (1, some (.ref 0)), (2, some (.ref 108)), (3, some (.int (nI i)))] [] vz_G0 σ vz_N0 := by
  obtain ⟨r, σ1, σ2, h1, h2, hR⟩ := hs σ hR0 (xs (nI i + (1 : Int32)).toNatClampNeg)
  refine vr_aload_n (pc := 1307) hc dL_law_1307 rfl ?_
  refine vr_aload_n (pc := 1308) hc dL_law_1308 rfl ?_
  refine vr_iload_n (pc := 1309) hc dL_law_1309 rfl ?_
  refine vr_iconst (pc := 1310) hc dL_law_1310 (1 : Int32) (by decide) ?_
  refine vr_iadd (pc := 1311) hc dL_law_1311 ?_
  refine vl_ld (pc := 1312) hc hX dL_law_1312 (vl_ix (k := 1) hi5 (by decide) hL (1 : Int32) (by decide)) ?_
  refine vl_call (pc := 1313) hc dL_law_1313 mt_X8_news ml_L_152 gc_0 (w_X8_news z _ (xs (nI i + (1 : Int32)).toNatClampNeg) σ h1) rfl (by decide) rfl (Nat.le_of_ble_eq_true rfl) ⟨Nat.le_of_ble_eq_true rfl, Nat.le_of_ble_eq_true rfl⟩ ?_
  refine vr_aload_n (pc := 1316) hc dL_law_1316 rfl ?_
  refine vr_aload_n (pc := 1317) hc dL_law_1317 rfl ?_
  refine vr_iload_n (pc := 1318) hc dL_law_1318 rfl ?_
  refine vr_iconst (pc := 1319) hc dL_law_1319 (1 : Int32) (by decide) ?_
  refine vr_iadd (pc := 1320) hc dL_law_1320 ?_
  refine vl_ld (pc := 1321) hc hX dL_law_1321 (vl_ix (k := 1) hi5 (by decide) hL (1 : Int32) (by decide)) ?_
  refine vl_call (pc := 1322) hc dL_law_1322 mt_X9_news ml_L_155 gc_108 (w_X9_news z _ (xs (nI i + (1 : Int32)).toNatClampNeg) σ1 h2) rfl (by decide) rfl (Nat.le_of_ble_eq_true rfl) ⟨Nat.le_of_ble_eq_true rfl, Nat.le_of_ble_eq_true rfl⟩ ?_
  refine vr_icmp_eq (pc := 1325) hc 1627 dL_law_1325 (by decide) (fun _ => ?_) (fun q => absurd rfl q)
  exact hnext _ hR
set_option maxRecDepth 20000 in
set_option maxHeartbeats 1000000 in
theorem vl_c34 {p : Program} {l : Launch} {e : Env} {s : State} {m : MethodId} {below : List Frame} {meth : Method} {c : Code} {b Ln i : Nat} {xs : Nat → Int32} {z : vz_Z} {Rl : vz_I → Prop} (hs : sim_ask Rl) (hc : vz_C z (vl_M p l e s m below meth c b) code RL 12 4) (hX : vl_X z (vl_M p l e s m below meth c b) b Ln xs) (hL : Ln ≤ 2560) (hi5 : i + 5 ≤ Ln) {σ : vz_I} (hR0 : Rl σ) (hnext : ∀ σ, Rl σ → vz_V z (vl_M p l e s m below meth c b) 123 1687 1627 [(0, some (.ref 1048583)), (1, some (.ref 0)), (2, some (.ref 108)), (3, some (.int (nI i)))] [] vz_G0 σ vz_N0) : vz_V z (vl_M p l e s m below meth c b) 123 1687 1330 [(0, some (.ref 1048583)), (1, some (.ref 0)), (2, some (.ref 108)), (3, some (.int (nI i)))] [] vz_G0 σ vz_N0 := by
  obtain ⟨r, σ1, σ2, h1, h2, hR⟩ := hs σ hR0 (xs (nI i + (1 : Int32)).toNatClampNeg) (xs (nI i + (2 : Int32)).toNatClampNeg)
  refine vr_aload_n (pc := 1330) hc dL_law_1330 rfl ?_
  refine vr_aload_n (pc := 1331) hc dL_law_1331 rfl ?_
  refine vr_iload_n (pc := 1332) hc dL_law_1332 rfl ?_
  refine vr_iconst (pc := 1333) hc dL_law_1333 (1 : Int32) (by decide) ?_
  refine vr_iadd (pc := 1334) hc dL_law_1334 ?_
  refine vl_ld (pc := 1335) hc hX dL_law_1335 (vl_ix (k := 1) hi5 (by decide) hL (1 : Int32) (by decide)) ?_
  refine vr_aload_n (pc := 1336) hc dL_law_1336 rfl ?_
  refine vr_iload_n (pc := 1337) hc dL_law_1337 rfl ?_
  refine vr_iconst (pc := 1338) hc dL_law_1338 (2 : Int32) (by decide) ?_
  refine vr_iadd (pc := 1339) hc dL_law_1339 ?_
  refine vl_ld (pc := 1340) hc hX dL_law_1340 (vl_ix (k := 2) hi5 (by decide) hL (2 : Int32) (by decide)) ?_
  refine vl_call (pc := 1341) hc dL_law_1341 mt_X8_ask ml_L_156 gc_0 (w_X8_ask z _ (xs (nI i + (1 : Int32)).toNatClampNeg) (xs (nI i + (2 : Int32)).toNatClampNeg) σ h1) rfl (by decide) rfl (Nat.le_of_ble_eq_true rfl) ⟨Nat.le_of_ble_eq_true rfl, Nat.le_of_ble_eq_true rfl⟩ ?_
  refine vr_aload_n (pc := 1344) hc dL_law_1344 rfl ?_
  refine vr_aload_n (pc := 1345) hc dL_law_1345 rfl ?_
  refine vr_iload_n (pc := 1346) hc dL_law_1346 rfl ?_
  refine vr_iconst (pc := 1347) hc dL_law_1347 (1 : Int32) (by decide) ?_
  refine vr_iadd (pc := 1348) hc dL_law_1348 ?_
  refine vl_ld (pc := 1349) hc hX dL_law_1349 (vl_ix (k := 1) hi5 (by decide) hL (1 : Int32) (by decide)) ?_
  refine vr_aload_n (pc := 1350) hc dL_law_1350 rfl ?_
  refine vr_iload_n (pc := 1351) hc dL_law_1351 rfl ?_
  refine vr_iconst (pc := 1352) hc dL_law_1352 (2 : Int32) (by decide) ?_
  refine vr_iadd (pc := 1353) hc dL_law_1353 ?_
  refine vl_ld (pc := 1354) hc hX dL_law_1354 (vl_ix (k := 2) hi5 (by decide) hL (2 : Int32) (by decide)) ?_
  refine vl_call (pc := 1355) hc dL_law_1355 mt_X9_ask ml_L_159 gc_108 (w_X9_ask z _ (xs (nI i + (1 : Int32)).toNatClampNeg) (xs (nI i + (2 : Int32)).toNatClampNeg) σ1 h2) rfl (by decide) rfl (Nat.le_of_ble_eq_true rfl) ⟨Nat.le_of_ble_eq_true rfl, Nat.le_of_ble_eq_true rfl⟩ ?_
  refine vr_icmp_eq (pc := 1358) hc 1627 dL_law_1358 (by decide) (fun _ => ?_) (fun q => absurd rfl q)
  exact hnext _ hR
set_option maxRecDepth 20000 in
set_option maxHeartbeats 1000000 in
theorem vl_c35 {p : Program} {l : Launch} {e : Env} {s : State} {m : MethodId} {below : List Frame} {meth : Method} {c : Code} {b Ln i : Nat} {xs : Nat → Int32} {z : vz_Z} {Rl : vz_I → Prop} (hs : sim_drift Rl) (hc : vz_C z (vl_M p l e s m below meth c b) code RL 12 4) (hX : vl_X z (vl_M p l e s m below meth c b) b Ln xs) (hL : Ln ≤ 2560) (hi5 : i + 5 ≤ Ln) {σ : vz_I} (hR0 : Rl σ) (hnext : ∀ σ, Rl σ → vz_V z (vl_M p l e s m below meth c b) 123 1687 1627 [(0, some (.ref 1048583)), (1, some (.ref 0)), (2, some (.ref 108)), (3, some (.int (nI i)))] [] vz_G0 σ vz_N0) : vz_V z (vl_M p l e s m below meth c b) 123 1687 1363 [(0, some (.ref 1048583)), (1, some (.ref 0)), (2, some (.ref 108)), (3, some (.int (nI i)))] [] vz_G0 σ vz_N0 := by
  obtain ⟨r, σ1, σ2, h1, h2, hR⟩ := hs σ hR0 (xs (nI i + (1 : Int32)).toNatClampNeg) (xs (nI i + (2 : Int32)).toNatClampNeg) (xs (nI i + (3 : Int32)).toNatClampNeg)
  refine vr_aload_n (pc := 1363) hc dL_law_1363 rfl ?_
  refine vr_aload_n (pc := 1364) hc dL_law_1364 rfl ?_
  refine vr_iload_n (pc := 1365) hc dL_law_1365 rfl ?_
  refine vr_iconst (pc := 1366) hc dL_law_1366 (1 : Int32) (by decide) ?_
  refine vr_iadd (pc := 1367) hc dL_law_1367 ?_
  refine vl_ld (pc := 1368) hc hX dL_law_1368 (vl_ix (k := 1) hi5 (by decide) hL (1 : Int32) (by decide)) ?_
  refine vr_aload_n (pc := 1369) hc dL_law_1369 rfl ?_
  refine vr_iload_n (pc := 1370) hc dL_law_1370 rfl ?_
  refine vr_iconst (pc := 1371) hc dL_law_1371 (2 : Int32) (by decide) ?_
  refine vr_iadd (pc := 1372) hc dL_law_1372 ?_
  refine vl_ld (pc := 1373) hc hX dL_law_1373 (vl_ix (k := 2) hi5 (by decide) hL (2 : Int32) (by decide)) ?_
  refine vr_aload_n (pc := 1374) hc dL_law_1374 rfl ?_
  refine vr_iload_n (pc := 1375) hc dL_law_1375 rfl ?_
  refine vr_iconst (pc := 1376) hc dL_law_1376 (3 : Int32) (by decide) ?_
  refine vr_iadd (pc := 1377) hc dL_law_1377 ?_
  refine vl_ld (pc := 1378) hc hX dL_law_1378 (vl_ix (k := 3) hi5 (by decide) hL (3 : Int32) (by decide)) ?_
  refine vl_call (pc := 1379) hc dL_law_1379 mt_X8_drift ml_L_160 gc_0 (w_X8_drift z _ (xs (nI i + (1 : Int32)).toNatClampNeg) (xs (nI i + (2 : Int32)).toNatClampNeg) (xs (nI i + (3 : Int32)).toNatClampNeg) σ h1) rfl (by decide) rfl (Nat.le_of_ble_eq_true rfl) ⟨Nat.le_of_ble_eq_true rfl, Nat.le_of_ble_eq_true rfl⟩ ?_
  refine vr_aload_n (pc := 1382) hc dL_law_1382 rfl ?_
  refine vr_aload_n (pc := 1383) hc dL_law_1383 rfl ?_
  refine vr_iload_n (pc := 1384) hc dL_law_1384 rfl ?_
  refine vr_iconst (pc := 1385) hc dL_law_1385 (1 : Int32) (by decide) ?_
  refine vr_iadd (pc := 1386) hc dL_law_1386 ?_
  refine vl_ld (pc := 1387) hc hX dL_law_1387 (vl_ix (k := 1) hi5 (by decide) hL (1 : Int32) (by decide)) ?_
  refine vr_aload_n (pc := 1388) hc dL_law_1388 rfl ?_
  refine vr_iload_n (pc := 1389) hc dL_law_1389 rfl ?_
  refine vr_iconst (pc := 1390) hc dL_law_1390 (2 : Int32) (by decide) ?_
  refine vr_iadd (pc := 1391) hc dL_law_1391 ?_
  refine vl_ld (pc := 1392) hc hX dL_law_1392 (vl_ix (k := 2) hi5 (by decide) hL (2 : Int32) (by decide)) ?_
  refine vr_aload_n (pc := 1393) hc dL_law_1393 rfl ?_
  refine vr_iload_n (pc := 1394) hc dL_law_1394 rfl ?_
  refine vr_iconst (pc := 1395) hc dL_law_1395 (3 : Int32) (by decide) ?_
  refine vr_iadd (pc := 1396) hc dL_law_1396 ?_
  refine vl_ld (pc := 1397) hc hX dL_law_1397 (vl_ix (k := 3) hi5 (by decide) hL (3 : Int32) (by decide)) ?_
  refine vl_call (pc := 1398) hc dL_law_1398 mt_X9_drift ml_L_163 gc_108 (w_X9_drift z _ (xs (nI i + (1 : Int32)).toNatClampNeg) (xs (nI i + (2 : Int32)).toNatClampNeg) (xs (nI i + (3 : Int32)).toNatClampNeg) σ1 h2) rfl (by decide) rfl (Nat.le_of_ble_eq_true rfl) ⟨Nat.le_of_ble_eq_true rfl, Nat.le_of_ble_eq_true rfl⟩ ?_
  refine vr_icmp_eq (pc := 1401) hc 1627 dL_law_1401 (by decide) (fun _ => ?_) (fun q => absurd rfl q)
  exact hnext _ hR
set_option maxRecDepth 20000 in
set_option maxHeartbeats 1000000 in
theorem vl_c36 {p : Program} {l : Launch} {e : Env} {s : State} {m : MethodId} {below : List Frame} {meth : Method} {c : Code} {b Ln i : Nat} {xs : Nat → Int32} {z : vz_Z} {Rl : vz_I → Prop} (hs : sim_keep Rl) (hc : vz_C z (vl_M p l e s m below meth c b) code RL 12 4) (hX : vl_X z (vl_M p l e s m below meth c b) b Ln xs) (hL : Ln ≤ 2560) (hi5 : i + 5 ≤ Ln) {σ : vz_I} (hR0 : Rl σ) (hnext : ∀ σ, Rl σ → vz_V z (vl_M p l e s m below meth c b) 123 1687 1627 [(0, some (.ref 1048583)), (1, some (.ref 0)), (2, some (.ref 108)), (3, some (.int (nI i)))] [] vz_G0 σ vz_N0) : vz_V z (vl_M p l e s m below meth c b) 123 1687 1406 [(0, some (.ref 1048583)), (1, some (.ref 0)), (2, some (.ref 108)), (3, some (.int (nI i)))] [] vz_G0 σ vz_N0 := by
  obtain ⟨r, σ1, σ2, h1, h2, hR⟩ := hs σ hR0 (xs (nI i + (1 : Int32)).toNatClampNeg)
  refine vr_aload_n (pc := 1406) hc dL_law_1406 rfl ?_
  refine vr_aload_n (pc := 1407) hc dL_law_1407 rfl ?_
  refine vr_iload_n (pc := 1408) hc dL_law_1408 rfl ?_
  refine vr_iconst (pc := 1409) hc dL_law_1409 (1 : Int32) (by decide) ?_
  refine vr_iadd (pc := 1410) hc dL_law_1410 ?_
  refine vl_ld (pc := 1411) hc hX dL_law_1411 (vl_ix (k := 1) hi5 (by decide) hL (1 : Int32) (by decide)) ?_
  refine vl_call (pc := 1412) hc dL_law_1412 mt_X8_keep ml_L_164 gc_0 (w_X8_keep z _ (xs (nI i + (1 : Int32)).toNatClampNeg) σ h1) rfl (by decide) rfl (Nat.le_of_ble_eq_true rfl) ⟨Nat.le_of_ble_eq_true rfl, Nat.le_of_ble_eq_true rfl⟩ ?_
  refine vr_aload_n (pc := 1415) hc dL_law_1415 rfl ?_
  refine vr_aload_n (pc := 1416) hc dL_law_1416 rfl ?_
  refine vr_iload_n (pc := 1417) hc dL_law_1417 rfl ?_
  refine vr_iconst (pc := 1418) hc dL_law_1418 (1 : Int32) (by decide) ?_
  refine vr_iadd (pc := 1419) hc dL_law_1419 ?_
  refine vl_ld (pc := 1420) hc hX dL_law_1420 (vl_ix (k := 1) hi5 (by decide) hL (1 : Int32) (by decide)) ?_
  refine vl_call (pc := 1421) hc dL_law_1421 mt_X9_keep ml_L_167 gc_108 (w_X9_keep z _ (xs (nI i + (1 : Int32)).toNatClampNeg) σ1 h2) rfl (by decide) rfl (Nat.le_of_ble_eq_true rfl) ⟨Nat.le_of_ble_eq_true rfl, Nat.le_of_ble_eq_true rfl⟩ ?_
  refine vr_icmp_eq (pc := 1424) hc 1627 dL_law_1424 (by decide) (fun _ => ?_) (fun q => absurd rfl q)
  exact hnext _ hR
set_option maxRecDepth 20000 in
set_option maxHeartbeats 1000000 in
theorem vl_c37 {p : Program} {l : Launch} {e : Env} {s : State} {m : MethodId} {below : List Frame} {meth : Method} {c : Code} {b Ln i : Nat} {xs : Nat → Int32} {z : vz_Z} {Rl : vz_I → Prop} (hs : sim_back Rl) (hc : vz_C z (vl_M p l e s m below meth c b) code RL 12 4) (hX : vl_X z (vl_M p l e s m below meth c b) b Ln xs) (hL : Ln ≤ 2560) (hi5 : i + 5 ≤ Ln) {σ : vz_I} (hR0 : Rl σ) (hnext : ∀ σ, Rl σ → vz_V z (vl_M p l e s m below meth c b) 123 1687 1627 [(0, some (.ref 1048583)), (1, some (.ref 0)), (2, some (.ref 108)), (3, some (.int (nI i)))] [] vz_G0 σ vz_N0) : vz_V z (vl_M p l e s m below meth c b) 123 1687 1429 [(0, some (.ref 1048583)), (1, some (.ref 0)), (2, some (.ref 108)), (3, some (.int (nI i)))] [] vz_G0 σ vz_N0 := by
  obtain ⟨r, σ1, σ2, h1, h2, hR⟩ := hs σ hR0 (xs (nI i + (1 : Int32)).toNatClampNeg)
  refine vr_aload_n (pc := 1429) hc dL_law_1429 rfl ?_
  refine vr_aload_n (pc := 1430) hc dL_law_1430 rfl ?_
  refine vr_iload_n (pc := 1431) hc dL_law_1431 rfl ?_
  refine vr_iconst (pc := 1432) hc dL_law_1432 (1 : Int32) (by decide) ?_
  refine vr_iadd (pc := 1433) hc dL_law_1433 ?_
  refine vl_ld (pc := 1434) hc hX dL_law_1434 (vl_ix (k := 1) hi5 (by decide) hL (1 : Int32) (by decide)) ?_
  refine vl_call (pc := 1435) hc dL_law_1435 mt_X8_back ml_L_168 gc_0 (w_X8_back z _ (xs (nI i + (1 : Int32)).toNatClampNeg) σ h1) rfl (by decide) rfl (Nat.le_of_ble_eq_true rfl) ⟨Nat.le_of_ble_eq_true rfl, Nat.le_of_ble_eq_true rfl⟩ ?_
  refine vr_aload_n (pc := 1438) hc dL_law_1438 rfl ?_
  refine vr_aload_n (pc := 1439) hc dL_law_1439 rfl ?_
  refine vr_iload_n (pc := 1440) hc dL_law_1440 rfl ?_
  refine vr_iconst (pc := 1441) hc dL_law_1441 (1 : Int32) (by decide) ?_
  refine vr_iadd (pc := 1442) hc dL_law_1442 ?_
  refine vl_ld (pc := 1443) hc hX dL_law_1443 (vl_ix (k := 1) hi5 (by decide) hL (1 : Int32) (by decide)) ?_
  refine vl_call (pc := 1444) hc dL_law_1444 mt_X9_back ml_L_171 gc_108 (w_X9_back z _ (xs (nI i + (1 : Int32)).toNatClampNeg) σ1 h2) rfl (by decide) rfl (Nat.le_of_ble_eq_true rfl) ⟨Nat.le_of_ble_eq_true rfl, Nat.le_of_ble_eq_true rfl⟩ ?_
  refine vr_icmp_eq (pc := 1447) hc 1627 dL_law_1447 (by decide) (fun _ => ?_) (fun q => absurd rfl q)
  exact hnext _ hR
set_option maxRecDepth 20000 in
set_option maxHeartbeats 1000000 in
theorem vl_c38 {p : Program} {l : Launch} {e : Env} {s : State} {m : MethodId} {below : List Frame} {meth : Method} {c : Code} {b Ln i : Nat} {xs : Nat → Int32} {z : vz_Z} {Rl : vz_I → Prop} (hs : sim_sheet Rl) (hc : vz_C z (vl_M p l e s m below meth c b) code RL 12 4) (hX : vl_X z (vl_M p l e s m below meth c b) b Ln xs) (hL : Ln ≤ 2560) (hi5 : i + 5 ≤ Ln) {σ : vz_I} (hR0 : Rl σ) (hnext : ∀ σ, Rl σ → vz_V z (vl_M p l e s m below meth c b) 123 1687 1627 [(0, some (.ref 1048583)), (1, some (.ref 0)), (2, some (.ref 108)), (3, some (.int (nI i)))] [] vz_G0 σ vz_N0) : vz_V z (vl_M p l e s m below meth c b) 123 1687 1452 [(0, some (.ref 1048583)), (1, some (.ref 0)), (2, some (.ref 108)), (3, some (.int (nI i)))] [] vz_G0 σ vz_N0 := by
  obtain ⟨r, σ1, σ2, h1, h2, hR⟩ := hs σ hR0 (xs (nI i + (1 : Int32)).toNatClampNeg) (xs (nI i + (2 : Int32)).toNatClampNeg) (xs (nI i + (3 : Int32)).toNatClampNeg)
  refine vr_aload_n (pc := 1452) hc dL_law_1452 rfl ?_
  refine vr_aload_n (pc := 1453) hc dL_law_1453 rfl ?_
  refine vr_iload_n (pc := 1454) hc dL_law_1454 rfl ?_
  refine vr_iconst (pc := 1455) hc dL_law_1455 (1 : Int32) (by decide) ?_
  refine vr_iadd (pc := 1456) hc dL_law_1456 ?_
  refine vl_ld (pc := 1457) hc hX dL_law_1457 (vl_ix (k := 1) hi5 (by decide) hL (1 : Int32) (by decide)) ?_
  refine vr_aload_n (pc := 1458) hc dL_law_1458 rfl ?_
  refine vr_iload_n (pc := 1459) hc dL_law_1459 rfl ?_
  refine vr_iconst (pc := 1460) hc dL_law_1460 (2 : Int32) (by decide) ?_
  refine vr_iadd (pc := 1461) hc dL_law_1461 ?_
  refine vl_ld (pc := 1462) hc hX dL_law_1462 (vl_ix (k := 2) hi5 (by decide) hL (2 : Int32) (by decide)) ?_
  refine vr_aload_n (pc := 1463) hc dL_law_1463 rfl ?_
  refine vr_iload_n (pc := 1464) hc dL_law_1464 rfl ?_
  refine vr_iconst (pc := 1465) hc dL_law_1465 (3 : Int32) (by decide) ?_
  refine vr_iadd (pc := 1466) hc dL_law_1466 ?_
  refine vl_ld (pc := 1467) hc hX dL_law_1467 (vl_ix (k := 3) hi5 (by decide) hL (3 : Int32) (by decide)) ?_
  refine vl_call (pc := 1468) hc dL_law_1468 mt_X8_sheet ml_L_172 gc_0 (w_X8_sheet z _ (xs (nI i + (1 : Int32)).toNatClampNeg) (xs (nI i + (2 : Int32)).toNatClampNeg) (xs (nI i + (3 : Int32)).toNatClampNeg) σ h1) rfl (by decide) rfl (Nat.le_of_ble_eq_true rfl) ⟨Nat.le_of_ble_eq_true rfl, Nat.le_of_ble_eq_true rfl⟩ ?_
  refine vr_aload_n (pc := 1471) hc dL_law_1471 rfl ?_
  refine vr_aload_n (pc := 1472) hc dL_law_1472 rfl ?_
  refine vr_iload_n (pc := 1473) hc dL_law_1473 rfl ?_
  refine vr_iconst (pc := 1474) hc dL_law_1474 (1 : Int32) (by decide) ?_
  refine vr_iadd (pc := 1475) hc dL_law_1475 ?_
  refine vl_ld (pc := 1476) hc hX dL_law_1476 (vl_ix (k := 1) hi5 (by decide) hL (1 : Int32) (by decide)) ?_
  refine vr_aload_n (pc := 1477) hc dL_law_1477 rfl ?_
  refine vr_iload_n (pc := 1478) hc dL_law_1478 rfl ?_
  refine vr_iconst (pc := 1479) hc dL_law_1479 (2 : Int32) (by decide) ?_
  refine vr_iadd (pc := 1480) hc dL_law_1480 ?_
  refine vl_ld (pc := 1481) hc hX dL_law_1481 (vl_ix (k := 2) hi5 (by decide) hL (2 : Int32) (by decide)) ?_
  refine vr_aload_n (pc := 1482) hc dL_law_1482 rfl ?_
  refine vr_iload_n (pc := 1483) hc dL_law_1483 rfl ?_
  refine vr_iconst (pc := 1484) hc dL_law_1484 (3 : Int32) (by decide) ?_
  refine vr_iadd (pc := 1485) hc dL_law_1485 ?_
  refine vl_ld (pc := 1486) hc hX dL_law_1486 (vl_ix (k := 3) hi5 (by decide) hL (3 : Int32) (by decide)) ?_
  refine vl_call (pc := 1487) hc dL_law_1487 mt_X9_sheet ml_L_175 gc_108 (w_X9_sheet z _ (xs (nI i + (1 : Int32)).toNatClampNeg) (xs (nI i + (2 : Int32)).toNatClampNeg) (xs (nI i + (3 : Int32)).toNatClampNeg) σ1 h2) rfl (by decide) rfl (Nat.le_of_ble_eq_true rfl) ⟨Nat.le_of_ble_eq_true rfl, Nat.le_of_ble_eq_true rfl⟩ ?_
  refine vr_icmp_eq (pc := 1490) hc 1627 dL_law_1490 (by decide) (fun _ => ?_) (fun q => absurd rfl q)
  exact hnext _ hR
set_option maxRecDepth 20000 in
set_option maxHeartbeats 1000000 in
theorem vl_c39 {p : Program} {l : Launch} {e : Env} {s : State} {m : MethodId} {below : List Frame} {meth : Method} {c : Code} {b Ln i : Nat} {xs : Nat → Int32} {z : vz_Z} {Rl : vz_I → Prop} (hs : sim_lay Rl) (hc : vz_C z (vl_M p l e s m below meth c b) code RL 12 4) (hX : vl_X z (vl_M p l e s m below meth c b) b Ln xs) (hL : Ln ≤ 2560) (hi5 : i + 5 ≤ Ln) {σ : vz_I} (hR0 : Rl σ) (hnext : ∀ σ, Rl σ → vz_V z (vl_M p l e s m below meth c b) 123 1687 1627 [(0, some (.ref 1048583)), (1, some (.ref 0)), (2, some (.ref 108)), (3, some (.int (nI i)))] [] vz_G0 σ vz_N0) : vz_V z (vl_M p l e s m below meth c b) 123 1687 1495 [(0, some (.ref 1048583)), (1, some (.ref 0)), (2, some (.ref 108)), (3, some (.int (nI i)))] [] vz_G0 σ vz_N0 := by
  obtain ⟨r, σ1, σ2, h1, h2, hR⟩ := hs σ hR0 (xs (nI i + (1 : Int32)).toNatClampNeg) (xs (nI i + (2 : Int32)).toNatClampNeg) (xs (nI i + (3 : Int32)).toNatClampNeg)
  refine vr_aload_n (pc := 1495) hc dL_law_1495 rfl ?_
  refine vr_aload_n (pc := 1496) hc dL_law_1496 rfl ?_
  refine vr_iload_n (pc := 1497) hc dL_law_1497 rfl ?_
  refine vr_iconst (pc := 1498) hc dL_law_1498 (1 : Int32) (by decide) ?_
  refine vr_iadd (pc := 1499) hc dL_law_1499 ?_
  refine vl_ld (pc := 1500) hc hX dL_law_1500 (vl_ix (k := 1) hi5 (by decide) hL (1 : Int32) (by decide)) ?_
  refine vr_aload_n (pc := 1501) hc dL_law_1501 rfl ?_
  refine vr_iload_n (pc := 1502) hc dL_law_1502 rfl ?_
  refine vr_iconst (pc := 1503) hc dL_law_1503 (2 : Int32) (by decide) ?_
  refine vr_iadd (pc := 1504) hc dL_law_1504 ?_
  refine vl_ld (pc := 1505) hc hX dL_law_1505 (vl_ix (k := 2) hi5 (by decide) hL (2 : Int32) (by decide)) ?_
  refine vr_aload_n (pc := 1506) hc dL_law_1506 rfl ?_
  refine vr_iload_n (pc := 1507) hc dL_law_1507 rfl ?_
  refine vr_iconst (pc := 1508) hc dL_law_1508 (3 : Int32) (by decide) ?_
  refine vr_iadd (pc := 1509) hc dL_law_1509 ?_
  refine vl_ld (pc := 1510) hc hX dL_law_1510 (vl_ix (k := 3) hi5 (by decide) hL (3 : Int32) (by decide)) ?_
  refine vl_call (pc := 1511) hc dL_law_1511 mt_X8_lay ml_L_176 gc_0 (w_X8_lay z _ (xs (nI i + (1 : Int32)).toNatClampNeg) (xs (nI i + (2 : Int32)).toNatClampNeg) (xs (nI i + (3 : Int32)).toNatClampNeg) σ h1) rfl (by decide) rfl (Nat.le_of_ble_eq_true rfl) ⟨Nat.le_of_ble_eq_true rfl, Nat.le_of_ble_eq_true rfl⟩ ?_
  refine vr_aload_n (pc := 1514) hc dL_law_1514 rfl ?_
  refine vr_aload_n (pc := 1515) hc dL_law_1515 rfl ?_
  refine vr_iload_n (pc := 1516) hc dL_law_1516 rfl ?_
  refine vr_iconst (pc := 1517) hc dL_law_1517 (1 : Int32) (by decide) ?_
  refine vr_iadd (pc := 1518) hc dL_law_1518 ?_
  refine vl_ld (pc := 1519) hc hX dL_law_1519 (vl_ix (k := 1) hi5 (by decide) hL (1 : Int32) (by decide)) ?_
  refine vr_aload_n (pc := 1520) hc dL_law_1520 rfl ?_
  refine vr_iload_n (pc := 1521) hc dL_law_1521 rfl ?_
  refine vr_iconst (pc := 1522) hc dL_law_1522 (2 : Int32) (by decide) ?_
  refine vr_iadd (pc := 1523) hc dL_law_1523 ?_
  refine vl_ld (pc := 1524) hc hX dL_law_1524 (vl_ix (k := 2) hi5 (by decide) hL (2 : Int32) (by decide)) ?_
  refine vr_aload_n (pc := 1525) hc dL_law_1525 rfl ?_
  refine vr_iload_n (pc := 1526) hc dL_law_1526 rfl ?_
  refine vr_iconst (pc := 1527) hc dL_law_1527 (3 : Int32) (by decide) ?_
  refine vr_iadd (pc := 1528) hc dL_law_1528 ?_
  refine vl_ld (pc := 1529) hc hX dL_law_1529 (vl_ix (k := 3) hi5 (by decide) hL (3 : Int32) (by decide)) ?_
  refine vl_call (pc := 1530) hc dL_law_1530 mt_X9_lay ml_L_179 gc_108 (w_X9_lay z _ (xs (nI i + (1 : Int32)).toNatClampNeg) (xs (nI i + (2 : Int32)).toNatClampNeg) (xs (nI i + (3 : Int32)).toNatClampNeg) σ1 h2) rfl (by decide) rfl (Nat.le_of_ble_eq_true rfl) ⟨Nat.le_of_ble_eq_true rfl, Nat.le_of_ble_eq_true rfl⟩ ?_
  refine vr_icmp_eq (pc := 1533) hc 1627 dL_law_1533 (by decide) (fun _ => ?_) (fun q => absurd rfl q)
  exact hnext _ hR
set_option maxRecDepth 20000 in
set_option maxHeartbeats 1000000 in
theorem vl_c40 {p : Program} {l : Launch} {e : Env} {s : State} {m : MethodId} {below : List Frame} {meth : Method} {c : Code} {b Ln i : Nat} {xs : Nat → Int32} {z : vz_Z} {Rl : vz_I → Prop} (hs : sim_read Rl) (hc : vz_C z (vl_M p l e s m below meth c b) code RL 12 4) (hX : vl_X z (vl_M p l e s m below meth c b) b Ln xs) (hL : Ln ≤ 2560) (hi5 : i + 5 ≤ Ln) {σ : vz_I} (hR0 : Rl σ) (hnext : ∀ σ, Rl σ → vz_V z (vl_M p l e s m below meth c b) 123 1687 1627 [(0, some (.ref 1048583)), (1, some (.ref 0)), (2, some (.ref 108)), (3, some (.int (nI i)))] [] vz_G0 σ vz_N0) : vz_V z (vl_M p l e s m below meth c b) 123 1687 1538 [(0, some (.ref 1048583)), (1, some (.ref 0)), (2, some (.ref 108)), (3, some (.int (nI i)))] [] vz_G0 σ vz_N0 := by
  obtain ⟨r, σ1, σ2, h1, h2, hR⟩ := hs σ hR0 (xs (nI i + (1 : Int32)).toNatClampNeg) (xs (nI i + (2 : Int32)).toNatClampNeg) (xs (nI i + (3 : Int32)).toNatClampNeg) (xs (nI i + (4 : Int32)).toNatClampNeg)
  refine vr_aload_n (pc := 1538) hc dL_law_1538 rfl ?_
  refine vr_aload_n (pc := 1539) hc dL_law_1539 rfl ?_
  refine vr_iload_n (pc := 1540) hc dL_law_1540 rfl ?_
  refine vr_iconst (pc := 1541) hc dL_law_1541 (1 : Int32) (by decide) ?_
  refine vr_iadd (pc := 1542) hc dL_law_1542 ?_
  refine vl_ld (pc := 1543) hc hX dL_law_1543 (vl_ix (k := 1) hi5 (by decide) hL (1 : Int32) (by decide)) ?_
  refine vr_aload_n (pc := 1544) hc dL_law_1544 rfl ?_
  refine vr_iload_n (pc := 1545) hc dL_law_1545 rfl ?_
  refine vr_iconst (pc := 1546) hc dL_law_1546 (2 : Int32) (by decide) ?_
  refine vr_iadd (pc := 1547) hc dL_law_1547 ?_
  refine vl_ld (pc := 1548) hc hX dL_law_1548 (vl_ix (k := 2) hi5 (by decide) hL (2 : Int32) (by decide)) ?_
  refine vr_aload_n (pc := 1549) hc dL_law_1549 rfl ?_
  refine vr_iload_n (pc := 1550) hc dL_law_1550 rfl ?_
  refine vr_iconst (pc := 1551) hc dL_law_1551 (3 : Int32) (by decide) ?_
  refine vr_iadd (pc := 1552) hc dL_law_1552 ?_
  refine vl_ld (pc := 1553) hc hX dL_law_1553 (vl_ix (k := 3) hi5 (by decide) hL (3 : Int32) (by decide)) ?_
  refine vr_aload_n (pc := 1554) hc dL_law_1554 rfl ?_
  refine vr_iload_n (pc := 1555) hc dL_law_1555 rfl ?_
  refine vr_iconst (pc := 1556) hc dL_law_1556 (4 : Int32) (by decide) ?_
  refine vr_iadd (pc := 1557) hc dL_law_1557 ?_
  refine vl_ld (pc := 1558) hc hX dL_law_1558 (vl_ix (k := 4) hi5 (by decide) hL (4 : Int32) (by decide)) ?_
  refine vl_call (pc := 1559) hc dL_law_1559 mt_X8_read ml_L_180 gc_0 (w_X8_read z _ (xs (nI i + (1 : Int32)).toNatClampNeg) (xs (nI i + (2 : Int32)).toNatClampNeg) (xs (nI i + (3 : Int32)).toNatClampNeg) (xs (nI i + (4 : Int32)).toNatClampNeg) σ h1) rfl (by decide) rfl (Nat.le_of_ble_eq_true rfl) ⟨Nat.le_of_ble_eq_true rfl, Nat.le_of_ble_eq_true rfl⟩ ?_
  refine vr_aload_n (pc := 1562) hc dL_law_1562 rfl ?_
  refine vr_aload_n (pc := 1563) hc dL_law_1563 rfl ?_
  refine vr_iload_n (pc := 1564) hc dL_law_1564 rfl ?_
  refine vr_iconst (pc := 1565) hc dL_law_1565 (1 : Int32) (by decide) ?_
  refine vr_iadd (pc := 1566) hc dL_law_1566 ?_
  refine vl_ld (pc := 1567) hc hX dL_law_1567 (vl_ix (k := 1) hi5 (by decide) hL (1 : Int32) (by decide)) ?_
  refine vr_aload_n (pc := 1568) hc dL_law_1568 rfl ?_
  refine vr_iload_n (pc := 1569) hc dL_law_1569 rfl ?_
  refine vr_iconst (pc := 1570) hc dL_law_1570 (2 : Int32) (by decide) ?_
  refine vr_iadd (pc := 1571) hc dL_law_1571 ?_
  refine vl_ld (pc := 1572) hc hX dL_law_1572 (vl_ix (k := 2) hi5 (by decide) hL (2 : Int32) (by decide)) ?_
  refine vr_aload_n (pc := 1573) hc dL_law_1573 rfl ?_
  refine vr_iload_n (pc := 1574) hc dL_law_1574 rfl ?_
  refine vr_iconst (pc := 1575) hc dL_law_1575 (3 : Int32) (by decide) ?_
  refine vr_iadd (pc := 1576) hc dL_law_1576 ?_
  refine vl_ld (pc := 1577) hc hX dL_law_1577 (vl_ix (k := 3) hi5 (by decide) hL (3 : Int32) (by decide)) ?_
  refine vr_aload_n (pc := 1578) hc dL_law_1578 rfl ?_
  refine vr_iload_n (pc := 1579) hc dL_law_1579 rfl ?_
  refine vr_iconst (pc := 1580) hc dL_law_1580 (4 : Int32) (by decide) ?_
  refine vr_iadd (pc := 1581) hc dL_law_1581 ?_
  refine vl_ld (pc := 1582) hc hX dL_law_1582 (vl_ix (k := 4) hi5 (by decide) hL (4 : Int32) (by decide)) ?_
  refine vl_call (pc := 1583) hc dL_law_1583 mt_X9_read ml_L_184 gc_108 (w_X9_read z _ (xs (nI i + (1 : Int32)).toNatClampNeg) (xs (nI i + (2 : Int32)).toNatClampNeg) (xs (nI i + (3 : Int32)).toNatClampNeg) (xs (nI i + (4 : Int32)).toNatClampNeg) σ1 h2) rfl (by decide) rfl (Nat.le_of_ble_eq_true rfl) ⟨Nat.le_of_ble_eq_true rfl, Nat.le_of_ble_eq_true rfl⟩ ?_
  refine vr_icmp_eq (pc := 1586) hc 1627 dL_law_1586 (by decide) (fun _ => ?_) (fun q => absurd rfl q)
  exact hnext _ hR
set_option maxRecDepth 20000 in
set_option maxHeartbeats 1000000 in
theorem vl_c41 {p : Program} {l : Launch} {e : Env} {s : State} {m : MethodId} {below : List Frame} {meth : Method} {c : Code} {b Ln i : Nat} {xs : Nat → Int32} {z : vz_Z} {Rl : vz_I → Prop} (hs : sim_torn Rl) (hc : vz_C z (vl_M p l e s m below meth c b) code RL 12 4) (hX : vl_X z (vl_M p l e s m below meth c b) b Ln xs) (hL : Ln ≤ 2560) (hi5 : i + 5 ≤ Ln) {σ : vz_I} (hR0 : Rl σ) (hnext : ∀ σ, Rl σ → vz_V z (vl_M p l e s m below meth c b) 123 1687 1627 [(0, some (.ref 1048583)), (1, some (.ref 0)), (2, some (.ref 108)), (3, some (.int (nI i)))] [] vz_G0 σ vz_N0) : vz_V z (vl_M p l e s m below meth c b) 123 1687 1591 [(0, some (.ref 1048583)), (1, some (.ref 0)), (2, some (.ref 108)), (3, some (.int (nI i)))] [] vz_G0 σ vz_N0 := by
  obtain ⟨r, σ1, σ2, h1, h2, hR⟩ := hs σ hR0 
  refine vr_aload_n (pc := 1591) hc dL_law_1591 rfl ?_
  obtain ⟨h1, rfl⟩ := h1
  refine vl_call (pc := 1592) hc dL_law_1592 mt_X8_torn ml_L_185 gc_0 (w_X8_torn z _  σ h1) rfl (by decide) rfl (Nat.le_of_ble_eq_true rfl) ⟨Nat.le_of_ble_eq_true rfl, Nat.le_of_ble_eq_true rfl⟩ ?_
  refine vr_aload_n (pc := 1595) hc dL_law_1595 rfl ?_
  obtain ⟨h2, rfl⟩ := h2
  refine vl_call (pc := 1596) hc dL_law_1596 mt_X9_torn ml_L_188 gc_108 (w_X9_torn z _  σ h2) rfl (by decide) rfl (Nat.le_of_ble_eq_true rfl) ⟨Nat.le_of_ble_eq_true rfl, Nat.le_of_ble_eq_true rfl⟩ ?_
  refine vr_icmp_eq (pc := 1599) hc 1627 dL_law_1599 (by decide) (fun _ => ?_) (fun q => absurd rfl q)
  exact hnext _ hR
set_option maxRecDepth 20000 in
set_option maxHeartbeats 1000000 in
theorem vl_c42 {p : Program} {l : Launch} {e : Env} {s : State} {m : MethodId} {below : List Frame} {meth : Method} {c : Code} {b Ln i : Nat} {xs : Nat → Int32} {z : vz_Z} {Rl : vz_I → Prop} (hs : sim_count Rl) (hc : vz_C z (vl_M p l e s m below meth c b) code RL 12 4) (hX : vl_X z (vl_M p l e s m below meth c b) b Ln xs) (hL : Ln ≤ 2560) (hi5 : i + 5 ≤ Ln) {σ : vz_I} (hR0 : Rl σ) (hnext : ∀ σ, Rl σ → vz_V z (vl_M p l e s m below meth c b) 123 1687 1627 [(0, some (.ref 1048583)), (1, some (.ref 0)), (2, some (.ref 108)), (3, some (.int (nI i)))] [] vz_G0 σ vz_N0) : vz_V z (vl_M p l e s m below meth c b) 123 1687 1604 [(0, some (.ref 1048583)), (1, some (.ref 0)), (2, some (.ref 108)), (3, some (.int (nI i)))] [] vz_G0 σ vz_N0 := by
  obtain ⟨r, σ1, σ2, h1, h2, hR⟩ := hs σ hR0 (xs (nI i + (1 : Int32)).toNatClampNeg)
  refine vr_aload_n (pc := 1604) hc dL_law_1604 rfl ?_
  refine vr_aload_n (pc := 1605) hc dL_law_1605 rfl ?_
  refine vr_iload_n (pc := 1606) hc dL_law_1606 rfl ?_
  refine vr_iconst (pc := 1607) hc dL_law_1607 (1 : Int32) (by decide) ?_
  refine vr_iadd (pc := 1608) hc dL_law_1608 ?_
  refine vl_ld (pc := 1609) hc hX dL_law_1609 (vl_ix (k := 1) hi5 (by decide) hL (1 : Int32) (by decide)) ?_
  obtain ⟨h1, rfl⟩ := h1
  refine vl_call (pc := 1610) hc dL_law_1610 mt_X8_count ml_L_189 gc_0 (w_X8_count z _ (xs (nI i + (1 : Int32)).toNatClampNeg) σ h1) rfl (by decide) rfl (Nat.le_of_ble_eq_true rfl) ⟨Nat.le_of_ble_eq_true rfl, Nat.le_of_ble_eq_true rfl⟩ ?_
  refine vr_aload_n (pc := 1613) hc dL_law_1613 rfl ?_
  refine vr_aload_n (pc := 1614) hc dL_law_1614 rfl ?_
  refine vr_iload_n (pc := 1615) hc dL_law_1615 rfl ?_
  refine vr_iconst (pc := 1616) hc dL_law_1616 (1 : Int32) (by decide) ?_
  refine vr_iadd (pc := 1617) hc dL_law_1617 ?_
  refine vl_ld (pc := 1618) hc hX dL_law_1618 (vl_ix (k := 1) hi5 (by decide) hL (1 : Int32) (by decide)) ?_
  obtain ⟨h2, rfl⟩ := h2
  refine vl_call (pc := 1619) hc dL_law_1619 mt_X9_count ml_L_192 gc_108 (w_X9_count z _ (xs (nI i + (1 : Int32)).toNatClampNeg) σ h2) rfl (by decide) rfl (Nat.le_of_ble_eq_true rfl) ⟨Nat.le_of_ble_eq_true rfl, Nat.le_of_ble_eq_true rfl⟩ ?_
  refine vr_icmp_eq (pc := 1622) hc 1627 dL_law_1622 (by decide) (fun _ => ?_) (fun q => absurd rfl q)
  exact hnext _ hR
set_option maxRecDepth 20000 in
set_option maxHeartbeats 4000000 in
theorem vl_loop {p : Program} {l : Launch} {e : Env} {s : State} {m : MethodId} {below : List Frame} {meth : Method} {c : Code} {b Ln : Nat} {xs : Nat → Int32} {z : vz_Z} {Rl : vz_I → Prop} (hs : vz_sims Rl) (hc : vz_C z (vl_M p l e s m below meth c b) code RL 12 4) (hX : vl_X z (vl_M p l e s m below meth c b) b Ln xs) (hr : meth.sig.returnType = ret) (hlocks : meth.locks = false) (hL : Ln ≤ 2560) : ∀ (n i : Nat), i ≤ 2565 → 2566 ≤ i + n → ∀ σ, Rl σ → vz_V z (vl_M p l e s m below meth c b) 123 1687 18 [(0, some (.ref 1048583)), (1, some (.ref 0)), (2, some (.ref 108)), (3, some (.int (nI i)))] [] vz_G0 σ vz_N0 := by
  intro n
  induction n with
  | zero => intro i h1 h2; omega
  | succ n ih =>
    intro i hi hn σ hR
    refine vr_iload_n (pc := 18) hc dL_law_18 rfl ?_
    refine vr_aload_n (pc := 19) hc dL_law_19 rfl ?_
    refine vl_len (pc := 20) hc hX dL_law_20 ?_
    refine vr_iconst (pc := 21) hc dL_law_21 (5 : Int32) (by decide) ?_
    refine vr_isub (pc := 22) hc dL_law_22 ?_
    refine vr_icmp_gt (pc := 23) hc 1633 dL_law_23 (by decide) (fun _ => ?_) (fun hq => ?_)
    · refine vr_iconst (pc := 1633) hc dL_law_1633 (1 : Int32) (by decide) ?_
      exact vl_end hc hr hlocks hX.2.2.1 (by decide) (by decide) dL_law_1634
    · have hi5 : i + 5 ≤ Ln := vl_gt hL hi hq
      have hnext : ∀ σ, Rl σ → vz_V z (vl_M p l e s m below meth c b) 123 1687 1627 [(0, some (.ref 1048583)), (1, some (.ref 0)), (2, some (.ref 108)), (3, some (.int (nI i)))] [] vz_G0 σ vz_N0 := by
        intro σ hR
        refine vk_iinc (pc := 1627) hc dL_law_1627 (5 : Int32) (nI (i + 5)) (by decide) (by rw [← nI_add]; rfl) rfl (by decide) rfl ?_
        refine vr_goto (pc := 1630) hc 18 dL_law_1630 (by decide) ?_
        exact vz_sub (ih (i + 5) (by omega) (by omega) σ hR) (vz_sb1 rfl (vz_sb1 rfl (vz_sb1 rfl (vz_sb1 rfl vz_sb0))))
      refine vr_aload_n (pc := 26) hc dL_law_26 rfl ?_
      refine vr_iload_n (pc := 27) hc dL_law_27 rfl ?_
      refine vl_ld (pc := 28) hc hX dL_law_28 (vp_in_nI (by omega) (by omega)) ?_
      refine vr_bipush (pc := 29) hc dL_law_29 (63 : Int32) (by decide) ?_
      refine vr_iand (pc := 31) hc dL_law_31 ?_
      generalize xs (nI i).toNatClampNeg &&& 63 = x
      by_cases hb0 : x = 0
      · refine vr_tableIn (pc := 32) hc _ 220 dL_law_32 (by rw [hb0]; decide) (by rw [hb0]; decide) (off := 188) (by rw [hb0]; decide) (by decide) ?_
        exact vl_c0 hs.1 hc hX hL hi5 hR hnext
      by_cases hb1 : x = 1
      · refine vr_tableIn (pc := 32) hc _ 243 dL_law_32 (by rw [hb1]; decide) (by rw [hb1]; decide) (off := 211) (by rw [hb1]; decide) (by decide) ?_
        exact vl_c1 hs.2.1 hc hX hL hi5 hR hnext
      by_cases hb2 : x = 2
      · refine vr_tableIn (pc := 32) hc _ 266 dL_law_32 (by rw [hb2]; decide) (by rw [hb2]; decide) (off := 234) (by rw [hb2]; decide) (by decide) ?_
        exact vl_c2 hs.2.2.1 hc hX hL hi5 hR hnext
      by_cases hb3 : x = 3
      · refine vr_tableIn (pc := 32) hc _ 279 dL_law_32 (by rw [hb3]; decide) (by rw [hb3]; decide) (off := 247) (by rw [hb3]; decide) (by decide) ?_
        exact vl_c3 hs.2.2.2.1 hc hX hL hi5 hR hnext
      by_cases hb4 : x = 4
      · refine vr_tableIn (pc := 32) hc _ 292 dL_law_32 (by rw [hb4]; decide) (by rw [hb4]; decide) (off := 260) (by rw [hb4]; decide) (by decide) ?_
        exact vl_c4 hs.2.2.2.2.1 hc hX hL hi5 hR hnext
      by_cases hb5 : x = 5
      · refine vr_tableIn (pc := 32) hc _ 315 dL_law_32 (by rw [hb5]; decide) (by rw [hb5]; decide) (off := 283) (by rw [hb5]; decide) (by decide) ?_
        exact vl_c5 hs.2.2.2.2.2.1 hc hX hL hi5 hR hnext
      by_cases hb6 : x = 6
      · refine vr_tableIn (pc := 32) hc _ 348 dL_law_32 (by rw [hb6]; decide) (by rw [hb6]; decide) (off := 316) (by rw [hb6]; decide) (by decide) ?_
        exact vl_c6 hs.2.2.2.2.2.2.1 hc hX hL hi5 hR hnext
      by_cases hb7 : x = 7
      · refine vr_tableIn (pc := 32) hc _ 381 dL_law_32 (by rw [hb7]; decide) (by rw [hb7]; decide) (off := 349) (by rw [hb7]; decide) (by decide) ?_
        exact vl_c7 hs.2.2.2.2.2.2.2.1 hc hX hL hi5 hR hnext
      by_cases hb8 : x = 8
      · refine vr_tableIn (pc := 32) hc _ 414 dL_law_32 (by rw [hb8]; decide) (by rw [hb8]; decide) (off := 382) (by rw [hb8]; decide) (by decide) ?_
        exact vl_c8 hs.2.2.2.2.2.2.2.2.1 hc hX hL hi5 hR hnext
      by_cases hb9 : x = 9
      · refine vr_tableIn (pc := 32) hc _ 447 dL_law_32 (by rw [hb9]; decide) (by rw [hb9]; decide) (off := 415) (by rw [hb9]; decide) (by decide) ?_
        exact vl_c9 hs.2.2.2.2.2.2.2.2.2.1 hc hX hL hi5 hR hnext
      by_cases hb10 : x = 10
      · refine vr_tableIn (pc := 32) hc _ 490 dL_law_32 (by rw [hb10]; decide) (by rw [hb10]; decide) (off := 458) (by rw [hb10]; decide) (by decide) ?_
        exact vl_c10 hs.2.2.2.2.2.2.2.2.2.2.1 hc hX hL hi5 hR hnext
      by_cases hb11 : x = 11
      · refine vr_tableIn (pc := 32) hc _ 533 dL_law_32 (by rw [hb11]; decide) (by rw [hb11]; decide) (off := 501) (by rw [hb11]; decide) (by decide) ?_
        exact vl_c11 hs.2.2.2.2.2.2.2.2.2.2.2.1 hc hX hL hi5 hR hnext
      by_cases hb12 : x = 12
      · refine vr_tableIn (pc := 32) hc _ 566 dL_law_32 (by rw [hb12]; decide) (by rw [hb12]; decide) (off := 534) (by rw [hb12]; decide) (by decide) ?_
        exact vl_c12 hs.2.2.2.2.2.2.2.2.2.2.2.2.1 hc hX hL hi5 hR hnext
      by_cases hb13 : x = 13
      · refine vr_tableIn (pc := 32) hc _ 609 dL_law_32 (by rw [hb13]; decide) (by rw [hb13]; decide) (off := 577) (by rw [hb13]; decide) (by decide) ?_
        exact vl_c13 hs.2.2.2.2.2.2.2.2.2.2.2.2.2.1 hc hX hL hi5 hR hnext
      by_cases hb14 : x = 14
      · refine vr_tableIn (pc := 32) hc _ 642 dL_law_32 (by rw [hb14]; decide) (by rw [hb14]; decide) (off := 610) (by rw [hb14]; decide) (by decide) ?_
        exact vl_c14 hs.2.2.2.2.2.2.2.2.2.2.2.2.2.2.1 hc hX hL hi5 hR hnext
      by_cases hb15 : x = 15
      · refine vr_tableIn (pc := 32) hc _ 675 dL_law_32 (by rw [hb15]; decide) (by rw [hb15]; decide) (off := 643) (by rw [hb15]; decide) (by decide) ?_
        exact vl_c15 hs.2.2.2.2.2.2.2.2.2.2.2.2.2.2.2.1 hc hX hL hi5 hR hnext
      by_cases hb16 : x = 16
      · refine vr_tableIn (pc := 32) hc _ 708 dL_law_32 (by rw [hb16]; decide) (by rw [hb16]; decide) (off := 676) (by rw [hb16]; decide) (by decide) ?_
        exact vl_c16 hs.2.2.2.2.2.2.2.2.2.2.2.2.2.2.2.2.1 hc hX hL hi5 hR hnext
      by_cases hb17 : x = 17
      · refine vr_tableIn (pc := 32) hc _ 751 dL_law_32 (by rw [hb17]; decide) (by rw [hb17]; decide) (off := 719) (by rw [hb17]; decide) (by decide) ?_
        exact vl_c17 hs.2.2.2.2.2.2.2.2.2.2.2.2.2.2.2.2.2.1 hc hX hL hi5 hR hnext
      by_cases hb18 : x = 18
      · refine vr_tableIn (pc := 32) hc _ 794 dL_law_32 (by rw [hb18]; decide) (by rw [hb18]; decide) (off := 762) (by rw [hb18]; decide) (by decide) ?_
        exact vl_c18 hs.2.2.2.2.2.2.2.2.2.2.2.2.2.2.2.2.2.2.1 hc hX hL hi5 hR hnext
      by_cases hb19 : x = 19
      · refine vr_tableIn (pc := 32) hc _ 827 dL_law_32 (by rw [hb19]; decide) (by rw [hb19]; decide) (off := 795) (by rw [hb19]; decide) (by decide) ?_
        exact vl_c19 hs.2.2.2.2.2.2.2.2.2.2.2.2.2.2.2.2.2.2.2.1 hc hX hL hi5 hR hnext
      by_cases hb20 : x = 20
      · refine vr_tableIn (pc := 32) hc _ 850 dL_law_32 (by rw [hb20]; decide) (by rw [hb20]; decide) (off := 818) (by rw [hb20]; decide) (by decide) ?_
        exact vl_c20 hs.2.2.2.2.2.2.2.2.2.2.2.2.2.2.2.2.2.2.2.2.1 hc hX hL hi5 hR hnext
      by_cases hb21 : x = 21
      · refine vr_tableIn (pc := 32) hc _ 883 dL_law_32 (by rw [hb21]; decide) (by rw [hb21]; decide) (off := 851) (by rw [hb21]; decide) (by decide) ?_
        exact vl_c21 hs.2.2.2.2.2.2.2.2.2.2.2.2.2.2.2.2.2.2.2.2.2.1 hc hX hL hi5 hR hnext
      by_cases hb22 : x = 22
      · refine vr_tableIn (pc := 32) hc _ 916 dL_law_32 (by rw [hb22]; decide) (by rw [hb22]; decide) (off := 884) (by rw [hb22]; decide) (by decide) ?_
        exact vl_c22 hs.2.2.2.2.2.2.2.2.2.2.2.2.2.2.2.2.2.2.2.2.2.2.1 hc hX hL hi5 hR hnext
      by_cases hb23 : x = 23
      · refine vr_tableIn (pc := 32) hc _ 949 dL_law_32 (by rw [hb23]; decide) (by rw [hb23]; decide) (off := 917) (by rw [hb23]; decide) (by decide) ?_
        exact vl_c23 hs.2.2.2.2.2.2.2.2.2.2.2.2.2.2.2.2.2.2.2.2.2.2.2.1 hc hX hL hi5 hR hnext
      by_cases hb24 : x = 24
      · refine vr_tableIn (pc := 32) hc _ 982 dL_law_32 (by rw [hb24]; decide) (by rw [hb24]; decide) (off := 950) (by rw [hb24]; decide) (by decide) ?_
        exact vl_c24 hs.2.2.2.2.2.2.2.2.2.2.2.2.2.2.2.2.2.2.2.2.2.2.2.2.1 hc hX hL hi5 hR hnext
      by_cases hb25 : x = 25
      · refine vr_tableIn (pc := 32) hc _ 1015 dL_law_32 (by rw [hb25]; decide) (by rw [hb25]; decide) (off := 983) (by rw [hb25]; decide) (by decide) ?_
        exact vl_c25 hs.2.2.2.2.2.2.2.2.2.2.2.2.2.2.2.2.2.2.2.2.2.2.2.2.2.1 hc hX hL hi5 hR hnext
      by_cases hb26 : x = 26
      · refine vr_tableIn (pc := 32) hc _ 1048 dL_law_32 (by rw [hb26]; decide) (by rw [hb26]; decide) (off := 1016) (by rw [hb26]; decide) (by decide) ?_
        exact vl_c26 hs.2.2.2.2.2.2.2.2.2.2.2.2.2.2.2.2.2.2.2.2.2.2.2.2.2.2.1 hc hX hL hi5 hR hnext
      by_cases hb27 : x = 27
      · refine vr_tableIn (pc := 32) hc _ 1071 dL_law_32 (by rw [hb27]; decide) (by rw [hb27]; decide) (off := 1039) (by rw [hb27]; decide) (by decide) ?_
        exact vl_c27 hs.2.2.2.2.2.2.2.2.2.2.2.2.2.2.2.2.2.2.2.2.2.2.2.2.2.2.2.1 hc hX hL hi5 hR hnext
      by_cases hb28 : x = 28
      · refine vr_tableIn (pc := 32) hc _ 1104 dL_law_32 (by rw [hb28]; decide) (by rw [hb28]; decide) (off := 1072) (by rw [hb28]; decide) (by decide) ?_
        exact vl_c28 hs.2.2.2.2.2.2.2.2.2.2.2.2.2.2.2.2.2.2.2.2.2.2.2.2.2.2.2.2.1 hc hX hL hi5 hR hnext
      by_cases hb29 : x = 29
      · refine vr_tableIn (pc := 32) hc _ 1158 dL_law_32 (by rw [hb29]; decide) (by rw [hb29]; decide) (off := 1126) (by rw [hb29]; decide) (by decide) ?_
        exact vl_c29 hs.2.2.2.2.2.2.2.2.2.2.2.2.2.2.2.2.2.2.2.2.2.2.2.2.2.2.2.2.2.1 hc hX hL hi5 hR hnext
      by_cases hb30 : x = 30
      · refine vr_tableIn (pc := 32) hc _ 1192 dL_law_32 (by rw [hb30]; decide) (by rw [hb30]; decide) (off := 1160) (by rw [hb30]; decide) (by decide) ?_
        exact vl_c30 hs.2.2.2.2.2.2.2.2.2.2.2.2.2.2.2.2.2.2.2.2.2.2.2.2.2.2.2.2.2.2.1 hc hX hL hi5 hR hnext
      by_cases hb31 : x = 31
      · refine vr_tableIn (pc := 32) hc _ 1261 dL_law_32 (by rw [hb31]; decide) (by rw [hb31]; decide) (off := 1229) (by rw [hb31]; decide) (by decide) ?_
        exact vl_c31 hs.2.2.2.2.2.2.2.2.2.2.2.2.2.2.2.2.2.2.2.2.2.2.2.2.2.2.2.2.2.2.2.1 hc hX hL hi5 hR hnext
      by_cases hb32 : x = 32
      · refine vr_tableIn (pc := 32) hc _ 1284 dL_law_32 (by rw [hb32]; decide) (by rw [hb32]; decide) (off := 1252) (by rw [hb32]; decide) (by decide) ?_
        exact vl_c32 hs.2.2.2.2.2.2.2.2.2.2.2.2.2.2.2.2.2.2.2.2.2.2.2.2.2.2.2.2.2.2.2.2.1 hc hX hL hi5 hR hnext
      by_cases hb33 : x = 33
      · refine vr_tableIn (pc := 32) hc _ 1307 dL_law_32 (by rw [hb33]; decide) (by rw [hb33]; decide) (off := 1275) (by rw [hb33]; decide) (by decide) ?_
        exact vl_c33 hs.2.2.2.2.2.2.2.2.2.2.2.2.2.2.2.2.2.2.2.2.2.2.2.2.2.2.2.2.2.2.2.2.2.1 hc hX hL hi5 hR hnext
      by_cases hb34 : x = 34
      · refine vr_tableIn (pc := 32) hc _ 1330 dL_law_32 (by rw [hb34]; decide) (by rw [hb34]; decide) (off := 1298) (by rw [hb34]; decide) (by decide) ?_
        exact vl_c34 hs.2.2.2.2.2.2.2.2.2.2.2.2.2.2.2.2.2.2.2.2.2.2.2.2.2.2.2.2.2.2.2.2.2.2.1 hc hX hL hi5 hR hnext
      by_cases hb35 : x = 35
      · refine vr_tableIn (pc := 32) hc _ 1363 dL_law_32 (by rw [hb35]; decide) (by rw [hb35]; decide) (off := 1331) (by rw [hb35]; decide) (by decide) ?_
        exact vl_c35 hs.2.2.2.2.2.2.2.2.2.2.2.2.2.2.2.2.2.2.2.2.2.2.2.2.2.2.2.2.2.2.2.2.2.2.2.1 hc hX hL hi5 hR hnext
      by_cases hb36 : x = 36
      · refine vr_tableIn (pc := 32) hc _ 1406 dL_law_32 (by rw [hb36]; decide) (by rw [hb36]; decide) (off := 1374) (by rw [hb36]; decide) (by decide) ?_
        exact vl_c36 hs.2.2.2.2.2.2.2.2.2.2.2.2.2.2.2.2.2.2.2.2.2.2.2.2.2.2.2.2.2.2.2.2.2.2.2.2.1 hc hX hL hi5 hR hnext
      by_cases hb37 : x = 37
      · refine vr_tableIn (pc := 32) hc _ 1429 dL_law_32 (by rw [hb37]; decide) (by rw [hb37]; decide) (off := 1397) (by rw [hb37]; decide) (by decide) ?_
        exact vl_c37 hs.2.2.2.2.2.2.2.2.2.2.2.2.2.2.2.2.2.2.2.2.2.2.2.2.2.2.2.2.2.2.2.2.2.2.2.2.2.1 hc hX hL hi5 hR hnext
      by_cases hb38 : x = 38
      · refine vr_tableIn (pc := 32) hc _ 1452 dL_law_32 (by rw [hb38]; decide) (by rw [hb38]; decide) (off := 1420) (by rw [hb38]; decide) (by decide) ?_
        exact vl_c38 hs.2.2.2.2.2.2.2.2.2.2.2.2.2.2.2.2.2.2.2.2.2.2.2.2.2.2.2.2.2.2.2.2.2.2.2.2.2.2.1 hc hX hL hi5 hR hnext
      by_cases hb39 : x = 39
      · refine vr_tableIn (pc := 32) hc _ 1495 dL_law_32 (by rw [hb39]; decide) (by rw [hb39]; decide) (off := 1463) (by rw [hb39]; decide) (by decide) ?_
        exact vl_c39 hs.2.2.2.2.2.2.2.2.2.2.2.2.2.2.2.2.2.2.2.2.2.2.2.2.2.2.2.2.2.2.2.2.2.2.2.2.2.2.2.1 hc hX hL hi5 hR hnext
      by_cases hb40 : x = 40
      · refine vr_tableIn (pc := 32) hc _ 1538 dL_law_32 (by rw [hb40]; decide) (by rw [hb40]; decide) (off := 1506) (by rw [hb40]; decide) (by decide) ?_
        exact vl_c40 hs.2.2.2.2.2.2.2.2.2.2.2.2.2.2.2.2.2.2.2.2.2.2.2.2.2.2.2.2.2.2.2.2.2.2.2.2.2.2.2.2.1 hc hX hL hi5 hR hnext
      by_cases hb41 : x = 41
      · refine vr_tableIn (pc := 32) hc _ 1591 dL_law_32 (by rw [hb41]; decide) (by rw [hb41]; decide) (off := 1559) (by rw [hb41]; decide) (by decide) ?_
        exact vl_c41 hs.2.2.2.2.2.2.2.2.2.2.2.2.2.2.2.2.2.2.2.2.2.2.2.2.2.2.2.2.2.2.2.2.2.2.2.2.2.2.2.2.2.1 hc hX hL hi5 hR hnext
      by_cases hb42 : x = 42
      · refine vr_tableIn (pc := 32) hc _ 1604 dL_law_32 (by rw [hb42]; decide) (by rw [hb42]; decide) (off := 1572) (by rw [hb42]; decide) (by decide) ?_
        exact vl_c42 hs.2.2.2.2.2.2.2.2.2.2.2.2.2.2.2.2.2.2.2.2.2.2.2.2.2.2.2.2.2.2.2.2.2.2.2.2.2.2.2.2.2.2 hc hX hL hi5 hR hnext
      refine vr_tableOut (pc := 32) hc 1627 dL_law_32 (by have e0 := lv_neT hb0 (show (0 : Int32).toInt = 0 by decide); have e1 := lv_neT hb1 (show (1 : Int32).toInt = 1 by decide); have e2 := lv_neT hb2 (show (2 : Int32).toInt = 2 by decide); have e3 := lv_neT hb3 (show (3 : Int32).toInt = 3 by decide); have e4 := lv_neT hb4 (show (4 : Int32).toInt = 4 by decide); have e5 := lv_neT hb5 (show (5 : Int32).toInt = 5 by decide); have e6 := lv_neT hb6 (show (6 : Int32).toInt = 6 by decide); have e7 := lv_neT hb7 (show (7 : Int32).toInt = 7 by decide); have e8 := lv_neT hb8 (show (8 : Int32).toInt = 8 by decide); have e9 := lv_neT hb9 (show (9 : Int32).toInt = 9 by decide); have e10 := lv_neT hb10 (show (10 : Int32).toInt = 10 by decide); have e11 := lv_neT hb11 (show (11 : Int32).toInt = 11 by decide); have e12 := lv_neT hb12 (show (12 : Int32).toInt = 12 by decide); have e13 := lv_neT hb13 (show (13 : Int32).toInt = 13 by decide); have e14 := lv_neT hb14 (show (14 : Int32).toInt = 14 by decide); have e15 := lv_neT hb15 (show (15 : Int32).toInt = 15 by decide); have e16 := lv_neT hb16 (show (16 : Int32).toInt = 16 by decide); have e17 := lv_neT hb17 (show (17 : Int32).toInt = 17 by decide); have e18 := lv_neT hb18 (show (18 : Int32).toInt = 18 by decide); have e19 := lv_neT hb19 (show (19 : Int32).toInt = 19 by decide); have e20 := lv_neT hb20 (show (20 : Int32).toInt = 20 by decide); have e21 := lv_neT hb21 (show (21 : Int32).toInt = 21 by decide); have e22 := lv_neT hb22 (show (22 : Int32).toInt = 22 by decide); have e23 := lv_neT hb23 (show (23 : Int32).toInt = 23 by decide); have e24 := lv_neT hb24 (show (24 : Int32).toInt = 24 by decide); have e25 := lv_neT hb25 (show (25 : Int32).toInt = 25 by decide); have e26 := lv_neT hb26 (show (26 : Int32).toInt = 26 by decide); have e27 := lv_neT hb27 (show (27 : Int32).toInt = 27 by decide); have e28 := lv_neT hb28 (show (28 : Int32).toInt = 28 by decide); have e29 := lv_neT hb29 (show (29 : Int32).toInt = 29 by decide); have e30 := lv_neT hb30 (show (30 : Int32).toInt = 30 by decide); have e31 := lv_neT hb31 (show (31 : Int32).toInt = 31 by decide); have e32 := lv_neT hb32 (show (32 : Int32).toInt = 32 by decide); have e33 := lv_neT hb33 (show (33 : Int32).toInt = 33 by decide); have e34 := lv_neT hb34 (show (34 : Int32).toInt = 34 by decide); have e35 := lv_neT hb35 (show (35 : Int32).toInt = 35 by decide); have e36 := lv_neT hb36 (show (36 : Int32).toInt = 36 by decide); have e37 := lv_neT hb37 (show (37 : Int32).toInt = 37 by decide); have e38 := lv_neT hb38 (show (38 : Int32).toInt = 38 by decide); have e39 := lv_neT hb39 (show (39 : Int32).toInt = 39 by decide); have e40 := lv_neT hb40 (show (40 : Int32).toInt = 40 by decide); have e41 := lv_neT hb41 (show (41 : Int32).toInt = 41 by decide); have e42 := lv_neT hb42 (show (42 : Int32).toInt = 42 by decide); omega) (by decide) ?_
      exact hnext σ hR
