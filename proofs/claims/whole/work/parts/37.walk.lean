/-! THE LAW'S LOOP, over an invariant P of the chunks -/
theorem cf_L_24 : CFV RL 24 yX10_feed cX10_feed 7 (some .int) 3 := ⟨(List.forall_mem_cons.mpr ⟨(tg_2 149 rfl rfl), (List.forall_mem_cons.mpr ⟨(tg_2 150 rfl rfl), (List.forall_mem_cons.mpr ⟨(tg_2 151 rfl rfl), (List.forall_mem_cons.mpr ⟨(tg_1 1 rfl rfl), (List.forall_mem_cons.mpr ⟨(tg_2 152 rfl rfl), (fun _ h => absurd h List.not_mem_nil)⟩)⟩)⟩)⟩)⟩), by decide +kernel, by decide +kernel⟩
theorem cf_L_28 : CFV RL 28 yX11_feed cX11_feed 7 (some .int) 3 := ⟨(List.forall_mem_cons.mpr ⟨(tg_5 76 rfl rfl), (List.forall_mem_cons.mpr ⟨(tg_5 77 rfl rfl), (List.forall_mem_cons.mpr ⟨(tg_5 78 rfl rfl), (List.forall_mem_cons.mpr ⟨(tg_1 12 rfl rfl), (List.forall_mem_cons.mpr ⟨(tg_5 79 rfl rfl), (fun _ h => absurd h List.not_mem_nil)⟩)⟩)⟩)⟩)⟩), by decide +kernel, by decide +kernel⟩
theorem cf_L_29 : CFV RL 29 yX10_mountain cX10_mountain 2 (some .int) 0 := ⟨(List.forall_mem_cons.mpr ⟨(tg_2 157 rfl rfl), (List.forall_mem_cons.mpr ⟨(tg_2 158 rfl rfl), (List.forall_mem_cons.mpr ⟨(tg_2 159 rfl rfl), (List.forall_mem_cons.mpr ⟨(tg_1 1 rfl rfl), (List.forall_mem_cons.mpr ⟨(tg_2 160 rfl rfl), (fun _ h => absurd h List.not_mem_nil)⟩)⟩)⟩)⟩)⟩), by decide +kernel, by decide +kernel⟩
theorem cf_L_33 : CFV RL 33 yX11_mountain cX11_mountain 2 (some .int) 0 := ⟨(List.forall_mem_cons.mpr ⟨(tg_5 198 rfl rfl), (List.forall_mem_cons.mpr ⟨(tg_5 199 rfl rfl), (List.forall_mem_cons.mpr ⟨(tg_5 200 rfl rfl), (List.forall_mem_cons.mpr ⟨(tg_1 12 rfl rfl), (List.forall_mem_cons.mpr ⟨(tg_5 201 rfl rfl), (fun _ h => absurd h List.not_mem_nil)⟩)⟩)⟩)⟩)⟩), by decide +kernel, by decide +kernel⟩
theorem cf_L_34 : CFV RL 34 yX10_farm cX10_farm 3 (some .int) 2 := ⟨(List.forall_mem_cons.mpr ⟨(tg_3 132 rfl rfl), (List.forall_mem_cons.mpr ⟨(tg_3 133 rfl rfl), (List.forall_mem_cons.mpr ⟨(tg_3 134 rfl rfl), (List.forall_mem_cons.mpr ⟨(tg_1 1 rfl rfl), (List.forall_mem_cons.mpr ⟨(tg_3 135 rfl rfl), (fun _ h => absurd h List.not_mem_nil)⟩)⟩)⟩)⟩)⟩), by decide +kernel, by decide +kernel⟩
theorem cf_L_37 : CFV RL 37 yX11_farm cX11_farm 5 (some .int) 2 := ⟨(List.forall_mem_cons.mpr ⟨(tg_6 85 rfl rfl), (List.forall_mem_cons.mpr ⟨(tg_6 86 rfl rfl), (List.forall_mem_cons.mpr ⟨(tg_6 87 rfl rfl), (List.forall_mem_cons.mpr ⟨(tg_1 12 rfl rfl), (List.forall_mem_cons.mpr ⟨(tg_6 88 rfl rfl), (fun _ h => absurd h List.not_mem_nil)⟩)⟩)⟩)⟩)⟩), by decide +kernel, by decide +kernel⟩
theorem cf_L_38 : CFV RL 38 yX10_tooth cX10_tooth 3 (some .int) 2 := ⟨(List.forall_mem_cons.mpr ⟨(tg_3 148 rfl rfl), (List.forall_mem_cons.mpr ⟨(tg_3 149 rfl rfl), (List.forall_mem_cons.mpr ⟨(tg_3 150 rfl rfl), (List.forall_mem_cons.mpr ⟨(tg_1 1 rfl rfl), (List.forall_mem_cons.mpr ⟨(tg_3 151 rfl rfl), (fun _ h => absurd h List.not_mem_nil)⟩)⟩)⟩)⟩)⟩), by decide +kernel, by decide +kernel⟩
theorem cf_L_41 : CFV RL 41 yX11_tooth cX11_tooth 3 (some .int) 2 := ⟨(List.forall_mem_cons.mpr ⟨(tg_6 116 rfl rfl), (List.forall_mem_cons.mpr ⟨(tg_6 117 rfl rfl), (List.forall_mem_cons.mpr ⟨(tg_6 118 rfl rfl), (List.forall_mem_cons.mpr ⟨(tg_1 12 rfl rfl), (List.forall_mem_cons.mpr ⟨(tg_6 119 rfl rfl), (fun _ h => absurd h List.not_mem_nil)⟩)⟩)⟩)⟩)⟩), by decide +kernel, by decide +kernel⟩
theorem cf_L_42 : CFV RL 42 yX10_seed cX10_seed 2 (some .boolean) 1 := ⟨(List.forall_mem_cons.mpr ⟨(tg_3 156 rfl rfl), (List.forall_mem_cons.mpr ⟨(tg_3 157 rfl rfl), (List.forall_mem_cons.mpr ⟨(tg_3 158 rfl rfl), (List.forall_mem_cons.mpr ⟨(tg_1 1 rfl rfl), (List.forall_mem_cons.mpr ⟨(tg_3 159 rfl rfl), (fun _ h => absurd h List.not_mem_nil)⟩)⟩)⟩)⟩)⟩), by decide +kernel, by decide +kernel⟩
theorem cf_L_46 : CFV RL 46 yX11_seed cX11_seed 2 (some .boolean) 1 := ⟨(List.forall_mem_cons.mpr ⟨(tg_6 120 rfl rfl), (List.forall_mem_cons.mpr ⟨(tg_6 121 rfl rfl), (List.forall_mem_cons.mpr ⟨(tg_6 122 rfl rfl), (List.forall_mem_cons.mpr ⟨(tg_1 12 rfl rfl), (List.forall_mem_cons.mpr ⟨(tg_6 123 rfl rfl), (fun _ h => absurd h List.not_mem_nil)⟩)⟩)⟩)⟩)⟩), by decide +kernel, by decide +kernel⟩
theorem cf_L_47 : CFV RL 47 yX10_nights cX10_nights 2 (some .int) 1 := ⟨(List.forall_mem_cons.mpr ⟨(tg_3 160 rfl rfl), (List.forall_mem_cons.mpr ⟨(tg_3 161 rfl rfl), (List.forall_mem_cons.mpr ⟨(tg_3 162 rfl rfl), (List.forall_mem_cons.mpr ⟨(tg_1 1 rfl rfl), (List.forall_mem_cons.mpr ⟨(tg_3 163 rfl rfl), (fun _ h => absurd h List.not_mem_nil)⟩)⟩)⟩)⟩)⟩), by decide +kernel, by decide +kernel⟩
theorem cf_L_51 : CFV RL 51 yX11_nights cX11_nights 2 (some .int) 1 := ⟨(List.forall_mem_cons.mpr ⟨(tg_6 124 rfl rfl), (List.forall_mem_cons.mpr ⟨(tg_6 125 rfl rfl), (List.forall_mem_cons.mpr ⟨(tg_6 126 rfl rfl), (List.forall_mem_cons.mpr ⟨(tg_1 12 rfl rfl), (List.forall_mem_cons.mpr ⟨(tg_6 127 rfl rfl), (fun _ h => absurd h List.not_mem_nil)⟩)⟩)⟩)⟩)⟩), by decide +kernel, by decide +kernel⟩
theorem cf_L_52 : CFV RL 52 yX10_pact cX10_pact 4 (some .boolean) 3 := ⟨(List.forall_mem_cons.mpr ⟨(tg_3 226 rfl rfl), (List.forall_mem_cons.mpr ⟨(tg_3 227 rfl rfl), (List.forall_mem_cons.mpr ⟨(tg_3 228 rfl rfl), (List.forall_mem_cons.mpr ⟨(tg_1 1 rfl rfl), (List.forall_mem_cons.mpr ⟨(tg_3 229 rfl rfl), (fun _ h => absurd h List.not_mem_nil)⟩)⟩)⟩)⟩)⟩), by decide +kernel, by decide +kernel⟩
theorem cf_L_56 : CFV RL 56 yX11_pact cX11_pact 4 (some .boolean) 3 := ⟨(List.forall_mem_cons.mpr ⟨(tg_6 175 rfl rfl), (List.forall_mem_cons.mpr ⟨(tg_6 176 rfl rfl), (List.forall_mem_cons.mpr ⟨(tg_6 177 rfl rfl), (List.forall_mem_cons.mpr ⟨(tg_1 12 rfl rfl), (List.forall_mem_cons.mpr ⟨(tg_6 178 rfl rfl), (fun _ h => absurd h List.not_mem_nil)⟩)⟩)⟩)⟩)⟩), by decide +kernel, by decide +kernel⟩
theorem cf_L_57 : CFV RL 57 yX10_bones cX10_bones 1 (some .int) 0 := ⟨(List.forall_mem_cons.mpr ⟨(tg_4 2 rfl rfl), (List.forall_mem_cons.mpr ⟨(tg_4 3 rfl rfl), (List.forall_mem_cons.mpr ⟨(tg_4 4 rfl rfl), (List.forall_mem_cons.mpr ⟨(tg_1 1 rfl rfl), (List.forall_mem_cons.mpr ⟨(tg_4 5 rfl rfl), (fun _ h => absurd h List.not_mem_nil)⟩)⟩)⟩)⟩)⟩), by decide +kernel, by decide +kernel⟩
theorem cf_L_60 : CFV RL 60 yX11_bones cX11_bones 1 (some .int) 0 := ⟨(List.forall_mem_cons.mpr ⟨(tg_6 179 rfl rfl), (List.forall_mem_cons.mpr ⟨(tg_6 180 rfl rfl), (List.forall_mem_cons.mpr ⟨(tg_6 181 rfl rfl), (List.forall_mem_cons.mpr ⟨(tg_1 12 rfl rfl), (List.forall_mem_cons.mpr ⟨(tg_6 182 rfl rfl), (fun _ h => absurd h List.not_mem_nil)⟩)⟩)⟩)⟩)⟩), by decide +kernel, by decide +kernel⟩
theorem cw_L_61 : CFW RL 61 yL_bone cL_bone 5 [(0, 10, 13, 13)] 4 := ⟨(List.forall_mem_cons.mpr ⟨(tg_4 226 rfl rfl), (List.forall_mem_cons.mpr ⟨(tg_4 227 rfl rfl), (List.forall_mem_cons.mpr ⟨(tg_1 0 rfl rfl), (List.forall_mem_cons.mpr ⟨(tg_4 228 rfl rfl), (fun _ h => absurd h List.not_mem_nil)⟩)⟩)⟩)⟩), by decide +kernel, by decide +kernel⟩
theorem cf_L_66 : CFV RL 66 yX11_bone cX11_bone 3 (some .int) 2 := ⟨(List.forall_mem_cons.mpr ⟨(tg_6 183 rfl rfl), (List.forall_mem_cons.mpr ⟨(tg_6 184 rfl rfl), (List.forall_mem_cons.mpr ⟨(tg_6 185 rfl rfl), (List.forall_mem_cons.mpr ⟨(tg_1 12 rfl rfl), (List.forall_mem_cons.mpr ⟨(tg_6 186 rfl rfl), (fun _ h => absurd h List.not_mem_nil)⟩)⟩)⟩)⟩)⟩), by decide +kernel, by decide +kernel⟩
theorem cf_L_67 : CFV RL 67 yX11_thrown cX11_thrown 1 (some .int) 0 := ⟨(List.forall_mem_cons.mpr ⟨(tg_5 72 rfl rfl), (List.forall_mem_cons.mpr ⟨(tg_5 73 rfl rfl), (List.forall_mem_cons.mpr ⟨(tg_5 74 rfl rfl), (List.forall_mem_cons.mpr ⟨(tg_1 12 rfl rfl), (List.forall_mem_cons.mpr ⟨(tg_5 75 rfl rfl), (fun _ h => absurd h List.not_mem_nil)⟩)⟩)⟩)⟩)⟩), by decide +kernel, by decide +kernel⟩
theorem cf_L_70 : CFV RL 70 yX10_feuds cX10_feuds 3 (some .int) 2 := ⟨(List.forall_mem_cons.mpr ⟨(tg_4 6 rfl rfl), (List.forall_mem_cons.mpr ⟨(tg_4 7 rfl rfl), (List.forall_mem_cons.mpr ⟨(tg_4 8 rfl rfl), (List.forall_mem_cons.mpr ⟨(tg_1 1 rfl rfl), (List.forall_mem_cons.mpr ⟨(tg_4 9 rfl rfl), (fun _ h => absurd h List.not_mem_nil)⟩)⟩)⟩)⟩)⟩), by decide +kernel, by decide +kernel⟩
theorem cf_L_73 : CFV RL 73 yX11_feuds cX11_feuds 3 (some .int) 2 := ⟨(List.forall_mem_cons.mpr ⟨(tg_6 187 rfl rfl), (List.forall_mem_cons.mpr ⟨(tg_6 188 rfl rfl), (List.forall_mem_cons.mpr ⟨(tg_6 189 rfl rfl), (List.forall_mem_cons.mpr ⟨(tg_1 12 rfl rfl), (List.forall_mem_cons.mpr ⟨(tg_6 190 rfl rfl), (fun _ h => absurd h List.not_mem_nil)⟩)⟩)⟩)⟩)⟩), by decide +kernel, by decide +kernel⟩
theorem cf_L_74 : CFV RL 74 yX10_gone cX10_gone 3 (some .int) 2 := ⟨(List.forall_mem_cons.mpr ⟨(tg_4 10 rfl rfl), (List.forall_mem_cons.mpr ⟨(tg_4 11 rfl rfl), (List.forall_mem_cons.mpr ⟨(tg_4 12 rfl rfl), (List.forall_mem_cons.mpr ⟨(tg_1 1 rfl rfl), (List.forall_mem_cons.mpr ⟨(tg_4 13 rfl rfl), (fun _ h => absurd h List.not_mem_nil)⟩)⟩)⟩)⟩)⟩), by decide +kernel, by decide +kernel⟩
theorem cf_L_78 : CFV RL 78 yX11_gone cX11_gone 3 (some .int) 2 := ⟨(List.forall_mem_cons.mpr ⟨(tg_6 191 rfl rfl), (List.forall_mem_cons.mpr ⟨(tg_6 192 rfl rfl), (List.forall_mem_cons.mpr ⟨(tg_6 193 rfl rfl), (List.forall_mem_cons.mpr ⟨(tg_1 12 rfl rfl), (List.forall_mem_cons.mpr ⟨(tg_6 194 rfl rfl), (fun _ h => absurd h List.not_mem_nil)⟩)⟩)⟩)⟩)⟩), by decide +kernel, by decide +kernel⟩
theorem cf_L_79 : CFV RL 79 yX10_loss cX10_loss 3 (some .int) 2 := ⟨(List.forall_mem_cons.mpr ⟨(tg_4 14 rfl rfl), (List.forall_mem_cons.mpr ⟨(tg_4 15 rfl rfl), (List.forall_mem_cons.mpr ⟨(tg_4 16 rfl rfl), (List.forall_mem_cons.mpr ⟨(tg_1 1 rfl rfl), (List.forall_mem_cons.mpr ⟨(tg_4 17 rfl rfl), (fun _ h => absurd h List.not_mem_nil)⟩)⟩)⟩)⟩)⟩), by decide +kernel, by decide +kernel⟩
theorem cf_L_82 : CFV RL 82 yX11_loss cX11_loss 3 (some .int) 2 := ⟨(List.forall_mem_cons.mpr ⟨(tg_6 195 rfl rfl), (List.forall_mem_cons.mpr ⟨(tg_6 196 rfl rfl), (List.forall_mem_cons.mpr ⟨(tg_6 197 rfl rfl), (List.forall_mem_cons.mpr ⟨(tg_1 12 rfl rfl), (List.forall_mem_cons.mpr ⟨(tg_6 198 rfl rfl), (fun _ h => absurd h List.not_mem_nil)⟩)⟩)⟩)⟩)⟩), by decide +kernel, by decide +kernel⟩
theorem cf_L_83 : CFV RL 83 yX10_level cX10_level 4 (some .int) 3 := ⟨(List.forall_mem_cons.mpr ⟨(tg_4 33 rfl rfl), (List.forall_mem_cons.mpr ⟨(tg_4 34 rfl rfl), (List.forall_mem_cons.mpr ⟨(tg_4 35 rfl rfl), (List.forall_mem_cons.mpr ⟨(tg_1 1 rfl rfl), (List.forall_mem_cons.mpr ⟨(tg_4 36 rfl rfl), (fun _ h => absurd h List.not_mem_nil)⟩)⟩)⟩)⟩)⟩), by decide +kernel, by decide +kernel⟩
theorem cf_L_87 : CFV RL 87 yX11_level cX11_level 4 (some .int) 3 := ⟨(List.forall_mem_cons.mpr ⟨(tg_6 206 rfl rfl), (List.forall_mem_cons.mpr ⟨(tg_6 207 rfl rfl), (List.forall_mem_cons.mpr ⟨(tg_6 208 rfl rfl), (List.forall_mem_cons.mpr ⟨(tg_1 12 rfl rfl), (List.forall_mem_cons.mpr ⟨(tg_6 209 rfl rfl), (fun _ h => absurd h List.not_mem_nil)⟩)⟩)⟩)⟩)⟩), by decide +kernel, by decide +kernel⟩
theorem cf_L_88 : CFV RL 88 yX10_rests cX10_rests 2 (some .int) 1 := ⟨(List.forall_mem_cons.mpr ⟨(tg_4 90 rfl rfl), (List.forall_mem_cons.mpr ⟨(tg_4 91 rfl rfl), (List.forall_mem_cons.mpr ⟨(tg_4 92 rfl rfl), (List.forall_mem_cons.mpr ⟨(tg_1 1 rfl rfl), (List.forall_mem_cons.mpr ⟨(tg_4 93 rfl rfl), (fun _ h => absurd h List.not_mem_nil)⟩)⟩)⟩)⟩)⟩), by decide +kernel, by decide +kernel⟩
theorem cf_L_91 : CFV RL 91 yX11_rests cX11_rests 4 (some .int) 1 := ⟨(List.forall_mem_cons.mpr ⟨(tg_6 218 rfl rfl), (List.forall_mem_cons.mpr ⟨(tg_6 219 rfl rfl), (List.forall_mem_cons.mpr ⟨(tg_6 220 rfl rfl), (List.forall_mem_cons.mpr ⟨(tg_1 12 rfl rfl), (List.forall_mem_cons.mpr ⟨(tg_6 221 rfl rfl), (fun _ h => absurd h List.not_mem_nil)⟩)⟩)⟩)⟩)⟩), by decide +kernel, by decide +kernel⟩
theorem cf_L_92 : CFV RL 92 yX10_rest cX10_rest 3 (some .int) 2 := ⟨(List.forall_mem_cons.mpr ⟨(tg_4 145 rfl rfl), (List.forall_mem_cons.mpr ⟨(tg_4 146 rfl rfl), (List.forall_mem_cons.mpr ⟨(tg_4 147 rfl rfl), (List.forall_mem_cons.mpr ⟨(tg_1 1 rfl rfl), (List.forall_mem_cons.mpr ⟨(tg_4 148 rfl rfl), (fun _ h => absurd h List.not_mem_nil)⟩)⟩)⟩)⟩)⟩), by decide +kernel, by decide +kernel⟩
theorem cf_L_95 : CFV RL 95 yX11_rest cX11_rest 5 (some .int) 2 := ⟨(List.forall_mem_cons.mpr ⟨(tg_6 237 rfl rfl), (List.forall_mem_cons.mpr ⟨(tg_6 238 rfl rfl), (List.forall_mem_cons.mpr ⟨(tg_6 239 rfl rfl), (List.forall_mem_cons.mpr ⟨(tg_1 12 rfl rfl), (List.forall_mem_cons.mpr ⟨(tg_7 0 rfl rfl), (fun _ h => absurd h List.not_mem_nil)⟩)⟩)⟩)⟩)⟩), by decide +kernel, by decide +kernel⟩
theorem cf_L_96 : CFV RL 96 yX10_played cX10_played 5 (some .int) 3 := ⟨(List.forall_mem_cons.mpr ⟨(tg_4 155 rfl rfl), (List.forall_mem_cons.mpr ⟨(tg_4 156 rfl rfl), (List.forall_mem_cons.mpr ⟨(tg_4 157 rfl rfl), (List.forall_mem_cons.mpr ⟨(tg_1 1 rfl rfl), (List.forall_mem_cons.mpr ⟨(tg_4 158 rfl rfl), (fun _ h => absurd h List.not_mem_nil)⟩)⟩)⟩)⟩)⟩), by decide +kernel, by decide +kernel⟩
theorem cf_L_99 : CFV RL 99 yX11_played cX11_played 8 (some .int) 3 := ⟨(List.forall_mem_cons.mpr ⟨(tg_7 1 rfl rfl), (List.forall_mem_cons.mpr ⟨(tg_7 2 rfl rfl), (List.forall_mem_cons.mpr ⟨(tg_7 3 rfl rfl), (List.forall_mem_cons.mpr ⟨(tg_1 12 rfl rfl), (List.forall_mem_cons.mpr ⟨(tg_7 4 rfl rfl), (fun _ h => absurd h List.not_mem_nil)⟩)⟩)⟩)⟩)⟩), by decide +kernel, by decide +kernel⟩
theorem cf_L_100 : CFV RL 100 yX10_firm cX10_firm 2 (some .int) 1 := ⟨(List.forall_mem_cons.mpr ⟨(tg_4 165 rfl rfl), (List.forall_mem_cons.mpr ⟨(tg_4 166 rfl rfl), (List.forall_mem_cons.mpr ⟨(tg_4 167 rfl rfl), (List.forall_mem_cons.mpr ⟨(tg_1 1 rfl rfl), (List.forall_mem_cons.mpr ⟨(tg_4 168 rfl rfl), (fun _ h => absurd h List.not_mem_nil)⟩)⟩)⟩)⟩)⟩), by decide +kernel, by decide +kernel⟩
theorem cf_L_103 : CFV RL 103 yX11_firm cX11_firm 4 (some .int) 1 := ⟨(List.forall_mem_cons.mpr ⟨(tg_7 5 rfl rfl), (List.forall_mem_cons.mpr ⟨(tg_7 6 rfl rfl), (List.forall_mem_cons.mpr ⟨(tg_7 7 rfl rfl), (List.forall_mem_cons.mpr ⟨(tg_1 12 rfl rfl), (List.forall_mem_cons.mpr ⟨(tg_7 8 rfl rfl), (fun _ h => absurd h List.not_mem_nil)⟩)⟩)⟩)⟩)⟩), by decide +kernel, by decide +kernel⟩
theorem cf_L_104 : CFV RL 104 yX10_group cX10_group 5 (some .int) 3 := ⟨(List.forall_mem_cons.mpr ⟨(tg_4 175 rfl rfl), (List.forall_mem_cons.mpr ⟨(tg_4 176 rfl rfl), (List.forall_mem_cons.mpr ⟨(tg_4 177 rfl rfl), (List.forall_mem_cons.mpr ⟨(tg_1 1 rfl rfl), (List.forall_mem_cons.mpr ⟨(tg_4 178 rfl rfl), (fun _ h => absurd h List.not_mem_nil)⟩)⟩)⟩)⟩)⟩), by decide +kernel, by decide +kernel⟩
theorem cf_L_107 : CFV RL 107 yX11_group cX11_group 6 (some .int) 3 := ⟨(List.forall_mem_cons.mpr ⟨(tg_7 32 rfl rfl), (List.forall_mem_cons.mpr ⟨(tg_7 33 rfl rfl), (List.forall_mem_cons.mpr ⟨(tg_7 34 rfl rfl), (List.forall_mem_cons.mpr ⟨(tg_1 12 rfl rfl), (List.forall_mem_cons.mpr ⟨(tg_7 35 rfl rfl), (fun _ h => absurd h List.not_mem_nil)⟩)⟩)⟩)⟩)⟩), by decide +kernel, by decide +kernel⟩
theorem cw_L_108 : CFW RL 108 yL_pup cL_pup 5 [(0, 10, 13, 13)] 4 := ⟨(List.forall_mem_cons.mpr ⟨(tg_5 64 rfl rfl), (List.forall_mem_cons.mpr ⟨(tg_5 65 rfl rfl), (List.forall_mem_cons.mpr ⟨(tg_1 0 rfl rfl), (List.forall_mem_cons.mpr ⟨(tg_5 66 rfl rfl), (fun _ h => absurd h List.not_mem_nil)⟩)⟩)⟩)⟩), by decide +kernel, by decide +kernel⟩
theorem cf_L_110 : CFV RL 110 yX11_pup cX11_pup 4 (some .int) 2 := ⟨(List.forall_mem_cons.mpr ⟨(tg_7 36 rfl rfl), (List.forall_mem_cons.mpr ⟨(tg_7 37 rfl rfl), (List.forall_mem_cons.mpr ⟨(tg_7 38 rfl rfl), (List.forall_mem_cons.mpr ⟨(tg_1 12 rfl rfl), (List.forall_mem_cons.mpr ⟨(tg_7 39 rfl rfl), (fun _ h => absurd h List.not_mem_nil)⟩)⟩)⟩)⟩)⟩), by decide +kernel, by decide +kernel⟩
theorem cf_L_111 : CFV RL 111 yX10_bite cX10_bite 2 (some .int) 1 := ⟨(List.forall_mem_cons.mpr ⟨(tg_4 186 rfl rfl), (List.forall_mem_cons.mpr ⟨(tg_4 187 rfl rfl), (List.forall_mem_cons.mpr ⟨(tg_4 188 rfl rfl), (List.forall_mem_cons.mpr ⟨(tg_1 1 rfl rfl), (List.forall_mem_cons.mpr ⟨(tg_4 189 rfl rfl), (fun _ h => absurd h List.not_mem_nil)⟩)⟩)⟩)⟩)⟩), by decide +kernel, by decide +kernel⟩
theorem cf_L_114 : CFV RL 114 yX11_bite cX11_bite 3 (some .int) 1 := ⟨(List.forall_mem_cons.mpr ⟨(tg_7 40 rfl rfl), (List.forall_mem_cons.mpr ⟨(tg_7 41 rfl rfl), (List.forall_mem_cons.mpr ⟨(tg_7 42 rfl rfl), (List.forall_mem_cons.mpr ⟨(tg_1 12 rfl rfl), (List.forall_mem_cons.mpr ⟨(tg_7 43 rfl rfl), (fun _ h => absurd h List.not_mem_nil)⟩)⟩)⟩)⟩)⟩), by decide +kernel, by decide +kernel⟩
theorem cf_L_115 : CFV RL 115 yX10_whose cX10_whose 5 (some .int) 2 := ⟨(List.forall_mem_cons.mpr ⟨(tg_4 190 rfl rfl), (List.forall_mem_cons.mpr ⟨(tg_4 191 rfl rfl), (List.forall_mem_cons.mpr ⟨(tg_4 192 rfl rfl), (List.forall_mem_cons.mpr ⟨(tg_1 1 rfl rfl), (List.forall_mem_cons.mpr ⟨(tg_4 193 rfl rfl), (fun _ h => absurd h List.not_mem_nil)⟩)⟩)⟩)⟩)⟩), by decide +kernel, by decide +kernel⟩
theorem cf_L_118 : CFV RL 118 yX11_whose cX11_whose 5 (some .int) 2 := ⟨(List.forall_mem_cons.mpr ⟨(tg_7 44 rfl rfl), (List.forall_mem_cons.mpr ⟨(tg_7 45 rfl rfl), (List.forall_mem_cons.mpr ⟨(tg_7 46 rfl rfl), (List.forall_mem_cons.mpr ⟨(tg_1 12 rfl rfl), (List.forall_mem_cons.mpr ⟨(tg_7 47 rfl rfl), (fun _ h => absurd h List.not_mem_nil)⟩)⟩)⟩)⟩)⟩), by decide +kernel, by decide +kernel⟩
theorem cf_L_119 : CFV RL 119 yX10_chance cX10_chance 7 (some .int) 1 := ⟨(List.forall_mem_cons.mpr ⟨(tg_4 204 rfl rfl), (List.forall_mem_cons.mpr ⟨(tg_4 205 rfl rfl), (List.forall_mem_cons.mpr ⟨(tg_4 206 rfl rfl), (List.forall_mem_cons.mpr ⟨(tg_1 1 rfl rfl), (List.forall_mem_cons.mpr ⟨(tg_4 207 rfl rfl), (fun _ h => absurd h List.not_mem_nil)⟩)⟩)⟩)⟩)⟩), by decide +kernel, by decide +kernel⟩
theorem cf_L_122 : CFV RL 122 yX11_chance cX11_chance 7 (some .int) 1 := ⟨(List.forall_mem_cons.mpr ⟨(tg_7 55 rfl rfl), (List.forall_mem_cons.mpr ⟨(tg_7 56 rfl rfl), (List.forall_mem_cons.mpr ⟨(tg_7 57 rfl rfl), (List.forall_mem_cons.mpr ⟨(tg_1 12 rfl rfl), (List.forall_mem_cons.mpr ⟨(tg_7 58 rfl rfl), (fun _ h => absurd h List.not_mem_nil)⟩)⟩)⟩)⟩)⟩), by decide +kernel, by decide +kernel⟩
theorem cf_L_123 : CFV RL 123 yX10_mark cX10_mark 3 (some .boolean) 2 := ⟨(List.forall_mem_cons.mpr ⟨(tg_4 209 rfl rfl), (List.forall_mem_cons.mpr ⟨(tg_4 210 rfl rfl), (List.forall_mem_cons.mpr ⟨(tg_4 211 rfl rfl), (List.forall_mem_cons.mpr ⟨(tg_1 1 rfl rfl), (List.forall_mem_cons.mpr ⟨(tg_4 212 rfl rfl), (fun _ h => absurd h List.not_mem_nil)⟩)⟩)⟩)⟩)⟩), by decide +kernel, by decide +kernel⟩
theorem cf_L_127 : CFV RL 127 yX11_mark cX11_mark 3 (some .boolean) 2 := ⟨(List.forall_mem_cons.mpr ⟨(tg_7 62 rfl rfl), (List.forall_mem_cons.mpr ⟨(tg_7 63 rfl rfl), (List.forall_mem_cons.mpr ⟨(tg_7 64 rfl rfl), (List.forall_mem_cons.mpr ⟨(tg_1 12 rfl rfl), (List.forall_mem_cons.mpr ⟨(tg_7 65 rfl rfl), (fun _ h => absurd h List.not_mem_nil)⟩)⟩)⟩)⟩)⟩), by decide +kernel, by decide +kernel⟩
theorem cf_L_128 : CFV RL 128 yX10_count cX10_count 2 (some .int) 1 := ⟨(List.forall_mem_cons.mpr ⟨(tg_4 218 rfl rfl), (List.forall_mem_cons.mpr ⟨(tg_4 219 rfl rfl), (List.forall_mem_cons.mpr ⟨(tg_4 220 rfl rfl), (List.forall_mem_cons.mpr ⟨(tg_1 1 rfl rfl), (List.forall_mem_cons.mpr ⟨(tg_4 221 rfl rfl), (fun _ h => absurd h List.not_mem_nil)⟩)⟩)⟩)⟩)⟩), by decide +kernel, by decide +kernel⟩
theorem cf_L_131 : CFV RL 131 yX11_count cX11_count 5 (some .int) 1 := ⟨(List.forall_mem_cons.mpr ⟨(tg_7 66 rfl rfl), (List.forall_mem_cons.mpr ⟨(tg_7 67 rfl rfl), (List.forall_mem_cons.mpr ⟨(tg_7 68 rfl rfl), (List.forall_mem_cons.mpr ⟨(tg_1 12 rfl rfl), (List.forall_mem_cons.mpr ⟨(tg_7 69 rfl rfl), (fun _ h => absurd h List.not_mem_nil)⟩)⟩)⟩)⟩)⟩), by decide +kernel, by decide +kernel⟩
theorem cl_L_22 : Cond.constantLong RL 22 4294967295 ∈ TT := (tg_7 74 rfl rfl)
def OP0 (l : Launch) (G : GG) (qw qm qo : Nat) (P : List va_W → Prop) (Ws : List va_W) : Prop := ∀ (a : Int64) (b : Int64) (c : Int64) , Op2 l G qw qm qo P yX10_feed cX10_feed 7 yX11_feed cX11_feed 7 (some .int) [.long a, .long b, .long c] Ws
def OP1 (l : Launch) (G : GG) (qw qm qo : Nat) (P : List va_W → Prop) (Ws : List va_W) : Prop := Op2 l G qw qm qo P yX10_mountain cX10_mountain 2 yX11_mountain cX11_mountain 2 (some .int) [] Ws
def OP2 (l : Launch) (G : GG) (qw qm qo : Nat) (P : List va_W → Prop) (Ws : List va_W) : Prop := ∀ (a : Int32) (b : Int32) , Op2 l G qw qm qo P yX10_farm cX10_farm 3 yX11_farm cX11_farm 5 (some .int) [.int a, .int b] Ws
def OP3 (l : Launch) (G : GG) (qw qm qo : Nat) (P : List va_W → Prop) (Ws : List va_W) : Prop := ∀ (a : Int32) (b : Int32) , Op2 l G qw qm qo P yX10_tooth cX10_tooth 3 yX11_tooth cX11_tooth 3 (some .int) [.int a, .int b] Ws
def OP4 (l : Launch) (G : GG) (qw qm qo : Nat) (P : List va_W → Prop) (Ws : List va_W) : Prop := ∀ (a : Int32) , Op2 l G qw qm qo P yX10_seed cX10_seed 2 yX11_seed cX11_seed 2 (some .boolean) [.int a] Ws
def OP5 (l : Launch) (G : GG) (qw qm qo : Nat) (P : List va_W → Prop) (Ws : List va_W) : Prop := ∀ (a : Int32) , Op2 l G qw qm qo P yX10_nights cX10_nights 2 yX11_nights cX11_nights 2 (some .int) [.int a] Ws
def OP6 (l : Launch) (G : GG) (qw qm qo : Nat) (P : List va_W → Prop) (Ws : List va_W) : Prop := ∀ (a : Int32) (b : Int32) (c : Int32) , (c = 0 ∨ c = 1) → Op2 l G qw qm qo P yX10_pact cX10_pact 4 yX11_pact cX11_pact 4 (some .boolean) [.int a, .int b, .int c] Ws
def OP7 (l : Launch) (G : GG) (qw qm qo : Nat) (P : List va_W → Prop) (Ws : List va_W) : Prop := Op2 l G qw qm qo P yX10_bones cX10_bones 1 yX11_bones cX11_bones 1 (some .int) [] Ws
def OP8 (l : Launch) (G : GG) (qw qm qo : Nat) (P : List va_W → Prop) (Ws : List va_W) : Prop := ∀ x y : Int32, OpB l G qw qm qo P yL_bone cL_bone yX11_bone cX11_bone 3 x y Ws
def OP9 (l : Launch) (G : GG) (qw qm qo : Nat) (P : List va_W → Prop) (Ws : List va_W) : Prop := ∀ (a : Int32) (b : Int32) , Op2 l G qw qm qo P yX10_feuds cX10_feuds 3 yX11_feuds cX11_feuds 3 (some .int) [.int a, .int b] Ws
def OP10 (l : Launch) (G : GG) (qw qm qo : Nat) (P : List va_W → Prop) (Ws : List va_W) : Prop := ∀ (a : Int32) (b : Int32) , (b = 0 ∨ b = 1) → Op2 l G qw qm qo P yX10_gone cX10_gone 3 yX11_gone cX11_gone 3 (some .int) [.int a, .int b] Ws
def OP11 (l : Launch) (G : GG) (qw qm qo : Nat) (P : List va_W → Prop) (Ws : List va_W) : Prop := ∀ (a : Int32) (b : Int32) , Op2 l G qw qm qo P yX10_loss cX10_loss 3 yX11_loss cX11_loss 3 (some .int) [.int a, .int b] Ws
def OP12 (l : Launch) (G : GG) (qw qm qo : Nat) (P : List va_W → Prop) (Ws : List va_W) : Prop := ∀ (a : Int32) (b : Int32) (c : Int32) , Op2 l G qw qm qo P yX10_level cX10_level 4 yX11_level cX11_level 4 (some .int) [.int a, .int b, .int c] Ws
def OP13 (l : Launch) (G : GG) (qw qm qo : Nat) (P : List va_W → Prop) (Ws : List va_W) : Prop := ∀ (a : Int32) , Op2 l G qw qm qo P yX10_rests cX10_rests 2 yX11_rests cX11_rests 4 (some .int) [.int a] Ws
def OP14 (l : Launch) (G : GG) (qw qm qo : Nat) (P : List va_W → Prop) (Ws : List va_W) : Prop := ∀ (a : Int32) (b : Int32) , Op2 l G qw qm qo P yX10_rest cX10_rest 3 yX11_rest cX11_rest 5 (some .int) [.int a, .int b] Ws
def OP15 (l : Launch) (G : GG) (qw qm qo : Nat) (P : List va_W → Prop) (Ws : List va_W) : Prop := ∀ (a : Int32) (b : Int32) (c : Int32) , Op2 l G qw qm qo P yX10_played cX10_played 5 yX11_played cX11_played 8 (some .int) [.int a, .int b, .int c] Ws
def OP16 (l : Launch) (G : GG) (qw qm qo : Nat) (P : List va_W → Prop) (Ws : List va_W) : Prop := ∀ (a : Int32) , Op2 l G qw qm qo P yX10_firm cX10_firm 2 yX11_firm cX11_firm 4 (some .int) [.int a] Ws
def OP17 (l : Launch) (G : GG) (qw qm qo : Nat) (P : List va_W → Prop) (Ws : List va_W) : Prop := ∀ (a : Int32) (b : Int32) (c : Int32) , Op2 l G qw qm qo P yX10_group cX10_group 5 yX11_group cX11_group 6 (some .int) [.int a, .int b, .int c] Ws
def OP18 (l : Launch) (G : GG) (qw qm qo : Nat) (P : List va_W → Prop) (Ws : List va_W) : Prop := ∀ x y : Int32, OpB l G qw qm qo P yL_pup cL_pup yX11_pup cX11_pup 4 x y Ws
def OP19 (l : Launch) (G : GG) (qw qm qo : Nat) (P : List va_W → Prop) (Ws : List va_W) : Prop := ∀ (a : Int32) , Op2 l G qw qm qo P yX10_bite cX10_bite 2 yX11_bite cX11_bite 3 (some .int) [.int a] Ws
def OP20 (l : Launch) (G : GG) (qw qm qo : Nat) (P : List va_W → Prop) (Ws : List va_W) : Prop := ∀ (a : Int32) (b : Int32) , Op2 l G qw qm qo P yX10_whose cX10_whose 5 yX11_whose cX11_whose 5 (some .int) [.int a, .int b] Ws
def OP21 (l : Launch) (G : GG) (qw qm qo : Nat) (P : List va_W → Prop) (Ws : List va_W) : Prop := ∀ (a : Int32) , Op2 l G qw qm qo P yX10_chance cX10_chance 7 yX11_chance cX11_chance 7 (some .int) [.int a] Ws
def OP22 (l : Launch) (G : GG) (qw qm qo : Nat) (P : List va_W → Prop) (Ws : List va_W) : Prop := ∀ (a : Int32) (b : Int32) , (b = 0 ∨ b = 1) → Op2 l G qw qm qo P yX10_mark cX10_mark 3 yX11_mark cX11_mark 3 (some .boolean) [.int a, .int b] Ws
def OP23 (l : Launch) (G : GG) (qw qm qo : Nat) (P : List va_W → Prop) (Ws : List va_W) : Prop := ∀ (a : Int32) , Op2 l G qw qm qo P yX10_count cX10_count 2 yX11_count cX11_count 5 (some .int) [.int a] Ws
theorem lgc_0 (x : Int64) : lg_cmp x x = 0 := by unfold lg_cmp; simp
set_option maxHeartbeats 4000000 in
set_option maxRecDepth 100000 in
theorem wc_0 {l : Launch} {G : GG} {b L : Nat} {xs : Nat → Int32} {KF : Nat → Nat → KT} (hR : RlW l G b L xs KF) {qw qm qo : Nat} {P : List va_W → Prop} {i cn sn : Nat} {Ws : List va_W} {l4 : Int32} (hi : l4 = nI i) (hle : i + 7 ≤ L) (hL : L ≤ 3584) (hc : cn + 1 ≤ 601024) (hs : sn + 6 ≤ 7293034) (hrc : Rc G qw qm qo Ws) (hop : OP0 l G qw qm qo P Ws)
    (next : ∀ (cn' sn' : Nat) (Wn : List va_W), cn' ≤ cn + 1 → sn' ≤ sn + 6 → P Wn → KF cn' sn' Wn [(0, .ref b), (1, .ref qw), (2, .ref qm), (3, .ref qo), (4, .int l4)] 1176 []) : KF cn sn Ws [(0, .ref b), (1, .ref qw), (2, .ref qm), (3, .ref qo), (4, .int l4)] 152 [] := by
  have hc0 : cn ≤ 601024 := by omega
  have hs0 : sn ≤ 7293034 := by omega
  have h0 := hR.rl hc0 hs0
  refine st_aload_n h0 dL_law_152 1 rfl rfl (pc' := 153) rfl ?_
  refine st_aload_n h0 dL_law_153 0 rfl rfl (pc' := 154) rfl ?_
  refine st_iload h0 dL_law_154 4 rfl (pc' := 156) rfl ?_
  refine st_iconst h0 dL_law_156 (v := 1) rfl (pc' := 157) rfl ?_
  refine st_iadd h0 dL_law_157 (pc' := 158) rfl ?_
  refine st_sld hR dL_law_158 (rd_in hi (k := 1) rfl (by omega) hL) rfl (pc' := 159) rfl ?_
  refine st_i2l h0 dL_law_159 (pc' := 160) rfl ?_
  refine st_bipush h0 dL_law_160 (v := 32) rfl (pc' := 162) rfl ?_
  refine st_lshl h0 dL_law_162 (pc' := 163) rfl ?_
  refine st_aload_n h0 dL_law_163 0 rfl rfl (pc' := 164) rfl ?_
  refine st_iload h0 dL_law_164 4 rfl (pc' := 166) rfl ?_
  refine st_iconst h0 dL_law_166 (v := 2) rfl (pc' := 167) rfl ?_
  refine st_iadd h0 dL_law_167 (pc' := 168) rfl ?_
  refine st_sld hR dL_law_168 (rd_in hi (k := 2) rfl (by omega) hL) rfl (pc' := 169) rfl ?_
  refine st_i2l h0 dL_law_169 (pc' := 170) rfl ?_
  refine st_ldc2 h0 (v := 4294967295) cl_L_22 dL_law_170 (pc' := 173) rfl ?_
  refine st_land h0 dL_law_173 (pc' := 174) rfl ?_
  refine st_lor h0 dL_law_174 (pc' := 175) rfl ?_
  refine st_aload_n h0 dL_law_175 0 rfl rfl (pc' := 176) rfl ?_
  refine st_iload h0 dL_law_176 4 rfl (pc' := 178) rfl ?_
  refine st_iconst h0 dL_law_178 (v := 3) rfl (pc' := 179) rfl ?_
  refine st_iadd h0 dL_law_179 (pc' := 180) rfl ?_
  refine st_sld hR dL_law_180 (rd_in hi (k := 3) rfl (by omega) hL) rfl (pc' := 181) rfl ?_
  refine st_i2l h0 dL_law_181 (pc' := 182) rfl ?_
  refine st_bipush h0 dL_law_182 (v := 32) rfl (pc' := 184) rfl ?_
  refine st_lshl h0 dL_law_184 (pc' := 185) rfl ?_
  refine st_aload_n h0 dL_law_185 0 rfl rfl (pc' := 186) rfl ?_
  refine st_iload h0 dL_law_186 4 rfl (pc' := 188) rfl ?_
  refine st_iconst h0 dL_law_188 (v := 4) rfl (pc' := 189) rfl ?_
  refine st_iadd h0 dL_law_189 (pc' := 190) rfl ?_
  refine st_sld hR dL_law_190 (rd_in hi (k := 4) rfl (by omega) hL) rfl (pc' := 191) rfl ?_
  refine st_i2l h0 dL_law_191 (pc' := 192) rfl ?_
  refine st_ldc2 h0 (v := 4294967295) cl_L_22 dL_law_192 (pc' := 195) rfl ?_
  refine st_land h0 dL_law_195 (pc' := 196) rfl ?_
  refine st_lor h0 dL_law_196 (pc' := 197) rfl ?_
  refine st_aload_n h0 dL_law_197 0 rfl rfl (pc' := 198) rfl ?_
  refine st_iload h0 dL_law_198 4 rfl (pc' := 200) rfl ?_
  refine st_iconst h0 dL_law_200 (v := 5) rfl (pc' := 201) rfl ?_
  refine st_iadd h0 dL_law_201 (pc' := 202) rfl ?_
  refine st_sld hR dL_law_202 (rd_in hi (k := 5) rfl (by omega) hL) rfl (pc' := 203) rfl ?_
  refine st_i2l h0 dL_law_203 (pc' := 204) rfl ?_
  refine st_bipush h0 dL_law_204 (v := 32) rfl (pc' := 206) rfl ?_
  refine st_lshl h0 dL_law_206 (pc' := 207) rfl ?_
  refine st_aload_n h0 dL_law_207 0 rfl rfl (pc' := 208) rfl ?_
  refine st_iload h0 dL_law_208 4 rfl (pc' := 210) rfl ?_
  refine st_bipush h0 dL_law_210 (v := 6) rfl (pc' := 212) rfl ?_
  refine st_iadd h0 dL_law_212 (pc' := 213) rfl ?_
  refine st_sld hR dL_law_213 (rd_in hi (k := 6) rfl (by omega) hL) rfl (pc' := 214) rfl ?_
  refine st_i2l h0 dL_law_214 (pc' := 215) rfl ?_
  refine st_ldc2 h0 (v := 4294967295) cl_L_22 dL_law_215 (pc' := 218) rfl ?_
  refine st_land h0 dL_law_218 (pc' := 219) rfl ?_
  refine st_lor h0 dL_law_219 (pc' := 220) rfl ?_
  obtain ⟨o_, Wc, Wn, hca, hrc1, hcb, hPn⟩ := hop (((Int32.toInt64 (xs (l4 + 1).toNatClampNeg)) <<< (Int32.toInt64 32 &&& 63)) ||| ((Int32.toInt64 (xs (l4 + 2).toNatClampNeg)) &&& 4294967295)) (((Int32.toInt64 (xs (l4 + 3).toNatClampNeg)) <<< (Int32.toInt64 32 &&& 63)) ||| ((Int32.toInt64 (xs (l4 + 4).toNatClampNeg)) &&& 4294967295)) (((Int32.toInt64 (xs (l4 + 5).toNatClampNeg)) <<< (Int32.toInt64 32 &&& 63)) ||| ((Int32.toInt64 (xs (l4 + 6).toNatClampNeg)) &&& 4294967295)) 
  obtain ⟨w_, fs_, hw1, hw2⟩ := hrc.1
  refine st_ca hR hc0 hs0 hca cf_L_24 (by decide) 0 hw1 hw2 rfl (av := [.long (((Int32.toInt64 (xs (l4 + 1).toNatClampNeg)) <<< (Int32.toInt64 32 &&& 63)) ||| ((Int32.toInt64 (xs (l4 + 2).toNatClampNeg)) &&& 4294967295)), .long (((Int32.toInt64 (xs (l4 + 3).toNatClampNeg)) <<< (Int32.toInt64 32 &&& 63)) ||| ((Int32.toInt64 (xs (l4 + 4).toNatClampNeg)) &&& 4294967295)), .long (((Int32.toInt64 (xs (l4 + 5).toNatClampNeg)) <<< (Int32.toInt64 32 &&& 63)) ||| ((Int32.toInt64 (xs (l4 + 6).toNatClampNeg)) &&& 4294967295))]) rfl (rest := []) rfl (Nat.le_of_ble_eq_true rfl) dL_law_220 (pc' := 223) rfl ?_
  refine st_aload_n h0 dL_law_223 2 rfl rfl (pc' := 224) rfl ?_
  refine st_aload_n h0 dL_law_224 0 rfl rfl (pc' := 225) rfl ?_
  refine st_iload h0 dL_law_225 4 rfl (pc' := 227) rfl ?_
  refine st_iconst h0 dL_law_227 (v := 1) rfl (pc' := 228) rfl ?_
  refine st_iadd h0 dL_law_228 (pc' := 229) rfl ?_
  refine st_sld hR dL_law_229 (rd_in hi (k := 1) rfl (by omega) hL) rfl (pc' := 230) rfl ?_
  refine st_i2l h0 dL_law_230 (pc' := 231) rfl ?_
  refine st_bipush h0 dL_law_231 (v := 32) rfl (pc' := 233) rfl ?_
  refine st_lshl h0 dL_law_233 (pc' := 234) rfl ?_
  refine st_aload_n h0 dL_law_234 0 rfl rfl (pc' := 235) rfl ?_
  refine st_iload h0 dL_law_235 4 rfl (pc' := 237) rfl ?_
  refine st_iconst h0 dL_law_237 (v := 2) rfl (pc' := 238) rfl ?_
  refine st_iadd h0 dL_law_238 (pc' := 239) rfl ?_
  refine st_sld hR dL_law_239 (rd_in hi (k := 2) rfl (by omega) hL) rfl (pc' := 240) rfl ?_
  refine st_i2l h0 dL_law_240 (pc' := 241) rfl ?_
  refine st_ldc2 h0 (v := 4294967295) cl_L_22 dL_law_241 (pc' := 244) rfl ?_
  refine st_land h0 dL_law_244 (pc' := 245) rfl ?_
  refine st_lor h0 dL_law_245 (pc' := 246) rfl ?_
  refine st_aload_n h0 dL_law_246 0 rfl rfl (pc' := 247) rfl ?_
  refine st_iload h0 dL_law_247 4 rfl (pc' := 249) rfl ?_
  refine st_iconst h0 dL_law_249 (v := 3) rfl (pc' := 250) rfl ?_
  refine st_iadd h0 dL_law_250 (pc' := 251) rfl ?_
  refine st_sld hR dL_law_251 (rd_in hi (k := 3) rfl (by omega) hL) rfl (pc' := 252) rfl ?_
  refine st_i2l h0 dL_law_252 (pc' := 253) rfl ?_
  refine st_bipush h0 dL_law_253 (v := 32) rfl (pc' := 255) rfl ?_
  refine st_lshl h0 dL_law_255 (pc' := 256) rfl ?_
  refine st_aload_n h0 dL_law_256 0 rfl rfl (pc' := 257) rfl ?_
  refine st_iload h0 dL_law_257 4 rfl (pc' := 259) rfl ?_
  refine st_iconst h0 dL_law_259 (v := 4) rfl (pc' := 260) rfl ?_
  refine st_iadd h0 dL_law_260 (pc' := 261) rfl ?_
  refine st_sld hR dL_law_261 (rd_in hi (k := 4) rfl (by omega) hL) rfl (pc' := 262) rfl ?_
  refine st_i2l h0 dL_law_262 (pc' := 263) rfl ?_
  refine st_ldc2 h0 (v := 4294967295) cl_L_22 dL_law_263 (pc' := 266) rfl ?_
  refine st_land h0 dL_law_266 (pc' := 267) rfl ?_
  refine st_lor h0 dL_law_267 (pc' := 268) rfl ?_
  refine st_aload_n h0 dL_law_268 0 rfl rfl (pc' := 269) rfl ?_
  refine st_iload h0 dL_law_269 4 rfl (pc' := 271) rfl ?_
  refine st_iconst h0 dL_law_271 (v := 5) rfl (pc' := 272) rfl ?_
  refine st_iadd h0 dL_law_272 (pc' := 273) rfl ?_
  refine st_sld hR dL_law_273 (rd_in hi (k := 5) rfl (by omega) hL) rfl (pc' := 274) rfl ?_
  refine st_i2l h0 dL_law_274 (pc' := 275) rfl ?_
  refine st_bipush h0 dL_law_275 (v := 32) rfl (pc' := 277) rfl ?_
  refine st_lshl h0 dL_law_277 (pc' := 278) rfl ?_
  refine st_aload_n h0 dL_law_278 0 rfl rfl (pc' := 279) rfl ?_
  refine st_iload h0 dL_law_279 4 rfl (pc' := 281) rfl ?_
  refine st_bipush h0 dL_law_281 (v := 6) rfl (pc' := 283) rfl ?_
  refine st_iadd h0 dL_law_283 (pc' := 284) rfl ?_
  refine st_sld hR dL_law_284 (rd_in hi (k := 6) rfl (by omega) hL) rfl (pc' := 285) rfl ?_
  refine st_i2l h0 dL_law_285 (pc' := 286) rfl ?_
  refine st_ldc2 h0 (v := 4294967295) cl_L_22 dL_law_286 (pc' := 289) rfl ?_
  refine st_land h0 dL_law_289 (pc' := 290) rfl ?_
  refine st_lor h0 dL_law_290 (pc' := 291) rfl ?_
  obtain ⟨w2_, fs2_, hv1, hv2⟩ := hrc1.2.1
  refine st_ca hR hc0 hs0 hcb cf_L_28 (by decide) 1 hv1 hv2 rfl (av := [.long (((Int32.toInt64 (xs (l4 + 1).toNatClampNeg)) <<< (Int32.toInt64 32 &&& 63)) ||| ((Int32.toInt64 (xs (l4 + 2).toNatClampNeg)) &&& 4294967295)), .long (((Int32.toInt64 (xs (l4 + 3).toNatClampNeg)) <<< (Int32.toInt64 32 &&& 63)) ||| ((Int32.toInt64 (xs (l4 + 4).toNatClampNeg)) &&& 4294967295)), .long (((Int32.toInt64 (xs (l4 + 5).toNatClampNeg)) <<< (Int32.toInt64 32 &&& 63)) ||| ((Int32.toInt64 (xs (l4 + 6).toNatClampNeg)) &&& 4294967295))]) rfl (rest := [.int o_]) rfl (Nat.le_of_ble_eq_true rfl) dL_law_291 (pc' := 294) rfl ?_
  refine st_icmp_eq h0 dL_law_294 (tgt := 1176) (by decide) (pc' := 297) rfl (fun _ => ?_) (fun c_ => absurd rfl c_)
  exact next _ _ _ (Nat.le_succ _) (by omega) hPn
set_option maxHeartbeats 4000000 in
set_option maxRecDepth 100000 in
theorem wc_1 {l : Launch} {G : GG} {b L : Nat} {xs : Nat → Int32} {KF : Nat → Nat → KT} (hR : RlW l G b L xs KF) {qw qm qo : Nat} {P : List va_W → Prop} {i cn sn : Nat} {Ws : List va_W} {l4 : Int32} (hi : l4 = nI i) (hle : i + 7 ≤ L) (hL : L ≤ 3584) (hc : cn + 1 ≤ 601024) (hs : sn + 6 ≤ 7293034) (hrc : Rc G qw qm qo Ws) (hop : OP1 l G qw qm qo P Ws)
    (next : ∀ (cn' sn' : Nat) (Wn : List va_W), cn' ≤ cn + 1 → sn' ≤ sn + 6 → P Wn → KF cn' sn' Wn [(0, .ref b), (1, .ref qw), (2, .ref qm), (3, .ref qo), (4, .int l4)] 1176 []) : KF cn sn Ws [(0, .ref b), (1, .ref qw), (2, .ref qm), (3, .ref qo), (4, .int l4)] 299 [] := by
  have hc0 : cn ≤ 601024 := by omega
  have hs0 : sn ≤ 7293034 := by omega
  have h0 := hR.rl hc0 hs0
  refine st_aload_n h0 dL_law_299 1 rfl rfl (pc' := 300) rfl ?_
  obtain ⟨o_, Wc, Wn, hca, hrc1, hcb, hPn⟩ := hop  
  obtain ⟨w_, fs_, hw1, hw2⟩ := hrc.1
  refine st_ca hR hc0 hs0 hca cf_L_29 (by decide) 0 hw1 hw2 rfl (av := []) rfl (rest := []) rfl (Nat.le_of_ble_eq_true rfl) dL_law_300 (pc' := 303) rfl ?_
  refine st_aload_n h0 dL_law_303 2 rfl rfl (pc' := 304) rfl ?_
  obtain ⟨w2_, fs2_, hv1, hv2⟩ := hrc1.2.1
  refine st_ca hR hc0 hs0 hcb cf_L_33 (by decide) 1 hv1 hv2 rfl (av := []) rfl (rest := [.int o_]) rfl (Nat.le_of_ble_eq_true rfl) dL_law_304 (pc' := 307) rfl ?_
  refine st_icmp_eq h0 dL_law_307 (tgt := 1176) (by decide) (pc' := 310) rfl (fun _ => ?_) (fun c_ => absurd rfl c_)
  exact next _ _ _ (Nat.le_succ _) (by omega) hPn
set_option maxHeartbeats 4000000 in
set_option maxRecDepth 100000 in
theorem wc_2 {l : Launch} {G : GG} {b L : Nat} {xs : Nat → Int32} {KF : Nat → Nat → KT} (hR : RlW l G b L xs KF) {qw qm qo : Nat} {P : List va_W → Prop} {i cn sn : Nat} {Ws : List va_W} {l4 : Int32} (hi : l4 = nI i) (hle : i + 7 ≤ L) (hL : L ≤ 3584) (hc : cn + 1 ≤ 601024) (hs : sn + 6 ≤ 7293034) (hrc : Rc G qw qm qo Ws) (hop : OP2 l G qw qm qo P Ws)
    (next : ∀ (cn' sn' : Nat) (Wn : List va_W), cn' ≤ cn + 1 → sn' ≤ sn + 6 → P Wn → KF cn' sn' Wn [(0, .ref b), (1, .ref qw), (2, .ref qm), (3, .ref qo), (4, .int l4)] 1176 []) : KF cn sn Ws [(0, .ref b), (1, .ref qw), (2, .ref qm), (3, .ref qo), (4, .int l4)] 312 [] := by
  have hc0 : cn ≤ 601024 := by omega
  have hs0 : sn ≤ 7293034 := by omega
  have h0 := hR.rl hc0 hs0
  refine st_aload_n h0 dL_law_312 1 rfl rfl (pc' := 313) rfl ?_
  refine st_aload_n h0 dL_law_313 0 rfl rfl (pc' := 314) rfl ?_
  refine st_iload h0 dL_law_314 4 rfl (pc' := 316) rfl ?_
  refine st_iconst h0 dL_law_316 (v := 1) rfl (pc' := 317) rfl ?_
  refine st_iadd h0 dL_law_317 (pc' := 318) rfl ?_
  refine st_sld hR dL_law_318 (rd_in hi (k := 1) rfl (by omega) hL) rfl (pc' := 319) rfl ?_
  refine st_aload_n h0 dL_law_319 0 rfl rfl (pc' := 320) rfl ?_
  refine st_iload h0 dL_law_320 4 rfl (pc' := 322) rfl ?_
  refine st_iconst h0 dL_law_322 (v := 2) rfl (pc' := 323) rfl ?_
  refine st_iadd h0 dL_law_323 (pc' := 324) rfl ?_
  refine st_sld hR dL_law_324 (rd_in hi (k := 2) rfl (by omega) hL) rfl (pc' := 325) rfl ?_
  obtain ⟨o_, Wc, Wn, hca, hrc1, hcb, hPn⟩ := hop (xs (l4 + 1).toNatClampNeg) (xs (l4 + 2).toNatClampNeg) 
  obtain ⟨w_, fs_, hw1, hw2⟩ := hrc.1
  refine st_ca hR hc0 hs0 hca cf_L_34 (by decide) 0 hw1 hw2 rfl (av := [.int (xs (l4 + 1).toNatClampNeg), .int (xs (l4 + 2).toNatClampNeg)]) rfl (rest := []) rfl (Nat.le_of_ble_eq_true rfl) dL_law_325 (pc' := 328) rfl ?_
  refine st_aload_n h0 dL_law_328 2 rfl rfl (pc' := 329) rfl ?_
  refine st_aload_n h0 dL_law_329 0 rfl rfl (pc' := 330) rfl ?_
  refine st_iload h0 dL_law_330 4 rfl (pc' := 332) rfl ?_
  refine st_iconst h0 dL_law_332 (v := 1) rfl (pc' := 333) rfl ?_
  refine st_iadd h0 dL_law_333 (pc' := 334) rfl ?_
  refine st_sld hR dL_law_334 (rd_in hi (k := 1) rfl (by omega) hL) rfl (pc' := 335) rfl ?_
  refine st_aload_n h0 dL_law_335 0 rfl rfl (pc' := 336) rfl ?_
  refine st_iload h0 dL_law_336 4 rfl (pc' := 338) rfl ?_
  refine st_iconst h0 dL_law_338 (v := 2) rfl (pc' := 339) rfl ?_
  refine st_iadd h0 dL_law_339 (pc' := 340) rfl ?_
  refine st_sld hR dL_law_340 (rd_in hi (k := 2) rfl (by omega) hL) rfl (pc' := 341) rfl ?_
  obtain ⟨w2_, fs2_, hv1, hv2⟩ := hrc1.2.1
  refine st_ca hR hc0 hs0 hcb cf_L_37 (by decide) 1 hv1 hv2 rfl (av := [.int (xs (l4 + 1).toNatClampNeg), .int (xs (l4 + 2).toNatClampNeg)]) rfl (rest := [.int o_]) rfl (Nat.le_of_ble_eq_true rfl) dL_law_341 (pc' := 344) rfl ?_
  refine st_icmp_eq h0 dL_law_344 (tgt := 1176) (by decide) (pc' := 347) rfl (fun _ => ?_) (fun c_ => absurd rfl c_)
  exact next _ _ _ (Nat.le_succ _) (by omega) hPn
set_option maxHeartbeats 4000000 in
set_option maxRecDepth 100000 in
theorem wc_3 {l : Launch} {G : GG} {b L : Nat} {xs : Nat → Int32} {KF : Nat → Nat → KT} (hR : RlW l G b L xs KF) {qw qm qo : Nat} {P : List va_W → Prop} {i cn sn : Nat} {Ws : List va_W} {l4 : Int32} (hi : l4 = nI i) (hle : i + 7 ≤ L) (hL : L ≤ 3584) (hc : cn + 1 ≤ 601024) (hs : sn + 6 ≤ 7293034) (hrc : Rc G qw qm qo Ws) (hop : OP3 l G qw qm qo P Ws)
    (next : ∀ (cn' sn' : Nat) (Wn : List va_W), cn' ≤ cn + 1 → sn' ≤ sn + 6 → P Wn → KF cn' sn' Wn [(0, .ref b), (1, .ref qw), (2, .ref qm), (3, .ref qo), (4, .int l4)] 1176 []) : KF cn sn Ws [(0, .ref b), (1, .ref qw), (2, .ref qm), (3, .ref qo), (4, .int l4)] 349 [] := by
  have hc0 : cn ≤ 601024 := by omega
  have hs0 : sn ≤ 7293034 := by omega
  have h0 := hR.rl hc0 hs0
  refine st_aload_n h0 dL_law_349 1 rfl rfl (pc' := 350) rfl ?_
  refine st_aload_n h0 dL_law_350 0 rfl rfl (pc' := 351) rfl ?_
  refine st_iload h0 dL_law_351 4 rfl (pc' := 353) rfl ?_
  refine st_iconst h0 dL_law_353 (v := 1) rfl (pc' := 354) rfl ?_
  refine st_iadd h0 dL_law_354 (pc' := 355) rfl ?_
  refine st_sld hR dL_law_355 (rd_in hi (k := 1) rfl (by omega) hL) rfl (pc' := 356) rfl ?_
  refine st_aload_n h0 dL_law_356 0 rfl rfl (pc' := 357) rfl ?_
  refine st_iload h0 dL_law_357 4 rfl (pc' := 359) rfl ?_
  refine st_iconst h0 dL_law_359 (v := 2) rfl (pc' := 360) rfl ?_
  refine st_iadd h0 dL_law_360 (pc' := 361) rfl ?_
  refine st_sld hR dL_law_361 (rd_in hi (k := 2) rfl (by omega) hL) rfl (pc' := 362) rfl ?_
  obtain ⟨o_, Wc, Wn, hca, hrc1, hcb, hPn⟩ := hop (xs (l4 + 1).toNatClampNeg) (xs (l4 + 2).toNatClampNeg) 
  obtain ⟨w_, fs_, hw1, hw2⟩ := hrc.1
  refine st_ca hR hc0 hs0 hca cf_L_38 (by decide) 0 hw1 hw2 rfl (av := [.int (xs (l4 + 1).toNatClampNeg), .int (xs (l4 + 2).toNatClampNeg)]) rfl (rest := []) rfl (Nat.le_of_ble_eq_true rfl) dL_law_362 (pc' := 365) rfl ?_
  refine st_aload_n h0 dL_law_365 2 rfl rfl (pc' := 366) rfl ?_
  refine st_aload_n h0 dL_law_366 0 rfl rfl (pc' := 367) rfl ?_
  refine st_iload h0 dL_law_367 4 rfl (pc' := 369) rfl ?_
  refine st_iconst h0 dL_law_369 (v := 1) rfl (pc' := 370) rfl ?_
  refine st_iadd h0 dL_law_370 (pc' := 371) rfl ?_
  refine st_sld hR dL_law_371 (rd_in hi (k := 1) rfl (by omega) hL) rfl (pc' := 372) rfl ?_
  refine st_aload_n h0 dL_law_372 0 rfl rfl (pc' := 373) rfl ?_
  refine st_iload h0 dL_law_373 4 rfl (pc' := 375) rfl ?_
  refine st_iconst h0 dL_law_375 (v := 2) rfl (pc' := 376) rfl ?_
  refine st_iadd h0 dL_law_376 (pc' := 377) rfl ?_
  refine st_sld hR dL_law_377 (rd_in hi (k := 2) rfl (by omega) hL) rfl (pc' := 378) rfl ?_
  obtain ⟨w2_, fs2_, hv1, hv2⟩ := hrc1.2.1
  refine st_ca hR hc0 hs0 hcb cf_L_41 (by decide) 1 hv1 hv2 rfl (av := [.int (xs (l4 + 1).toNatClampNeg), .int (xs (l4 + 2).toNatClampNeg)]) rfl (rest := [.int o_]) rfl (Nat.le_of_ble_eq_true rfl) dL_law_378 (pc' := 381) rfl ?_
  refine st_icmp_eq h0 dL_law_381 (tgt := 1176) (by decide) (pc' := 384) rfl (fun _ => ?_) (fun c_ => absurd rfl c_)
  exact next _ _ _ (Nat.le_succ _) (by omega) hPn
set_option maxHeartbeats 4000000 in
set_option maxRecDepth 100000 in
theorem wc_4 {l : Launch} {G : GG} {b L : Nat} {xs : Nat → Int32} {KF : Nat → Nat → KT} (hR : RlW l G b L xs KF) {qw qm qo : Nat} {P : List va_W → Prop} {i cn sn : Nat} {Ws : List va_W} {l4 : Int32} (hi : l4 = nI i) (hle : i + 7 ≤ L) (hL : L ≤ 3584) (hc : cn + 1 ≤ 601024) (hs : sn + 6 ≤ 7293034) (hrc : Rc G qw qm qo Ws) (hop : OP4 l G qw qm qo P Ws)
    (next : ∀ (cn' sn' : Nat) (Wn : List va_W), cn' ≤ cn + 1 → sn' ≤ sn + 6 → P Wn → KF cn' sn' Wn [(0, .ref b), (1, .ref qw), (2, .ref qm), (3, .ref qo), (4, .int l4)] 1176 []) : KF cn sn Ws [(0, .ref b), (1, .ref qw), (2, .ref qm), (3, .ref qo), (4, .int l4)] 386 [] := by
  have hc0 : cn ≤ 601024 := by omega
  have hs0 : sn ≤ 7293034 := by omega
  have h0 := hR.rl hc0 hs0
  refine st_aload_n h0 dL_law_386 1 rfl rfl (pc' := 387) rfl ?_
  refine st_aload_n h0 dL_law_387 0 rfl rfl (pc' := 388) rfl ?_
  refine st_iload h0 dL_law_388 4 rfl (pc' := 390) rfl ?_
  refine st_iconst h0 dL_law_390 (v := 1) rfl (pc' := 391) rfl ?_
  refine st_iadd h0 dL_law_391 (pc' := 392) rfl ?_
  refine st_sld hR dL_law_392 (rd_in hi (k := 1) rfl (by omega) hL) rfl (pc' := 393) rfl ?_
  obtain ⟨o_, Wc, Wn, hca, hrc1, hcb, hPn⟩ := hop (xs (l4 + 1).toNatClampNeg) 
  obtain ⟨w_, fs_, hw1, hw2⟩ := hrc.1
  refine st_ca hR hc0 hs0 hca cf_L_42 (by decide) 0 hw1 hw2 rfl (av := [.int (xs (l4 + 1).toNatClampNeg)]) rfl (rest := []) rfl (Nat.le_of_ble_eq_true rfl) dL_law_393 (pc' := 396) rfl ?_
  refine st_aload_n h0 dL_law_396 2 rfl rfl (pc' := 397) rfl ?_
  refine st_aload_n h0 dL_law_397 0 rfl rfl (pc' := 398) rfl ?_
  refine st_iload h0 dL_law_398 4 rfl (pc' := 400) rfl ?_
  refine st_iconst h0 dL_law_400 (v := 1) rfl (pc' := 401) rfl ?_
  refine st_iadd h0 dL_law_401 (pc' := 402) rfl ?_
  refine st_sld hR dL_law_402 (rd_in hi (k := 1) rfl (by omega) hL) rfl (pc' := 403) rfl ?_
  obtain ⟨w2_, fs2_, hv1, hv2⟩ := hrc1.2.1
  refine st_ca hR hc0 hs0 hcb cf_L_46 (by decide) 1 hv1 hv2 rfl (av := [.int (xs (l4 + 1).toNatClampNeg)]) rfl (rest := [.int o_]) rfl (Nat.le_of_ble_eq_true rfl) dL_law_403 (pc' := 406) rfl ?_
  refine st_icmp_eq h0 dL_law_406 (tgt := 1176) (by decide) (pc' := 409) rfl (fun _ => ?_) (fun c_ => absurd rfl c_)
  exact next _ _ _ (Nat.le_succ _) (by omega) hPn
set_option maxHeartbeats 4000000 in
set_option maxRecDepth 100000 in
theorem wc_5 {l : Launch} {G : GG} {b L : Nat} {xs : Nat → Int32} {KF : Nat → Nat → KT} (hR : RlW l G b L xs KF) {qw qm qo : Nat} {P : List va_W → Prop} {i cn sn : Nat} {Ws : List va_W} {l4 : Int32} (hi : l4 = nI i) (hle : i + 7 ≤ L) (hL : L ≤ 3584) (hc : cn + 1 ≤ 601024) (hs : sn + 6 ≤ 7293034) (hrc : Rc G qw qm qo Ws) (hop : OP5 l G qw qm qo P Ws)
    (next : ∀ (cn' sn' : Nat) (Wn : List va_W), cn' ≤ cn + 1 → sn' ≤ sn + 6 → P Wn → KF cn' sn' Wn [(0, .ref b), (1, .ref qw), (2, .ref qm), (3, .ref qo), (4, .int l4)] 1176 []) : KF cn sn Ws [(0, .ref b), (1, .ref qw), (2, .ref qm), (3, .ref qo), (4, .int l4)] 411 [] := by
  have hc0 : cn ≤ 601024 := by omega
  have hs0 : sn ≤ 7293034 := by omega
  have h0 := hR.rl hc0 hs0
  refine st_aload_n h0 dL_law_411 1 rfl rfl (pc' := 412) rfl ?_
  refine st_aload_n h0 dL_law_412 0 rfl rfl (pc' := 413) rfl ?_
  refine st_iload h0 dL_law_413 4 rfl (pc' := 415) rfl ?_
  refine st_iconst h0 dL_law_415 (v := 1) rfl (pc' := 416) rfl ?_
  refine st_iadd h0 dL_law_416 (pc' := 417) rfl ?_
  refine st_sld hR dL_law_417 (rd_in hi (k := 1) rfl (by omega) hL) rfl (pc' := 418) rfl ?_
  obtain ⟨o_, Wc, Wn, hca, hrc1, hcb, hPn⟩ := hop (xs (l4 + 1).toNatClampNeg) 
  obtain ⟨w_, fs_, hw1, hw2⟩ := hrc.1
  refine st_ca hR hc0 hs0 hca cf_L_47 (by decide) 0 hw1 hw2 rfl (av := [.int (xs (l4 + 1).toNatClampNeg)]) rfl (rest := []) rfl (Nat.le_of_ble_eq_true rfl) dL_law_418 (pc' := 421) rfl ?_
  refine st_aload_n h0 dL_law_421 2 rfl rfl (pc' := 422) rfl ?_
  refine st_aload_n h0 dL_law_422 0 rfl rfl (pc' := 423) rfl ?_
  refine st_iload h0 dL_law_423 4 rfl (pc' := 425) rfl ?_
  refine st_iconst h0 dL_law_425 (v := 1) rfl (pc' := 426) rfl ?_
  refine st_iadd h0 dL_law_426 (pc' := 427) rfl ?_
  refine st_sld hR dL_law_427 (rd_in hi (k := 1) rfl (by omega) hL) rfl (pc' := 428) rfl ?_
  obtain ⟨w2_, fs2_, hv1, hv2⟩ := hrc1.2.1
  refine st_ca hR hc0 hs0 hcb cf_L_51 (by decide) 1 hv1 hv2 rfl (av := [.int (xs (l4 + 1).toNatClampNeg)]) rfl (rest := [.int o_]) rfl (Nat.le_of_ble_eq_true rfl) dL_law_428 (pc' := 431) rfl ?_
  refine st_icmp_eq h0 dL_law_431 (tgt := 1176) (by decide) (pc' := 434) rfl (fun _ => ?_) (fun c_ => absurd rfl c_)
  exact next _ _ _ (Nat.le_succ _) (by omega) hPn
set_option maxHeartbeats 4000000 in
set_option maxRecDepth 100000 in
theorem wc_6 {l : Launch} {G : GG} {b L : Nat} {xs : Nat → Int32} {KF : Nat → Nat → KT} (hR : RlW l G b L xs KF) {qw qm qo : Nat} {P : List va_W → Prop} {i cn sn : Nat} {Ws : List va_W} {l4 : Int32} (hi : l4 = nI i) (hle : i + 7 ≤ L) (hL : L ≤ 3584) (hc : cn + 1 ≤ 601024) (hs : sn + 6 ≤ 7293034) (hrc : Rc G qw qm qo Ws) (hop : OP6 l G qw qm qo P Ws)
    (next : ∀ (cn' sn' : Nat) (Wn : List va_W), cn' ≤ cn + 1 → sn' ≤ sn + 6 → P Wn → KF cn' sn' Wn [(0, .ref b), (1, .ref qw), (2, .ref qm), (3, .ref qo), (4, .int l4)] 1176 []) : KF cn sn Ws [(0, .ref b), (1, .ref qw), (2, .ref qm), (3, .ref qo), (4, .int l4)] 436 [] := by
  have hc0 : cn ≤ 601024 := by omega
  have hs0 : sn ≤ 7293034 := by omega
  have h0 := hR.rl hc0 hs0
  refine st_aload_n h0 dL_law_436 1 rfl rfl (pc' := 437) rfl ?_
  refine st_aload_n h0 dL_law_437 0 rfl rfl (pc' := 438) rfl ?_
  refine st_iload h0 dL_law_438 4 rfl (pc' := 440) rfl ?_
  refine st_iconst h0 dL_law_440 (v := 1) rfl (pc' := 441) rfl ?_
  refine st_iadd h0 dL_law_441 (pc' := 442) rfl ?_
  refine st_sld hR dL_law_442 (rd_in hi (k := 1) rfl (by omega) hL) rfl (pc' := 443) rfl ?_
  refine st_aload_n h0 dL_law_443 0 rfl rfl (pc' := 444) rfl ?_
  refine st_iload h0 dL_law_444 4 rfl (pc' := 446) rfl ?_
  refine st_iconst h0 dL_law_446 (v := 2) rfl (pc' := 447) rfl ?_
  refine st_iadd h0 dL_law_447 (pc' := 448) rfl ?_
  refine st_sld hR dL_law_448 (rd_in hi (k := 2) rfl (by omega) hL) rfl (pc' := 449) rfl ?_
  refine st_aload_n h0 dL_law_449 0 rfl rfl (pc' := 450) rfl ?_
  refine st_iload h0 dL_law_450 4 rfl (pc' := 452) rfl ?_
  refine st_iconst h0 dL_law_452 (v := 3) rfl (pc' := 453) rfl ?_
  refine st_iadd h0 dL_law_453 (pc' := 454) rfl ?_
  refine st_sld hR dL_law_454 (rd_in hi (k := 3) rfl (by omega) hL) rfl (pc' := 455) rfl ?_
  refine st_if_eq h0 dL_law_455 (tgt := 462) (by decide) (pc' := 458) rfl (fun hb_ => ?_) (fun hb_ => ?_)
  · refine st_iconst h0 dL_law_462 (v := 0) rfl (pc' := 463) rfl ?_
    obtain ⟨o_, Wc, Wn, hca, hrc1, hcb, hPn⟩ := hop (xs (l4 + 1).toNatClampNeg) (xs (l4 + 2).toNatClampNeg) 0 (Or.inl rfl)
    obtain ⟨w_, fs_, hw1, hw2⟩ := hrc.1
    refine st_ca hR hc0 hs0 hca cf_L_52 (by decide) 0 hw1 hw2 rfl (av := [.int (xs (l4 + 1).toNatClampNeg), .int (xs (l4 + 2).toNatClampNeg), .int 0]) rfl (rest := []) rfl (Nat.le_of_ble_eq_true rfl) dL_law_463 (pc' := 466) rfl ?_
    refine st_aload_n h0 dL_law_466 2 rfl rfl (pc' := 467) rfl ?_
    refine st_aload_n h0 dL_law_467 0 rfl rfl (pc' := 468) rfl ?_
    refine st_iload h0 dL_law_468 4 rfl (pc' := 470) rfl ?_
    refine st_iconst h0 dL_law_470 (v := 1) rfl (pc' := 471) rfl ?_
    refine st_iadd h0 dL_law_471 (pc' := 472) rfl ?_
    refine st_sld hR dL_law_472 (rd_in hi (k := 1) rfl (by omega) hL) rfl (pc' := 473) rfl ?_
    refine st_aload_n h0 dL_law_473 0 rfl rfl (pc' := 474) rfl ?_
    refine st_iload h0 dL_law_474 4 rfl (pc' := 476) rfl ?_
    refine st_iconst h0 dL_law_476 (v := 2) rfl (pc' := 477) rfl ?_
    refine st_iadd h0 dL_law_477 (pc' := 478) rfl ?_
    refine st_sld hR dL_law_478 (rd_in hi (k := 2) rfl (by omega) hL) rfl (pc' := 479) rfl ?_
    refine st_aload_n h0 dL_law_479 0 rfl rfl (pc' := 480) rfl ?_
    refine st_iload h0 dL_law_480 4 rfl (pc' := 482) rfl ?_
    refine st_iconst h0 dL_law_482 (v := 3) rfl (pc' := 483) rfl ?_
    refine st_iadd h0 dL_law_483 (pc' := 484) rfl ?_
    refine st_sld hR dL_law_484 (rd_in hi (k := 3) rfl (by omega) hL) rfl (pc' := 485) rfl ?_
    refine st_if_eq h0 dL_law_485 (tgt := 492) (by decide) (pc' := 488) rfl (fun _ => ?_) (fun c_ => absurd hb_ c_)
    refine st_iconst h0 dL_law_492 (v := 0) rfl (pc' := 493) rfl ?_
    obtain ⟨w2_, fs2_, hv1, hv2⟩ := hrc1.2.1
    refine st_ca hR hc0 hs0 hcb cf_L_56 (by decide) 1 hv1 hv2 rfl (av := [.int (xs (l4 + 1).toNatClampNeg), .int (xs (l4 + 2).toNatClampNeg), .int 0]) rfl (rest := [.int o_]) rfl (Nat.le_of_ble_eq_true rfl) dL_law_493 (pc' := 496) rfl ?_
    refine st_icmp_eq h0 dL_law_496 (tgt := 1176) (by decide) (pc' := 499) rfl (fun _ => ?_) (fun c_ => absurd rfl c_)
    exact next _ _ _ (Nat.le_succ _) (by omega) hPn
  · refine st_iconst h0 dL_law_458 (v := 1) rfl (pc' := 459) rfl ?_
    refine st_goto h0 dL_law_459 (tgt := 463) (by decide) ?_
    obtain ⟨o_, Wc, Wn, hca, hrc1, hcb, hPn⟩ := hop (xs (l4 + 1).toNatClampNeg) (xs (l4 + 2).toNatClampNeg) 1 (Or.inr rfl)
    obtain ⟨w_, fs_, hw1, hw2⟩ := hrc.1
    refine st_ca hR hc0 hs0 hca cf_L_52 (by decide) 0 hw1 hw2 rfl (av := [.int (xs (l4 + 1).toNatClampNeg), .int (xs (l4 + 2).toNatClampNeg), .int 1]) rfl (rest := []) rfl (Nat.le_of_ble_eq_true rfl) dL_law_463 (pc' := 466) rfl ?_
    refine st_aload_n h0 dL_law_466 2 rfl rfl (pc' := 467) rfl ?_
    refine st_aload_n h0 dL_law_467 0 rfl rfl (pc' := 468) rfl ?_
    refine st_iload h0 dL_law_468 4 rfl (pc' := 470) rfl ?_
    refine st_iconst h0 dL_law_470 (v := 1) rfl (pc' := 471) rfl ?_
    refine st_iadd h0 dL_law_471 (pc' := 472) rfl ?_
    refine st_sld hR dL_law_472 (rd_in hi (k := 1) rfl (by omega) hL) rfl (pc' := 473) rfl ?_
    refine st_aload_n h0 dL_law_473 0 rfl rfl (pc' := 474) rfl ?_
    refine st_iload h0 dL_law_474 4 rfl (pc' := 476) rfl ?_
    refine st_iconst h0 dL_law_476 (v := 2) rfl (pc' := 477) rfl ?_
    refine st_iadd h0 dL_law_477 (pc' := 478) rfl ?_
    refine st_sld hR dL_law_478 (rd_in hi (k := 2) rfl (by omega) hL) rfl (pc' := 479) rfl ?_
    refine st_aload_n h0 dL_law_479 0 rfl rfl (pc' := 480) rfl ?_
    refine st_iload h0 dL_law_480 4 rfl (pc' := 482) rfl ?_
    refine st_iconst h0 dL_law_482 (v := 3) rfl (pc' := 483) rfl ?_
    refine st_iadd h0 dL_law_483 (pc' := 484) rfl ?_
    refine st_sld hR dL_law_484 (rd_in hi (k := 3) rfl (by omega) hL) rfl (pc' := 485) rfl ?_
    refine st_if_eq h0 dL_law_485 (tgt := 492) (by decide) (pc' := 488) rfl (fun c_ => absurd c_ hb_) (fun _ => ?_)
    refine st_iconst h0 dL_law_488 (v := 1) rfl (pc' := 489) rfl ?_
    refine st_goto h0 dL_law_489 (tgt := 493) (by decide) ?_
    obtain ⟨w2_, fs2_, hv1, hv2⟩ := hrc1.2.1
    refine st_ca hR hc0 hs0 hcb cf_L_56 (by decide) 1 hv1 hv2 rfl (av := [.int (xs (l4 + 1).toNatClampNeg), .int (xs (l4 + 2).toNatClampNeg), .int 1]) rfl (rest := [.int o_]) rfl (Nat.le_of_ble_eq_true rfl) dL_law_493 (pc' := 496) rfl ?_
    refine st_icmp_eq h0 dL_law_496 (tgt := 1176) (by decide) (pc' := 499) rfl (fun _ => ?_) (fun c_ => absurd rfl c_)
    exact next _ _ _ (Nat.le_succ _) (by omega) hPn
set_option maxHeartbeats 4000000 in
set_option maxRecDepth 100000 in
theorem wc_7 {l : Launch} {G : GG} {b L : Nat} {xs : Nat → Int32} {KF : Nat → Nat → KT} (hR : RlW l G b L xs KF) {qw qm qo : Nat} {P : List va_W → Prop} {i cn sn : Nat} {Ws : List va_W} {l4 : Int32} (hi : l4 = nI i) (hle : i + 7 ≤ L) (hL : L ≤ 3584) (hc : cn + 1 ≤ 601024) (hs : sn + 6 ≤ 7293034) (hrc : Rc G qw qm qo Ws) (hop : OP7 l G qw qm qo P Ws)
    (next : ∀ (cn' sn' : Nat) (Wn : List va_W), cn' ≤ cn + 1 → sn' ≤ sn + 6 → P Wn → KF cn' sn' Wn [(0, .ref b), (1, .ref qw), (2, .ref qm), (3, .ref qo), (4, .int l4)] 1176 []) : KF cn sn Ws [(0, .ref b), (1, .ref qw), (2, .ref qm), (3, .ref qo), (4, .int l4)] 501 [] := by
  have hc0 : cn ≤ 601024 := by omega
  have hs0 : sn ≤ 7293034 := by omega
  have h0 := hR.rl hc0 hs0
  refine st_aload_n h0 dL_law_501 1 rfl rfl (pc' := 502) rfl ?_
  obtain ⟨o_, Wc, Wn, hca, hrc1, hcb, hPn⟩ := hop  
  obtain ⟨w_, fs_, hw1, hw2⟩ := hrc.1
  refine st_ca hR hc0 hs0 hca cf_L_57 (by decide) 0 hw1 hw2 rfl (av := []) rfl (rest := []) rfl (Nat.le_of_ble_eq_true rfl) dL_law_502 (pc' := 505) rfl ?_
  refine st_aload_n h0 dL_law_505 2 rfl rfl (pc' := 506) rfl ?_
  obtain ⟨w2_, fs2_, hv1, hv2⟩ := hrc1.2.1
  refine st_ca hR hc0 hs0 hcb cf_L_60 (by decide) 1 hv1 hv2 rfl (av := []) rfl (rest := [.int o_]) rfl (Nat.le_of_ble_eq_true rfl) dL_law_506 (pc' := 509) rfl ?_
  refine st_icmp_eq h0 dL_law_509 (tgt := 1176) (by decide) (pc' := 512) rfl (fun _ => ?_) (fun c_ => absurd rfl c_)
  exact next _ _ _ (Nat.le_succ _) (by omega) hPn
set_option maxHeartbeats 4000000 in
set_option maxRecDepth 100000 in
theorem wc_8 {l : Launch} {G : GG} {b L : Nat} {xs : Nat → Int32} {KF : Nat → Nat → KT} (hR : RlW l G b L xs KF) {qw qm qo : Nat} {P : List va_W → Prop} {i cn sn : Nat} {Ws : List va_W} {l4 : Int32} (hi : l4 = nI i) (hle : i + 7 ≤ L) (hL : L ≤ 3584) (hc : cn + 1 ≤ 601024) (hs : sn + 6 ≤ 7293034) (hrc : Rc G qw qm qo Ws) (hop : OP8 l G qw qm qo P Ws)
    (next : ∀ (cn' sn' : Nat) (Wn : List va_W), cn' ≤ cn + 1 → sn' ≤ sn + 6 → P Wn → KF cn' sn' Wn [(0, .ref b), (1, .ref qw), (2, .ref qm), (3, .ref qo), (4, .int l4)] 1176 []) : KF cn sn Ws [(0, .ref b), (1, .ref qw), (2, .ref qm), (3, .ref qo), (4, .int l4)] 514 [] := by
  have hc0 : cn ≤ 601024 := by omega
  have hs0 : sn ≤ 7293034 := by omega
  have h0 := hR.rl hc0 hs0
  refine st_aload_n h0 dL_law_514 1 rfl rfl (pc' := 515) rfl ?_
  refine st_aload_n h0 dL_law_515 0 rfl rfl (pc' := 516) rfl ?_
  refine st_iload h0 dL_law_516 4 rfl (pc' := 518) rfl ?_
  refine st_iconst h0 dL_law_518 (v := 1) rfl (pc' := 519) rfl ?_
  refine st_iadd h0 dL_law_519 (pc' := 520) rfl ?_
  refine st_sld hR dL_law_520 (rd_in hi (k := 1) rfl (by omega) hL) rfl (pc' := 521) rfl ?_
  refine st_aload_n h0 dL_law_521 0 rfl rfl (pc' := 522) rfl ?_
  refine st_iload h0 dL_law_522 4 rfl (pc' := 524) rfl ?_
  refine st_iconst h0 dL_law_524 (v := 2) rfl (pc' := 525) rfl ?_
  refine st_iadd h0 dL_law_525 (pc' := 526) rfl ?_
  refine st_sld hR dL_law_526 (rd_in hi (k := 2) rfl (by omega) hL) rfl (pc' := 527) rfl ?_
  refine st_aload_n h0 dL_law_527 3 rfl rfl (pc' := 528) rfl ?_
  obtain ⟨k_, o_, f_, Wc, Wn, Wo, hca, hrc1, hcb, hrc2, hcd, hPn, hout, hfo⟩ := hop (xs (l4 + 1).toNatClampNeg) (xs (l4 + 2).toNatClampNeg)
  refine st_caw hR hc hs hca cw_L_61 (by decide) (av := [.ref qw, .int (xs (l4 + 1).toNatClampNeg), .int (xs (l4 + 2).toNatClampNeg), .ref qo]) rfl (rest := []) rfl (Nat.le_of_ble_eq_true rfl) dL_law_528 (pc' := 531) rfl ?_
  have h1 := hR.rl hc hs
  refine st_istore h1 dL_law_531 (Nat.le_of_ble_eq_true rfl) [1, 2, 3, 4, 5, 0] (lv' := [(0, .ref b), (1, .ref qw), (2, .ref qm), (3, .ref qo), (4, .int l4), (5, .int k_)]) rfl (pc' := 533) rfl ?_
  refine st_aload_n h1 dL_law_533 2 rfl rfl (pc' := 534) rfl ?_
  refine st_aload_n h1 dL_law_534 0 rfl rfl (pc' := 535) rfl ?_
  refine st_iload h1 dL_law_535 4 rfl (pc' := 537) rfl ?_
  refine st_iconst h1 dL_law_537 (v := 1) rfl (pc' := 538) rfl ?_
  refine st_iadd h1 dL_law_538 (pc' := 539) rfl ?_
  refine st_sld hR dL_law_539 (rd_in hi (k := 1) rfl (by omega) hL) rfl (pc' := 540) rfl ?_
  refine st_aload_n h1 dL_law_540 0 rfl rfl (pc' := 541) rfl ?_
  refine st_iload h1 dL_law_541 4 rfl (pc' := 543) rfl ?_
  refine st_iconst h1 dL_law_543 (v := 2) rfl (pc' := 544) rfl ?_
  refine st_iadd h1 dL_law_544 (pc' := 545) rfl ?_
  refine st_sld hR dL_law_545 (rd_in hi (k := 2) rfl (by omega) hL) rfl (pc' := 546) rfl ?_
  obtain ⟨w2_, fs2_, hv1, hv2⟩ := hrc1.2.1
  refine st_ca hR hc hs hcb cf_L_66 (by decide) 1 hv1 hv2 rfl (av := [.int (xs (l4 + 1).toNatClampNeg), .int (xs (l4 + 2).toNatClampNeg)]) rfl (rest := []) rfl (Nat.le_of_ble_eq_true rfl) dL_law_546 (pc' := 549) rfl ?_
  refine st_istore h1 dL_law_549 (Nat.le_of_ble_eq_true rfl) [1, 2, 3, 4, 5, 6, 0] (lv' := [(0, .ref b), (1, .ref qw), (2, .ref qm), (3, .ref qo), (4, .int l4), (5, .int k_), (6, .int o_)]) rfl (pc' := 551) rfl ?_
  refine st_aload_n h1 dL_law_551 2 rfl rfl (pc' := 552) rfl ?_
  obtain ⟨w2_, fs2_, hv1, hv2⟩ := hrc2.2.1
  refine st_ca hR hc hs hcd cf_L_67 (by decide) 1 hv1 hv2 rfl (av := []) rfl (rest := []) rfl (Nat.le_of_ble_eq_true rfl) dL_law_552 (pc' := 555) rfl ?_
  refine st_iload h1 dL_law_555 5 rfl (pc' := 557) rfl ?_
  refine st_icmp_eq h1 dL_law_557 (tgt := 562) (by decide) (pc' := 560) rfl (fun _ => ?_) (fun c_ => absurd rfl c_)
  refine st_iload h1 dL_law_562 5 rfl (pc' := 564) rfl ?_
  refine st_if_ne h1 dL_law_564 (tgt := 579) (by decide) (pc' := 567) rfl (fun hb_ => ?_) (fun hb_ => ?_)
  · refine st_goto h1 dL_law_579 (tgt := 1176) (by decide) ?_
    refine st_lv h1 [0, 1, 2, 3, 4] rfl ?_
    exact next _ _ _ (Nat.le_refl _) (Nat.le_refl _) hPn
  · refine st_aload_n h1 dL_law_567 3 rfl rfl (pc' := 568) rfl ?_
    refine st_iconst h1 dL_law_568 (v := 0) rfl (pc' := 569) rfl ?_
    refine st_lald h1 dL_law_569 2 0 hout rfl (vp_lit 0 rfl rfl rfl) (v := f_ 0) rfl (pc' := 570) rfl ?_
    refine st_iload h1 dL_law_570 6 rfl (pc' := 572) rfl ?_
    refine st_i2l h1 dL_law_572 (pc' := 573) rfl ?_
    refine st_lcmp h1 dL_law_573 (pc' := 574) rfl ?_
    refine st_if_eq h1 dL_law_574 (tgt := 579) (by decide) (pc' := 577) rfl (fun _ => ?_) (fun c_ => absurd (by rw [hfo hb_]; exact lgc_0 _) c_)
    refine st_goto h1 dL_law_579 (tgt := 1176) (by decide) ?_
    refine st_lv h1 [0, 1, 2, 3, 4] rfl ?_
    exact next _ _ _ (Nat.le_refl _) (Nat.le_refl _) hPn
set_option maxHeartbeats 4000000 in
set_option maxRecDepth 100000 in
theorem wc_9 {l : Launch} {G : GG} {b L : Nat} {xs : Nat → Int32} {KF : Nat → Nat → KT} (hR : RlW l G b L xs KF) {qw qm qo : Nat} {P : List va_W → Prop} {i cn sn : Nat} {Ws : List va_W} {l4 : Int32} (hi : l4 = nI i) (hle : i + 7 ≤ L) (hL : L ≤ 3584) (hc : cn + 1 ≤ 601024) (hs : sn + 6 ≤ 7293034) (hrc : Rc G qw qm qo Ws) (hop : OP9 l G qw qm qo P Ws)
    (next : ∀ (cn' sn' : Nat) (Wn : List va_W), cn' ≤ cn + 1 → sn' ≤ sn + 6 → P Wn → KF cn' sn' Wn [(0, .ref b), (1, .ref qw), (2, .ref qm), (3, .ref qo), (4, .int l4)] 1176 []) : KF cn sn Ws [(0, .ref b), (1, .ref qw), (2, .ref qm), (3, .ref qo), (4, .int l4)] 582 [] := by
  have hc0 : cn ≤ 601024 := by omega
  have hs0 : sn ≤ 7293034 := by omega
  have h0 := hR.rl hc0 hs0
  refine st_aload_n h0 dL_law_582 1 rfl rfl (pc' := 583) rfl ?_
  refine st_aload_n h0 dL_law_583 0 rfl rfl (pc' := 584) rfl ?_
  refine st_iload h0 dL_law_584 4 rfl (pc' := 586) rfl ?_
  refine st_iconst h0 dL_law_586 (v := 1) rfl (pc' := 587) rfl ?_
  refine st_iadd h0 dL_law_587 (pc' := 588) rfl ?_
  refine st_sld hR dL_law_588 (rd_in hi (k := 1) rfl (by omega) hL) rfl (pc' := 589) rfl ?_
  refine st_aload_n h0 dL_law_589 0 rfl rfl (pc' := 590) rfl ?_
  refine st_iload h0 dL_law_590 4 rfl (pc' := 592) rfl ?_
  refine st_iconst h0 dL_law_592 (v := 2) rfl (pc' := 593) rfl ?_
  refine st_iadd h0 dL_law_593 (pc' := 594) rfl ?_
  refine st_sld hR dL_law_594 (rd_in hi (k := 2) rfl (by omega) hL) rfl (pc' := 595) rfl ?_
  obtain ⟨o_, Wc, Wn, hca, hrc1, hcb, hPn⟩ := hop (xs (l4 + 1).toNatClampNeg) (xs (l4 + 2).toNatClampNeg) 
  obtain ⟨w_, fs_, hw1, hw2⟩ := hrc.1
  refine st_ca hR hc0 hs0 hca cf_L_70 (by decide) 0 hw1 hw2 rfl (av := [.int (xs (l4 + 1).toNatClampNeg), .int (xs (l4 + 2).toNatClampNeg)]) rfl (rest := []) rfl (Nat.le_of_ble_eq_true rfl) dL_law_595 (pc' := 598) rfl ?_
  refine st_aload_n h0 dL_law_598 2 rfl rfl (pc' := 599) rfl ?_
  refine st_aload_n h0 dL_law_599 0 rfl rfl (pc' := 600) rfl ?_
  refine st_iload h0 dL_law_600 4 rfl (pc' := 602) rfl ?_
  refine st_iconst h0 dL_law_602 (v := 1) rfl (pc' := 603) rfl ?_
  refine st_iadd h0 dL_law_603 (pc' := 604) rfl ?_
  refine st_sld hR dL_law_604 (rd_in hi (k := 1) rfl (by omega) hL) rfl (pc' := 605) rfl ?_
  refine st_aload_n h0 dL_law_605 0 rfl rfl (pc' := 606) rfl ?_
  refine st_iload h0 dL_law_606 4 rfl (pc' := 608) rfl ?_
  refine st_iconst h0 dL_law_608 (v := 2) rfl (pc' := 609) rfl ?_
  refine st_iadd h0 dL_law_609 (pc' := 610) rfl ?_
  refine st_sld hR dL_law_610 (rd_in hi (k := 2) rfl (by omega) hL) rfl (pc' := 611) rfl ?_
  obtain ⟨w2_, fs2_, hv1, hv2⟩ := hrc1.2.1
  refine st_ca hR hc0 hs0 hcb cf_L_73 (by decide) 1 hv1 hv2 rfl (av := [.int (xs (l4 + 1).toNatClampNeg), .int (xs (l4 + 2).toNatClampNeg)]) rfl (rest := [.int o_]) rfl (Nat.le_of_ble_eq_true rfl) dL_law_611 (pc' := 614) rfl ?_
  refine st_icmp_eq h0 dL_law_614 (tgt := 1176) (by decide) (pc' := 617) rfl (fun _ => ?_) (fun c_ => absurd rfl c_)
  exact next _ _ _ (Nat.le_succ _) (by omega) hPn
set_option maxHeartbeats 4000000 in
set_option maxRecDepth 100000 in
theorem wc_10 {l : Launch} {G : GG} {b L : Nat} {xs : Nat → Int32} {KF : Nat → Nat → KT} (hR : RlW l G b L xs KF) {qw qm qo : Nat} {P : List va_W → Prop} {i cn sn : Nat} {Ws : List va_W} {l4 : Int32} (hi : l4 = nI i) (hle : i + 7 ≤ L) (hL : L ≤ 3584) (hc : cn + 1 ≤ 601024) (hs : sn + 6 ≤ 7293034) (hrc : Rc G qw qm qo Ws) (hop : OP10 l G qw qm qo P Ws)
    (next : ∀ (cn' sn' : Nat) (Wn : List va_W), cn' ≤ cn + 1 → sn' ≤ sn + 6 → P Wn → KF cn' sn' Wn [(0, .ref b), (1, .ref qw), (2, .ref qm), (3, .ref qo), (4, .int l4)] 1176 []) : KF cn sn Ws [(0, .ref b), (1, .ref qw), (2, .ref qm), (3, .ref qo), (4, .int l4)] 619 [] := by
  have hc0 : cn ≤ 601024 := by omega
  have hs0 : sn ≤ 7293034 := by omega
  have h0 := hR.rl hc0 hs0
  refine st_aload_n h0 dL_law_619 1 rfl rfl (pc' := 620) rfl ?_
  refine st_aload_n h0 dL_law_620 0 rfl rfl (pc' := 621) rfl ?_
  refine st_iload h0 dL_law_621 4 rfl (pc' := 623) rfl ?_
  refine st_iconst h0 dL_law_623 (v := 1) rfl (pc' := 624) rfl ?_
  refine st_iadd h0 dL_law_624 (pc' := 625) rfl ?_
  refine st_sld hR dL_law_625 (rd_in hi (k := 1) rfl (by omega) hL) rfl (pc' := 626) rfl ?_
  refine st_aload_n h0 dL_law_626 0 rfl rfl (pc' := 627) rfl ?_
  refine st_iload h0 dL_law_627 4 rfl (pc' := 629) rfl ?_
  refine st_iconst h0 dL_law_629 (v := 2) rfl (pc' := 630) rfl ?_
  refine st_iadd h0 dL_law_630 (pc' := 631) rfl ?_
  refine st_sld hR dL_law_631 (rd_in hi (k := 2) rfl (by omega) hL) rfl (pc' := 632) rfl ?_
  refine st_if_eq h0 dL_law_632 (tgt := 639) (by decide) (pc' := 635) rfl (fun hb_ => ?_) (fun hb_ => ?_)
  · refine st_iconst h0 dL_law_639 (v := 0) rfl (pc' := 640) rfl ?_
    obtain ⟨o_, Wc, Wn, hca, hrc1, hcb, hPn⟩ := hop (xs (l4 + 1).toNatClampNeg) 0 (Or.inl rfl)
    obtain ⟨w_, fs_, hw1, hw2⟩ := hrc.1
    refine st_ca hR hc0 hs0 hca cf_L_74 (by decide) 0 hw1 hw2 rfl (av := [.int (xs (l4 + 1).toNatClampNeg), .int 0]) rfl (rest := []) rfl (Nat.le_of_ble_eq_true rfl) dL_law_640 (pc' := 643) rfl ?_
    refine st_aload_n h0 dL_law_643 2 rfl rfl (pc' := 644) rfl ?_
    refine st_aload_n h0 dL_law_644 0 rfl rfl (pc' := 645) rfl ?_
    refine st_iload h0 dL_law_645 4 rfl (pc' := 647) rfl ?_
    refine st_iconst h0 dL_law_647 (v := 1) rfl (pc' := 648) rfl ?_
    refine st_iadd h0 dL_law_648 (pc' := 649) rfl ?_
    refine st_sld hR dL_law_649 (rd_in hi (k := 1) rfl (by omega) hL) rfl (pc' := 650) rfl ?_
    refine st_aload_n h0 dL_law_650 0 rfl rfl (pc' := 651) rfl ?_
    refine st_iload h0 dL_law_651 4 rfl (pc' := 653) rfl ?_
    refine st_iconst h0 dL_law_653 (v := 2) rfl (pc' := 654) rfl ?_
    refine st_iadd h0 dL_law_654 (pc' := 655) rfl ?_
    refine st_sld hR dL_law_655 (rd_in hi (k := 2) rfl (by omega) hL) rfl (pc' := 656) rfl ?_
    refine st_if_eq h0 dL_law_656 (tgt := 663) (by decide) (pc' := 659) rfl (fun _ => ?_) (fun c_ => absurd hb_ c_)
    refine st_iconst h0 dL_law_663 (v := 0) rfl (pc' := 664) rfl ?_
    obtain ⟨w2_, fs2_, hv1, hv2⟩ := hrc1.2.1
    refine st_ca hR hc0 hs0 hcb cf_L_78 (by decide) 1 hv1 hv2 rfl (av := [.int (xs (l4 + 1).toNatClampNeg), .int 0]) rfl (rest := [.int o_]) rfl (Nat.le_of_ble_eq_true rfl) dL_law_664 (pc' := 667) rfl ?_
    refine st_icmp_eq h0 dL_law_667 (tgt := 1176) (by decide) (pc' := 670) rfl (fun _ => ?_) (fun c_ => absurd rfl c_)
    exact next _ _ _ (Nat.le_succ _) (by omega) hPn
  · refine st_iconst h0 dL_law_635 (v := 1) rfl (pc' := 636) rfl ?_
    refine st_goto h0 dL_law_636 (tgt := 640) (by decide) ?_
    obtain ⟨o_, Wc, Wn, hca, hrc1, hcb, hPn⟩ := hop (xs (l4 + 1).toNatClampNeg) 1 (Or.inr rfl)
    obtain ⟨w_, fs_, hw1, hw2⟩ := hrc.1
    refine st_ca hR hc0 hs0 hca cf_L_74 (by decide) 0 hw1 hw2 rfl (av := [.int (xs (l4 + 1).toNatClampNeg), .int 1]) rfl (rest := []) rfl (Nat.le_of_ble_eq_true rfl) dL_law_640 (pc' := 643) rfl ?_
    refine st_aload_n h0 dL_law_643 2 rfl rfl (pc' := 644) rfl ?_
    refine st_aload_n h0 dL_law_644 0 rfl rfl (pc' := 645) rfl ?_
    refine st_iload h0 dL_law_645 4 rfl (pc' := 647) rfl ?_
    refine st_iconst h0 dL_law_647 (v := 1) rfl (pc' := 648) rfl ?_
    refine st_iadd h0 dL_law_648 (pc' := 649) rfl ?_
    refine st_sld hR dL_law_649 (rd_in hi (k := 1) rfl (by omega) hL) rfl (pc' := 650) rfl ?_
    refine st_aload_n h0 dL_law_650 0 rfl rfl (pc' := 651) rfl ?_
    refine st_iload h0 dL_law_651 4 rfl (pc' := 653) rfl ?_
    refine st_iconst h0 dL_law_653 (v := 2) rfl (pc' := 654) rfl ?_
    refine st_iadd h0 dL_law_654 (pc' := 655) rfl ?_
    refine st_sld hR dL_law_655 (rd_in hi (k := 2) rfl (by omega) hL) rfl (pc' := 656) rfl ?_
    refine st_if_eq h0 dL_law_656 (tgt := 663) (by decide) (pc' := 659) rfl (fun c_ => absurd c_ hb_) (fun _ => ?_)
    refine st_iconst h0 dL_law_659 (v := 1) rfl (pc' := 660) rfl ?_
    refine st_goto h0 dL_law_660 (tgt := 664) (by decide) ?_
    obtain ⟨w2_, fs2_, hv1, hv2⟩ := hrc1.2.1
    refine st_ca hR hc0 hs0 hcb cf_L_78 (by decide) 1 hv1 hv2 rfl (av := [.int (xs (l4 + 1).toNatClampNeg), .int 1]) rfl (rest := [.int o_]) rfl (Nat.le_of_ble_eq_true rfl) dL_law_664 (pc' := 667) rfl ?_
    refine st_icmp_eq h0 dL_law_667 (tgt := 1176) (by decide) (pc' := 670) rfl (fun _ => ?_) (fun c_ => absurd rfl c_)
    exact next _ _ _ (Nat.le_succ _) (by omega) hPn
set_option maxHeartbeats 4000000 in
set_option maxRecDepth 100000 in
theorem wc_11 {l : Launch} {G : GG} {b L : Nat} {xs : Nat → Int32} {KF : Nat → Nat → KT} (hR : RlW l G b L xs KF) {qw qm qo : Nat} {P : List va_W → Prop} {i cn sn : Nat} {Ws : List va_W} {l4 : Int32} (hi : l4 = nI i) (hle : i + 7 ≤ L) (hL : L ≤ 3584) (hc : cn + 1 ≤ 601024) (hs : sn + 6 ≤ 7293034) (hrc : Rc G qw qm qo Ws) (hop : OP11 l G qw qm qo P Ws)
    (next : ∀ (cn' sn' : Nat) (Wn : List va_W), cn' ≤ cn + 1 → sn' ≤ sn + 6 → P Wn → KF cn' sn' Wn [(0, .ref b), (1, .ref qw), (2, .ref qm), (3, .ref qo), (4, .int l4)] 1176 []) : KF cn sn Ws [(0, .ref b), (1, .ref qw), (2, .ref qm), (3, .ref qo), (4, .int l4)] 672 [] := by
  have hc0 : cn ≤ 601024 := by omega
  have hs0 : sn ≤ 7293034 := by omega
  have h0 := hR.rl hc0 hs0
  refine st_aload_n h0 dL_law_672 1 rfl rfl (pc' := 673) rfl ?_
  refine st_aload_n h0 dL_law_673 0 rfl rfl (pc' := 674) rfl ?_
  refine st_iload h0 dL_law_674 4 rfl (pc' := 676) rfl ?_
  refine st_iconst h0 dL_law_676 (v := 1) rfl (pc' := 677) rfl ?_
  refine st_iadd h0 dL_law_677 (pc' := 678) rfl ?_
  refine st_sld hR dL_law_678 (rd_in hi (k := 1) rfl (by omega) hL) rfl (pc' := 679) rfl ?_
  refine st_aload_n h0 dL_law_679 0 rfl rfl (pc' := 680) rfl ?_
  refine st_iload h0 dL_law_680 4 rfl (pc' := 682) rfl ?_
  refine st_iconst h0 dL_law_682 (v := 2) rfl (pc' := 683) rfl ?_
  refine st_iadd h0 dL_law_683 (pc' := 684) rfl ?_
  refine st_sld hR dL_law_684 (rd_in hi (k := 2) rfl (by omega) hL) rfl (pc' := 685) rfl ?_
  obtain ⟨o_, Wc, Wn, hca, hrc1, hcb, hPn⟩ := hop (xs (l4 + 1).toNatClampNeg) (xs (l4 + 2).toNatClampNeg) 
  obtain ⟨w_, fs_, hw1, hw2⟩ := hrc.1
  refine st_ca hR hc0 hs0 hca cf_L_79 (by decide) 0 hw1 hw2 rfl (av := [.int (xs (l4 + 1).toNatClampNeg), .int (xs (l4 + 2).toNatClampNeg)]) rfl (rest := []) rfl (Nat.le_of_ble_eq_true rfl) dL_law_685 (pc' := 688) rfl ?_
  refine st_aload_n h0 dL_law_688 2 rfl rfl (pc' := 689) rfl ?_
  refine st_aload_n h0 dL_law_689 0 rfl rfl (pc' := 690) rfl ?_
  refine st_iload h0 dL_law_690 4 rfl (pc' := 692) rfl ?_
  refine st_iconst h0 dL_law_692 (v := 1) rfl (pc' := 693) rfl ?_
  refine st_iadd h0 dL_law_693 (pc' := 694) rfl ?_
  refine st_sld hR dL_law_694 (rd_in hi (k := 1) rfl (by omega) hL) rfl (pc' := 695) rfl ?_
  refine st_aload_n h0 dL_law_695 0 rfl rfl (pc' := 696) rfl ?_
  refine st_iload h0 dL_law_696 4 rfl (pc' := 698) rfl ?_
  refine st_iconst h0 dL_law_698 (v := 2) rfl (pc' := 699) rfl ?_
  refine st_iadd h0 dL_law_699 (pc' := 700) rfl ?_
  refine st_sld hR dL_law_700 (rd_in hi (k := 2) rfl (by omega) hL) rfl (pc' := 701) rfl ?_
  obtain ⟨w2_, fs2_, hv1, hv2⟩ := hrc1.2.1
  refine st_ca hR hc0 hs0 hcb cf_L_82 (by decide) 1 hv1 hv2 rfl (av := [.int (xs (l4 + 1).toNatClampNeg), .int (xs (l4 + 2).toNatClampNeg)]) rfl (rest := [.int o_]) rfl (Nat.le_of_ble_eq_true rfl) dL_law_701 (pc' := 704) rfl ?_
  refine st_icmp_eq h0 dL_law_704 (tgt := 1176) (by decide) (pc' := 707) rfl (fun _ => ?_) (fun c_ => absurd rfl c_)
  exact next _ _ _ (Nat.le_succ _) (by omega) hPn
set_option maxHeartbeats 4000000 in
set_option maxRecDepth 100000 in
theorem wc_12 {l : Launch} {G : GG} {b L : Nat} {xs : Nat → Int32} {KF : Nat → Nat → KT} (hR : RlW l G b L xs KF) {qw qm qo : Nat} {P : List va_W → Prop} {i cn sn : Nat} {Ws : List va_W} {l4 : Int32} (hi : l4 = nI i) (hle : i + 7 ≤ L) (hL : L ≤ 3584) (hc : cn + 1 ≤ 601024) (hs : sn + 6 ≤ 7293034) (hrc : Rc G qw qm qo Ws) (hop : OP12 l G qw qm qo P Ws)
    (next : ∀ (cn' sn' : Nat) (Wn : List va_W), cn' ≤ cn + 1 → sn' ≤ sn + 6 → P Wn → KF cn' sn' Wn [(0, .ref b), (1, .ref qw), (2, .ref qm), (3, .ref qo), (4, .int l4)] 1176 []) : KF cn sn Ws [(0, .ref b), (1, .ref qw), (2, .ref qm), (3, .ref qo), (4, .int l4)] 709 [] := by
  have hc0 : cn ≤ 601024 := by omega
  have hs0 : sn ≤ 7293034 := by omega
  have h0 := hR.rl hc0 hs0
  refine st_aload_n h0 dL_law_709 1 rfl rfl (pc' := 710) rfl ?_
  refine st_aload_n h0 dL_law_710 0 rfl rfl (pc' := 711) rfl ?_
  refine st_iload h0 dL_law_711 4 rfl (pc' := 713) rfl ?_
  refine st_iconst h0 dL_law_713 (v := 1) rfl (pc' := 714) rfl ?_
  refine st_iadd h0 dL_law_714 (pc' := 715) rfl ?_
  refine st_sld hR dL_law_715 (rd_in hi (k := 1) rfl (by omega) hL) rfl (pc' := 716) rfl ?_
  refine st_aload_n h0 dL_law_716 0 rfl rfl (pc' := 717) rfl ?_
  refine st_iload h0 dL_law_717 4 rfl (pc' := 719) rfl ?_
  refine st_iconst h0 dL_law_719 (v := 2) rfl (pc' := 720) rfl ?_
  refine st_iadd h0 dL_law_720 (pc' := 721) rfl ?_
  refine st_sld hR dL_law_721 (rd_in hi (k := 2) rfl (by omega) hL) rfl (pc' := 722) rfl ?_
  refine st_aload_n h0 dL_law_722 0 rfl rfl (pc' := 723) rfl ?_
  refine st_iload h0 dL_law_723 4 rfl (pc' := 725) rfl ?_
  refine st_iconst h0 dL_law_725 (v := 3) rfl (pc' := 726) rfl ?_
  refine st_iadd h0 dL_law_726 (pc' := 727) rfl ?_
  refine st_sld hR dL_law_727 (rd_in hi (k := 3) rfl (by omega) hL) rfl (pc' := 728) rfl ?_
  obtain ⟨o_, Wc, Wn, hca, hrc1, hcb, hPn⟩ := hop (xs (l4 + 1).toNatClampNeg) (xs (l4 + 2).toNatClampNeg) (xs (l4 + 3).toNatClampNeg) 
  obtain ⟨w_, fs_, hw1, hw2⟩ := hrc.1
  refine st_ca hR hc0 hs0 hca cf_L_83 (by decide) 0 hw1 hw2 rfl (av := [.int (xs (l4 + 1).toNatClampNeg), .int (xs (l4 + 2).toNatClampNeg), .int (xs (l4 + 3).toNatClampNeg)]) rfl (rest := []) rfl (Nat.le_of_ble_eq_true rfl) dL_law_728 (pc' := 731) rfl ?_
  refine st_aload_n h0 dL_law_731 2 rfl rfl (pc' := 732) rfl ?_
  refine st_aload_n h0 dL_law_732 0 rfl rfl (pc' := 733) rfl ?_
  refine st_iload h0 dL_law_733 4 rfl (pc' := 735) rfl ?_
  refine st_iconst h0 dL_law_735 (v := 1) rfl (pc' := 736) rfl ?_
  refine st_iadd h0 dL_law_736 (pc' := 737) rfl ?_
  refine st_sld hR dL_law_737 (rd_in hi (k := 1) rfl (by omega) hL) rfl (pc' := 738) rfl ?_
  refine st_aload_n h0 dL_law_738 0 rfl rfl (pc' := 739) rfl ?_
  refine st_iload h0 dL_law_739 4 rfl (pc' := 741) rfl ?_
  refine st_iconst h0 dL_law_741 (v := 2) rfl (pc' := 742) rfl ?_
  refine st_iadd h0 dL_law_742 (pc' := 743) rfl ?_
  refine st_sld hR dL_law_743 (rd_in hi (k := 2) rfl (by omega) hL) rfl (pc' := 744) rfl ?_
  refine st_aload_n h0 dL_law_744 0 rfl rfl (pc' := 745) rfl ?_
  refine st_iload h0 dL_law_745 4 rfl (pc' := 747) rfl ?_
  refine st_iconst h0 dL_law_747 (v := 3) rfl (pc' := 748) rfl ?_
  refine st_iadd h0 dL_law_748 (pc' := 749) rfl ?_
  refine st_sld hR dL_law_749 (rd_in hi (k := 3) rfl (by omega) hL) rfl (pc' := 750) rfl ?_
  obtain ⟨w2_, fs2_, hv1, hv2⟩ := hrc1.2.1
  refine st_ca hR hc0 hs0 hcb cf_L_87 (by decide) 1 hv1 hv2 rfl (av := [.int (xs (l4 + 1).toNatClampNeg), .int (xs (l4 + 2).toNatClampNeg), .int (xs (l4 + 3).toNatClampNeg)]) rfl (rest := [.int o_]) rfl (Nat.le_of_ble_eq_true rfl) dL_law_750 (pc' := 753) rfl ?_
  refine st_icmp_eq h0 dL_law_753 (tgt := 1176) (by decide) (pc' := 756) rfl (fun _ => ?_) (fun c_ => absurd rfl c_)
  exact next _ _ _ (Nat.le_succ _) (by omega) hPn
set_option maxHeartbeats 4000000 in
set_option maxRecDepth 100000 in
theorem wc_13 {l : Launch} {G : GG} {b L : Nat} {xs : Nat → Int32} {KF : Nat → Nat → KT} (hR : RlW l G b L xs KF) {qw qm qo : Nat} {P : List va_W → Prop} {i cn sn : Nat} {Ws : List va_W} {l4 : Int32} (hi : l4 = nI i) (hle : i + 7 ≤ L) (hL : L ≤ 3584) (hc : cn + 1 ≤ 601024) (hs : sn + 6 ≤ 7293034) (hrc : Rc G qw qm qo Ws) (hop : OP13 l G qw qm qo P Ws)
    (next : ∀ (cn' sn' : Nat) (Wn : List va_W), cn' ≤ cn + 1 → sn' ≤ sn + 6 → P Wn → KF cn' sn' Wn [(0, .ref b), (1, .ref qw), (2, .ref qm), (3, .ref qo), (4, .int l4)] 1176 []) : KF cn sn Ws [(0, .ref b), (1, .ref qw), (2, .ref qm), (3, .ref qo), (4, .int l4)] 758 [] := by
  have hc0 : cn ≤ 601024 := by omega
  have hs0 : sn ≤ 7293034 := by omega
  have h0 := hR.rl hc0 hs0
  refine st_aload_n h0 dL_law_758 1 rfl rfl (pc' := 759) rfl ?_
  refine st_aload_n h0 dL_law_759 0 rfl rfl (pc' := 760) rfl ?_
  refine st_iload h0 dL_law_760 4 rfl (pc' := 762) rfl ?_
  refine st_iconst h0 dL_law_762 (v := 1) rfl (pc' := 763) rfl ?_
  refine st_iadd h0 dL_law_763 (pc' := 764) rfl ?_
  refine st_sld hR dL_law_764 (rd_in hi (k := 1) rfl (by omega) hL) rfl (pc' := 765) rfl ?_
  obtain ⟨o_, Wc, Wn, hca, hrc1, hcb, hPn⟩ := hop (xs (l4 + 1).toNatClampNeg) 
  obtain ⟨w_, fs_, hw1, hw2⟩ := hrc.1
  refine st_ca hR hc0 hs0 hca cf_L_88 (by decide) 0 hw1 hw2 rfl (av := [.int (xs (l4 + 1).toNatClampNeg)]) rfl (rest := []) rfl (Nat.le_of_ble_eq_true rfl) dL_law_765 (pc' := 768) rfl ?_
  refine st_aload_n h0 dL_law_768 2 rfl rfl (pc' := 769) rfl ?_
  refine st_aload_n h0 dL_law_769 0 rfl rfl (pc' := 770) rfl ?_
  refine st_iload h0 dL_law_770 4 rfl (pc' := 772) rfl ?_
  refine st_iconst h0 dL_law_772 (v := 1) rfl (pc' := 773) rfl ?_
  refine st_iadd h0 dL_law_773 (pc' := 774) rfl ?_
  refine st_sld hR dL_law_774 (rd_in hi (k := 1) rfl (by omega) hL) rfl (pc' := 775) rfl ?_
  obtain ⟨w2_, fs2_, hv1, hv2⟩ := hrc1.2.1
  refine st_ca hR hc0 hs0 hcb cf_L_91 (by decide) 1 hv1 hv2 rfl (av := [.int (xs (l4 + 1).toNatClampNeg)]) rfl (rest := [.int o_]) rfl (Nat.le_of_ble_eq_true rfl) dL_law_775 (pc' := 778) rfl ?_
  refine st_icmp_eq h0 dL_law_778 (tgt := 1176) (by decide) (pc' := 781) rfl (fun _ => ?_) (fun c_ => absurd rfl c_)
  exact next _ _ _ (Nat.le_succ _) (by omega) hPn
set_option maxHeartbeats 4000000 in
set_option maxRecDepth 100000 in
theorem wc_14 {l : Launch} {G : GG} {b L : Nat} {xs : Nat → Int32} {KF : Nat → Nat → KT} (hR : RlW l G b L xs KF) {qw qm qo : Nat} {P : List va_W → Prop} {i cn sn : Nat} {Ws : List va_W} {l4 : Int32} (hi : l4 = nI i) (hle : i + 7 ≤ L) (hL : L ≤ 3584) (hc : cn + 1 ≤ 601024) (hs : sn + 6 ≤ 7293034) (hrc : Rc G qw qm qo Ws) (hop : OP14 l G qw qm qo P Ws)
    (next : ∀ (cn' sn' : Nat) (Wn : List va_W), cn' ≤ cn + 1 → sn' ≤ sn + 6 → P Wn → KF cn' sn' Wn [(0, .ref b), (1, .ref qw), (2, .ref qm), (3, .ref qo), (4, .int l4)] 1176 []) : KF cn sn Ws [(0, .ref b), (1, .ref qw), (2, .ref qm), (3, .ref qo), (4, .int l4)] 783 [] := by
  have hc0 : cn ≤ 601024 := by omega
  have hs0 : sn ≤ 7293034 := by omega
  have h0 := hR.rl hc0 hs0
  refine st_aload_n h0 dL_law_783 1 rfl rfl (pc' := 784) rfl ?_
  refine st_aload_n h0 dL_law_784 0 rfl rfl (pc' := 785) rfl ?_
  refine st_iload h0 dL_law_785 4 rfl (pc' := 787) rfl ?_
  refine st_iconst h0 dL_law_787 (v := 1) rfl (pc' := 788) rfl ?_
  refine st_iadd h0 dL_law_788 (pc' := 789) rfl ?_
  refine st_sld hR dL_law_789 (rd_in hi (k := 1) rfl (by omega) hL) rfl (pc' := 790) rfl ?_
  refine st_aload_n h0 dL_law_790 0 rfl rfl (pc' := 791) rfl ?_
  refine st_iload h0 dL_law_791 4 rfl (pc' := 793) rfl ?_
  refine st_iconst h0 dL_law_793 (v := 2) rfl (pc' := 794) rfl ?_
  refine st_iadd h0 dL_law_794 (pc' := 795) rfl ?_
  refine st_sld hR dL_law_795 (rd_in hi (k := 2) rfl (by omega) hL) rfl (pc' := 796) rfl ?_
  obtain ⟨o_, Wc, Wn, hca, hrc1, hcb, hPn⟩ := hop (xs (l4 + 1).toNatClampNeg) (xs (l4 + 2).toNatClampNeg) 
  obtain ⟨w_, fs_, hw1, hw2⟩ := hrc.1
  refine st_ca hR hc0 hs0 hca cf_L_92 (by decide) 0 hw1 hw2 rfl (av := [.int (xs (l4 + 1).toNatClampNeg), .int (xs (l4 + 2).toNatClampNeg)]) rfl (rest := []) rfl (Nat.le_of_ble_eq_true rfl) dL_law_796 (pc' := 799) rfl ?_
  refine st_aload_n h0 dL_law_799 2 rfl rfl (pc' := 800) rfl ?_
  refine st_aload_n h0 dL_law_800 0 rfl rfl (pc' := 801) rfl ?_
  refine st_iload h0 dL_law_801 4 rfl (pc' := 803) rfl ?_
  refine st_iconst h0 dL_law_803 (v := 1) rfl (pc' := 804) rfl ?_
  refine st_iadd h0 dL_law_804 (pc' := 805) rfl ?_
  refine st_sld hR dL_law_805 (rd_in hi (k := 1) rfl (by omega) hL) rfl (pc' := 806) rfl ?_
  refine st_aload_n h0 dL_law_806 0 rfl rfl (pc' := 807) rfl ?_
  refine st_iload h0 dL_law_807 4 rfl (pc' := 809) rfl ?_
  refine st_iconst h0 dL_law_809 (v := 2) rfl (pc' := 810) rfl ?_
  refine st_iadd h0 dL_law_810 (pc' := 811) rfl ?_
  refine st_sld hR dL_law_811 (rd_in hi (k := 2) rfl (by omega) hL) rfl (pc' := 812) rfl ?_
  obtain ⟨w2_, fs2_, hv1, hv2⟩ := hrc1.2.1
  refine st_ca hR hc0 hs0 hcb cf_L_95 (by decide) 1 hv1 hv2 rfl (av := [.int (xs (l4 + 1).toNatClampNeg), .int (xs (l4 + 2).toNatClampNeg)]) rfl (rest := [.int o_]) rfl (Nat.le_of_ble_eq_true rfl) dL_law_812 (pc' := 815) rfl ?_
  refine st_icmp_eq h0 dL_law_815 (tgt := 1176) (by decide) (pc' := 818) rfl (fun _ => ?_) (fun c_ => absurd rfl c_)
  exact next _ _ _ (Nat.le_succ _) (by omega) hPn
set_option maxHeartbeats 4000000 in
set_option maxRecDepth 100000 in
theorem wc_15 {l : Launch} {G : GG} {b L : Nat} {xs : Nat → Int32} {KF : Nat → Nat → KT} (hR : RlW l G b L xs KF) {qw qm qo : Nat} {P : List va_W → Prop} {i cn sn : Nat} {Ws : List va_W} {l4 : Int32} (hi : l4 = nI i) (hle : i + 7 ≤ L) (hL : L ≤ 3584) (hc : cn + 1 ≤ 601024) (hs : sn + 6 ≤ 7293034) (hrc : Rc G qw qm qo Ws) (hop : OP15 l G qw qm qo P Ws)
    (next : ∀ (cn' sn' : Nat) (Wn : List va_W), cn' ≤ cn + 1 → sn' ≤ sn + 6 → P Wn → KF cn' sn' Wn [(0, .ref b), (1, .ref qw), (2, .ref qm), (3, .ref qo), (4, .int l4)] 1176 []) : KF cn sn Ws [(0, .ref b), (1, .ref qw), (2, .ref qm), (3, .ref qo), (4, .int l4)] 820 [] := by
  have hc0 : cn ≤ 601024 := by omega
  have hs0 : sn ≤ 7293034 := by omega
  have h0 := hR.rl hc0 hs0
  refine st_aload_n h0 dL_law_820 1 rfl rfl (pc' := 821) rfl ?_
  refine st_aload_n h0 dL_law_821 0 rfl rfl (pc' := 822) rfl ?_
  refine st_iload h0 dL_law_822 4 rfl (pc' := 824) rfl ?_
  refine st_iconst h0 dL_law_824 (v := 1) rfl (pc' := 825) rfl ?_
  refine st_iadd h0 dL_law_825 (pc' := 826) rfl ?_
  refine st_sld hR dL_law_826 (rd_in hi (k := 1) rfl (by omega) hL) rfl (pc' := 827) rfl ?_
  refine st_aload_n h0 dL_law_827 0 rfl rfl (pc' := 828) rfl ?_
  refine st_iload h0 dL_law_828 4 rfl (pc' := 830) rfl ?_
  refine st_iconst h0 dL_law_830 (v := 2) rfl (pc' := 831) rfl ?_
  refine st_iadd h0 dL_law_831 (pc' := 832) rfl ?_
  refine st_sld hR dL_law_832 (rd_in hi (k := 2) rfl (by omega) hL) rfl (pc' := 833) rfl ?_
  refine st_aload_n h0 dL_law_833 0 rfl rfl (pc' := 834) rfl ?_
  refine st_iload h0 dL_law_834 4 rfl (pc' := 836) rfl ?_
  refine st_iconst h0 dL_law_836 (v := 3) rfl (pc' := 837) rfl ?_
  refine st_iadd h0 dL_law_837 (pc' := 838) rfl ?_
  refine st_sld hR dL_law_838 (rd_in hi (k := 3) rfl (by omega) hL) rfl (pc' := 839) rfl ?_
  obtain ⟨o_, Wc, Wn, hca, hrc1, hcb, hPn⟩ := hop (xs (l4 + 1).toNatClampNeg) (xs (l4 + 2).toNatClampNeg) (xs (l4 + 3).toNatClampNeg) 
  obtain ⟨w_, fs_, hw1, hw2⟩ := hrc.1
  refine st_ca hR hc0 hs0 hca cf_L_96 (by decide) 0 hw1 hw2 rfl (av := [.int (xs (l4 + 1).toNatClampNeg), .int (xs (l4 + 2).toNatClampNeg), .int (xs (l4 + 3).toNatClampNeg)]) rfl (rest := []) rfl (Nat.le_of_ble_eq_true rfl) dL_law_839 (pc' := 842) rfl ?_
  refine st_aload_n h0 dL_law_842 2 rfl rfl (pc' := 843) rfl ?_
  refine st_aload_n h0 dL_law_843 0 rfl rfl (pc' := 844) rfl ?_
  refine st_iload h0 dL_law_844 4 rfl (pc' := 846) rfl ?_
  refine st_iconst h0 dL_law_846 (v := 1) rfl (pc' := 847) rfl ?_
  refine st_iadd h0 dL_law_847 (pc' := 848) rfl ?_
  refine st_sld hR dL_law_848 (rd_in hi (k := 1) rfl (by omega) hL) rfl (pc' := 849) rfl ?_
  refine st_aload_n h0 dL_law_849 0 rfl rfl (pc' := 850) rfl ?_
  refine st_iload h0 dL_law_850 4 rfl (pc' := 852) rfl ?_
  refine st_iconst h0 dL_law_852 (v := 2) rfl (pc' := 853) rfl ?_
  refine st_iadd h0 dL_law_853 (pc' := 854) rfl ?_
  refine st_sld hR dL_law_854 (rd_in hi (k := 2) rfl (by omega) hL) rfl (pc' := 855) rfl ?_
  refine st_aload_n h0 dL_law_855 0 rfl rfl (pc' := 856) rfl ?_
  refine st_iload h0 dL_law_856 4 rfl (pc' := 858) rfl ?_
  refine st_iconst h0 dL_law_858 (v := 3) rfl (pc' := 859) rfl ?_
  refine st_iadd h0 dL_law_859 (pc' := 860) rfl ?_
  refine st_sld hR dL_law_860 (rd_in hi (k := 3) rfl (by omega) hL) rfl (pc' := 861) rfl ?_
  obtain ⟨w2_, fs2_, hv1, hv2⟩ := hrc1.2.1
  refine st_ca hR hc0 hs0 hcb cf_L_99 (by decide) 1 hv1 hv2 rfl (av := [.int (xs (l4 + 1).toNatClampNeg), .int (xs (l4 + 2).toNatClampNeg), .int (xs (l4 + 3).toNatClampNeg)]) rfl (rest := [.int o_]) rfl (Nat.le_of_ble_eq_true rfl) dL_law_861 (pc' := 864) rfl ?_
  refine st_icmp_eq h0 dL_law_864 (tgt := 1176) (by decide) (pc' := 867) rfl (fun _ => ?_) (fun c_ => absurd rfl c_)
  exact next _ _ _ (Nat.le_succ _) (by omega) hPn
set_option maxHeartbeats 4000000 in
set_option maxRecDepth 100000 in
theorem wc_16 {l : Launch} {G : GG} {b L : Nat} {xs : Nat → Int32} {KF : Nat → Nat → KT} (hR : RlW l G b L xs KF) {qw qm qo : Nat} {P : List va_W → Prop} {i cn sn : Nat} {Ws : List va_W} {l4 : Int32} (hi : l4 = nI i) (hle : i + 7 ≤ L) (hL : L ≤ 3584) (hc : cn + 1 ≤ 601024) (hs : sn + 6 ≤ 7293034) (hrc : Rc G qw qm qo Ws) (hop : OP16 l G qw qm qo P Ws)
    (next : ∀ (cn' sn' : Nat) (Wn : List va_W), cn' ≤ cn + 1 → sn' ≤ sn + 6 → P Wn → KF cn' sn' Wn [(0, .ref b), (1, .ref qw), (2, .ref qm), (3, .ref qo), (4, .int l4)] 1176 []) : KF cn sn Ws [(0, .ref b), (1, .ref qw), (2, .ref qm), (3, .ref qo), (4, .int l4)] 869 [] := by
  have hc0 : cn ≤ 601024 := by omega
  have hs0 : sn ≤ 7293034 := by omega
  have h0 := hR.rl hc0 hs0
  refine st_aload_n h0 dL_law_869 1 rfl rfl (pc' := 870) rfl ?_
  refine st_aload_n h0 dL_law_870 0 rfl rfl (pc' := 871) rfl ?_
  refine st_iload h0 dL_law_871 4 rfl (pc' := 873) rfl ?_
  refine st_iconst h0 dL_law_873 (v := 1) rfl (pc' := 874) rfl ?_
  refine st_iadd h0 dL_law_874 (pc' := 875) rfl ?_
  refine st_sld hR dL_law_875 (rd_in hi (k := 1) rfl (by omega) hL) rfl (pc' := 876) rfl ?_
  obtain ⟨o_, Wc, Wn, hca, hrc1, hcb, hPn⟩ := hop (xs (l4 + 1).toNatClampNeg) 
  obtain ⟨w_, fs_, hw1, hw2⟩ := hrc.1
  refine st_ca hR hc0 hs0 hca cf_L_100 (by decide) 0 hw1 hw2 rfl (av := [.int (xs (l4 + 1).toNatClampNeg)]) rfl (rest := []) rfl (Nat.le_of_ble_eq_true rfl) dL_law_876 (pc' := 879) rfl ?_
  refine st_aload_n h0 dL_law_879 2 rfl rfl (pc' := 880) rfl ?_
  refine st_aload_n h0 dL_law_880 0 rfl rfl (pc' := 881) rfl ?_
  refine st_iload h0 dL_law_881 4 rfl (pc' := 883) rfl ?_
  refine st_iconst h0 dL_law_883 (v := 1) rfl (pc' := 884) rfl ?_
  refine st_iadd h0 dL_law_884 (pc' := 885) rfl ?_
  refine st_sld hR dL_law_885 (rd_in hi (k := 1) rfl (by omega) hL) rfl (pc' := 886) rfl ?_
  obtain ⟨w2_, fs2_, hv1, hv2⟩ := hrc1.2.1
  refine st_ca hR hc0 hs0 hcb cf_L_103 (by decide) 1 hv1 hv2 rfl (av := [.int (xs (l4 + 1).toNatClampNeg)]) rfl (rest := [.int o_]) rfl (Nat.le_of_ble_eq_true rfl) dL_law_886 (pc' := 889) rfl ?_
  refine st_icmp_eq h0 dL_law_889 (tgt := 1176) (by decide) (pc' := 892) rfl (fun _ => ?_) (fun c_ => absurd rfl c_)
  exact next _ _ _ (Nat.le_succ _) (by omega) hPn
set_option maxHeartbeats 4000000 in
set_option maxRecDepth 100000 in
theorem wc_17 {l : Launch} {G : GG} {b L : Nat} {xs : Nat → Int32} {KF : Nat → Nat → KT} (hR : RlW l G b L xs KF) {qw qm qo : Nat} {P : List va_W → Prop} {i cn sn : Nat} {Ws : List va_W} {l4 : Int32} (hi : l4 = nI i) (hle : i + 7 ≤ L) (hL : L ≤ 3584) (hc : cn + 1 ≤ 601024) (hs : sn + 6 ≤ 7293034) (hrc : Rc G qw qm qo Ws) (hop : OP17 l G qw qm qo P Ws)
    (next : ∀ (cn' sn' : Nat) (Wn : List va_W), cn' ≤ cn + 1 → sn' ≤ sn + 6 → P Wn → KF cn' sn' Wn [(0, .ref b), (1, .ref qw), (2, .ref qm), (3, .ref qo), (4, .int l4)] 1176 []) : KF cn sn Ws [(0, .ref b), (1, .ref qw), (2, .ref qm), (3, .ref qo), (4, .int l4)] 894 [] := by
  have hc0 : cn ≤ 601024 := by omega
  have hs0 : sn ≤ 7293034 := by omega
  have h0 := hR.rl hc0 hs0
  refine st_aload_n h0 dL_law_894 1 rfl rfl (pc' := 895) rfl ?_
  refine st_aload_n h0 dL_law_895 0 rfl rfl (pc' := 896) rfl ?_
  refine st_iload h0 dL_law_896 4 rfl (pc' := 898) rfl ?_
  refine st_iconst h0 dL_law_898 (v := 1) rfl (pc' := 899) rfl ?_
  refine st_iadd h0 dL_law_899 (pc' := 900) rfl ?_
  refine st_sld hR dL_law_900 (rd_in hi (k := 1) rfl (by omega) hL) rfl (pc' := 901) rfl ?_
  refine st_aload_n h0 dL_law_901 0 rfl rfl (pc' := 902) rfl ?_
  refine st_iload h0 dL_law_902 4 rfl (pc' := 904) rfl ?_
  refine st_iconst h0 dL_law_904 (v := 2) rfl (pc' := 905) rfl ?_
  refine st_iadd h0 dL_law_905 (pc' := 906) rfl ?_
  refine st_sld hR dL_law_906 (rd_in hi (k := 2) rfl (by omega) hL) rfl (pc' := 907) rfl ?_
  refine st_aload_n h0 dL_law_907 0 rfl rfl (pc' := 908) rfl ?_
  refine st_iload h0 dL_law_908 4 rfl (pc' := 910) rfl ?_
  refine st_iconst h0 dL_law_910 (v := 3) rfl (pc' := 911) rfl ?_
  refine st_iadd h0 dL_law_911 (pc' := 912) rfl ?_
  refine st_sld hR dL_law_912 (rd_in hi (k := 3) rfl (by omega) hL) rfl (pc' := 913) rfl ?_
  obtain ⟨o_, Wc, Wn, hca, hrc1, hcb, hPn⟩ := hop (xs (l4 + 1).toNatClampNeg) (xs (l4 + 2).toNatClampNeg) (xs (l4 + 3).toNatClampNeg) 
  obtain ⟨w_, fs_, hw1, hw2⟩ := hrc.1
  refine st_ca hR hc0 hs0 hca cf_L_104 (by decide) 0 hw1 hw2 rfl (av := [.int (xs (l4 + 1).toNatClampNeg), .int (xs (l4 + 2).toNatClampNeg), .int (xs (l4 + 3).toNatClampNeg)]) rfl (rest := []) rfl (Nat.le_of_ble_eq_true rfl) dL_law_913 (pc' := 916) rfl ?_
  refine st_aload_n h0 dL_law_916 2 rfl rfl (pc' := 917) rfl ?_
  refine st_aload_n h0 dL_law_917 0 rfl rfl (pc' := 918) rfl ?_
  refine st_iload h0 dL_law_918 4 rfl (pc' := 920) rfl ?_
  refine st_iconst h0 dL_law_920 (v := 1) rfl (pc' := 921) rfl ?_
  refine st_iadd h0 dL_law_921 (pc' := 922) rfl ?_
  refine st_sld hR dL_law_922 (rd_in hi (k := 1) rfl (by omega) hL) rfl (pc' := 923) rfl ?_
  refine st_aload_n h0 dL_law_923 0 rfl rfl (pc' := 924) rfl ?_
  refine st_iload h0 dL_law_924 4 rfl (pc' := 926) rfl ?_
  refine st_iconst h0 dL_law_926 (v := 2) rfl (pc' := 927) rfl ?_
  refine st_iadd h0 dL_law_927 (pc' := 928) rfl ?_
  refine st_sld hR dL_law_928 (rd_in hi (k := 2) rfl (by omega) hL) rfl (pc' := 929) rfl ?_
  refine st_aload_n h0 dL_law_929 0 rfl rfl (pc' := 930) rfl ?_
  refine st_iload h0 dL_law_930 4 rfl (pc' := 932) rfl ?_
  refine st_iconst h0 dL_law_932 (v := 3) rfl (pc' := 933) rfl ?_
  refine st_iadd h0 dL_law_933 (pc' := 934) rfl ?_
  refine st_sld hR dL_law_934 (rd_in hi (k := 3) rfl (by omega) hL) rfl (pc' := 935) rfl ?_
  obtain ⟨w2_, fs2_, hv1, hv2⟩ := hrc1.2.1
  refine st_ca hR hc0 hs0 hcb cf_L_107 (by decide) 1 hv1 hv2 rfl (av := [.int (xs (l4 + 1).toNatClampNeg), .int (xs (l4 + 2).toNatClampNeg), .int (xs (l4 + 3).toNatClampNeg)]) rfl (rest := [.int o_]) rfl (Nat.le_of_ble_eq_true rfl) dL_law_935 (pc' := 938) rfl ?_
  refine st_icmp_eq h0 dL_law_938 (tgt := 1176) (by decide) (pc' := 941) rfl (fun _ => ?_) (fun c_ => absurd rfl c_)
  exact next _ _ _ (Nat.le_succ _) (by omega) hPn
set_option maxHeartbeats 4000000 in
set_option maxRecDepth 100000 in
theorem wc_18 {l : Launch} {G : GG} {b L : Nat} {xs : Nat → Int32} {KF : Nat → Nat → KT} (hR : RlW l G b L xs KF) {qw qm qo : Nat} {P : List va_W → Prop} {i cn sn : Nat} {Ws : List va_W} {l4 : Int32} (hi : l4 = nI i) (hle : i + 7 ≤ L) (hL : L ≤ 3584) (hc : cn + 1 ≤ 601024) (hs : sn + 6 ≤ 7293034) (hrc : Rc G qw qm qo Ws) (hop : OP18 l G qw qm qo P Ws)
    (next : ∀ (cn' sn' : Nat) (Wn : List va_W), cn' ≤ cn + 1 → sn' ≤ sn + 6 → P Wn → KF cn' sn' Wn [(0, .ref b), (1, .ref qw), (2, .ref qm), (3, .ref qo), (4, .int l4)] 1176 []) : KF cn sn Ws [(0, .ref b), (1, .ref qw), (2, .ref qm), (3, .ref qo), (4, .int l4)] 943 [] := by
  have hc0 : cn ≤ 601024 := by omega
  have hs0 : sn ≤ 7293034 := by omega
  have h0 := hR.rl hc0 hs0
  refine st_aload_n h0 dL_law_943 1 rfl rfl (pc' := 944) rfl ?_
  refine st_aload_n h0 dL_law_944 0 rfl rfl (pc' := 945) rfl ?_
  refine st_iload h0 dL_law_945 4 rfl (pc' := 947) rfl ?_
  refine st_iconst h0 dL_law_947 (v := 1) rfl (pc' := 948) rfl ?_
  refine st_iadd h0 dL_law_948 (pc' := 949) rfl ?_
  refine st_sld hR dL_law_949 (rd_in hi (k := 1) rfl (by omega) hL) rfl (pc' := 950) rfl ?_
  refine st_aload_n h0 dL_law_950 0 rfl rfl (pc' := 951) rfl ?_
  refine st_iload h0 dL_law_951 4 rfl (pc' := 953) rfl ?_
  refine st_iconst h0 dL_law_953 (v := 2) rfl (pc' := 954) rfl ?_
  refine st_iadd h0 dL_law_954 (pc' := 955) rfl ?_
  refine st_sld hR dL_law_955 (rd_in hi (k := 2) rfl (by omega) hL) rfl (pc' := 956) rfl ?_
  refine st_aload_n h0 dL_law_956 3 rfl rfl (pc' := 957) rfl ?_
  obtain ⟨k_, o_, f_, Wc, Wn, Wo, hca, hrc1, hcb, hrc2, hcd, hPn, hout, hfo⟩ := hop (xs (l4 + 1).toNatClampNeg) (xs (l4 + 2).toNatClampNeg)
  refine st_caw hR hc hs hca cw_L_108 (by decide) (av := [.ref qw, .int (xs (l4 + 1).toNatClampNeg), .int (xs (l4 + 2).toNatClampNeg), .ref qo]) rfl (rest := []) rfl (Nat.le_of_ble_eq_true rfl) dL_law_957 (pc' := 960) rfl ?_
  have h1 := hR.rl hc hs
  refine st_istore h1 dL_law_960 (Nat.le_of_ble_eq_true rfl) [1, 2, 3, 4, 5, 0] (lv' := [(0, .ref b), (1, .ref qw), (2, .ref qm), (3, .ref qo), (4, .int l4), (5, .int k_)]) rfl (pc' := 962) rfl ?_
  refine st_aload_n h1 dL_law_962 2 rfl rfl (pc' := 963) rfl ?_
  refine st_aload_n h1 dL_law_963 0 rfl rfl (pc' := 964) rfl ?_
  refine st_iload h1 dL_law_964 4 rfl (pc' := 966) rfl ?_
  refine st_iconst h1 dL_law_966 (v := 1) rfl (pc' := 967) rfl ?_
  refine st_iadd h1 dL_law_967 (pc' := 968) rfl ?_
  refine st_sld hR dL_law_968 (rd_in hi (k := 1) rfl (by omega) hL) rfl (pc' := 969) rfl ?_
  refine st_aload_n h1 dL_law_969 0 rfl rfl (pc' := 970) rfl ?_
  refine st_iload h1 dL_law_970 4 rfl (pc' := 972) rfl ?_
  refine st_iconst h1 dL_law_972 (v := 2) rfl (pc' := 973) rfl ?_
  refine st_iadd h1 dL_law_973 (pc' := 974) rfl ?_
  refine st_sld hR dL_law_974 (rd_in hi (k := 2) rfl (by omega) hL) rfl (pc' := 975) rfl ?_
  obtain ⟨w2_, fs2_, hv1, hv2⟩ := hrc1.2.1
  refine st_ca hR hc hs hcb cf_L_110 (by decide) 1 hv1 hv2 rfl (av := [.int (xs (l4 + 1).toNatClampNeg), .int (xs (l4 + 2).toNatClampNeg)]) rfl (rest := []) rfl (Nat.le_of_ble_eq_true rfl) dL_law_975 (pc' := 978) rfl ?_
  refine st_istore h1 dL_law_978 (Nat.le_of_ble_eq_true rfl) [1, 2, 3, 4, 5, 6, 0] (lv' := [(0, .ref b), (1, .ref qw), (2, .ref qm), (3, .ref qo), (4, .int l4), (5, .int k_), (6, .int o_)]) rfl (pc' := 980) rfl ?_
  refine st_aload_n h1 dL_law_980 2 rfl rfl (pc' := 981) rfl ?_
  obtain ⟨w2_, fs2_, hv1, hv2⟩ := hrc2.2.1
  refine st_ca hR hc hs hcd cf_L_67 (by decide) 1 hv1 hv2 rfl (av := []) rfl (rest := []) rfl (Nat.le_of_ble_eq_true rfl) dL_law_981 (pc' := 984) rfl ?_
  refine st_iload h1 dL_law_984 5 rfl (pc' := 986) rfl ?_
  refine st_icmp_eq h1 dL_law_986 (tgt := 991) (by decide) (pc' := 989) rfl (fun _ => ?_) (fun c_ => absurd rfl c_)
  refine st_iload h1 dL_law_991 5 rfl (pc' := 993) rfl ?_
  refine st_if_ne h1 dL_law_993 (tgt := 1008) (by decide) (pc' := 996) rfl (fun hb_ => ?_) (fun hb_ => ?_)
  · refine st_goto h1 dL_law_1008 (tgt := 1176) (by decide) ?_
    refine st_lv h1 [0, 1, 2, 3, 4] rfl ?_
    exact next _ _ _ (Nat.le_refl _) (Nat.le_refl _) hPn
  · refine st_aload_n h1 dL_law_996 3 rfl rfl (pc' := 997) rfl ?_
    refine st_iconst h1 dL_law_997 (v := 0) rfl (pc' := 998) rfl ?_
    refine st_lald h1 dL_law_998 2 0 hout rfl (vp_lit 0 rfl rfl rfl) (v := f_ 0) rfl (pc' := 999) rfl ?_
    refine st_iload h1 dL_law_999 6 rfl (pc' := 1001) rfl ?_
    refine st_i2l h1 dL_law_1001 (pc' := 1002) rfl ?_
    refine st_lcmp h1 dL_law_1002 (pc' := 1003) rfl ?_
    refine st_if_eq h1 dL_law_1003 (tgt := 1008) (by decide) (pc' := 1006) rfl (fun _ => ?_) (fun c_ => absurd (by rw [hfo hb_]; exact lgc_0 _) c_)
    refine st_goto h1 dL_law_1008 (tgt := 1176) (by decide) ?_
    refine st_lv h1 [0, 1, 2, 3, 4] rfl ?_
    exact next _ _ _ (Nat.le_refl _) (Nat.le_refl _) hPn
set_option maxHeartbeats 4000000 in
set_option maxRecDepth 100000 in
theorem wc_19 {l : Launch} {G : GG} {b L : Nat} {xs : Nat → Int32} {KF : Nat → Nat → KT} (hR : RlW l G b L xs KF) {qw qm qo : Nat} {P : List va_W → Prop} {i cn sn : Nat} {Ws : List va_W} {l4 : Int32} (hi : l4 = nI i) (hle : i + 7 ≤ L) (hL : L ≤ 3584) (hc : cn + 1 ≤ 601024) (hs : sn + 6 ≤ 7293034) (hrc : Rc G qw qm qo Ws) (hop : OP19 l G qw qm qo P Ws)
    (next : ∀ (cn' sn' : Nat) (Wn : List va_W), cn' ≤ cn + 1 → sn' ≤ sn + 6 → P Wn → KF cn' sn' Wn [(0, .ref b), (1, .ref qw), (2, .ref qm), (3, .ref qo), (4, .int l4)] 1176 []) : KF cn sn Ws [(0, .ref b), (1, .ref qw), (2, .ref qm), (3, .ref qo), (4, .int l4)] 1011 [] := by
  have hc0 : cn ≤ 601024 := by omega
  have hs0 : sn ≤ 7293034 := by omega
  have h0 := hR.rl hc0 hs0
  refine st_aload_n h0 dL_law_1011 1 rfl rfl (pc' := 1012) rfl ?_
  refine st_aload_n h0 dL_law_1012 0 rfl rfl (pc' := 1013) rfl ?_
  refine st_iload h0 dL_law_1013 4 rfl (pc' := 1015) rfl ?_
  refine st_iconst h0 dL_law_1015 (v := 1) rfl (pc' := 1016) rfl ?_
  refine st_iadd h0 dL_law_1016 (pc' := 1017) rfl ?_
  refine st_sld hR dL_law_1017 (rd_in hi (k := 1) rfl (by omega) hL) rfl (pc' := 1018) rfl ?_
  obtain ⟨o_, Wc, Wn, hca, hrc1, hcb, hPn⟩ := hop (xs (l4 + 1).toNatClampNeg) 
  obtain ⟨w_, fs_, hw1, hw2⟩ := hrc.1
  refine st_ca hR hc0 hs0 hca cf_L_111 (by decide) 0 hw1 hw2 rfl (av := [.int (xs (l4 + 1).toNatClampNeg)]) rfl (rest := []) rfl (Nat.le_of_ble_eq_true rfl) dL_law_1018 (pc' := 1021) rfl ?_
  refine st_aload_n h0 dL_law_1021 2 rfl rfl (pc' := 1022) rfl ?_
  refine st_aload_n h0 dL_law_1022 0 rfl rfl (pc' := 1023) rfl ?_
  refine st_iload h0 dL_law_1023 4 rfl (pc' := 1025) rfl ?_
  refine st_iconst h0 dL_law_1025 (v := 1) rfl (pc' := 1026) rfl ?_
  refine st_iadd h0 dL_law_1026 (pc' := 1027) rfl ?_
  refine st_sld hR dL_law_1027 (rd_in hi (k := 1) rfl (by omega) hL) rfl (pc' := 1028) rfl ?_
  obtain ⟨w2_, fs2_, hv1, hv2⟩ := hrc1.2.1
  refine st_ca hR hc0 hs0 hcb cf_L_114 (by decide) 1 hv1 hv2 rfl (av := [.int (xs (l4 + 1).toNatClampNeg)]) rfl (rest := [.int o_]) rfl (Nat.le_of_ble_eq_true rfl) dL_law_1028 (pc' := 1031) rfl ?_
  refine st_icmp_eq h0 dL_law_1031 (tgt := 1176) (by decide) (pc' := 1034) rfl (fun _ => ?_) (fun c_ => absurd rfl c_)
  exact next _ _ _ (Nat.le_succ _) (by omega) hPn
set_option maxHeartbeats 4000000 in
set_option maxRecDepth 100000 in
theorem wc_20 {l : Launch} {G : GG} {b L : Nat} {xs : Nat → Int32} {KF : Nat → Nat → KT} (hR : RlW l G b L xs KF) {qw qm qo : Nat} {P : List va_W → Prop} {i cn sn : Nat} {Ws : List va_W} {l4 : Int32} (hi : l4 = nI i) (hle : i + 7 ≤ L) (hL : L ≤ 3584) (hc : cn + 1 ≤ 601024) (hs : sn + 6 ≤ 7293034) (hrc : Rc G qw qm qo Ws) (hop : OP20 l G qw qm qo P Ws)
    (next : ∀ (cn' sn' : Nat) (Wn : List va_W), cn' ≤ cn + 1 → sn' ≤ sn + 6 → P Wn → KF cn' sn' Wn [(0, .ref b), (1, .ref qw), (2, .ref qm), (3, .ref qo), (4, .int l4)] 1176 []) : KF cn sn Ws [(0, .ref b), (1, .ref qw), (2, .ref qm), (3, .ref qo), (4, .int l4)] 1036 [] := by
  have hc0 : cn ≤ 601024 := by omega
  have hs0 : sn ≤ 7293034 := by omega
  have h0 := hR.rl hc0 hs0
  refine st_aload_n h0 dL_law_1036 1 rfl rfl (pc' := 1037) rfl ?_
  refine st_aload_n h0 dL_law_1037 0 rfl rfl (pc' := 1038) rfl ?_
  refine st_iload h0 dL_law_1038 4 rfl (pc' := 1040) rfl ?_
  refine st_iconst h0 dL_law_1040 (v := 1) rfl (pc' := 1041) rfl ?_
  refine st_iadd h0 dL_law_1041 (pc' := 1042) rfl ?_
  refine st_sld hR dL_law_1042 (rd_in hi (k := 1) rfl (by omega) hL) rfl (pc' := 1043) rfl ?_
  refine st_aload_n h0 dL_law_1043 0 rfl rfl (pc' := 1044) rfl ?_
  refine st_iload h0 dL_law_1044 4 rfl (pc' := 1046) rfl ?_
  refine st_iconst h0 dL_law_1046 (v := 2) rfl (pc' := 1047) rfl ?_
  refine st_iadd h0 dL_law_1047 (pc' := 1048) rfl ?_
  refine st_sld hR dL_law_1048 (rd_in hi (k := 2) rfl (by omega) hL) rfl (pc' := 1049) rfl ?_
  obtain ⟨o_, Wc, Wn, hca, hrc1, hcb, hPn⟩ := hop (xs (l4 + 1).toNatClampNeg) (xs (l4 + 2).toNatClampNeg) 
  obtain ⟨w_, fs_, hw1, hw2⟩ := hrc.1
  refine st_ca hR hc0 hs0 hca cf_L_115 (by decide) 0 hw1 hw2 rfl (av := [.int (xs (l4 + 1).toNatClampNeg), .int (xs (l4 + 2).toNatClampNeg)]) rfl (rest := []) rfl (Nat.le_of_ble_eq_true rfl) dL_law_1049 (pc' := 1052) rfl ?_
  refine st_aload_n h0 dL_law_1052 2 rfl rfl (pc' := 1053) rfl ?_
  refine st_aload_n h0 dL_law_1053 0 rfl rfl (pc' := 1054) rfl ?_
  refine st_iload h0 dL_law_1054 4 rfl (pc' := 1056) rfl ?_
  refine st_iconst h0 dL_law_1056 (v := 1) rfl (pc' := 1057) rfl ?_
  refine st_iadd h0 dL_law_1057 (pc' := 1058) rfl ?_
  refine st_sld hR dL_law_1058 (rd_in hi (k := 1) rfl (by omega) hL) rfl (pc' := 1059) rfl ?_
  refine st_aload_n h0 dL_law_1059 0 rfl rfl (pc' := 1060) rfl ?_
  refine st_iload h0 dL_law_1060 4 rfl (pc' := 1062) rfl ?_
  refine st_iconst h0 dL_law_1062 (v := 2) rfl (pc' := 1063) rfl ?_
  refine st_iadd h0 dL_law_1063 (pc' := 1064) rfl ?_
  refine st_sld hR dL_law_1064 (rd_in hi (k := 2) rfl (by omega) hL) rfl (pc' := 1065) rfl ?_
  obtain ⟨w2_, fs2_, hv1, hv2⟩ := hrc1.2.1
  refine st_ca hR hc0 hs0 hcb cf_L_118 (by decide) 1 hv1 hv2 rfl (av := [.int (xs (l4 + 1).toNatClampNeg), .int (xs (l4 + 2).toNatClampNeg)]) rfl (rest := [.int o_]) rfl (Nat.le_of_ble_eq_true rfl) dL_law_1065 (pc' := 1068) rfl ?_
  refine st_icmp_eq h0 dL_law_1068 (tgt := 1176) (by decide) (pc' := 1071) rfl (fun _ => ?_) (fun c_ => absurd rfl c_)
  exact next _ _ _ (Nat.le_succ _) (by omega) hPn
set_option maxHeartbeats 4000000 in
set_option maxRecDepth 100000 in
theorem wc_21 {l : Launch} {G : GG} {b L : Nat} {xs : Nat → Int32} {KF : Nat → Nat → KT} (hR : RlW l G b L xs KF) {qw qm qo : Nat} {P : List va_W → Prop} {i cn sn : Nat} {Ws : List va_W} {l4 : Int32} (hi : l4 = nI i) (hle : i + 7 ≤ L) (hL : L ≤ 3584) (hc : cn + 1 ≤ 601024) (hs : sn + 6 ≤ 7293034) (hrc : Rc G qw qm qo Ws) (hop : OP21 l G qw qm qo P Ws)
    (next : ∀ (cn' sn' : Nat) (Wn : List va_W), cn' ≤ cn + 1 → sn' ≤ sn + 6 → P Wn → KF cn' sn' Wn [(0, .ref b), (1, .ref qw), (2, .ref qm), (3, .ref qo), (4, .int l4)] 1176 []) : KF cn sn Ws [(0, .ref b), (1, .ref qw), (2, .ref qm), (3, .ref qo), (4, .int l4)] 1073 [] := by
  have hc0 : cn ≤ 601024 := by omega
  have hs0 : sn ≤ 7293034 := by omega
  have h0 := hR.rl hc0 hs0
  refine st_aload_n h0 dL_law_1073 1 rfl rfl (pc' := 1074) rfl ?_
  refine st_aload_n h0 dL_law_1074 0 rfl rfl (pc' := 1075) rfl ?_
  refine st_iload h0 dL_law_1075 4 rfl (pc' := 1077) rfl ?_
  refine st_iconst h0 dL_law_1077 (v := 1) rfl (pc' := 1078) rfl ?_
  refine st_iadd h0 dL_law_1078 (pc' := 1079) rfl ?_
  refine st_sld hR dL_law_1079 (rd_in hi (k := 1) rfl (by omega) hL) rfl (pc' := 1080) rfl ?_
  obtain ⟨o_, Wc, Wn, hca, hrc1, hcb, hPn⟩ := hop (xs (l4 + 1).toNatClampNeg) 
  obtain ⟨w_, fs_, hw1, hw2⟩ := hrc.1
  refine st_ca hR hc0 hs0 hca cf_L_119 (by decide) 0 hw1 hw2 rfl (av := [.int (xs (l4 + 1).toNatClampNeg)]) rfl (rest := []) rfl (Nat.le_of_ble_eq_true rfl) dL_law_1080 (pc' := 1083) rfl ?_
  refine st_aload_n h0 dL_law_1083 2 rfl rfl (pc' := 1084) rfl ?_
  refine st_aload_n h0 dL_law_1084 0 rfl rfl (pc' := 1085) rfl ?_
  refine st_iload h0 dL_law_1085 4 rfl (pc' := 1087) rfl ?_
  refine st_iconst h0 dL_law_1087 (v := 1) rfl (pc' := 1088) rfl ?_
  refine st_iadd h0 dL_law_1088 (pc' := 1089) rfl ?_
  refine st_sld hR dL_law_1089 (rd_in hi (k := 1) rfl (by omega) hL) rfl (pc' := 1090) rfl ?_
  obtain ⟨w2_, fs2_, hv1, hv2⟩ := hrc1.2.1
  refine st_ca hR hc0 hs0 hcb cf_L_122 (by decide) 1 hv1 hv2 rfl (av := [.int (xs (l4 + 1).toNatClampNeg)]) rfl (rest := [.int o_]) rfl (Nat.le_of_ble_eq_true rfl) dL_law_1090 (pc' := 1093) rfl ?_
  refine st_icmp_eq h0 dL_law_1093 (tgt := 1176) (by decide) (pc' := 1096) rfl (fun _ => ?_) (fun c_ => absurd rfl c_)
  exact next _ _ _ (Nat.le_succ _) (by omega) hPn
set_option maxHeartbeats 4000000 in
set_option maxRecDepth 100000 in
theorem wc_22 {l : Launch} {G : GG} {b L : Nat} {xs : Nat → Int32} {KF : Nat → Nat → KT} (hR : RlW l G b L xs KF) {qw qm qo : Nat} {P : List va_W → Prop} {i cn sn : Nat} {Ws : List va_W} {l4 : Int32} (hi : l4 = nI i) (hle : i + 7 ≤ L) (hL : L ≤ 3584) (hc : cn + 1 ≤ 601024) (hs : sn + 6 ≤ 7293034) (hrc : Rc G qw qm qo Ws) (hop : OP22 l G qw qm qo P Ws)
    (next : ∀ (cn' sn' : Nat) (Wn : List va_W), cn' ≤ cn + 1 → sn' ≤ sn + 6 → P Wn → KF cn' sn' Wn [(0, .ref b), (1, .ref qw), (2, .ref qm), (3, .ref qo), (4, .int l4)] 1176 []) : KF cn sn Ws [(0, .ref b), (1, .ref qw), (2, .ref qm), (3, .ref qo), (4, .int l4)] 1098 [] := by
  have hc0 : cn ≤ 601024 := by omega
  have hs0 : sn ≤ 7293034 := by omega
  have h0 := hR.rl hc0 hs0
  refine st_aload_n h0 dL_law_1098 1 rfl rfl (pc' := 1099) rfl ?_
  refine st_aload_n h0 dL_law_1099 0 rfl rfl (pc' := 1100) rfl ?_
  refine st_iload h0 dL_law_1100 4 rfl (pc' := 1102) rfl ?_
  refine st_iconst h0 dL_law_1102 (v := 1) rfl (pc' := 1103) rfl ?_
  refine st_iadd h0 dL_law_1103 (pc' := 1104) rfl ?_
  refine st_sld hR dL_law_1104 (rd_in hi (k := 1) rfl (by omega) hL) rfl (pc' := 1105) rfl ?_
  refine st_aload_n h0 dL_law_1105 0 rfl rfl (pc' := 1106) rfl ?_
  refine st_iload h0 dL_law_1106 4 rfl (pc' := 1108) rfl ?_
  refine st_iconst h0 dL_law_1108 (v := 2) rfl (pc' := 1109) rfl ?_
  refine st_iadd h0 dL_law_1109 (pc' := 1110) rfl ?_
  refine st_sld hR dL_law_1110 (rd_in hi (k := 2) rfl (by omega) hL) rfl (pc' := 1111) rfl ?_
  refine st_if_eq h0 dL_law_1111 (tgt := 1118) (by decide) (pc' := 1114) rfl (fun hb_ => ?_) (fun hb_ => ?_)
  · refine st_iconst h0 dL_law_1118 (v := 0) rfl (pc' := 1119) rfl ?_
    obtain ⟨o_, Wc, Wn, hca, hrc1, hcb, hPn⟩ := hop (xs (l4 + 1).toNatClampNeg) 0 (Or.inl rfl)
    obtain ⟨w_, fs_, hw1, hw2⟩ := hrc.1
    refine st_ca hR hc0 hs0 hca cf_L_123 (by decide) 0 hw1 hw2 rfl (av := [.int (xs (l4 + 1).toNatClampNeg), .int 0]) rfl (rest := []) rfl (Nat.le_of_ble_eq_true rfl) dL_law_1119 (pc' := 1122) rfl ?_
    refine st_aload_n h0 dL_law_1122 2 rfl rfl (pc' := 1123) rfl ?_
    refine st_aload_n h0 dL_law_1123 0 rfl rfl (pc' := 1124) rfl ?_
    refine st_iload h0 dL_law_1124 4 rfl (pc' := 1126) rfl ?_
    refine st_iconst h0 dL_law_1126 (v := 1) rfl (pc' := 1127) rfl ?_
    refine st_iadd h0 dL_law_1127 (pc' := 1128) rfl ?_
    refine st_sld hR dL_law_1128 (rd_in hi (k := 1) rfl (by omega) hL) rfl (pc' := 1129) rfl ?_
    refine st_aload_n h0 dL_law_1129 0 rfl rfl (pc' := 1130) rfl ?_
    refine st_iload h0 dL_law_1130 4 rfl (pc' := 1132) rfl ?_
    refine st_iconst h0 dL_law_1132 (v := 2) rfl (pc' := 1133) rfl ?_
    refine st_iadd h0 dL_law_1133 (pc' := 1134) rfl ?_
    refine st_sld hR dL_law_1134 (rd_in hi (k := 2) rfl (by omega) hL) rfl (pc' := 1135) rfl ?_
    refine st_if_eq h0 dL_law_1135 (tgt := 1142) (by decide) (pc' := 1138) rfl (fun _ => ?_) (fun c_ => absurd hb_ c_)
    refine st_iconst h0 dL_law_1142 (v := 0) rfl (pc' := 1143) rfl ?_
    obtain ⟨w2_, fs2_, hv1, hv2⟩ := hrc1.2.1
    refine st_ca hR hc0 hs0 hcb cf_L_127 (by decide) 1 hv1 hv2 rfl (av := [.int (xs (l4 + 1).toNatClampNeg), .int 0]) rfl (rest := [.int o_]) rfl (Nat.le_of_ble_eq_true rfl) dL_law_1143 (pc' := 1146) rfl ?_
    refine st_icmp_eq h0 dL_law_1146 (tgt := 1176) (by decide) (pc' := 1149) rfl (fun _ => ?_) (fun c_ => absurd rfl c_)
    exact next _ _ _ (Nat.le_succ _) (by omega) hPn
  · refine st_iconst h0 dL_law_1114 (v := 1) rfl (pc' := 1115) rfl ?_
    refine st_goto h0 dL_law_1115 (tgt := 1119) (by decide) ?_
    obtain ⟨o_, Wc, Wn, hca, hrc1, hcb, hPn⟩ := hop (xs (l4 + 1).toNatClampNeg) 1 (Or.inr rfl)
    obtain ⟨w_, fs_, hw1, hw2⟩ := hrc.1
    refine st_ca hR hc0 hs0 hca cf_L_123 (by decide) 0 hw1 hw2 rfl (av := [.int (xs (l4 + 1).toNatClampNeg), .int 1]) rfl (rest := []) rfl (Nat.le_of_ble_eq_true rfl) dL_law_1119 (pc' := 1122) rfl ?_
    refine st_aload_n h0 dL_law_1122 2 rfl rfl (pc' := 1123) rfl ?_
    refine st_aload_n h0 dL_law_1123 0 rfl rfl (pc' := 1124) rfl ?_
    refine st_iload h0 dL_law_1124 4 rfl (pc' := 1126) rfl ?_
    refine st_iconst h0 dL_law_1126 (v := 1) rfl (pc' := 1127) rfl ?_
    refine st_iadd h0 dL_law_1127 (pc' := 1128) rfl ?_
    refine st_sld hR dL_law_1128 (rd_in hi (k := 1) rfl (by omega) hL) rfl (pc' := 1129) rfl ?_
    refine st_aload_n h0 dL_law_1129 0 rfl rfl (pc' := 1130) rfl ?_
    refine st_iload h0 dL_law_1130 4 rfl (pc' := 1132) rfl ?_
    refine st_iconst h0 dL_law_1132 (v := 2) rfl (pc' := 1133) rfl ?_
    refine st_iadd h0 dL_law_1133 (pc' := 1134) rfl ?_
    refine st_sld hR dL_law_1134 (rd_in hi (k := 2) rfl (by omega) hL) rfl (pc' := 1135) rfl ?_
    refine st_if_eq h0 dL_law_1135 (tgt := 1142) (by decide) (pc' := 1138) rfl (fun c_ => absurd c_ hb_) (fun _ => ?_)
    refine st_iconst h0 dL_law_1138 (v := 1) rfl (pc' := 1139) rfl ?_
    refine st_goto h0 dL_law_1139 (tgt := 1143) (by decide) ?_
    obtain ⟨w2_, fs2_, hv1, hv2⟩ := hrc1.2.1
    refine st_ca hR hc0 hs0 hcb cf_L_127 (by decide) 1 hv1 hv2 rfl (av := [.int (xs (l4 + 1).toNatClampNeg), .int 1]) rfl (rest := [.int o_]) rfl (Nat.le_of_ble_eq_true rfl) dL_law_1143 (pc' := 1146) rfl ?_
    refine st_icmp_eq h0 dL_law_1146 (tgt := 1176) (by decide) (pc' := 1149) rfl (fun _ => ?_) (fun c_ => absurd rfl c_)
    exact next _ _ _ (Nat.le_succ _) (by omega) hPn
set_option maxHeartbeats 4000000 in
set_option maxRecDepth 100000 in
theorem wc_23 {l : Launch} {G : GG} {b L : Nat} {xs : Nat → Int32} {KF : Nat → Nat → KT} (hR : RlW l G b L xs KF) {qw qm qo : Nat} {P : List va_W → Prop} {i cn sn : Nat} {Ws : List va_W} {l4 : Int32} (hi : l4 = nI i) (hle : i + 7 ≤ L) (hL : L ≤ 3584) (hc : cn + 1 ≤ 601024) (hs : sn + 6 ≤ 7293034) (hrc : Rc G qw qm qo Ws) (hop : OP23 l G qw qm qo P Ws)
    (next : ∀ (cn' sn' : Nat) (Wn : List va_W), cn' ≤ cn + 1 → sn' ≤ sn + 6 → P Wn → KF cn' sn' Wn [(0, .ref b), (1, .ref qw), (2, .ref qm), (3, .ref qo), (4, .int l4)] 1176 []) : KF cn sn Ws [(0, .ref b), (1, .ref qw), (2, .ref qm), (3, .ref qo), (4, .int l4)] 1151 [] := by
  have hc0 : cn ≤ 601024 := by omega
  have hs0 : sn ≤ 7293034 := by omega
  have h0 := hR.rl hc0 hs0
  refine st_aload_n h0 dL_law_1151 1 rfl rfl (pc' := 1152) rfl ?_
  refine st_aload_n h0 dL_law_1152 0 rfl rfl (pc' := 1153) rfl ?_
  refine st_iload h0 dL_law_1153 4 rfl (pc' := 1155) rfl ?_
  refine st_iconst h0 dL_law_1155 (v := 1) rfl (pc' := 1156) rfl ?_
  refine st_iadd h0 dL_law_1156 (pc' := 1157) rfl ?_
  refine st_sld hR dL_law_1157 (rd_in hi (k := 1) rfl (by omega) hL) rfl (pc' := 1158) rfl ?_
  obtain ⟨o_, Wc, Wn, hca, hrc1, hcb, hPn⟩ := hop (xs (l4 + 1).toNatClampNeg) 
  obtain ⟨w_, fs_, hw1, hw2⟩ := hrc.1
  refine st_ca hR hc0 hs0 hca cf_L_128 (by decide) 0 hw1 hw2 rfl (av := [.int (xs (l4 + 1).toNatClampNeg)]) rfl (rest := []) rfl (Nat.le_of_ble_eq_true rfl) dL_law_1158 (pc' := 1161) rfl ?_
  refine st_aload_n h0 dL_law_1161 2 rfl rfl (pc' := 1162) rfl ?_
  refine st_aload_n h0 dL_law_1162 0 rfl rfl (pc' := 1163) rfl ?_
  refine st_iload h0 dL_law_1163 4 rfl (pc' := 1165) rfl ?_
  refine st_iconst h0 dL_law_1165 (v := 1) rfl (pc' := 1166) rfl ?_
  refine st_iadd h0 dL_law_1166 (pc' := 1167) rfl ?_
  refine st_sld hR dL_law_1167 (rd_in hi (k := 1) rfl (by omega) hL) rfl (pc' := 1168) rfl ?_
  obtain ⟨w2_, fs2_, hv1, hv2⟩ := hrc1.2.1
  refine st_ca hR hc0 hs0 hcb cf_L_131 (by decide) 1 hv1 hv2 rfl (av := [.int (xs (l4 + 1).toNatClampNeg)]) rfl (rest := [.int o_]) rfl (Nat.le_of_ble_eq_true rfl) dL_law_1168 (pc' := 1171) rfl ?_
  refine st_icmp_eq h0 dL_law_1171 (tgt := 1176) (by decide) (pc' := 1174) rfl (fun _ => ?_) (fun c_ => absurd rfl c_)
  exact next _ _ _ (Nat.le_succ _) (by omega) hPn
def OPS (l : Launch) (G : GG) (qw qm qo : Nat) (P : Nat → List va_W → Prop) : Prop := ∀ (j : Nat) (Ws : List va_W), j < 600 → P j Ws → Rc G qw qm qo Ws ∧ (∀ Wn, P j Wn → P (j + 1) Wn) ∧ OP0 l G qw qm qo (P (j + 1)) Ws ∧ OP1 l G qw qm qo (P (j + 1)) Ws ∧ OP2 l G qw qm qo (P (j + 1)) Ws ∧ OP3 l G qw qm qo (P (j + 1)) Ws ∧ OP4 l G qw qm qo (P (j + 1)) Ws ∧ OP5 l G qw qm qo (P (j + 1)) Ws ∧ OP6 l G qw qm qo (P (j + 1)) Ws ∧ OP7 l G qw qm qo (P (j + 1)) Ws ∧ OP8 l G qw qm qo (P (j + 1)) Ws ∧ OP9 l G qw qm qo (P (j + 1)) Ws ∧ OP10 l G qw qm qo (P (j + 1)) Ws ∧ OP11 l G qw qm qo (P (j + 1)) Ws ∧ OP12 l G qw qm qo (P (j + 1)) Ws ∧ OP13 l G qw qm qo (P (j + 1)) Ws ∧ OP14 l G qw qm qo (P (j + 1)) Ws ∧ OP15 l G qw qm qo (P (j + 1)) Ws ∧ OP16 l G qw qm qo (P (j + 1)) Ws ∧ OP17 l G qw qm qo (P (j + 1)) Ws ∧ OP18 l G qw qm qo (P (j + 1)) Ws ∧ OP19 l G qw qm qo (P (j + 1)) Ws ∧ OP20 l G qw qm qo (P (j + 1)) Ws ∧ OP21 l G qw qm qo (P (j + 1)) Ws ∧ OP22 l G qw qm qo (P (j + 1)) Ws ∧ OP23 l G qw qm qo (P (j + 1)) Ws
theorem lp_gt {i L : Nat} {l4 : Int32} (hi : l4 = nI i) (hiL : i ≤ L) (hL : L ≤ 3584) : ¬ (nI L - 7 < l4) ↔ i + 7 ≤ L := by
  rw [hi, Int32.lt_iff_toInt_lt, Int32.toInt_sub, nI_toInt (by omega), nI_toInt (by omega), show (7 : Int32).toInt = 7 from rfl, Int.bmod_eq_of_le (by omega) (by omega)]
  omega
set_option maxHeartbeats 8000000 in
set_option maxRecDepth 100000 in
theorem walk {l : Launch} {G : GG} {b L : Nat} {xs : Nat → Int32} {KF : Nat → Nat → KT} (hR : RlW l G b L xs KF) (hL : L ≤ 3584) {qw qm qo : Nat} {P : Nat → List va_W → Prop} (hops : OPS l G qw qm qo P) : ∀ (n j i cn sn : Nat) (Ws : List va_W) (l4 : Int32), l4 = nI i → i ≤ L → L + 1 ≤ i + 7 * n → cn + n ≤ 601024 → sn + 6 * n ≤ 7293034 → n + j ≤ 600 → P j Ws → KF cn sn Ws [(0, .ref b), (1, .ref qw), (2, .ref qm), (3, .ref qo), (4, .int l4)] 23 [] := by
  intro n
  induction n with
  | zero => intro j i cn sn Ws l4 hi hiL hn; exact absurd hn (by omega)
  | succ n ih =>
    intro j i cn sn Ws l4 hi hiL hn hcn hsn hjn hPW
    have hc0 : cn ≤ 601024 := by omega
    have hs0 : sn ≤ 7293034 := by omega
    have h0 := hR.rl hc0 hs0
    refine st_iload h0 dL_law_23 4 rfl (pc' := 25) rfl ?_
    refine st_aload_n h0 dL_law_25 0 rfl rfl (pc' := 26) rfl ?_
    refine st_slen hR dL_law_26 (pc' := 27) rfl ?_
    refine st_bipush h0 dL_law_27 (v := 7) rfl (pc' := 29) rfl ?_
    refine st_isub h0 dL_law_29 (pc' := 30) rfl ?_
    refine st_icmp_gt h0 dL_law_30 (tgt := 1182) (by decide) (pc' := 33) rfl (fun _ => ?_) (fun c_ => ?_)
    · refine st_iconst h0 dL_law_1182 (v := 1) rfl (pc' := 1183) rfl ?_
      exact st_end hR dL_law_1183 hc0 hs0
    · have hle : i + 7 ≤ L := (lp_gt hi hiL hL).mp c_
      obtain ⟨hrc, hup, o0, o1, o2, o3, o4, o5, o6, o7, o8, o9, o10, o11, o12, o13, o14, o15, o16, o17, o18, o19, o20, o21, o22, o23⟩ := hops j Ws (by omega) hPW
      have hnx : ∀ (cn' sn' : Nat) (Wn : List va_W), cn' ≤ cn + 1 → sn' ≤ sn + 6 → P (j + 1) Wn → KF cn' sn' Wn [(0, .ref b), (1, .ref qw), (2, .ref qm), (3, .ref qo), (4, .int l4)] 1176 [] := by
        intro cn' sn' Wn hc' hs' hP'
        have h1 := hR.rl (cn := cn') (sn := sn') (by omega) (by omega)
        obtain ⟨l4', e_⟩ : ∃ y : Int32, y = l4 + 7 := ⟨_, rfl⟩
        refine st_iinc h1 dL_law_1176 (Nat.le_of_ble_eq_true rfl) 4 [1, 2, 3, 4, 0] (v := l4') rfl (by rw [e_]; rfl) (lv' := [(0, .ref b), (1, .ref qw), (2, .ref qm), (3, .ref qo), (4, .int l4')]) rfl (pc' := 1179) rfl ?_
        refine st_goto h1 dL_law_1179 (tgt := 23) (by decide) ?_
        exact ih (j + 1) (i + 7) cn' sn' Wn l4' (by rw [e_, hi, show (7 : Int32) = nI 7 from rfl, nI_add]) hle (by omega) (by omega) (by omega) (by omega) hP'
      refine st_aload_n h0 dL_law_33 0 rfl rfl (pc' := 34) rfl ?_
      refine st_iload h0 dL_law_34 4 rfl (pc' := 36) rfl ?_
      refine st_sld hR dL_law_36 (rd_0 hi (by omega) hL) rfl (pc' := 37) rfl ?_
      refine st_bipush h0 dL_law_37 (v := 31) rfl (pc' := 39) rfl ?_
      refine st_iand h0 dL_law_39 (pc' := 40) rfl ?_
      refine st_topi (fun sw e_ => ?_)
      refine st_sw_case h0 dL_law_40 0 (x0 := 0) (by decide) (by decide) rfl (tgt := 152) (by decide) (fun _ => ?_) (fun c0_ => ?_)
      · exact wc_0 hR hi hle hL (by omega) (by omega) hrc o0 hnx
      refine st_sw_case h0 dL_law_40 1 (x0 := 1) (by decide) (by decide) rfl (tgt := 299) (by decide) (fun _ => ?_) (fun c1_ => ?_)
      · exact wc_1 hR hi hle hL (by omega) (by omega) hrc o1 hnx
      refine st_sw_case h0 dL_law_40 2 (x0 := 2) (by decide) (by decide) rfl (tgt := 312) (by decide) (fun _ => ?_) (fun c2_ => ?_)
      · exact wc_2 hR hi hle hL (by omega) (by omega) hrc o2 hnx
      refine st_sw_case h0 dL_law_40 3 (x0 := 3) (by decide) (by decide) rfl (tgt := 349) (by decide) (fun _ => ?_) (fun c3_ => ?_)
      · exact wc_3 hR hi hle hL (by omega) (by omega) hrc o3 hnx
      refine st_sw_case h0 dL_law_40 4 (x0 := 4) (by decide) (by decide) rfl (tgt := 386) (by decide) (fun _ => ?_) (fun c4_ => ?_)
      · exact wc_4 hR hi hle hL (by omega) (by omega) hrc o4 hnx
      refine st_sw_case h0 dL_law_40 5 (x0 := 5) (by decide) (by decide) rfl (tgt := 411) (by decide) (fun _ => ?_) (fun c5_ => ?_)
      · exact wc_5 hR hi hle hL (by omega) (by omega) hrc o5 hnx
      refine st_sw_case h0 dL_law_40 6 (x0 := 6) (by decide) (by decide) rfl (tgt := 436) (by decide) (fun _ => ?_) (fun c6_ => ?_)
      · exact wc_6 hR hi hle hL (by omega) (by omega) hrc o6 hnx
      refine st_sw_case h0 dL_law_40 7 (x0 := 7) (by decide) (by decide) rfl (tgt := 501) (by decide) (fun _ => ?_) (fun c7_ => ?_)
      · exact wc_7 hR hi hle hL (by omega) (by omega) hrc o7 hnx
      refine st_sw_case h0 dL_law_40 8 (x0 := 8) (by decide) (by decide) rfl (tgt := 514) (by decide) (fun _ => ?_) (fun c8_ => ?_)
      · exact wc_8 hR hi hle hL (by omega) (by omega) hrc o8 hnx
      refine st_sw_case h0 dL_law_40 9 (x0 := 9) (by decide) (by decide) rfl (tgt := 582) (by decide) (fun _ => ?_) (fun c9_ => ?_)
      · exact wc_9 hR hi hle hL (by omega) (by omega) hrc o9 hnx
      refine st_sw_case h0 dL_law_40 10 (x0 := 10) (by decide) (by decide) rfl (tgt := 619) (by decide) (fun _ => ?_) (fun c10_ => ?_)
      · exact wc_10 hR hi hle hL (by omega) (by omega) hrc o10 hnx
      refine st_sw_case h0 dL_law_40 11 (x0 := 11) (by decide) (by decide) rfl (tgt := 672) (by decide) (fun _ => ?_) (fun c11_ => ?_)
      · exact wc_11 hR hi hle hL (by omega) (by omega) hrc o11 hnx
      refine st_sw_case h0 dL_law_40 12 (x0 := 12) (by decide) (by decide) rfl (tgt := 709) (by decide) (fun _ => ?_) (fun c12_ => ?_)
      · exact wc_12 hR hi hle hL (by omega) (by omega) hrc o12 hnx
      refine st_sw_case h0 dL_law_40 13 (x0 := 13) (by decide) (by decide) rfl (tgt := 758) (by decide) (fun _ => ?_) (fun c13_ => ?_)
      · exact wc_13 hR hi hle hL (by omega) (by omega) hrc o13 hnx
      refine st_sw_case h0 dL_law_40 14 (x0 := 14) (by decide) (by decide) rfl (tgt := 783) (by decide) (fun _ => ?_) (fun c14_ => ?_)
      · exact wc_14 hR hi hle hL (by omega) (by omega) hrc o14 hnx
      refine st_sw_case h0 dL_law_40 15 (x0 := 15) (by decide) (by decide) rfl (tgt := 820) (by decide) (fun _ => ?_) (fun c15_ => ?_)
      · exact wc_15 hR hi hle hL (by omega) (by omega) hrc o15 hnx
      refine st_sw_case h0 dL_law_40 16 (x0 := 16) (by decide) (by decide) rfl (tgt := 869) (by decide) (fun _ => ?_) (fun c16_ => ?_)
      · exact wc_16 hR hi hle hL (by omega) (by omega) hrc o16 hnx
      refine st_sw_case h0 dL_law_40 17 (x0 := 17) (by decide) (by decide) rfl (tgt := 894) (by decide) (fun _ => ?_) (fun c17_ => ?_)
      · exact wc_17 hR hi hle hL (by omega) (by omega) hrc o17 hnx
      refine st_sw_case h0 dL_law_40 18 (x0 := 18) (by decide) (by decide) rfl (tgt := 943) (by decide) (fun _ => ?_) (fun c18_ => ?_)
      · exact wc_18 hR hi hle hL (by omega) (by omega) hrc o18 hnx
      refine st_sw_case h0 dL_law_40 19 (x0 := 19) (by decide) (by decide) rfl (tgt := 1011) (by decide) (fun _ => ?_) (fun c19_ => ?_)
      · exact wc_19 hR hi hle hL (by omega) (by omega) hrc o19 hnx
      refine st_sw_case h0 dL_law_40 20 (x0 := 20) (by decide) (by decide) rfl (tgt := 1036) (by decide) (fun _ => ?_) (fun c20_ => ?_)
      · exact wc_20 hR hi hle hL (by omega) (by omega) hrc o20 hnx
      refine st_sw_case h0 dL_law_40 21 (x0 := 21) (by decide) (by decide) rfl (tgt := 1073) (by decide) (fun _ => ?_) (fun c21_ => ?_)
      · exact wc_21 hR hi hle hL (by omega) (by omega) hrc o21 hnx
      refine st_sw_case h0 dL_law_40 22 (x0 := 22) (by decide) (by decide) rfl (tgt := 1098) (by decide) (fun _ => ?_) (fun c22_ => ?_)
      · exact wc_22 hR hi hle hL (by omega) (by omega) hrc o22 hnx
      refine st_sw_case h0 dL_law_40 23 (x0 := 23) (by decide) (by decide) rfl (tgt := 1151) (by decide) (fun _ => ?_) (fun c23_ => ?_)
      · exact wc_23 hR hi hle hL (by omega) (by omega) hrc o23 hnx
      have z0_ := sw_ne c0_ (k := 0) (by decide)
      have z1_ := sw_ne c1_ (k := 1) (by decide)
      have z2_ := sw_ne c2_ (k := 2) (by decide)
      have z3_ := sw_ne c3_ (k := 3) (by decide)
      have z4_ := sw_ne c4_ (k := 4) (by decide)
      have z5_ := sw_ne c5_ (k := 5) (by decide)
      have z6_ := sw_ne c6_ (k := 6) (by decide)
      have z7_ := sw_ne c7_ (k := 7) (by decide)
      have z8_ := sw_ne c8_ (k := 8) (by decide)
      have z9_ := sw_ne c9_ (k := 9) (by decide)
      have z10_ := sw_ne c10_ (k := 10) (by decide)
      have z11_ := sw_ne c11_ (k := 11) (by decide)
      have z12_ := sw_ne c12_ (k := 12) (by decide)
      have z13_ := sw_ne c13_ (k := 13) (by decide)
      have z14_ := sw_ne c14_ (k := 14) (by decide)
      have z15_ := sw_ne c15_ (k := 15) (by decide)
      have z16_ := sw_ne c16_ (k := 16) (by decide)
      have z17_ := sw_ne c17_ (k := 17) (by decide)
      have z18_ := sw_ne c18_ (k := 18) (by decide)
      have z19_ := sw_ne c19_ (k := 19) (by decide)
      have z20_ := sw_ne c20_ (k := 20) (by decide)
      have z21_ := sw_ne c21_ (k := 21) (by decide)
      have z22_ := sw_ne c22_ (k := 22) (by decide)
      have z23_ := sw_ne c23_ (k := 23) (by decide)
      refine st_sw_def h0 dL_law_40 (tgt := 1176) (by decide) (by omega) ?_
      exact hnx _ _ _ (Nat.le_succ _) (by omega) (hup _ hPW)
