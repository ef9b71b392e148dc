/-! FACTS: what the tables say, each by its place -/
theorem ul_X0 : ∀ w ∈ u_ws RX0 TX0 6, w ∈ TT := by
  intro w hw
  obtain ⟨i, hi, rfl⟩ := List.mem_map.mp hw
  have hi := List.mem_range.mp hi
  match i, hi with
  | 0, _ => exact (tg_2 12 rfl rfl)
  | 1, _ => exact (tg_2 14 rfl rfl)
  | 2, _ => exact (tg_2 16 rfl rfl)
  | 3, _ => exact (tg_2 18 rfl rfl)
  | 4, _ => exact (tg_2 20 rfl rfl)
  | 5, _ => exact (tg_2 22 rfl rfl)
  | i + 6, hi => exact absurd hi (by omega)
theorem ul_X1 : ∀ w ∈ u_ws RX1 TX1 12, w ∈ TT := by
  intro w hw
  obtain ⟨i, hi, rfl⟩ := List.mem_map.mp hw
  have hi := List.mem_range.mp hi
  match i, hi with
  | 0, _ => exact (tg_2 51 rfl rfl)
  | 1, _ => exact (tg_2 53 rfl rfl)
  | 2, _ => exact (tg_2 55 rfl rfl)
  | 3, _ => exact (tg_2 57 rfl rfl)
  | 4, _ => exact (tg_2 59 rfl rfl)
  | 5, _ => exact (tg_2 61 rfl rfl)
  | 6, _ => exact (tg_2 63 rfl rfl)
  | 7, _ => exact (tg_2 65 rfl rfl)
  | 8, _ => exact (tg_2 67 rfl rfl)
  | 9, _ => exact (tg_2 69 rfl rfl)
  | 10, _ => exact (tg_2 47 rfl rfl)
  | 11, _ => exact (tg_2 49 rfl rfl)
  | i + 12, hi => exact absurd hi (by omega)
theorem ul_X2 : ∀ w ∈ u_ws RX2 TX2 12, w ∈ TT := by
  intro w hw
  obtain ⟨i, hi, rfl⟩ := List.mem_map.mp hw
  have hi := List.mem_range.mp hi
  match i, hi with
  | 0, _ => exact (tg_2 84 rfl rfl)
  | 1, _ => exact (tg_2 85 rfl rfl)
  | 2, _ => exact (tg_2 86 rfl rfl)
  | 3, _ => exact (tg_2 87 rfl rfl)
  | 4, _ => exact (tg_2 88 rfl rfl)
  | 5, _ => exact (tg_2 89 rfl rfl)
  | 6, _ => exact (tg_2 90 rfl rfl)
  | 7, _ => exact (tg_2 91 rfl rfl)
  | 8, _ => exact (tg_2 92 rfl rfl)
  | 9, _ => exact (tg_2 93 rfl rfl)
  | 10, _ => exact (tg_2 80 rfl rfl)
  | 11, _ => exact (tg_2 82 rfl rfl)
  | i + 12, hi => exact absurd hi (by omega)
theorem ul_X3 : ∀ w ∈ u_ws RX3 TX3 5, w ∈ TT := by
  intro w hw
  obtain ⟨i, hi, rfl⟩ := List.mem_map.mp hw
  have hi := List.mem_range.mp hi
  match i, hi with
  | 0, _ => exact (tg_1 47 rfl rfl)
  | 1, _ => exact (tg_1 49 rfl rfl)
  | 2, _ => exact (tg_1 51 rfl rfl)
  | 3, _ => exact (tg_1 53 rfl rfl)
  | 4, _ => exact (tg_1 55 rfl rfl)
  | i + 5, hi => exact absurd hi (by omega)
theorem ul_X4 : ∀ w ∈ u_ws RX4 TX4 3, w ∈ TT := by
  intro w hw
  obtain ⟨i, hi, rfl⟩ := List.mem_map.mp hw
  have hi := List.mem_range.mp hi
  match i, hi with
  | 0, _ => exact (tg_2 111 rfl rfl)
  | 1, _ => exact (tg_2 113 rfl rfl)
  | 2, _ => exact (tg_2 115 rfl rfl)
  | i + 3, hi => exact absurd hi (by omega)
theorem ul_X5 : ∀ w ∈ u_ws RX5 TX5 15, w ∈ TT := by
  intro w hw
  obtain ⟨i, hi, rfl⟩ := List.mem_map.mp hw
  have hi := List.mem_range.mp hi
  match i, hi with
  | 0, _ => exact (tg_1 94 rfl rfl)
  | 1, _ => exact (tg_1 96 rfl rfl)
  | 2, _ => exact (tg_1 98 rfl rfl)
  | 3, _ => exact (tg_1 100 rfl rfl)
  | 4, _ => exact (tg_1 102 rfl rfl)
  | 5, _ => exact (tg_1 104 rfl rfl)
  | 6, _ => exact (tg_1 106 rfl rfl)
  | 7, _ => exact (tg_1 108 rfl rfl)
  | 8, _ => exact (tg_1 110 rfl rfl)
  | 9, _ => exact (tg_1 112 rfl rfl)
  | 10, _ => exact (tg_1 114 rfl rfl)
  | 11, _ => exact (tg_1 116 rfl rfl)
  | 12, _ => exact (tg_1 118 rfl rfl)
  | 13, _ => exact (tg_1 120 rfl rfl)
  | 14, _ => exact (tg_1 122 rfl rfl)
  | i + 15, hi => exact absurd hi (by omega)
theorem ul_X7 : ∀ w ∈ u_ws RX7 TX7 4, w ∈ TT := by
  intro w hw
  obtain ⟨i, hi, rfl⟩ := List.mem_map.mp hw
  have hi := List.mem_range.mp hi
  match i, hi with
  | 0, _ => exact (tg_1 173 rfl rfl)
  | 1, _ => exact (tg_1 175 rfl rfl)
  | 2, _ => exact (tg_1 177 rfl rfl)
  | 3, _ => exact (tg_1 179 rfl rfl)
  | i + 4, hi => exact absurd hi (by omega)
theorem ul_X8 : ∀ w ∈ u_ws RX8 TX8 8, w ∈ TT := by
  intro w hw
  obtain ⟨i, hi, rfl⟩ := List.mem_map.mp hw
  have hi := List.mem_range.mp hi
  match i, hi with
  | 0, _ => exact (tg_1 145 rfl rfl)
  | 1, _ => exact (tg_1 147 rfl rfl)
  | 2, _ => exact (tg_1 149 rfl rfl)
  | 3, _ => exact (tg_1 151 rfl rfl)
  | 4, _ => exact (tg_1 153 rfl rfl)
  | 5, _ => exact (tg_1 155 rfl rfl)
  | 6, _ => exact (tg_1 157 rfl rfl)
  | 7, _ => exact (tg_1 159 rfl rfl)
  | i + 8, hi => exact absurd hi (by omega)
theorem ul_X9 : ∀ w ∈ u_ws RX9 TX9 11, w ∈ TT := by
  intro w hw
  obtain ⟨i, hi, rfl⟩ := List.mem_map.mp hw
  have hi := List.mem_range.mp hi
  match i, hi with
  | 0, _ => exact (tg_1 211 rfl rfl)
  | 1, _ => exact (tg_1 213 rfl rfl)
  | 2, _ => exact (tg_1 215 rfl rfl)
  | 3, _ => exact (tg_1 217 rfl rfl)
  | 4, _ => exact (tg_1 219 rfl rfl)
  | 5, _ => exact (tg_1 221 rfl rfl)
  | 6, _ => exact (tg_1 223 rfl rfl)
  | 7, _ => exact (tg_1 225 rfl rfl)
  | 8, _ => exact (tg_1 227 rfl rfl)
  | 9, _ => exact (tg_1 229 rfl rfl)
  | 10, _ => exact (tg_1 231 rfl rfl)
  | i + 11, hi => exact absurd hi (by omega)
theorem ul_X10 : ∀ w ∈ u_ws RX10 TX10 10, w ∈ TT := by
  intro w hw
  obtain ⟨i, hi, rfl⟩ := List.mem_map.mp hw
  have hi := List.mem_range.mp hi
  match i, hi with
  | 0, _ => exact (tg_2 128 rfl rfl)
  | 1, _ => exact (tg_2 130 rfl rfl)
  | 2, _ => exact (tg_2 132 rfl rfl)
  | 3, _ => exact (tg_2 134 rfl rfl)
  | 4, _ => exact (tg_2 136 rfl rfl)
  | 5, _ => exact (tg_2 138 rfl rfl)
  | 6, _ => exact (tg_2 140 rfl rfl)
  | 7, _ => exact (tg_2 142 rfl rfl)
  | 8, _ => exact (tg_2 144 rfl rfl)
  | 9, _ => exact (tg_2 146 rfl rfl)
  | i + 10, hi => exact absurd hi (by omega)
theorem ul_X11 : ∀ w ∈ u_ws RX11 TX11 30, w ∈ TT := by
  intro w hw
  obtain ⟨i, hi, rfl⟩ := List.mem_map.mp hw
  have hi := List.mem_range.mp hi
  match i, hi with
  | 0, _ => exact (tg_5 136 rfl rfl)
  | 1, _ => exact (tg_5 138 rfl rfl)
  | 2, _ => exact (tg_5 140 rfl rfl)
  | 3, _ => exact (tg_5 142 rfl rfl)
  | 4, _ => exact (tg_5 144 rfl rfl)
  | 5, _ => exact (tg_5 146 rfl rfl)
  | 6, _ => exact (tg_5 148 rfl rfl)
  | 7, _ => exact (tg_5 150 rfl rfl)
  | 8, _ => exact (tg_5 152 rfl rfl)
  | 9, _ => exact (tg_5 154 rfl rfl)
  | 10, _ => exact (tg_5 156 rfl rfl)
  | 11, _ => exact (tg_5 158 rfl rfl)
  | 12, _ => exact (tg_5 160 rfl rfl)
  | 13, _ => exact (tg_5 162 rfl rfl)
  | 14, _ => exact (tg_5 164 rfl rfl)
  | 15, _ => exact (tg_5 166 rfl rfl)
  | 16, _ => exact (tg_5 168 rfl rfl)
  | 17, _ => exact (tg_5 170 rfl rfl)
  | 18, _ => exact (tg_5 172 rfl rfl)
  | 19, _ => exact (tg_5 174 rfl rfl)
  | 20, _ => exact (tg_5 176 rfl rfl)
  | 21, _ => exact (tg_5 178 rfl rfl)
  | 22, _ => exact (tg_5 180 rfl rfl)
  | 23, _ => exact (tg_5 182 rfl rfl)
  | 24, _ => exact (tg_5 184 rfl rfl)
  | 25, _ => exact (tg_5 186 rfl rfl)
  | 26, _ => exact (tg_5 188 rfl rfl)
  | 27, _ => exact (tg_5 190 rfl rfl)
  | 28, _ => exact (tg_5 192 rfl rfl)
  | 29, _ => exact (tg_5 194 rfl rfl)
  | i + 30, hi => exact absurd hi (by omega)
theorem fg_X0_11_0_0 : FG RX0 11 0 0 := ⟨RX0, TX0, 6, rfl, by decide, ul_X0, (Or.inl (tg_2 0 rfl rfl))⟩
theorem fg_X0_15_0_1 : FG RX0 15 0 1 := ⟨RX0, TX0, 6, rfl, by decide, ul_X0, (Or.inl (tg_2 2 rfl rfl))⟩
theorem fg_X0_18_0_2 : FG RX0 18 0 2 := ⟨RX0, TX0, 6, rfl, by decide, ul_X0, (Or.inl (tg_2 4 rfl rfl))⟩
theorem fg_X0_21_0_3 : FG RX0 21 0 3 := ⟨RX0, TX0, 6, rfl, by decide, ul_X0, (Or.inl (tg_2 6 rfl rfl))⟩
theorem fg_X0_25_0_4 : FG RX0 25 0 4 := ⟨RX0, TX0, 6, rfl, by decide, ul_X0, (Or.inl (tg_2 8 rfl rfl))⟩
theorem fg_X0_28_0_5 : FG RX0 28 0 5 := ⟨RX0, TX0, 6, rfl, by decide, ul_X0, (Or.inl (tg_2 10 rfl rfl))⟩
theorem fg_X1_11_1_10 : FG RX1 11 1 10 := ⟨RX1, TX1, 12, rfl, by decide, ul_X1, (Or.inl (tg_2 34 rfl rfl))⟩
theorem fg_X1_22_8_9 : FG RX1 22 8 9 := ⟨RX9, TX9, 11, rfl, by decide, ul_X9, (Or.inr ⟨"WolfHalf", (List.mem_filter.mpr ⟨tm_1 (List.mem_of_getElem? (i := 209) rfl), rfl⟩)⟩)⟩
theorem fg_X10_13_9_0 : FG RX10 13 9 0 := ⟨RX10, TX10, 10, rfl, by decide, ul_X10, (Or.inl (tg_2 118 rfl rfl))⟩
theorem fg_X10_19_9_9 : FG RX10 19 9 9 := ⟨RX10, TX10, 10, rfl, by decide, ul_X10, (Or.inl (tg_2 127 rfl rfl))⟩
theorem fg_X10_28_9_1 : FG RX10 28 9 1 := ⟨RX10, TX10, 10, rfl, by decide, ul_X10, (Or.inl (tg_2 119 rfl rfl))⟩
theorem fg_X10_37_9_2 : FG RX10 37 9 2 := ⟨RX10, TX10, 10, rfl, by decide, ul_X10, (Or.inl (tg_2 120 rfl rfl))⟩
theorem fg_X10_44_9_3 : FG RX10 44 9 3 := ⟨RX10, TX10, 10, rfl, by decide, ul_X10, (Or.inl (tg_2 121 rfl rfl))⟩
theorem fg_X10_48_9_4 : FG RX10 48 9 4 := ⟨RX10, TX10, 10, rfl, by decide, ul_X10, (Or.inl (tg_2 122 rfl rfl))⟩
theorem fg_X10_51_9_5 : FG RX10 51 9 5 := ⟨RX10, TX10, 10, rfl, by decide, ul_X10, (Or.inl (tg_2 123 rfl rfl))⟩
theorem fg_X10_59_9_6 : FG RX10 59 9 6 := ⟨RX10, TX10, 10, rfl, by decide, ul_X10, (Or.inl (tg_2 124 rfl rfl))⟩
theorem fg_X10_66_9_7 : FG RX10 66 9 7 := ⟨RX10, TX10, 10, rfl, by decide, ul_X10, (Or.inl (tg_2 125 rfl rfl))⟩
theorem fg_X10_72_9_8 : FG RX10 72 9 8 := ⟨RX10, TX10, 10, rfl, by decide, ul_X10, (Or.inl (tg_2 126 rfl rfl))⟩
theorem fg_X10_81_7_1 : FG RX10 81 7 1 := ⟨RX8, TX8, 8, rfl, by decide, ul_X8, (Or.inr ⟨"WolfHalf", (List.mem_filter.mpr ⟨tm_1 (List.mem_of_getElem? (i := 132) rfl), rfl⟩)⟩)⟩
theorem fg_X10_99_8_3 : FG RX10 99 8 3 := ⟨RX9, TX9, 11, rfl, by decide, ul_X9, (Or.inr ⟨"WolfHalf", (List.mem_filter.mpr ⟨tm_1 (List.mem_of_getElem? (i := 196) rfl), rfl⟩)⟩)⟩
theorem fg_X10_103_8_0 : FG RX10 103 8 0 := ⟨RX9, TX9, 11, rfl, by decide, ul_X9, (Or.inr ⟨"WolfHalf", (List.mem_filter.mpr ⟨tm_1 (List.mem_of_getElem? (i := 189) rfl), rfl⟩)⟩)⟩
theorem fg_X10_106_5_5 : FG RX10 106 5 5 := ⟨RX5, TX5, 15, rfl, by decide, ul_X5, (Or.inr ⟨"WolfHalf", (List.mem_filter.mpr ⟨tm_1 (List.mem_of_getElem? (i := 73) rfl), rfl⟩)⟩)⟩
theorem fg_X10_109_8_4 : FG RX10 109 8 4 := ⟨RX9, TX9, 11, rfl, by decide, ul_X9, (Or.inr ⟨"WolfHalf", (List.mem_filter.mpr ⟨tm_1 (List.mem_of_getElem? (i := 198) rfl), rfl⟩)⟩)⟩
theorem fg_X10_112_8_5 : FG RX10 112 8 5 := ⟨RX9, TX9, 11, rfl, by decide, ul_X9, (Or.inr ⟨"WolfHalf", (List.mem_filter.mpr ⟨tm_1 (List.mem_of_getElem? (i := 200) rfl), rfl⟩)⟩)⟩
theorem fg_X10_122_8_8 : FG RX10 122 8 8 := ⟨RX9, TX9, 11, rfl, by decide, ul_X9, (Or.inr ⟨"WolfHalf", (List.mem_filter.mpr ⟨tm_1 (List.mem_of_getElem? (i := 207) rfl), rfl⟩)⟩)⟩
theorem fg_X10_140_8_1 : FG RX10 140 8 1 := ⟨RX9, TX9, 11, rfl, by decide, ul_X9, (Or.inr ⟨"WolfHalf", (List.mem_filter.mpr ⟨tm_1 (List.mem_of_getElem? (i := 192) rfl), rfl⟩)⟩)⟩
theorem fg_X10_154_0_3 : FG RX10 154 0 3 := ⟨RX0, TX0, 6, rfl, by decide, ul_X0, (Or.inr ⟨"WolfHalf", (List.mem_filter.mpr ⟨tm_2 (List.mem_of_getElem? (i := 7) rfl), rfl⟩)⟩)⟩
theorem fg_X10_170_0_1 : FG RX10 170 0 1 := ⟨RX0, TX0, 6, rfl, by decide, ul_X0, (Or.inr ⟨"WolfHalf", (List.mem_filter.mpr ⟨tm_2 (List.mem_of_getElem? (i := 3) rfl), rfl⟩)⟩)⟩
theorem fg_X10_173_8_7 : FG RX10 173 8 7 := ⟨RX9, TX9, 11, rfl, by decide, ul_X9, (Or.inr ⟨"WolfHalf", (List.mem_filter.mpr ⟨tm_1 (List.mem_of_getElem? (i := 204) rfl), rfl⟩)⟩)⟩
theorem fg_X10_176_8_6 : FG RX10 176 8 6 := ⟨RX9, TX9, 11, rfl, by decide, ul_X9, (Or.inr ⟨"WolfHalf", (List.mem_filter.mpr ⟨tm_1 (List.mem_of_getElem? (i := 202) rfl), rfl⟩)⟩)⟩
theorem fg_X10_209_1_11 : FG RX10 209 1 11 := ⟨RX1, TX1, 12, rfl, by decide, ul_X1, (Or.inr ⟨"WolfHalf", (List.mem_filter.mpr ⟨tm_2 (List.mem_of_getElem? (i := 36) rfl), rfl⟩)⟩)⟩
theorem fg_X10_220_0_5 : FG RX10 220 0 5 := ⟨RX0, TX0, 6, rfl, by decide, ul_X0, (Or.inr ⟨"WolfHalf", (List.mem_filter.mpr ⟨tm_2 (List.mem_of_getElem? (i := 11) rfl), rfl⟩)⟩)⟩
theorem fg_X10_223_0_2 : FG RX10 223 0 2 := ⟨RX0, TX0, 6, rfl, by decide, ul_X0, (Or.inr ⟨"WolfHalf", (List.mem_filter.mpr ⟨tm_2 (List.mem_of_getElem? (i := 5) rfl), rfl⟩)⟩)⟩
theorem fg_X10_226_5_0 : FG RX10 226 5 0 := ⟨RX5, TX5, 15, rfl, by decide, ul_X5, (Or.inr ⟨"WolfHalf", (List.mem_filter.mpr ⟨tm_1 (List.mem_of_getElem? (i := 64) rfl), rfl⟩)⟩)⟩
theorem fg_X10_240_4_2 : FG RX10 240 4 2 := ⟨RX4, TX4, 3, rfl, by decide, ul_X4, (Or.inr ⟨"WolfHalf", (List.mem_filter.mpr ⟨tm_2 (List.mem_of_getElem? (i := 110) rfl), rfl⟩)⟩)⟩
theorem fg_X10_244_4_0 : FG RX10 244 4 0 := ⟨RX4, TX4, 3, rfl, by decide, ul_X4, (Or.inr ⟨"WolfHalf", (List.mem_filter.mpr ⟨tm_2 (List.mem_of_getElem? (i := 107) rfl), rfl⟩)⟩)⟩
theorem fg_X10_251_4_1 : FG RX10 251 4 1 := ⟨RX4, TX4, 3, rfl, by decide, ul_X4, (Or.inr ⟨"WolfHalf", (List.mem_filter.mpr ⟨tm_2 (List.mem_of_getElem? (i := 109) rfl), rfl⟩)⟩)⟩
theorem fg_X10_255_5_1 : FG RX10 255 5 1 := ⟨RX5, TX5, 15, rfl, by decide, ul_X5, (Or.inr ⟨"WolfHalf", (List.mem_filter.mpr ⟨tm_1 (List.mem_of_getElem? (i := 66) rfl), rfl⟩)⟩)⟩
theorem fg_X10_261_5_2 : FG RX10 261 5 2 := ⟨RX5, TX5, 15, rfl, by decide, ul_X5, (Or.inr ⟨"WolfHalf", (List.mem_filter.mpr ⟨tm_1 (List.mem_of_getElem? (i := 68) rfl), rfl⟩)⟩)⟩
theorem fg_X10_264_0_4 : FG RX10 264 0 4 := ⟨RX0, TX0, 6, rfl, by decide, ul_X0, (Or.inr ⟨"WolfHalf", (List.mem_filter.mpr ⟨tm_2 (List.mem_of_getElem? (i := 9) rfl), rfl⟩)⟩)⟩
theorem fg_X11_1_10_0 : FG RX11 1 10 0 := ⟨RX11, TX11, 30, rfl, by decide, ul_X11, (Or.inl (tg_5 106 rfl rfl))⟩
theorem fg_X11_11_10_2 : FG RX11 11 10 2 := ⟨RX11, TX11, 30, rfl, by decide, ul_X11, (Or.inl (tg_5 108 rfl rfl))⟩
theorem fg_X11_14_10_1 : FG RX11 14 10 1 := ⟨RX11, TX11, 30, rfl, by decide, ul_X11, (Or.inl (tg_5 107 rfl rfl))⟩
theorem fg_X11_24_10_4 : FG RX11 24 10 4 := ⟨RX11, TX11, 30, rfl, by decide, ul_X11, (Or.inl (tg_5 110 rfl rfl))⟩
theorem fg_X11_27_10_5 : FG RX11 27 10 5 := ⟨RX11, TX11, 30, rfl, by decide, ul_X11, (Or.inl (tg_5 111 rfl rfl))⟩
theorem fg_X11_30_10_6 : FG RX11 30 10 6 := ⟨RX11, TX11, 30, rfl, by decide, ul_X11, (Or.inl (tg_5 112 rfl rfl))⟩
theorem fg_X11_66_10_9 : FG RX11 66 10 9 := ⟨RX11, TX11, 30, rfl, by decide, ul_X11, (Or.inl (tg_5 115 rfl rfl))⟩
theorem fg_X11_69_10_10 : FG RX11 69 10 10 := ⟨RX11, TX11, 30, rfl, by decide, ul_X11, (Or.inl (tg_5 116 rfl rfl))⟩
theorem fg_X11_72_10_11 : FG RX11 72 10 11 := ⟨RX11, TX11, 30, rfl, by decide, ul_X11, (Or.inl (tg_5 117 rfl rfl))⟩
theorem fg_X11_75_10_12 : FG RX11 75 10 12 := ⟨RX11, TX11, 30, rfl, by decide, ul_X11, (Or.inl (tg_5 118 rfl rfl))⟩
theorem fg_X11_78_10_14 : FG RX11 78 10 14 := ⟨RX11, TX11, 30, rfl, by decide, ul_X11, (Or.inl (tg_5 120 rfl rfl))⟩
theorem fg_X11_81_10_17 : FG RX11 81 10 17 := ⟨RX11, TX11, 30, rfl, by decide, ul_X11, (Or.inl (tg_5 123 rfl rfl))⟩
theorem fg_X11_84_10_18 : FG RX11 84 10 18 := ⟨RX11, TX11, 30, rfl, by decide, ul_X11, (Or.inl (tg_5 124 rfl rfl))⟩
theorem fg_X11_87_10_19 : FG RX11 87 10 19 := ⟨RX11, TX11, 30, rfl, by decide, ul_X11, (Or.inl (tg_5 125 rfl rfl))⟩
theorem fg_X11_90_10_20 : FG RX11 90 10 20 := ⟨RX11, TX11, 30, rfl, by decide, ul_X11, (Or.inl (tg_5 126 rfl rfl))⟩
theorem fg_X11_93_10_21 : FG RX11 93 10 21 := ⟨RX11, TX11, 30, rfl, by decide, ul_X11, (Or.inl (tg_5 127 rfl rfl))⟩
theorem fg_X11_96_10_22 : FG RX11 96 10 22 := ⟨RX11, TX11, 30, rfl, by decide, ul_X11, (Or.inl (tg_5 128 rfl rfl))⟩
theorem fg_X11_99_10_23 : FG RX11 99 10 23 := ⟨RX11, TX11, 30, rfl, by decide, ul_X11, (Or.inl (tg_5 129 rfl rfl))⟩
theorem fg_X11_102_10_24 : FG RX11 102 10 24 := ⟨RX11, TX11, 30, rfl, by decide, ul_X11, (Or.inl (tg_5 130 rfl rfl))⟩
theorem fg_X11_105_10_25 : FG RX11 105 10 25 := ⟨RX11, TX11, 30, rfl, by decide, ul_X11, (Or.inl (tg_5 131 rfl rfl))⟩
theorem fg_X11_109_10_27 : FG RX11 109 10 27 := ⟨RX11, TX11, 30, rfl, by decide, ul_X11, (Or.inl (tg_5 133 rfl rfl))⟩
theorem fg_X11_112_10_28 : FG RX11 112 10 28 := ⟨RX11, TX11, 30, rfl, by decide, ul_X11, (Or.inl (tg_5 134 rfl rfl))⟩
theorem fg_X11_115_10_29 : FG RX11 115 10 29 := ⟨RX11, TX11, 30, rfl, by decide, ul_X11, (Or.inl (tg_5 135 rfl rfl))⟩
theorem fg_X11_122_10_3 : FG RX11 122 10 3 := ⟨RX11, TX11, 30, rfl, by decide, ul_X11, (Or.inl (tg_5 109 rfl rfl))⟩
theorem fg_X11_141_10_7 : FG RX11 141 10 7 := ⟨RX11, TX11, 30, rfl, by decide, ul_X11, (Or.inl (tg_5 113 rfl rfl))⟩
theorem fg_X11_144_10_8 : FG RX11 144 10 8 := ⟨RX11, TX11, 30, rfl, by decide, ul_X11, (Or.inl (tg_5 114 rfl rfl))⟩
theorem fg_X11_170_10_13 : FG RX11 170 10 13 := ⟨RX11, TX11, 30, rfl, by decide, ul_X11, (Or.inl (tg_5 119 rfl rfl))⟩
theorem fg_X11_173_10_16 : FG RX11 173 10 16 := ⟨RX11, TX11, 30, rfl, by decide, ul_X11, (Or.inl (tg_5 122 rfl rfl))⟩
theorem fg_X11_217_10_15 : FG RX11 217 10 15 := ⟨RX11, TX11, 30, rfl, by decide, ul_X11, (Or.inl (tg_5 121 rfl rfl))⟩
theorem fg_X11_335_10_26 : FG RX11 335 10 26 := ⟨RX11, TX11, 30, rfl, by decide, ul_X11, (Or.inl (tg_5 132 rfl rfl))⟩
theorem fg_X2_11_2_10 : FG RX2 11 2 10 := ⟨RX2, TX2, 12, rfl, by decide, ul_X2, (Or.inl (tg_2 78 rfl rfl))⟩
theorem fg_X2_15_2_11 : FG RX2 15 2 11 := ⟨RX2, TX2, 12, rfl, by decide, ul_X2, (Or.inl (tg_2 79 rfl rfl))⟩
theorem fg_X2_26_8_8 : FG RX2 26 8 8 := ⟨RX9, TX9, 11, rfl, by decide, ul_X9, (Or.inr ⟨"WolfHalf", (List.mem_filter.mpr ⟨tm_1 (List.mem_of_getElem? (i := 206) rfl), rfl⟩)⟩)⟩
theorem fg_X3_13_3_0 : FG RX3 13 3 0 := ⟨RX3, TX3, 5, rfl, by decide, ul_X3, (Or.inl (tg_1 41 rfl rfl))⟩
theorem fg_X3_17_3_1 : FG RX3 17 3 1 := ⟨RX3, TX3, 5, rfl, by decide, ul_X3, (Or.inl (tg_1 42 rfl rfl))⟩
theorem fg_X3_20_3_2 : FG RX3 20 3 2 := ⟨RX3, TX3, 5, rfl, by decide, ul_X3, (Or.inl (tg_1 43 rfl rfl))⟩
theorem fg_X3_23_3_3 : FG RX3 23 3 3 := ⟨RX3, TX3, 5, rfl, by decide, ul_X3, (Or.inl (tg_1 44 rfl rfl))⟩
theorem fg_X3_26_3_4 : FG RX3 26 3 4 := ⟨RX3, TX3, 5, rfl, by decide, ul_X3, (Or.inl (tg_1 45 rfl rfl))⟩
theorem fg_X5_9_5_3 : FG RX5 9 5 3 := ⟨RX5, TX5, 15, rfl, by decide, ul_X5, (Or.inl (tg_1 69 rfl rfl))⟩
theorem fg_X5_15_5_4 : FG RX5 15 5 4 := ⟨RX5, TX5, 15, rfl, by decide, ul_X5, (Or.inl (tg_1 70 rfl rfl))⟩
theorem fg_X5_19_5_5 : FG RX5 19 5 5 := ⟨RX5, TX5, 15, rfl, by decide, ul_X5, (Or.inl (tg_1 72 rfl rfl))⟩
theorem fg_X5_22_5_6 : FG RX5 22 5 6 := ⟨RX5, TX5, 15, rfl, by decide, ul_X5, (Or.inl (tg_1 75 rfl rfl))⟩
theorem fg_X5_25_5_7 : FG RX5 25 5 7 := ⟨RX5, TX5, 15, rfl, by decide, ul_X5, (Or.inl (tg_1 77 rfl rfl))⟩
theorem fg_X5_28_5_8 : FG RX5 28 5 8 := ⟨RX5, TX5, 15, rfl, by decide, ul_X5, (Or.inl (tg_1 79 rfl rfl))⟩
theorem fg_X5_31_5_9 : FG RX5 31 5 9 := ⟨RX5, TX5, 15, rfl, by decide, ul_X5, (Or.inl (tg_1 81 rfl rfl))⟩
theorem fg_X5_34_5_10 : FG RX5 34 5 10 := ⟨RX5, TX5, 15, rfl, by decide, ul_X5, (Or.inl (tg_1 83 rfl rfl))⟩
theorem fg_X5_37_5_11 : FG RX5 37 5 11 := ⟨RX5, TX5, 15, rfl, by decide, ul_X5, (Or.inl (tg_1 86 rfl rfl))⟩
theorem fg_X5_43_5_13 : FG RX5 43 5 13 := ⟨RX5, TX5, 15, rfl, by decide, ul_X5, (Or.inl (tg_1 89 rfl rfl))⟩
theorem fg_X5_47_5_14 : FG RX5 47 5 14 := ⟨RX5, TX5, 15, rfl, by decide, ul_X5, (Or.inl (tg_1 91 rfl rfl))⟩
theorem fg_X5_50_5_0 : FG RX5 50 5 0 := ⟨RX5, TX5, 15, rfl, by decide, ul_X5, (Or.inl (tg_1 60 rfl rfl))⟩
theorem fg_X5_54_5_1 : FG RX5 54 5 1 := ⟨RX5, TX5, 15, rfl, by decide, ul_X5, (Or.inl (tg_1 65 rfl rfl))⟩
theorem fg_X5_57_5_2 : FG RX5 57 5 2 := ⟨RX5, TX5, 15, rfl, by decide, ul_X5, (Or.inl (tg_1 67 rfl rfl))⟩
theorem fg_X5_60_5_12 : FG RX5 60 5 12 := ⟨RX5, TX5, 15, rfl, by decide, ul_X5, (Or.inl (tg_1 87 rfl rfl))⟩
theorem fg_X6_9_1_0 : FG RX6 9 1 0 := ⟨RX1, TX1, 12, rfl, by decide, ul_X1, (Or.inl (tg_2 37 rfl rfl))⟩
theorem fg_X6_9_2_0 : FG RX6 9 2 0 := ⟨RX2, TX2, 12, rfl, by decide, ul_X2, (Or.inl (tg_2 37 rfl rfl))⟩
theorem fg_X6_15_1_1 : FG RX6 15 1 1 := ⟨RX1, TX1, 12, rfl, by decide, ul_X1, (Or.inl (tg_2 38 rfl rfl))⟩
theorem fg_X6_15_2_1 : FG RX6 15 2 1 := ⟨RX2, TX2, 12, rfl, by decide, ul_X2, (Or.inl (tg_2 38 rfl rfl))⟩
theorem fg_X6_18_1_2 : FG RX6 18 1 2 := ⟨RX1, TX1, 12, rfl, by decide, ul_X1, (Or.inl (tg_2 39 rfl rfl))⟩
theorem fg_X6_18_2_2 : FG RX6 18 2 2 := ⟨RX2, TX2, 12, rfl, by decide, ul_X2, (Or.inl (tg_2 39 rfl rfl))⟩
theorem fg_X6_22_1_3 : FG RX6 22 1 3 := ⟨RX1, TX1, 12, rfl, by decide, ul_X1, (Or.inl (tg_2 40 rfl rfl))⟩
theorem fg_X6_22_2_3 : FG RX6 22 2 3 := ⟨RX2, TX2, 12, rfl, by decide, ul_X2, (Or.inl (tg_2 40 rfl rfl))⟩
theorem fg_X6_26_1_4 : FG RX6 26 1 4 := ⟨RX1, TX1, 12, rfl, by decide, ul_X1, (Or.inl (tg_2 41 rfl rfl))⟩
theorem fg_X6_26_2_4 : FG RX6 26 2 4 := ⟨RX2, TX2, 12, rfl, by decide, ul_X2, (Or.inl (tg_2 41 rfl rfl))⟩
theorem fg_X6_30_1_5 : FG RX6 30 1 5 := ⟨RX1, TX1, 12, rfl, by decide, ul_X1, (Or.inl (tg_2 42 rfl rfl))⟩
theorem fg_X6_30_2_5 : FG RX6 30 2 5 := ⟨RX2, TX2, 12, rfl, by decide, ul_X2, (Or.inl (tg_2 42 rfl rfl))⟩
theorem fg_X6_33_1_6 : FG RX6 33 1 6 := ⟨RX1, TX1, 12, rfl, by decide, ul_X1, (Or.inl (tg_2 43 rfl rfl))⟩
theorem fg_X6_33_2_6 : FG RX6 33 2 6 := ⟨RX2, TX2, 12, rfl, by decide, ul_X2, (Or.inl (tg_2 43 rfl rfl))⟩
theorem fg_X6_36_1_9 : FG RX6 36 1 9 := ⟨RX1, TX1, 12, rfl, by decide, ul_X1, (Or.inl (tg_2 46 rfl rfl))⟩
theorem fg_X6_36_2_9 : FG RX6 36 2 9 := ⟨RX2, TX2, 12, rfl, by decide, ul_X2, (Or.inl (tg_2 46 rfl rfl))⟩
theorem fg_X6_39_1_8 : FG RX6 39 1 8 := ⟨RX1, TX1, 12, rfl, by decide, ul_X1, (Or.inl (tg_2 45 rfl rfl))⟩
theorem fg_X6_39_2_8 : FG RX6 39 2 8 := ⟨RX2, TX2, 12, rfl, by decide, ul_X2, (Or.inl (tg_2 45 rfl rfl))⟩
theorem fg_X6_46_8_0 : FG RX6 46 8 0 := ⟨RX9, TX9, 11, rfl, by decide, ul_X9, (Or.inr ⟨"WolfHalf", (List.mem_filter.mpr ⟨tm_1 (List.mem_of_getElem? (i := 190) rfl), rfl⟩)⟩)⟩
theorem fg_X6_52_5_0 : FG RX6 52 5 0 := ⟨RX5, TX5, 15, rfl, by decide, ul_X5, (Or.inr ⟨"WolfHalf", (List.mem_filter.mpr ⟨tm_1 (List.mem_of_getElem? (i := 63) rfl), rfl⟩)⟩)⟩
theorem fg_X6_55_1_7 : FG RX6 55 1 7 := ⟨RX1, TX1, 12, rfl, by decide, ul_X1, (Or.inl (tg_2 44 rfl rfl))⟩
theorem fg_X6_55_2_7 : FG RX6 55 2 7 := ⟨RX2, TX2, 12, rfl, by decide, ul_X2, (Or.inl (tg_2 44 rfl rfl))⟩
theorem fg_X7_9_6_0 : FG RX7 9 6 0 := ⟨RX7, TX7, 4, rfl, by decide, ul_X7, (Or.inl (tg_1 169 rfl rfl))⟩
theorem fg_X7_15_6_1 : FG RX7 15 6 1 := ⟨RX7, TX7, 4, rfl, by decide, ul_X7, (Or.inl (tg_1 170 rfl rfl))⟩
theorem fg_X7_19_5_13 : FG RX7 19 5 13 := ⟨RX5, TX5, 15, rfl, by decide, ul_X5, (Or.inr ⟨"WolfHalf", (List.mem_filter.mpr ⟨tm_1 (List.mem_of_getElem? (i := 88) rfl), rfl⟩)⟩)⟩
theorem fg_X7_25_6_2 : FG RX7 25 6 2 := ⟨RX7, TX7, 4, rfl, by decide, ul_X7, (Or.inl (tg_1 171 rfl rfl))⟩
theorem fg_X7_31_6_3 : FG RX7 31 6 3 := ⟨RX7, TX7, 4, rfl, by decide, ul_X7, (Or.inl (tg_1 172 rfl rfl))⟩
theorem fg_X7_40_7_7 : FG RX7 40 7 7 := ⟨RX8, TX8, 8, rfl, by decide, ul_X8, (Or.inr ⟨"WolfHalf", (List.mem_filter.mpr ⟨tm_1 (List.mem_of_getElem? (i := 143) rfl), rfl⟩)⟩)⟩
theorem fg_X7_47_3_4 : FG RX7 47 3 4 := ⟨RX3, TX3, 5, rfl, by decide, ul_X3, (Or.inr ⟨"WolfHalf", (List.mem_filter.mpr ⟨tm_1 (List.mem_of_getElem? (i := 46) rfl), rfl⟩)⟩)⟩
theorem fg_X7_56_5_14 : FG RX7 56 5 14 := ⟨RX5, TX5, 15, rfl, by decide, ul_X5, (Or.inr ⟨"WolfHalf", (List.mem_filter.mpr ⟨tm_1 (List.mem_of_getElem? (i := 92) rfl), rfl⟩)⟩)⟩
theorem fg_X7_62_7_4 : FG RX7 62 7 4 := ⟨RX8, TX8, 8, rfl, by decide, ul_X8, (Or.inr ⟨"WolfHalf", (List.mem_filter.mpr ⟨tm_1 (List.mem_of_getElem? (i := 137) rfl), rfl⟩)⟩)⟩
theorem fg_X7_103_5_0 : FG RX7 103 5 0 := ⟨RX5, TX5, 15, rfl, by decide, ul_X5, (Or.inr ⟨"WolfHalf", (List.mem_filter.mpr ⟨tm_1 (List.mem_of_getElem? (i := 61) rfl), rfl⟩)⟩)⟩
theorem fg_X7_157_5_10 : FG RX7 157 5 10 := ⟨RX5, TX5, 15, rfl, by decide, ul_X5, (Or.inr ⟨"WolfHalf", (List.mem_filter.mpr ⟨tm_1 (List.mem_of_getElem? (i := 85) rfl), rfl⟩)⟩)⟩
theorem fg_X7_168_7_5 : FG RX7 168 7 5 := ⟨RX8, TX8, 8, rfl, by decide, ul_X8, (Or.inr ⟨"WolfHalf", (List.mem_filter.mpr ⟨tm_1 (List.mem_of_getElem? (i := 140) rfl), rfl⟩)⟩)⟩
theorem fg_X7_194_7_6 : FG RX7 194 7 6 := ⟨RX8, TX8, 8, rfl, by decide, ul_X8, (Or.inr ⟨"WolfHalf", (List.mem_filter.mpr ⟨tm_1 (List.mem_of_getElem? (i := 142) rfl), rfl⟩)⟩)⟩
theorem fg_X7_222_7_3 : FG RX7 222 7 3 := ⟨RX8, TX8, 8, rfl, by decide, ul_X8, (Or.inr ⟨"WolfHalf", (List.mem_filter.mpr ⟨tm_1 (List.mem_of_getElem? (i := 136) rfl), rfl⟩)⟩)⟩
theorem fg_X8_11_7_0 : FG RX8 11 7 0 := ⟨RX8, TX8, 8, rfl, by decide, ul_X8, (Or.inl (tg_1 131 rfl rfl))⟩
theorem fg_X8_15_7_1 : FG RX8 15 7 1 := ⟨RX8, TX8, 8, rfl, by decide, ul_X8, (Or.inl (tg_1 133 rfl rfl))⟩
theorem fg_X8_19_7_2 : FG RX8 19 7 2 := ⟨RX8, TX8, 8, rfl, by decide, ul_X8, (Or.inl (tg_1 134 rfl rfl))⟩
theorem fg_X8_25_7_3 : FG RX8 25 7 3 := ⟨RX8, TX8, 8, rfl, by decide, ul_X8, (Or.inl (tg_1 135 rfl rfl))⟩
theorem fg_X8_32_7_4 : FG RX8 32 7 4 := ⟨RX8, TX8, 8, rfl, by decide, ul_X8, (Or.inl (tg_1 138 rfl rfl))⟩
theorem fg_X9_9_8_3 : FG RX9 9 8 3 := ⟨RX9, TX9, 11, rfl, by decide, ul_X9, (Or.inl (tg_1 195 rfl rfl))⟩
theorem fg_X9_15_8_4 : FG RX9 15 8 4 := ⟨RX9, TX9, 11, rfl, by decide, ul_X9, (Or.inl (tg_1 197 rfl rfl))⟩
theorem fg_X9_18_8_5 : FG RX9 18 8 5 := ⟨RX9, TX9, 11, rfl, by decide, ul_X9, (Or.inl (tg_1 199 rfl rfl))⟩
theorem fg_X9_21_8_6 : FG RX9 21 8 6 := ⟨RX9, TX9, 11, rfl, by decide, ul_X9, (Or.inl (tg_1 201 rfl rfl))⟩
theorem fg_X9_24_8_7 : FG RX9 24 8 7 := ⟨RX9, TX9, 11, rfl, by decide, ul_X9, (Or.inl (tg_1 203 rfl rfl))⟩
theorem fg_X9_27_8_8 : FG RX9 27 8 8 := ⟨RX9, TX9, 11, rfl, by decide, ul_X9, (Or.inl (tg_1 205 rfl rfl))⟩
theorem fg_X9_30_8_9 : FG RX9 30 8 9 := ⟨RX9, TX9, 11, rfl, by decide, ul_X9, (Or.inl (tg_1 208 rfl rfl))⟩
theorem fg_X9_33_8_10 : FG RX9 33 8 10 := ⟨RX9, TX9, 11, rfl, by decide, ul_X9, (Or.inl (tg_1 210 rfl rfl))⟩
theorem fg_X9_36_8_0 : FG RX9 36 8 0 := ⟨RX9, TX9, 11, rfl, by decide, ul_X9, (Or.inl (tg_1 188 rfl rfl))⟩
theorem fg_X9_40_8_1 : FG RX9 40 8 1 := ⟨RX9, TX9, 11, rfl, by decide, ul_X9, (Or.inl (tg_1 191 rfl rfl))⟩
theorem fg_X9_44_8_2 : FG RX9 44 8 2 := ⟨RX9, TX9, 11, rfl, by decide, ul_X9, (Or.inl (tg_1 193 rfl rfl))⟩
theorem fg_X9_48_5_4 : FG RX9 48 5 4 := ⟨RX5, TX5, 15, rfl, by decide, ul_X5, (Or.inr ⟨"WolfHalf", (List.mem_filter.mpr ⟨tm_1 (List.mem_of_getElem? (i := 71) rfl), rfl⟩)⟩)⟩
theorem fg_X9_57_5_6 : FG RX9 57 5 6 := ⟨RX5, TX5, 15, rfl, by decide, ul_X5, (Or.inr ⟨"WolfHalf", (List.mem_filter.mpr ⟨tm_1 (List.mem_of_getElem? (i := 76) rfl), rfl⟩)⟩)⟩
theorem fg_X9_58_5_9 : FG RX9 58 5 9 := ⟨RX5, TX5, 15, rfl, by decide, ul_X5, (Or.inr ⟨"WolfHalf", (List.mem_filter.mpr ⟨tm_1 (List.mem_of_getElem? (i := 82) rfl), rfl⟩)⟩)⟩
theorem fg_X9_65_5_10 : FG RX9 65 5 10 := ⟨RX5, TX5, 15, rfl, by decide, ul_X5, (Or.inr ⟨"WolfHalf", (List.mem_filter.mpr ⟨tm_1 (List.mem_of_getElem? (i := 84) rfl), rfl⟩)⟩)⟩
theorem fg_X9_68_5_7 : FG RX9 68 5 7 := ⟨RX5, TX5, 15, rfl, by decide, ul_X5, (Or.inr ⟨"WolfHalf", (List.mem_filter.mpr ⟨tm_1 (List.mem_of_getElem? (i := 78) rfl), rfl⟩)⟩)⟩
theorem fg_X9_71_5_0 : FG RX9 71 5 0 := ⟨RX5, TX5, 15, rfl, by decide, ul_X5, (Or.inr ⟨"WolfHalf", (List.mem_filter.mpr ⟨tm_1 (List.mem_of_getElem? (i := 62) rfl), rfl⟩)⟩)⟩
theorem fg_X9_114_5_5 : FG RX9 114 5 5 := ⟨RX5, TX5, 15, rfl, by decide, ul_X5, (Or.inr ⟨"WolfHalf", (List.mem_filter.mpr ⟨tm_1 (List.mem_of_getElem? (i := 74) rfl), rfl⟩)⟩)⟩
theorem fg_X9_117_5_13 : FG RX9 117 5 13 := ⟨RX5, TX5, 15, rfl, by decide, ul_X5, (Or.inr ⟨"WolfHalf", (List.mem_filter.mpr ⟨tm_1 (List.mem_of_getElem? (i := 90) rfl), rfl⟩)⟩)⟩
theorem fg_X9_138_5_8 : FG RX9 138 5 8 := ⟨RX5, TX5, 15, rfl, by decide, ul_X5, (Or.inr ⟨"WolfHalf", (List.mem_filter.mpr ⟨tm_1 (List.mem_of_getElem? (i := 80) rfl), rfl⟩)⟩)⟩
theorem fg_X9_141_5_14 : FG RX9 141 5 14 := ⟨RX5, TX5, 15, rfl, by decide, ul_X5, (Or.inr ⟨"WolfHalf", (List.mem_filter.mpr ⟨tm_1 (List.mem_of_getElem? (i := 93) rfl), rfl⟩)⟩)⟩
theorem fp_X0_21_0_3 : FP RX0 21 0 3 .int := ⟨RX0, TX0, 6, tyX0, rfl, by decide, ul_X0, (Or.inl (tg_2 6 rfl rfl)), tyX0_ok, nmX0, rfl, by decide +kernel⟩
theorem fp_X0_25_0_4 : FP RX0 25 0 4 .int := ⟨RX0, TX0, 6, tyX0, rfl, by decide, ul_X0, (Or.inl (tg_2 8 rfl rfl)), tyX0_ok, nmX0, rfl, by decide +kernel⟩
theorem fp_X0_28_0_5 : FP RX0 28 0 5 .int := ⟨RX0, TX0, 6, tyX0, rfl, by decide, ul_X0, (Or.inl (tg_2 10 rfl rfl)), tyX0_ok, nmX0, rfl, by decide +kernel⟩
theorem fp_X1_37_1_11 : FP RX1 37 1 11 .int := ⟨RX1, TX1, 12, tyX1, rfl, by decide, ul_X1, (Or.inl (tg_2 35 rfl rfl)), tyX1_ok, nmX1, rfl, by decide +kernel⟩
theorem fp_X10_19_9_9 : FP RX10 19 9 9 (.object "WolfHalf$Mountain") := ⟨RX10, TX10, 10, tyX10, rfl, by decide, ul_X10, (Or.inl (tg_2 127 rfl rfl)), tyX10_ok, nmX10, rfl, by decide +kernel⟩
theorem fp_X10_129_8_2 : FP RX10 129 8 2 .long := ⟨RX9, TX9, 11, tyX9, rfl, by decide, ul_X9, (Or.inr ⟨"WolfHalf", (List.mem_filter.mpr ⟨tm_1 (List.mem_of_getElem? (i := 194) rfl), rfl⟩)⟩), tyX9_ok, nmX9, rfl, by decide +kernel⟩
theorem fp_X10_220_0_5 : FP RX10 220 0 5 .int := ⟨RX0, TX0, 6, tyX0, rfl, by decide, ul_X0, (Or.inr ⟨"WolfHalf", (List.mem_filter.mpr ⟨tm_2 (List.mem_of_getElem? (i := 11) rfl), rfl⟩)⟩), tyX0_ok, nmX0, rfl, by decide +kernel⟩
theorem fp_X10_240_4_2 : FP RX10 240 4 2 .boolean := ⟨RX4, TX4, 3, tyX4, rfl, by decide, ul_X4, (Or.inr ⟨"WolfHalf", (List.mem_filter.mpr ⟨tm_2 (List.mem_of_getElem? (i := 110) rfl), rfl⟩)⟩), tyX4_ok, nmX4, rfl, by decide +kernel⟩
theorem fp_X11_1_10_0 : FP RX11 1 10 0 .int := ⟨RX11, TX11, 30, tyX11, rfl, by decide, ul_X11, (Or.inl (tg_5 106 rfl rfl)), tyX11_ok, nmX11, rfl, by decide +kernel⟩
theorem fp_X11_11_10_2 : FP RX11 11 10 2 .int := ⟨RX11, TX11, 30, tyX11, rfl, by decide, ul_X11, (Or.inl (tg_5 108 rfl rfl)), tyX11_ok, nmX11, rfl, by decide +kernel⟩
theorem fp_X11_93_10_21 : FP RX11 93 10 21 .int := ⟨RX11, TX11, 30, tyX11, rfl, by decide, ul_X11, (Or.inl (tg_5 127 rfl rfl)), tyX11_ok, nmX11, rfl, by decide +kernel⟩
theorem fp_X11_122_10_3 : FP RX11 122 10 3 .int := ⟨RX11, TX11, 30, tyX11, rfl, by decide, ul_X11, (Or.inl (tg_5 109 rfl rfl)), tyX11_ok, nmX11, rfl, by decide +kernel⟩
theorem fp_X11_141_10_7 : FP RX11 141 10 7 .int := ⟨RX11, TX11, 30, tyX11, rfl, by decide, ul_X11, (Or.inl (tg_5 113 rfl rfl)), tyX11_ok, nmX11, rfl, by decide +kernel⟩
theorem fp_X11_144_10_8 : FP RX11 144 10 8 .int := ⟨RX11, TX11, 30, tyX11, rfl, by decide, ul_X11, (Or.inl (tg_5 114 rfl rfl)), tyX11_ok, nmX11, rfl, by decide +kernel⟩
theorem fp_X11_170_10_13 : FP RX11 170 10 13 .int := ⟨RX11, TX11, 30, tyX11, rfl, by decide, ul_X11, (Or.inl (tg_5 119 rfl rfl)), tyX11_ok, nmX11, rfl, by decide +kernel⟩
theorem fp_X11_173_10_16 : FP RX11 173 10 16 .int := ⟨RX11, TX11, 30, tyX11, rfl, by decide, ul_X11, (Or.inl (tg_5 122 rfl rfl)), tyX11_ok, nmX11, rfl, by decide +kernel⟩
theorem fp_X11_217_10_15 : FP RX11 217 10 15 .boolean := ⟨RX11, TX11, 30, tyX11, rfl, by decide, ul_X11, (Or.inl (tg_5 121 rfl rfl)), tyX11_ok, nmX11, rfl, by decide +kernel⟩
theorem fp_X11_335_10_26 : FP RX11 335 10 26 .int := ⟨RX11, TX11, 30, tyX11, rfl, by decide, ul_X11, (Or.inl (tg_5 132 rfl rfl)), tyX11_ok, nmX11, rfl, by decide +kernel⟩
theorem fp_X3_26_3_4 : FP RX3 26 3 4 .int := ⟨RX3, TX3, 5, tyX3, rfl, by decide, ul_X3, (Or.inl (tg_1 45 rfl rfl)), tyX3_ok, nmX3, rfl, by decide +kernel⟩
theorem fp_X5_50_5_0 : FP RX5 50 5 0 .int := ⟨RX5, TX5, 15, tyX5, rfl, by decide, ul_X5, (Or.inl (tg_1 60 rfl rfl)), tyX5_ok, nmX5, rfl, by decide +kernel⟩
theorem fp_X5_54_5_1 : FP RX5 54 5 1 .int := ⟨RX5, TX5, 15, tyX5, rfl, by decide, ul_X5, (Or.inl (tg_1 65 rfl rfl)), tyX5_ok, nmX5, rfl, by decide +kernel⟩
theorem fp_X5_57_5_2 : FP RX5 57 5 2 .int := ⟨RX5, TX5, 15, tyX5, rfl, by decide, ul_X5, (Or.inl (tg_1 67 rfl rfl)), tyX5_ok, nmX5, rfl, by decide +kernel⟩
theorem fp_X5_60_5_12 : FP RX5 60 5 12 .int := ⟨RX5, TX5, 15, tyX5, rfl, by decide, ul_X5, (Or.inl (tg_1 87 rfl rfl)), tyX5_ok, nmX5, rfl, by decide +kernel⟩
theorem fp_X6_36_1_9 : FP RX6 36 1 9 .int := ⟨RX1, TX1, 12, tyX1, rfl, by decide, ul_X1, (Or.inl (tg_2 46 rfl rfl)), tyX1_ok, nmX1, rfl, by decide +kernel⟩
theorem fp_X6_36_2_9 : FP RX6 36 2 9 .int := ⟨RX2, TX2, 12, tyX2, rfl, by decide, ul_X2, (Or.inl (tg_2 46 rfl rfl)), tyX2_ok, nmX2, rfl, by decide +kernel⟩
theorem fp_X6_39_1_8 : FP RX6 39 1 8 .int := ⟨RX1, TX1, 12, tyX1, rfl, by decide, ul_X1, (Or.inl (tg_2 45 rfl rfl)), tyX1_ok, nmX1, rfl, by decide +kernel⟩
theorem fp_X6_39_2_8 : FP RX6 39 2 8 .int := ⟨RX2, TX2, 12, tyX2, rfl, by decide, ul_X2, (Or.inl (tg_2 45 rfl rfl)), tyX2_ok, nmX2, rfl, by decide +kernel⟩
theorem fp_X6_55_1_7 : FP RX6 55 1 7 .int := ⟨RX1, TX1, 12, tyX1, rfl, by decide, ul_X1, (Or.inl (tg_2 44 rfl rfl)), tyX1_ok, nmX1, rfl, by decide +kernel⟩
theorem fp_X6_55_2_7 : FP RX6 55 2 7 .int := ⟨RX2, TX2, 12, tyX2, rfl, by decide, ul_X2, (Or.inl (tg_2 44 rfl rfl)), tyX2_ok, nmX2, rfl, by decide +kernel⟩
theorem fp_X7_15_6_1 : FP RX7 15 6 1 (.object "WolfHalf$Mountain") := ⟨RX7, TX7, 4, tyX7, rfl, by decide, ul_X7, (Or.inl (tg_1 170 rfl rfl)), tyX7_ok, nmX7, rfl, by decide +kernel⟩
theorem fp_X7_25_6_2 : FP RX7 25 6 2 (.object "WolfHalf$Law") := ⟨RX7, TX7, 4, tyX7, rfl, by decide, ul_X7, (Or.inl (tg_1 171 rfl rfl)), tyX7_ok, nmX7, rfl, by decide +kernel⟩
theorem fp_X7_31_6_3 : FP RX7 31 6 3 .int := ⟨RX7, TX7, 4, tyX7, rfl, by decide, ul_X7, (Or.inl (tg_1 172 rfl rfl)), tyX7_ok, nmX7, rfl, by decide +kernel⟩
theorem fp_X8_15_7_1 : FP RX8 15 7 1 .int := ⟨RX8, TX8, 8, tyX8, rfl, by decide, ul_X8, (Or.inl (tg_1 133 rfl rfl)), tyX8_ok, nmX8, rfl, by decide +kernel⟩
theorem fp_X8_19_7_2 : FP RX8 19 7 2 .int := ⟨RX8, TX8, 8, tyX8, rfl, by decide, ul_X8, (Or.inl (tg_1 134 rfl rfl)), tyX8_ok, nmX8, rfl, by decide +kernel⟩
theorem fp_X8_25_7_3 : FP RX8 25 7 3 .int := ⟨RX8, TX8, 8, tyX8, rfl, by decide, ul_X8, (Or.inl (tg_1 135 rfl rfl)), tyX8_ok, nmX8, rfl, by decide +kernel⟩
theorem fp_X8_28_7_7 : FP RX8 28 7 7 .boolean := ⟨RX8, TX8, 8, tyX8, rfl, by decide, ul_X8, (Or.inl (tg_1 144 rfl rfl)), tyX8_ok, nmX8, rfl, by decide +kernel⟩
theorem fp_X8_32_7_4 : FP RX8 32 7 4 .long := ⟨RX8, TX8, 8, tyX8, rfl, by decide, ul_X8, (Or.inl (tg_1 138 rfl rfl)), tyX8_ok, nmX8, rfl, by decide +kernel⟩
theorem fp_X8_36_7_5 : FP RX8 36 7 5 .int := ⟨RX8, TX8, 8, tyX8, rfl, by decide, ul_X8, (Or.inl (tg_1 139 rfl rfl)), tyX8_ok, nmX8, rfl, by decide +kernel⟩
theorem fp_X8_39_7_6 : FP RX8 39 7 6 .char := ⟨RX8, TX8, 8, tyX8, rfl, by decide, ul_X8, (Or.inl (tg_1 141 rfl rfl)), tyX8_ok, nmX8, rfl, by decide +kernel⟩
theorem fp_X9_36_8_0 : FP RX9 36 8 0 (.object "WolfHalf$Mountain") := ⟨RX9, TX9, 11, tyX9, rfl, by decide, ul_X9, (Or.inl (tg_1 188 rfl rfl)), tyX9_ok, nmX9, rfl, by decide +kernel⟩
theorem fp_X9_40_8_1 : FP RX9 40 8 1 .int := ⟨RX9, TX9, 11, tyX9, rfl, by decide, ul_X9, (Or.inl (tg_1 191 rfl rfl)), tyX9_ok, nmX9, rfl, by decide +kernel⟩
theorem fp_X9_44_8_2 : FP RX9 44 8 2 .long := ⟨RX9, TX9, 11, tyX9, rfl, by decide, ul_X9, (Or.inl (tg_1 193 rfl rfl)), tyX9_ok, nmX9, rfl, by decide +kernel⟩
theorem ct_J6_265 : Cond.constant RJ6 265 (1431655765) ∈ TT := (tg_3 199 rfl rfl)
theorem ct_J6_266 : Cond.constant RJ6 266 (858993459) ∈ TT := (tg_3 200 rfl rfl)
theorem ct_J6_267 : Cond.constant RJ6 267 (252645135) ∈ TT := (tg_3 201 rfl rfl)
theorem cl_X11_125 : Cond.constantLong RX11 125 (37) ∈ TT := (tg_5 209 rfl rfl)
theorem cl_X11_134 : Cond.constantLong RX11 134 (10) ∈ TT := (tg_5 216 rfl rfl)
theorem cl_X11_136 : Cond.constantLong RX11 136 (48) ∈ TT := (tg_5 217 rfl rfl)
theorem cl_X11_258 : Cond.constantLong RX11 258 (1103515245) ∈ TT := (tg_6 167 rfl rfl)
theorem cl_X11_260 : Cond.constantLong RX11 260 (12345) ∈ TT := (tg_6 168 rfl rfl)
theorem cl_X11_262 : Cond.constantLong RX11 262 (2147483648) ∈ TT := (tg_6 169 rfl rfl)
theorem cl_X11_264 : Cond.constantLong RX11 264 (65536) ∈ TT := (tg_6 170 rfl rfl)
theorem cl_X7_66 : Cond.constantLong RX7 66 (1717662317) ∈ TT := (tg_2 188 rfl rfl)
theorem cl_X7_71 : Cond.constantLong RX7 71 (439788397413) ∈ TT := (tg_2 226 rfl rfl)
theorem cl_X7_76 : Cond.constantLong RX7 76 (1885430644) ∈ TT := (tg_3 3 rfl rfl)
theorem cl_X7_81 : Cond.constantLong RX7 81 (495672455781) ∈ TT := (tg_3 16 rfl rfl)
theorem cl_X7_86 : Cond.constantLong RX7 86 (500085781608) ∈ TT := (tg_3 25 rfl rfl)
theorem cl_X7_91 : Cond.constantLong RX7 91 (1717921124) ∈ TT := (tg_3 42 rfl rfl)
theorem cl_X7_97 : Cond.constantLong RX7 97 (26479) ∈ TT := (tg_3 97 rfl rfl)
theorem cl_X7_117 : Cond.constantLong RX7 117 (439905903467) ∈ TT := (tg_2 207 rfl rfl)
theorem cl_X7_126 : Cond.constantLong RX7 126 (1685022579) ∈ TT := (tg_2 216 rfl rfl)
theorem cl_X7_128 : Cond.constantLong RX7 128 (2003790950) ∈ TT := (tg_2 217 rfl rfl)
theorem cl_X7_183 : Cond.constantLong RX7 183 (6385252) ∈ TT := (tg_3 95 rfl rfl)
theorem cl_X7_185 : Cond.constantLong RX7 185 (28530) ∈ TT := (tg_3 96 rfl rfl)
theorem cl_X7_207 : Cond.constantLong RX7 207 (7237492) ∈ TT := (tg_3 74 rfl rfl)
theorem cl_X7_212 : Cond.constantLong RX7 212 (114853572732274) ∈ TT := (tg_3 71 rfl rfl)
theorem cl_X7_214 : Cond.constantLong RX7 214 (474214787188) ∈ TT := (tg_3 72 rfl rfl)
theorem cl_X7_216 : Cond.constantLong RX7 216 (1818583406) ∈ TT := (tg_3 73 rfl rfl)
theorem cl_X9_147 : Cond.constantLong RX9 147 (1103515245) ∈ TT := (tg_3 206 rfl rfl)
theorem cl_X9_149 : Cond.constantLong RX9 149 (12345) ∈ TT := (tg_3 207 rfl rfl)
theorem cl_X9_151 : Cond.constantLong RX9 151 (2147483648) ∈ TT := (tg_3 208 rfl rfl)
theorem cl_X9_153 : Cond.constantLong RX9 153 (65536) ∈ TT := (tg_3 209 rfl rfl)
theorem sn_X7_218 : Cond.fieldLink RX7 218 "WolfHalf$Reader" "NO_NAMES" "[J" ∈ TT := (tg_2 201 rfl rfl)
theorem ff_X0_31 : CFS RX0 31 yJ7_fill_53178 cJ7_fill_53178 4 none 2 := ⟨(List.forall_mem_cons.mpr ⟨(tg_3 118 rfl rfl), (List.forall_mem_cons.mpr ⟨(tg_2 174 rfl rfl), (List.forall_mem_cons.mpr ⟨(tg_1 13 rfl rfl), (List.forall_mem_cons.mpr ⟨(tg_2 175 rfl rfl), (fun _ h => absurd h List.not_mem_nil)⟩)⟩)⟩)⟩), by decide +kernel, by decide +kernel⟩
theorem cp_X0_37 : Cond.methodLink RX0 37 arraycopyName ∈ TT ∧ Cond.native arraycopyName ∈ TT ∧ Cond.static arraycopyName ∈ TT ∧ Cond.initialized "java/lang/System" ∈ TT := ⟨(tg_4 217 rfl rfl), (tg_3 112 rfl rfl), (tg_3 111 rfl rfl), (tg_1 14 rfl rfl)⟩
theorem cu_X1_15_X1 : CFU RX1 15 RX1 "WolfHalf$Outlook" ⟨"WolfHalf$Game", "farms", "()I"⟩ yX6_farms cX6_farms 1 (some .int) 0 := ⟨(List.forall_mem_cons.mpr ⟨(tg_4 53 rfl rfl), (List.forall_mem_cons.mpr ⟨(tg_4 54 rfl rfl), (List.forall_mem_cons.mpr ⟨(tg_4 56 rfl rfl), (List.forall_mem_cons.mpr ⟨(tg_4 57 rfl rfl), (List.forall_mem_cons.mpr ⟨(tg_1 8 rfl rfl), (List.forall_mem_cons.mpr ⟨(tg_4 58 rfl rfl), (fun _ h => absurd h List.not_mem_nil)⟩)⟩)⟩)⟩)⟩)⟩), Or.inl rfl, by decide +kernel, by decide +kernel⟩
theorem cf_X1_19 : CFV RX1 19 yX1_rows cX1_rows 1 (some .int) 0 := ⟨(List.forall_mem_cons.mpr ⟨(tg_4 49 rfl rfl), (List.forall_mem_cons.mpr ⟨(tg_4 50 rfl rfl), (List.forall_mem_cons.mpr ⟨(tg_4 51 rfl rfl), (List.forall_mem_cons.mpr ⟨(tg_1 9 rfl rfl), (List.forall_mem_cons.mpr ⟨(tg_4 52 rfl rfl), (fun _ h => absurd h List.not_mem_nil)⟩)⟩)⟩)⟩)⟩), by decide +kernel, by decide +kernel⟩
theorem cf_X1_27 : CFV RX1 27 yX1_answer cX1_answer 8 (some .int) 2 := ⟨(List.forall_mem_cons.mpr ⟨(tg_4 122 rfl rfl), (List.forall_mem_cons.mpr ⟨(tg_4 124 rfl rfl), (List.forall_mem_cons.mpr ⟨(tg_0 33 rfl rfl), (List.forall_mem_cons.mpr ⟨(tg_1 9 rfl rfl), (List.forall_mem_cons.mpr ⟨(tg_4 125 rfl rfl), (fun _ h => absurd h List.not_mem_nil)⟩)⟩)⟩)⟩)⟩), by decide +kernel, by decide +kernel⟩
theorem ff_X1_31 : CFS RX1 31 yJ7_fill_53178 cJ7_fill_53178 4 none 2 := ⟨(List.forall_mem_cons.mpr ⟨(tg_4 163 rfl rfl), (List.forall_mem_cons.mpr ⟨(tg_2 174 rfl rfl), (List.forall_mem_cons.mpr ⟨(tg_1 13 rfl rfl), (List.forall_mem_cons.mpr ⟨(tg_2 175 rfl rfl), (fun _ h => absurd h List.not_mem_nil)⟩)⟩)⟩)⟩), by decide +kernel, by decide +kernel⟩
theorem cf_X1_41 : CFS RX1 41 yX1_withLevel cX1_withLevel 3 (some .int) 3 := ⟨(List.forall_mem_cons.mpr ⟨(tg_4 127 rfl rfl), (List.forall_mem_cons.mpr ⟨(tg_4 128 rfl rfl), (List.forall_mem_cons.mpr ⟨(tg_1 9 rfl rfl), (List.forall_mem_cons.mpr ⟨(tg_4 129 rfl rfl), (fun _ h => absurd h List.not_mem_nil)⟩)⟩)⟩)⟩), by decide +kernel, by decide +kernel⟩
theorem cu_X1_45_X1 : CFU RX1 45 RX1 "WolfHalf$Outlook" ⟨"WolfHalf$Game", "lookAt", "(I)V"⟩ yX6_lookAt cX6_lookAt 3 none 1 := ⟨(List.forall_mem_cons.mpr ⟨(tg_4 164 rfl rfl), (List.forall_mem_cons.mpr ⟨(tg_4 60 rfl rfl), (List.forall_mem_cons.mpr ⟨(tg_4 62 rfl rfl), (List.forall_mem_cons.mpr ⟨(tg_4 63 rfl rfl), (List.forall_mem_cons.mpr ⟨(tg_1 8 rfl rfl), (List.forall_mem_cons.mpr ⟨(tg_4 64 rfl rfl), (fun _ h => absurd h List.not_mem_nil)⟩)⟩)⟩)⟩)⟩)⟩), Or.inl rfl, by decide +kernel, by decide +kernel⟩
theorem cu_X1_49_X1 : CFU RX1 49 RX1 "WolfHalf$Outlook" ⟨"WolfHalf$Game", "lossIn", "(II)I"⟩ yX6_lossIn cX6_lossIn 4 (some .int) 2 := ⟨(List.forall_mem_cons.mpr ⟨(tg_4 126 rfl rfl), (List.forall_mem_cons.mpr ⟨(tg_4 85 rfl rfl), (List.forall_mem_cons.mpr ⟨(tg_4 87 rfl rfl), (List.forall_mem_cons.mpr ⟨(tg_4 88 rfl rfl), (List.forall_mem_cons.mpr ⟨(tg_1 8 rfl rfl), (List.forall_mem_cons.mpr ⟨(tg_4 89 rfl rfl), (fun _ h => absurd h List.not_mem_nil)⟩)⟩)⟩)⟩)⟩)⟩), Or.inl rfl, by decide +kernel, by decide +kernel⟩
theorem cf_X10_115 : CFV RX10 115 yX9_homeOf cX9_homeOf 4 (some .int) 1 := ⟨(List.forall_mem_cons.mpr ⟨(tg_3 140 rfl rfl), (List.forall_mem_cons.mpr ⟨(tg_3 141 rfl rfl), (List.forall_mem_cons.mpr ⟨(tg_3 142 rfl rfl), (List.forall_mem_cons.mpr ⟨(tg_1 6 rfl rfl), (List.forall_mem_cons.mpr ⟨(tg_3 143 rfl rfl), (fun _ h => absurd h List.not_mem_nil)⟩)⟩)⟩)⟩)⟩), by decide +kernel, by decide +kernel⟩
theorem cf_X10_119 : CFV RX10 119 yX9_neighboursOf cX9_neighboursOf 2 (some .int) 1 := ⟨(List.forall_mem_cons.mpr ⟨(tg_3 144 rfl rfl), (List.forall_mem_cons.mpr ⟨(tg_3 145 rfl rfl), (List.forall_mem_cons.mpr ⟨(tg_3 146 rfl rfl), (List.forall_mem_cons.mpr ⟨(tg_1 6 rfl rfl), (List.forall_mem_cons.mpr ⟨(tg_3 147 rfl rfl), (fun _ h => absurd h List.not_mem_nil)⟩)⟩)⟩)⟩)⟩), by decide +kernel, by decide +kernel⟩
theorem cf_X10_125 : CFV RX10 125 yX5_oftenBites cX5_oftenBites 3 (some .int) 2 := ⟨(List.forall_mem_cons.mpr ⟨(tg_3 152 rfl rfl), (List.forall_mem_cons.mpr ⟨(tg_3 153 rfl rfl), (List.forall_mem_cons.mpr ⟨(tg_3 154 rfl rfl), (List.forall_mem_cons.mpr ⟨(tg_1 2 rfl rfl), (List.forall_mem_cons.mpr ⟨(tg_3 155 rfl rfl), (fun _ h => absurd h List.not_mem_nil)⟩)⟩)⟩)⟩)⟩), by decide +kernel, by decide +kernel⟩
theorem cf_X10_133 : CFV RX10 133 yX10_forgetAhead cX10_forgetAhead 1 none 0 := ⟨(List.forall_mem_cons.mpr ⟨(tg_3 119 rfl rfl), (List.forall_mem_cons.mpr ⟨(tg_3 121 rfl rfl), (List.forall_mem_cons.mpr ⟨(tg_0 21 rfl rfl), (List.forall_mem_cons.mpr ⟨(tg_1 1 rfl rfl), (List.forall_mem_cons.mpr ⟨(tg_3 122 rfl rfl), (fun _ h => absurd h List.not_mem_nil)⟩)⟩)⟩)⟩)⟩), by decide +kernel, by decide +kernel⟩
theorem cf_X10_136 : CFV RX10 136 yX9_run cX9_run 5 none 2 := ⟨(List.forall_mem_cons.mpr ⟨(tg_3 164 rfl rfl), (List.forall_mem_cons.mpr ⟨(tg_3 165 rfl rfl), (List.forall_mem_cons.mpr ⟨(tg_3 166 rfl rfl), (List.forall_mem_cons.mpr ⟨(tg_1 6 rfl rfl), (List.forall_mem_cons.mpr ⟨(tg_3 167 rfl rfl), (fun _ h => absurd h List.not_mem_nil)⟩)⟩)⟩)⟩)⟩), by decide +kernel, by decide +kernel⟩
theorem cf_X10_143 : CFV RX10 143 yX10_isPair cX10_isPair 3 (some .boolean) 2 := ⟨(List.forall_mem_cons.mpr ⟨(tg_3 230 rfl rfl), (List.forall_mem_cons.mpr ⟨(tg_3 232 rfl rfl), (List.forall_mem_cons.mpr ⟨(tg_0 30 rfl rfl), (List.forall_mem_cons.mpr ⟨(tg_1 1 rfl rfl), (List.forall_mem_cons.mpr ⟨(tg_3 233 rfl rfl), (fun _ h => absurd h List.not_mem_nil)⟩)⟩)⟩)⟩)⟩), by decide +kernel, by decide +kernel⟩
theorem cf_X10_147 : CFV RX10 147 yX9_havePact cX9_havePact 3 (some .boolean) 2 := ⟨(List.forall_mem_cons.mpr ⟨(tg_3 234 rfl rfl), (List.forall_mem_cons.mpr ⟨(tg_3 235 rfl rfl), (List.forall_mem_cons.mpr ⟨(tg_3 236 rfl rfl), (List.forall_mem_cons.mpr ⟨(tg_1 6 rfl rfl), (List.forall_mem_cons.mpr ⟨(tg_3 237 rfl rfl), (fun _ h => absurd h List.not_mem_nil)⟩)⟩)⟩)⟩)⟩), by decide +kernel, by decide +kernel⟩
theorem cf_X10_150 : CFV RX10 150 yX9_turnPact cX9_turnPact 3 none 2 := ⟨(List.forall_mem_cons.mpr ⟨(tg_3 238 rfl rfl), (List.forall_mem_cons.mpr ⟨(tg_3 239 rfl rfl), (List.forall_mem_cons.mpr ⟨(tg_4 0 rfl rfl), (List.forall_mem_cons.mpr ⟨(tg_1 6 rfl rfl), (List.forall_mem_cons.mpr ⟨(tg_4 1 rfl rfl), (fun _ h => absurd h List.not_mem_nil)⟩)⟩)⟩)⟩)⟩), by decide +kernel, by decide +kernel⟩
theorem cf_X10_179 : CFS RX10 179 yX10_isAhead cX10_isAhead 1 (some .boolean) 1 := ⟨(List.forall_mem_cons.mpr ⟨(tg_4 18 rfl rfl), (List.forall_mem_cons.mpr ⟨(tg_4 19 rfl rfl), (List.forall_mem_cons.mpr ⟨(tg_1 1 rfl rfl), (List.forall_mem_cons.mpr ⟨(tg_4 20 rfl rfl), (fun _ h => absurd h List.not_mem_nil)⟩)⟩)⟩)⟩), by decide +kernel, by decide +kernel⟩
theorem cf_X10_182 : CFV RX10 182 yX10_lossIf cX10_lossIf 4 (some .int) 3 := ⟨(List.forall_mem_cons.mpr ⟨(tg_4 21 rfl rfl), (List.forall_mem_cons.mpr ⟨(tg_4 23 rfl rfl), (List.forall_mem_cons.mpr ⟨(tg_0 31 rfl rfl), (List.forall_mem_cons.mpr ⟨(tg_1 1 rfl rfl), (List.forall_mem_cons.mpr ⟨(tg_4 24 rfl rfl), (fun _ h => absurd h List.not_mem_nil)⟩)⟩)⟩)⟩)⟩), by decide +kernel, by decide +kernel⟩
theorem cu_X10_186_X1 : CFU RX10 186 RX1 "WolfHalf$Outlook" ⟨"WolfHalf$Game", "isReady", "(I)Z"⟩ yX6_isReady cX6_isReady 2 (some .boolean) 1 := ⟨(List.forall_mem_cons.mpr ⟨(tg_4 37 rfl rfl), (List.forall_mem_cons.mpr ⟨(tg_4 38 rfl rfl), (List.forall_mem_cons.mpr ⟨(tg_4 40 rfl rfl), (List.forall_mem_cons.mpr ⟨(tg_4 41 rfl rfl), (List.forall_mem_cons.mpr ⟨(tg_1 8 rfl rfl), (List.forall_mem_cons.mpr ⟨(tg_4 42 rfl rfl), (fun _ h => absurd h List.not_mem_nil)⟩)⟩)⟩)⟩)⟩)⟩), Or.inl rfl, by decide +kernel, by decide +kernel⟩
theorem cf_X10_189 : CFV RX10 189 yX1_isRow cX1_isRow 2 (some .boolean) 1 := ⟨(List.forall_mem_cons.mpr ⟨(tg_4 45 rfl rfl), (List.forall_mem_cons.mpr ⟨(tg_4 46 rfl rfl), (List.forall_mem_cons.mpr ⟨(tg_4 47 rfl rfl), (List.forall_mem_cons.mpr ⟨(tg_1 9 rfl rfl), (List.forall_mem_cons.mpr ⟨(tg_4 48 rfl rfl), (fun _ h => absurd h List.not_mem_nil)⟩)⟩)⟩)⟩)⟩), by decide +kernel, by decide +kernel⟩
theorem cu_X10_192_X1 : CFU RX10 192 RX1 "WolfHalf$Outlook" ⟨"WolfHalf$Game", "lookAt", "(I)V"⟩ yX6_lookAt cX6_lookAt 3 none 1 := ⟨(List.forall_mem_cons.mpr ⟨(tg_4 59 rfl rfl), (List.forall_mem_cons.mpr ⟨(tg_4 60 rfl rfl), (List.forall_mem_cons.mpr ⟨(tg_4 62 rfl rfl), (List.forall_mem_cons.mpr ⟨(tg_4 63 rfl rfl), (List.forall_mem_cons.mpr ⟨(tg_1 8 rfl rfl), (List.forall_mem_cons.mpr ⟨(tg_4 64 rfl rfl), (fun _ h => absurd h List.not_mem_nil)⟩)⟩)⟩)⟩)⟩)⟩), Or.inl rfl, by decide +kernel, by decide +kernel⟩
theorem cu_X10_196_X1 : CFU RX10 196 RX1 "WolfHalf$Outlook" ⟨"WolfHalf$Game", "lossIn", "(II)I"⟩ yX6_lossIn cX6_lossIn 4 (some .int) 2 := ⟨(List.forall_mem_cons.mpr ⟨(tg_4 84 rfl rfl), (List.forall_mem_cons.mpr ⟨(tg_4 85 rfl rfl), (List.forall_mem_cons.mpr ⟨(tg_4 87 rfl rfl), (List.forall_mem_cons.mpr ⟨(tg_4 88 rfl rfl), (List.forall_mem_cons.mpr ⟨(tg_1 8 rfl rfl), (List.forall_mem_cons.mpr ⟨(tg_4 89 rfl rfl), (fun _ h => absurd h List.not_mem_nil)⟩)⟩)⟩)⟩)⟩)⟩), Or.inl rfl, by decide +kernel, by decide +kernel⟩
theorem cu_X10_199_X1 : CFU RX10 199 RX1 "WolfHalf$Outlook" ⟨"WolfHalf$Game", "findAll", "()I"⟩ yX6_findAll cX6_findAll 3 (some .int) 0 := ⟨(List.forall_mem_cons.mpr ⟨(tg_4 94 rfl rfl), (List.forall_mem_cons.mpr ⟨(tg_4 95 rfl rfl), (List.forall_mem_cons.mpr ⟨(tg_4 97 rfl rfl), (List.forall_mem_cons.mpr ⟨(tg_4 98 rfl rfl), (List.forall_mem_cons.mpr ⟨(tg_1 8 rfl rfl), (List.forall_mem_cons.mpr ⟨(tg_4 99 rfl rfl), (fun _ h => absurd h List.not_mem_nil)⟩)⟩)⟩)⟩)⟩)⟩), Or.inl rfl, by decide +kernel, by decide +kernel⟩
theorem cu_X10_203_X1 : CFU RX10 203 RX1 "WolfHalf$Outlook" ⟨"WolfHalf$Game", "foundAt", "(I)I"⟩ yX6_foundAt cX6_foundAt 2 (some .int) 1 := ⟨(List.forall_mem_cons.mpr ⟨(tg_4 149 rfl rfl), (List.forall_mem_cons.mpr ⟨(tg_4 150 rfl rfl), (List.forall_mem_cons.mpr ⟨(tg_4 152 rfl rfl), (List.forall_mem_cons.mpr ⟨(tg_4 153 rfl rfl), (List.forall_mem_cons.mpr ⟨(tg_1 8 rfl rfl), (List.forall_mem_cons.mpr ⟨(tg_4 154 rfl rfl), (fun _ h => absurd h List.not_mem_nil)⟩)⟩)⟩)⟩)⟩)⟩), Or.inl rfl, by decide +kernel, by decide +kernel⟩
theorem cf_X10_206 : CFV RX10 206 yX1_playFrom cX1_playFrom 7 (some .int) 1 := ⟨(List.forall_mem_cons.mpr ⟨(tg_4 159 rfl rfl), (List.forall_mem_cons.mpr ⟨(tg_4 160 rfl rfl), (List.forall_mem_cons.mpr ⟨(tg_4 161 rfl rfl), (List.forall_mem_cons.mpr ⟨(tg_1 9 rfl rfl), (List.forall_mem_cons.mpr ⟨(tg_4 162 rfl rfl), (fun _ h => absurd h List.not_mem_nil)⟩)⟩)⟩)⟩)⟩), by decide +kernel, by decide +kernel⟩
theorem cu_X10_212_X2 : CFU RX10 212 RX2 "WolfHalf$Outlook" ⟨"WolfHalf$Joined", "isReady", "(I)Z"⟩ yX6_isReady cX6_isReady 2 (some .boolean) 1 := ⟨(List.forall_mem_cons.mpr ⟨(tg_4 169 rfl rfl), (List.forall_mem_cons.mpr ⟨(tg_4 170 rfl rfl), (List.forall_mem_cons.mpr ⟨(tg_4 171 rfl rfl), (List.forall_mem_cons.mpr ⟨(tg_4 41 rfl rfl), (List.forall_mem_cons.mpr ⟨(tg_1 8 rfl rfl), (List.forall_mem_cons.mpr ⟨(tg_4 42 rfl rfl), (fun _ h => absurd h List.not_mem_nil)⟩)⟩)⟩)⟩)⟩)⟩), Or.inl rfl, by decide +kernel, by decide +kernel⟩
theorem cu_X10_213_X2 : CFU RX10 213 RX2 "WolfHalf$Outlook" ⟨"WolfHalf$Joined", "findAll", "()I"⟩ yX6_findAll cX6_findAll 3 (some .int) 0 := ⟨(List.forall_mem_cons.mpr ⟨(tg_4 172 rfl rfl), (List.forall_mem_cons.mpr ⟨(tg_4 173 rfl rfl), (List.forall_mem_cons.mpr ⟨(tg_4 174 rfl rfl), (List.forall_mem_cons.mpr ⟨(tg_4 98 rfl rfl), (List.forall_mem_cons.mpr ⟨(tg_1 8 rfl rfl), (List.forall_mem_cons.mpr ⟨(tg_4 99 rfl rfl), (fun _ h => absurd h List.not_mem_nil)⟩)⟩)⟩)⟩)⟩)⟩), Or.inl rfl, by decide +kernel, by decide +kernel⟩
theorem cu_X10_214_X2 : CFU RX10 214 RX2 "WolfHalf$Outlook" ⟨"WolfHalf$Joined", "foundAt", "(I)I"⟩ yX6_foundAt cX6_foundAt 2 (some .int) 1 := ⟨(List.forall_mem_cons.mpr ⟨(tg_4 179 rfl rfl), (List.forall_mem_cons.mpr ⟨(tg_4 180 rfl rfl), (List.forall_mem_cons.mpr ⟨(tg_4 181 rfl rfl), (List.forall_mem_cons.mpr ⟨(tg_4 153 rfl rfl), (List.forall_mem_cons.mpr ⟨(tg_1 8 rfl rfl), (List.forall_mem_cons.mpr ⟨(tg_4 154 rfl rfl), (fun _ h => absurd h List.not_mem_nil)⟩)⟩)⟩)⟩)⟩)⟩), Or.inl rfl, by decide +kernel, by decide +kernel⟩
theorem cf_X10_215 : CFV RX10 215 yX2_groupIn cX2_groupIn 3 (some .int) 2 := ⟨(List.forall_mem_cons.mpr ⟨(tg_4 182 rfl rfl), (List.forall_mem_cons.mpr ⟨(tg_4 183 rfl rfl), (List.forall_mem_cons.mpr ⟨(tg_4 184 rfl rfl), (List.forall_mem_cons.mpr ⟨(tg_1 10 rfl rfl), (List.forall_mem_cons.mpr ⟨(tg_4 185 rfl rfl), (fun _ h => absurd h List.not_mem_nil)⟩)⟩)⟩)⟩)⟩), by decide +kernel, by decide +kernel⟩
theorem cf_X10_229 : CFV RX10 229 yX10_oddsOf cX10_oddsOf 4 (some .int) 1 := ⟨(List.forall_mem_cons.mpr ⟨(tg_4 194 rfl rfl), (List.forall_mem_cons.mpr ⟨(tg_4 196 rfl rfl), (List.forall_mem_cons.mpr ⟨(tg_0 36 rfl rfl), (List.forall_mem_cons.mpr ⟨(tg_1 1 rfl rfl), (List.forall_mem_cons.mpr ⟨(tg_4 197 rfl rfl), (fun _ h => absurd h List.not_mem_nil)⟩)⟩)⟩)⟩)⟩), by decide +kernel, by decide +kernel⟩
theorem cf_X10_232 : CFS RX10 232 yX10_inLowestTerms cX10_inLowestTerms 5 (some .int) 3 := ⟨(List.forall_mem_cons.mpr ⟨(tg_4 198 rfl rfl), (List.forall_mem_cons.mpr ⟨(tg_4 199 rfl rfl), (List.forall_mem_cons.mpr ⟨(tg_1 1 rfl rfl), (List.forall_mem_cons.mpr ⟨(tg_4 200 rfl rfl), (fun _ h => absurd h List.not_mem_nil)⟩)⟩)⟩)⟩), by decide +kernel, by decide +kernel⟩
theorem cf_X10_235 : CFS RX10 235 yJ6_bitCount_0f7a4 cJ6_bitCount_0f7a4 1 (some .int) 1 := ⟨(List.forall_mem_cons.mpr ⟨(tg_4 208 rfl rfl), (List.forall_mem_cons.mpr ⟨(tg_3 197 rfl rfl), (List.forall_mem_cons.mpr ⟨(tg_1 16 rfl rfl), (List.forall_mem_cons.mpr ⟨(tg_3 198 rfl rfl), (fun _ h => absurd h List.not_mem_nil)⟩)⟩)⟩)⟩), by decide +kernel, by decide +kernel⟩
theorem cf_X10_247 : CFV RX10 247 yX9_copyFrom cX9_copyFrom 2 none 1 := ⟨(List.forall_mem_cons.mpr ⟨(tg_4 25 rfl rfl), (List.forall_mem_cons.mpr ⟨(tg_4 26 rfl rfl), (List.forall_mem_cons.mpr ⟨(tg_4 27 rfl rfl), (List.forall_mem_cons.mpr ⟨(tg_1 6 rfl rfl), (List.forall_mem_cons.mpr ⟨(tg_4 28 rfl rfl), (fun _ h => absurd h List.not_mem_nil)⟩)⟩)⟩)⟩)⟩), by decide +kernel, by decide +kernel⟩
theorem cf_X10_252 : CFV RX10 252 yX0_copyFrom cX0_copyFrom 2 none 1 := ⟨(List.forall_mem_cons.mpr ⟨(tg_4 213 rfl rfl), (List.forall_mem_cons.mpr ⟨(tg_4 214 rfl rfl), (List.forall_mem_cons.mpr ⟨(tg_4 215 rfl rfl), (List.forall_mem_cons.mpr ⟨(tg_1 7 rfl rfl), (List.forall_mem_cons.mpr ⟨(tg_4 216 rfl rfl), (fun _ h => absurd h List.not_mem_nil)⟩)⟩)⟩)⟩)⟩), by decide +kernel, by decide +kernel⟩
theorem cf_X10_258 : CFV RX10 258 yX9_pactsInAll cX9_pactsInAll 3 (some .int) 0 := ⟨(List.forall_mem_cons.mpr ⟨(tg_4 222 rfl rfl), (List.forall_mem_cons.mpr ⟨(tg_4 223 rfl rfl), (List.forall_mem_cons.mpr ⟨(tg_4 224 rfl rfl), (List.forall_mem_cons.mpr ⟨(tg_1 6 rfl rfl), (List.forall_mem_cons.mpr ⟨(tg_4 225 rfl rfl), (fun _ h => absurd h List.not_mem_nil)⟩)⟩)⟩)⟩)⟩), by decide +kernel, by decide +kernel⟩
theorem cf_X10_267 : CFV RX10 267 yX9_begin cX9_begin 2 none 1 := ⟨(List.forall_mem_cons.mpr ⟨(tg_3 106 rfl rfl), (List.forall_mem_cons.mpr ⟨(tg_3 107 rfl rfl), (List.forall_mem_cons.mpr ⟨(tg_3 108 rfl rfl), (List.forall_mem_cons.mpr ⟨(tg_1 6 rfl rfl), (List.forall_mem_cons.mpr ⟨(tg_3 109 rfl rfl), (fun _ h => absurd h List.not_mem_nil)⟩)⟩)⟩)⟩)⟩), by decide +kernel, by decide +kernel⟩
theorem cf_X10_270 : CFV RX10 270 yX0_clear cX0_clear 1 none 0 := ⟨(List.forall_mem_cons.mpr ⟨(tg_3 114 rfl rfl), (List.forall_mem_cons.mpr ⟨(tg_3 115 rfl rfl), (List.forall_mem_cons.mpr ⟨(tg_3 116 rfl rfl), (List.forall_mem_cons.mpr ⟨(tg_1 7 rfl rfl), (List.forall_mem_cons.mpr ⟨(tg_3 117 rfl rfl), (fun _ h => absurd h List.not_mem_nil)⟩)⟩)⟩)⟩)⟩), by decide +kernel, by decide +kernel⟩
theorem cu_X10_271_X1 : CFU RX10 271 RX1 "WolfHalf$Outlook" ⟨"WolfHalf$Game", "forget", "()V"⟩ yX6_forget cX6_forget 1 none 0 := ⟨(List.forall_mem_cons.mpr ⟨(tg_3 123 rfl rfl), (List.forall_mem_cons.mpr ⟨(tg_3 124 rfl rfl), (List.forall_mem_cons.mpr ⟨(tg_3 126 rfl rfl), (List.forall_mem_cons.mpr ⟨(tg_3 127 rfl rfl), (List.forall_mem_cons.mpr ⟨(tg_1 8 rfl rfl), (List.forall_mem_cons.mpr ⟨(tg_3 128 rfl rfl), (fun _ h => absurd h List.not_mem_nil)⟩)⟩)⟩)⟩)⟩)⟩), Or.inl rfl, by decide +kernel, by decide +kernel⟩
theorem cu_X10_274_X2 : CFU RX10 274 RX2 "WolfHalf$Outlook" ⟨"WolfHalf$Joined", "forget", "()V"⟩ yX6_forget cX6_forget 1 none 0 := ⟨(List.forall_mem_cons.mpr ⟨(tg_3 129 rfl rfl), (List.forall_mem_cons.mpr ⟨(tg_3 130 rfl rfl), (List.forall_mem_cons.mpr ⟨(tg_3 131 rfl rfl), (List.forall_mem_cons.mpr ⟨(tg_3 127 rfl rfl), (List.forall_mem_cons.mpr ⟨(tg_1 8 rfl rfl), (List.forall_mem_cons.mpr ⟨(tg_3 128 rfl rfl), (fun _ h => absurd h List.not_mem_nil)⟩)⟩)⟩)⟩)⟩)⟩), Or.inl rfl, by decide +kernel, by decide +kernel⟩
theorem cf_X10_275 : CFV RX10 275 yX9_goneFrom cX9_goneFrom 2 (some .int) 1 := ⟨(List.forall_mem_cons.mpr ⟨(tg_4 29 rfl rfl), (List.forall_mem_cons.mpr ⟨(tg_4 30 rfl rfl), (List.forall_mem_cons.mpr ⟨(tg_4 31 rfl rfl), (List.forall_mem_cons.mpr ⟨(tg_1 6 rfl rfl), (List.forall_mem_cons.mpr ⟨(tg_4 32 rfl rfl), (fun _ h => absurd h List.not_mem_nil)⟩)⟩)⟩)⟩)⟩), by decide +kernel, by decide +kernel⟩
theorem cf_X10_278 : CFS RX10 278 yX10_greatestDivisor cX10_greatestDivisor 6 (some .int) 2 := ⟨(List.forall_mem_cons.mpr ⟨(tg_4 201 rfl rfl), (List.forall_mem_cons.mpr ⟨(tg_4 202 rfl rfl), (List.forall_mem_cons.mpr ⟨(tg_1 1 rfl rfl), (List.forall_mem_cons.mpr ⟨(tg_4 203 rfl rfl), (fun _ h => absurd h List.not_mem_nil)⟩)⟩)⟩)⟩), by decide +kernel, by decide +kernel⟩
theorem cf_X10_77 : CFV RX10 77 yX8_put cX8_put 6 none 1 := ⟨(List.forall_mem_cons.mpr ⟨(tg_2 153 rfl rfl), (List.forall_mem_cons.mpr ⟨(tg_2 154 rfl rfl), (List.forall_mem_cons.mpr ⟨(tg_2 155 rfl rfl), (List.forall_mem_cons.mpr ⟨(tg_1 4 rfl rfl), (List.forall_mem_cons.mpr ⟨(tg_2 156 rfl rfl), (fun _ h => absurd h List.not_mem_nil)⟩)⟩)⟩)⟩)⟩), by decide +kernel, by decide +kernel⟩
theorem cf_X10_85 : CFV RX10 85 yX7_read cX7_read 3 (some .int) 1 := ⟨(List.forall_mem_cons.mpr ⟨(tg_2 161 rfl rfl), (List.forall_mem_cons.mpr ⟨(tg_2 162 rfl rfl), (List.forall_mem_cons.mpr ⟨(tg_2 163 rfl rfl), (List.forall_mem_cons.mpr ⟨(tg_1 5 rfl rfl), (List.forall_mem_cons.mpr ⟨(tg_2 164 rfl rfl), (fun _ h => absurd h List.not_mem_nil)⟩)⟩)⟩)⟩)⟩), by decide +kernel, by decide +kernel⟩
theorem cf_X10_89 : CFV RX10 89 yX8_clear cX8_clear 1 none 0 := ⟨(List.forall_mem_cons.mpr ⟨(tg_3 98 rfl rfl), (List.forall_mem_cons.mpr ⟨(tg_3 99 rfl rfl), (List.forall_mem_cons.mpr ⟨(tg_3 100 rfl rfl), (List.forall_mem_cons.mpr ⟨(tg_1 4 rfl rfl), (List.forall_mem_cons.mpr ⟨(tg_3 101 rfl rfl), (fun _ h => absurd h List.not_mem_nil)⟩)⟩)⟩)⟩)⟩), by decide +kernel, by decide +kernel⟩
theorem cf_X10_92 : CFV RX10 92 yX10_settle cX10_settle 3 none 0 := ⟨(List.forall_mem_cons.mpr ⟨(tg_3 102 rfl rfl), (List.forall_mem_cons.mpr ⟨(tg_3 104 rfl rfl), (List.forall_mem_cons.mpr ⟨(tg_0 20 rfl rfl), (List.forall_mem_cons.mpr ⟨(tg_1 1 rfl rfl), (List.forall_mem_cons.mpr ⟨(tg_3 105 rfl rfl), (fun _ h => absurd h List.not_mem_nil)⟩)⟩)⟩)⟩)⟩), by decide +kernel, by decide +kernel⟩
theorem cf_X10_95 : CFV RX10 95 yX10_isFarm cX10_isFarm 2 (some .boolean) 1 := ⟨(List.forall_mem_cons.mpr ⟨(tg_3 136 rfl rfl), (List.forall_mem_cons.mpr ⟨(tg_3 138 rfl rfl), (List.forall_mem_cons.mpr ⟨(tg_0 22 rfl rfl), (List.forall_mem_cons.mpr ⟨(tg_1 1 rfl rfl), (List.forall_mem_cons.mpr ⟨(tg_3 139 rfl rfl), (fun _ h => absurd h List.not_mem_nil)⟩)⟩)⟩)⟩)⟩), by decide +kernel, by decide +kernel⟩
theorem cf_X11_118 : CFS RX11 118 yX11_isLetter cX11_isLetter 1 (some .boolean) 1 := ⟨(List.forall_mem_cons.mpr ⟨(tg_5 206 rfl rfl), (List.forall_mem_cons.mpr ⟨(tg_5 207 rfl rfl), (List.forall_mem_cons.mpr ⟨(tg_1 12 rfl rfl), (List.forall_mem_cons.mpr ⟨(tg_5 208 rfl rfl), (fun _ h => absurd h List.not_mem_nil)⟩)⟩)⟩)⟩), by decide +kernel, by decide +kernel⟩
theorem cf_X11_127 : CFS RX11 127 yX11_rank cX11_rank 1 (some .int) 1 := ⟨(List.forall_mem_cons.mpr ⟨(tg_5 210 rfl rfl), (List.forall_mem_cons.mpr ⟨(tg_5 211 rfl rfl), (List.forall_mem_cons.mpr ⟨(tg_1 12 rfl rfl), (List.forall_mem_cons.mpr ⟨(tg_5 212 rfl rfl), (fun _ h => absurd h List.not_mem_nil)⟩)⟩)⟩)⟩), by decide +kernel, by decide +kernel⟩
theorem cf_X11_131 : CFS RX11 131 yX11_isDigit cX11_isDigit 1 (some .boolean) 1 := ⟨(List.forall_mem_cons.mpr ⟨(tg_5 213 rfl rfl), (List.forall_mem_cons.mpr ⟨(tg_5 214 rfl rfl), (List.forall_mem_cons.mpr ⟨(tg_1 12 rfl rfl), (List.forall_mem_cons.mpr ⟨(tg_5 215 rfl rfl), (fun _ h => absurd h List.not_mem_nil)⟩)⟩)⟩)⟩), by decide +kernel, by decide +kernel⟩
theorem cf_X11_138 : CFS RX11 138 yX11_isSignOf cX11_isSignOf 1 (some .boolean) 1 := ⟨(List.forall_mem_cons.mpr ⟨(tg_5 218 rfl rfl), (List.forall_mem_cons.mpr ⟨(tg_5 219 rfl rfl), (List.forall_mem_cons.mpr ⟨(tg_1 12 rfl rfl), (List.forall_mem_cons.mpr ⟨(tg_5 220 rfl rfl), (fun _ h => absurd h List.not_mem_nil)⟩)⟩)⟩)⟩), by decide +kernel, by decide +kernel⟩
theorem cf_X11_147 : CFV RX11 147 yX11_isSign cX11_isSign 2 (some .boolean) 1 := ⟨(List.forall_mem_cons.mpr ⟨(tg_6 65 rfl rfl), (List.forall_mem_cons.mpr ⟨(tg_6 67 rfl rfl), (List.forall_mem_cons.mpr ⟨(tg_0 61 rfl rfl), (List.forall_mem_cons.mpr ⟨(tg_1 12 rfl rfl), (List.forall_mem_cons.mpr ⟨(tg_6 68 rfl rfl), (fun _ h => absurd h List.not_mem_nil)⟩)⟩)⟩)⟩)⟩), by decide +kernel, by decide +kernel⟩
theorem cf_X11_150 : CFV RX11 150 yX11_wrong cX11_wrong 2 none 1 := ⟨(List.forall_mem_cons.mpr ⟨(tg_5 233 rfl rfl), (List.forall_mem_cons.mpr ⟨(tg_5 235 rfl rfl), (List.forall_mem_cons.mpr ⟨(tg_0 43 rfl rfl), (List.forall_mem_cons.mpr ⟨(tg_1 12 rfl rfl), (List.forall_mem_cons.mpr ⟨(tg_5 236 rfl rfl), (fun _ h => absurd h List.not_mem_nil)⟩)⟩)⟩)⟩)⟩), by decide +kernel, by decide +kernel⟩
theorem cf_X11_154 : CFV RX11 154 yX11_isWord cX11_isWord 2 (some .boolean) 1 := ⟨(List.forall_mem_cons.mpr ⟨(tg_5 225 rfl rfl), (List.forall_mem_cons.mpr ⟨(tg_5 227 rfl rfl), (List.forall_mem_cons.mpr ⟨(tg_0 41 rfl rfl), (List.forall_mem_cons.mpr ⟨(tg_1 12 rfl rfl), (List.forall_mem_cons.mpr ⟨(tg_5 228 rfl rfl), (fun _ h => absurd h List.not_mem_nil)⟩)⟩)⟩)⟩)⟩), by decide +kernel, by decide +kernel⟩
theorem cf_X11_157 : CFV RX11 157 yX11_hasWord cX11_hasWord 3 (some .boolean) 1 := ⟨(List.forall_mem_cons.mpr ⟨(tg_6 9 rfl rfl), (List.forall_mem_cons.mpr ⟨(tg_6 11 rfl rfl), (List.forall_mem_cons.mpr ⟨(tg_0 47 rfl rfl), (List.forall_mem_cons.mpr ⟨(tg_1 12 rfl rfl), (List.forall_mem_cons.mpr ⟨(tg_6 12 rfl rfl), (fun _ h => absurd h List.not_mem_nil)⟩)⟩)⟩)⟩)⟩), by decide +kernel, by decide +kernel⟩
theorem cf_X11_160 : CFV RX11 160 yX11_takeWord cX11_takeWord 2 none 1 := ⟨(List.forall_mem_cons.mpr ⟨(tg_6 5 rfl rfl), (List.forall_mem_cons.mpr ⟨(tg_6 7 rfl rfl), (List.forall_mem_cons.mpr ⟨(tg_0 46 rfl rfl), (List.forall_mem_cons.mpr ⟨(tg_1 12 rfl rfl), (List.forall_mem_cons.mpr ⟨(tg_6 8 rfl rfl), (fun _ h => absurd h List.not_mem_nil)⟩)⟩)⟩)⟩)⟩), by decide +kernel, by decide +kernel⟩
theorem cf_X11_163 : CFV RX11 163 yX11_takeNumber cX11_takeNumber 3 (some .int) 2 := ⟨(List.forall_mem_cons.mpr ⟨(tg_6 13 rfl rfl), (List.forall_mem_cons.mpr ⟨(tg_6 15 rfl rfl), (List.forall_mem_cons.mpr ⟨(tg_0 48 rfl rfl), (List.forall_mem_cons.mpr ⟨(tg_1 12 rfl rfl), (List.forall_mem_cons.mpr ⟨(tg_6 16 rfl rfl), (fun _ h => absurd h List.not_mem_nil)⟩)⟩)⟩)⟩)⟩), by decide +kernel, by decide +kernel⟩
theorem cf_X11_167 : CFV RX11 167 yX11_cutAll cX11_cutAll 7 none 0 := ⟨(List.forall_mem_cons.mpr ⟨(tg_5 202 rfl rfl), (List.forall_mem_cons.mpr ⟨(tg_5 204 rfl rfl), (List.forall_mem_cons.mpr ⟨(tg_0 39 rfl rfl), (List.forall_mem_cons.mpr ⟨(tg_1 12 rfl rfl), (List.forall_mem_cons.mpr ⟨(tg_5 205 rfl rfl), (fun _ h => absurd h List.not_mem_nil)⟩)⟩)⟩)⟩)⟩), by decide +kernel, by decide +kernel⟩
theorem cf_X11_176 : CFV RX11 176 yX11_readLine cX11_readLine 1 none 0 := ⟨(List.forall_mem_cons.mpr ⟨(tg_5 221 rfl rfl), (List.forall_mem_cons.mpr ⟨(tg_5 223 rfl rfl), (List.forall_mem_cons.mpr ⟨(tg_0 40 rfl rfl), (List.forall_mem_cons.mpr ⟨(tg_1 12 rfl rfl), (List.forall_mem_cons.mpr ⟨(tg_5 224 rfl rfl), (fun _ h => absurd h List.not_mem_nil)⟩)⟩)⟩)⟩)⟩), by decide +kernel, by decide +kernel⟩
theorem cf_X11_179 : CFV RX11 179 yX11_takeSign cX11_takeSign 2 none 1 := ⟨(List.forall_mem_cons.mpr ⟨(tg_6 77 rfl rfl), (List.forall_mem_cons.mpr ⟨(tg_6 79 rfl rfl), (List.forall_mem_cons.mpr ⟨(tg_0 64 rfl rfl), (List.forall_mem_cons.mpr ⟨(tg_1 12 rfl rfl), (List.forall_mem_cons.mpr ⟨(tg_6 80 rfl rfl), (fun _ h => absurd h List.not_mem_nil)⟩)⟩)⟩)⟩)⟩), by decide +kernel, by decide +kernel⟩
theorem cf_X11_182 : CFV RX11 182 yX11_carry cX11_carry 4 none 2 := ⟨(List.forall_mem_cons.mpr ⟨(tg_6 81 rfl rfl), (List.forall_mem_cons.mpr ⟨(tg_6 83 rfl rfl), (List.forall_mem_cons.mpr ⟨(tg_0 65 rfl rfl), (List.forall_mem_cons.mpr ⟨(tg_1 12 rfl rfl), (List.forall_mem_cons.mpr ⟨(tg_6 84 rfl rfl), (fun _ h => absurd h List.not_mem_nil)⟩)⟩)⟩)⟩)⟩), by decide +kernel, by decide +kernel⟩
theorem cf_X11_186 : CFV RX11 186 yX11_readFarm cX11_readFarm 3 none 0 := ⟨(List.forall_mem_cons.mpr ⟨(tg_5 229 rfl rfl), (List.forall_mem_cons.mpr ⟨(tg_5 231 rfl rfl), (List.forall_mem_cons.mpr ⟨(tg_0 42 rfl rfl), (List.forall_mem_cons.mpr ⟨(tg_1 12 rfl rfl), (List.forall_mem_cons.mpr ⟨(tg_5 232 rfl rfl), (fun _ h => absurd h List.not_mem_nil)⟩)⟩)⟩)⟩)⟩), by decide +kernel, by decide +kernel⟩
theorem cf_X11_189 : CFV RX11 189 yX11_readPair cX11_readPair 5 none 0 := ⟨(List.forall_mem_cons.mpr ⟨(tg_6 17 rfl rfl), (List.forall_mem_cons.mpr ⟨(tg_6 19 rfl rfl), (List.forall_mem_cons.mpr ⟨(tg_0 49 rfl rfl), (List.forall_mem_cons.mpr ⟨(tg_1 12 rfl rfl), (List.forall_mem_cons.mpr ⟨(tg_6 20 rfl rfl), (fun _ h => absurd h List.not_mem_nil)⟩)⟩)⟩)⟩)⟩), by decide +kernel, by decide +kernel⟩
theorem cf_X11_192 : CFV RX11 192 yX11_readShare cX11_readShare 2 none 0 := ⟨(List.forall_mem_cons.mpr ⟨(tg_6 29 rfl rfl), (List.forall_mem_cons.mpr ⟨(tg_6 31 rfl rfl), (List.forall_mem_cons.mpr ⟨(tg_0 52 rfl rfl), (List.forall_mem_cons.mpr ⟨(tg_1 12 rfl rfl), (List.forall_mem_cons.mpr ⟨(tg_6 32 rfl rfl), (fun _ h => absurd h List.not_mem_nil)⟩)⟩)⟩)⟩)⟩), by decide +kernel, by decide +kernel⟩
theorem cf_X11_195 : CFV RX11 195 yX11_readTooth cX11_readTooth 4 none 0 := ⟨(List.forall_mem_cons.mpr ⟨(tg_6 33 rfl rfl), (List.forall_mem_cons.mpr ⟨(tg_6 35 rfl rfl), (List.forall_mem_cons.mpr ⟨(tg_0 53 rfl rfl), (List.forall_mem_cons.mpr ⟨(tg_1 12 rfl rfl), (List.forall_mem_cons.mpr ⟨(tg_6 36 rfl rfl), (fun _ h => absurd h List.not_mem_nil)⟩)⟩)⟩)⟩)⟩), by decide +kernel, by decide +kernel⟩
theorem cf_X11_198 : CFV RX11 198 yX11_readRule cX11_readRule 2 none 0 := ⟨(List.forall_mem_cons.mpr ⟨(tg_6 37 rfl rfl), (List.forall_mem_cons.mpr ⟨(tg_6 39 rfl rfl), (List.forall_mem_cons.mpr ⟨(tg_0 54 rfl rfl), (List.forall_mem_cons.mpr ⟨(tg_1 12 rfl rfl), (List.forall_mem_cons.mpr ⟨(tg_6 40 rfl rfl), (fun _ h => absurd h List.not_mem_nil)⟩)⟩)⟩)⟩)⟩), by decide +kernel, by decide +kernel⟩
theorem cf_X11_201 : CFV RX11 201 yX11_isName cX11_isName 3 (some .boolean) 0 := ⟨(List.forall_mem_cons.mpr ⟨(tg_5 237 rfl rfl), (List.forall_mem_cons.mpr ⟨(tg_5 239 rfl rfl), (List.forall_mem_cons.mpr ⟨(tg_0 44 rfl rfl), (List.forall_mem_cons.mpr ⟨(tg_1 12 rfl rfl), (List.forall_mem_cons.mpr ⟨(tg_6 0 rfl rfl), (fun _ h => absurd h List.not_mem_nil)⟩)⟩)⟩)⟩)⟩), by decide +kernel, by decide +kernel⟩
theorem cf_X11_205 : CFV RX11 205 yX11_takeAfter cX11_takeAfter 4 (some .int) 3 := ⟨(List.forall_mem_cons.mpr ⟨(tg_6 1 rfl rfl), (List.forall_mem_cons.mpr ⟨(tg_6 3 rfl rfl), (List.forall_mem_cons.mpr ⟨(tg_0 45 rfl rfl), (List.forall_mem_cons.mpr ⟨(tg_1 12 rfl rfl), (List.forall_mem_cons.mpr ⟨(tg_6 4 rfl rfl), (fun _ h => absurd h List.not_mem_nil)⟩)⟩)⟩)⟩)⟩), by decide +kernel, by decide +kernel⟩
theorem cf_X11_209 : CFV RX11 209 yX11_farmHere cX11_farmHere 2 (some .int) 0 := ⟨(List.forall_mem_cons.mpr ⟨(tg_6 25 rfl rfl), (List.forall_mem_cons.mpr ⟨(tg_6 27 rfl rfl), (List.forall_mem_cons.mpr ⟨(tg_0 51 rfl rfl), (List.forall_mem_cons.mpr ⟨(tg_1 12 rfl rfl), (List.forall_mem_cons.mpr ⟨(tg_6 28 rfl rfl), (fun _ h => absurd h List.not_mem_nil)⟩)⟩)⟩)⟩)⟩), by decide +kernel, by decide +kernel⟩
theorem cf_X11_213 : CFV RX11 213 yX11_takeTwo cX11_takeTwo 5 (some .int) 2 := ⟨(List.forall_mem_cons.mpr ⟨(tg_6 21 rfl rfl), (List.forall_mem_cons.mpr ⟨(tg_6 23 rfl rfl), (List.forall_mem_cons.mpr ⟨(tg_0 50 rfl rfl), (List.forall_mem_cons.mpr ⟨(tg_1 12 rfl rfl), (List.forall_mem_cons.mpr ⟨(tg_6 24 rfl rfl), (fun _ h => absurd h List.not_mem_nil)⟩)⟩)⟩)⟩)⟩), by decide +kernel, by decide +kernel⟩
theorem cf_X11_221 : CFV RX11 221 yX11_all cX11_all 3 none 1 := ⟨(List.forall_mem_cons.mpr ⟨(tg_6 41 rfl rfl), (List.forall_mem_cons.mpr ⟨(tg_6 43 rfl rfl), (List.forall_mem_cons.mpr ⟨(tg_0 55 rfl rfl), (List.forall_mem_cons.mpr ⟨(tg_1 12 rfl rfl), (List.forall_mem_cons.mpr ⟨(tg_6 44 rfl rfl), (fun _ h => absurd h List.not_mem_nil)⟩)⟩)⟩)⟩)⟩), by decide +kernel, by decide +kernel⟩
theorem cf_X11_224 : CFV RX11 224 yX11_emit cX11_emit 3 none 2 := ⟨(List.forall_mem_cons.mpr ⟨(tg_6 69 rfl rfl), (List.forall_mem_cons.mpr ⟨(tg_6 71 rfl rfl), (List.forall_mem_cons.mpr ⟨(tg_0 62 rfl rfl), (List.forall_mem_cons.mpr ⟨(tg_1 12 rfl rfl), (List.forall_mem_cons.mpr ⟨(tg_6 72 rfl rfl), (fun _ h => absurd h List.not_mem_nil)⟩)⟩)⟩)⟩)⟩), by decide +kernel, by decide +kernel⟩
theorem cf_X11_227 : CFV RX11 227 yX11_test cX11_test 3 none 1 := ⟨(List.forall_mem_cons.mpr ⟨(tg_6 45 rfl rfl), (List.forall_mem_cons.mpr ⟨(tg_6 47 rfl rfl), (List.forall_mem_cons.mpr ⟨(tg_0 56 rfl rfl), (List.forall_mem_cons.mpr ⟨(tg_1 12 rfl rfl), (List.forall_mem_cons.mpr ⟨(tg_6 48 rfl rfl), (fun _ h => absurd h List.not_mem_nil)⟩)⟩)⟩)⟩)⟩), by decide +kernel, by decide +kernel⟩
theorem cf_X11_230 : CFV RX11 230 yX11_sums cX11_sums 3 none 1 := ⟨(List.forall_mem_cons.mpr ⟨(tg_6 49 rfl rfl), (List.forall_mem_cons.mpr ⟨(tg_6 51 rfl rfl), (List.forall_mem_cons.mpr ⟨(tg_0 57 rfl rfl), (List.forall_mem_cons.mpr ⟨(tg_1 12 rfl rfl), (List.forall_mem_cons.mpr ⟨(tg_6 52 rfl rfl), (fun _ h => absurd h List.not_mem_nil)⟩)⟩)⟩)⟩)⟩), by decide +kernel, by decide +kernel⟩
theorem cf_X11_233 : CFV RX11 233 yX11_hasSign cX11_hasSign 3 (some .boolean) 1 := ⟨(List.forall_mem_cons.mpr ⟨(tg_6 73 rfl rfl), (List.forall_mem_cons.mpr ⟨(tg_6 75 rfl rfl), (List.forall_mem_cons.mpr ⟨(tg_0 63 rfl rfl), (List.forall_mem_cons.mpr ⟨(tg_1 12 rfl rfl), (List.forall_mem_cons.mpr ⟨(tg_6 76 rfl rfl), (fun _ h => absurd h List.not_mem_nil)⟩)⟩)⟩)⟩)⟩), by decide +kernel, by decide +kernel⟩
theorem cf_X11_236 : CFV RX11 236 yX11_products cX11_products 2 none 1 := ⟨(List.forall_mem_cons.mpr ⟨(tg_6 53 rfl rfl), (List.forall_mem_cons.mpr ⟨(tg_6 55 rfl rfl), (List.forall_mem_cons.mpr ⟨(tg_0 58 rfl rfl), (List.forall_mem_cons.mpr ⟨(tg_1 12 rfl rfl), (List.forall_mem_cons.mpr ⟨(tg_6 56 rfl rfl), (fun _ h => absurd h List.not_mem_nil)⟩)⟩)⟩)⟩)⟩), by decide +kernel, by decide +kernel⟩
theorem cf_X11_239 : CFV RX11 239 yX11_takePart cX11_takePart 4 none 1 := ⟨(List.forall_mem_cons.mpr ⟨(tg_6 57 rfl rfl), (List.forall_mem_cons.mpr ⟨(tg_6 59 rfl rfl), (List.forall_mem_cons.mpr ⟨(tg_0 59 rfl rfl), (List.forall_mem_cons.mpr ⟨(tg_1 12 rfl rfl), (List.forall_mem_cons.mpr ⟨(tg_6 60 rfl rfl), (fun _ h => absurd h List.not_mem_nil)⟩)⟩)⟩)⟩)⟩), by decide +kernel, by decide +kernel⟩
theorem cf_X11_242 : CFV RX11 242 yX11_factHere cX11_factHere 3 (some .int) 0 := ⟨(List.forall_mem_cons.mpr ⟨(tg_6 61 rfl rfl), (List.forall_mem_cons.mpr ⟨(tg_6 63 rfl rfl), (List.forall_mem_cons.mpr ⟨(tg_0 60 rfl rfl), (List.forall_mem_cons.mpr ⟨(tg_1 12 rfl rfl), (List.forall_mem_cons.mpr ⟨(tg_6 64 rfl rfl), (fun _ h => absurd h List.not_mem_nil)⟩)⟩)⟩)⟩)⟩), by decide +kernel, by decide +kernel⟩
theorem cf_X11_245 : CFS RX11 245 yX11_both cX11_both 3 (some .int) 3 := ⟨(List.forall_mem_cons.mpr ⟨(tg_6 148 rfl rfl), (List.forall_mem_cons.mpr ⟨(tg_6 149 rfl rfl), (List.forall_mem_cons.mpr ⟨(tg_1 12 rfl rfl), (List.forall_mem_cons.mpr ⟨(tg_6 150 rfl rfl), (fun _ h => absurd h List.not_mem_nil)⟩)⟩)⟩)⟩), by decide +kernel, by decide +kernel⟩
theorem cf_X11_248 : CFV RX11 248 yX11_farms cX11_farms 1 (some .int) 0 := ⟨(List.forall_mem_cons.mpr ⟨(tg_6 93 rfl rfl), (List.forall_mem_cons.mpr ⟨(tg_6 95 rfl rfl), (List.forall_mem_cons.mpr ⟨(tg_0 67 rfl rfl), (List.forall_mem_cons.mpr ⟨(tg_1 12 rfl rfl), (List.forall_mem_cons.mpr ⟨(tg_6 96 rfl rfl), (fun _ h => absurd h List.not_mem_nil)⟩)⟩)⟩)⟩)⟩), by decide +kernel, by decide +kernel⟩
theorem cf_X11_251 : CFV RX11 251 yX11_of cX11_of 3 (some .int) 2 := ⟨(List.forall_mem_cons.mpr ⟨(tg_6 100 rfl rfl), (List.forall_mem_cons.mpr ⟨(tg_6 102 rfl rfl), (List.forall_mem_cons.mpr ⟨(tg_0 68 rfl rfl), (List.forall_mem_cons.mpr ⟨(tg_1 12 rfl rfl), (List.forall_mem_cons.mpr ⟨(tg_6 103 rfl rfl), (fun _ h => absurd h List.not_mem_nil)⟩)⟩)⟩)⟩)⟩), by decide +kernel, by decide +kernel⟩
theorem cf_X11_254 : CFV RX11 254 yX11_areNear cX11_areNear 3 (some .boolean) 2 := ⟨(List.forall_mem_cons.mpr ⟨(tg_6 112 rfl rfl), (List.forall_mem_cons.mpr ⟨(tg_6 114 rfl rfl), (List.forall_mem_cons.mpr ⟨(tg_0 71 rfl rfl), (List.forall_mem_cons.mpr ⟨(tg_1 12 rfl rfl), (List.forall_mem_cons.mpr ⟨(tg_6 115 rfl rfl), (fun _ h => absurd h List.not_mem_nil)⟩)⟩)⟩)⟩)⟩), by decide +kernel, by decide +kernel⟩
theorem cf_X11_266 : CFV RX11 266 yX11_levelOf cX11_levelOf 4 (some .int) 1 := ⟨(List.forall_mem_cons.mpr ⟨(tg_6 140 rfl rfl), (List.forall_mem_cons.mpr ⟨(tg_6 142 rfl rfl), (List.forall_mem_cons.mpr ⟨(tg_0 75 rfl rfl), (List.forall_mem_cons.mpr ⟨(tg_1 12 rfl rfl), (List.forall_mem_cons.mpr ⟨(tg_6 143 rfl rfl), (fun _ h => absurd h List.not_mem_nil)⟩)⟩)⟩)⟩)⟩), by decide +kernel, by decide +kernel⟩
theorem cf_X11_269 : CFV RX11 269 yX11_worthAt cX11_worthAt 5 (some .int) 1 := ⟨(List.forall_mem_cons.mpr ⟨(tg_6 144 rfl rfl), (List.forall_mem_cons.mpr ⟨(tg_6 146 rfl rfl), (List.forall_mem_cons.mpr ⟨(tg_0 76 rfl rfl), (List.forall_mem_cons.mpr ⟨(tg_1 12 rfl rfl), (List.forall_mem_cons.mpr ⟨(tg_6 147 rfl rfl), (fun _ h => absurd h List.not_mem_nil)⟩)⟩)⟩)⟩)⟩), by decide +kernel, by decide +kernel⟩
theorem cf_X11_272 : CFV RX11 272 yX11_wants cX11_wants 5 (some .int) 4 := ⟨(List.forall_mem_cons.mpr ⟨(tg_6 159 rfl rfl), (List.forall_mem_cons.mpr ⟨(tg_6 161 rfl rfl), (List.forall_mem_cons.mpr ⟨(tg_0 79 rfl rfl), (List.forall_mem_cons.mpr ⟨(tg_1 12 rfl rfl), (List.forall_mem_cons.mpr ⟨(tg_6 162 rfl rfl), (fun _ h => absurd h List.not_mem_nil)⟩)⟩)⟩)⟩)⟩), by decide +kernel, by decide +kernel⟩
theorem cf_X11_276 : CFV RX11 276 yX11_draw cX11_draw 4 (some .int) 1 := ⟨(List.forall_mem_cons.mpr ⟨(tg_6 163 rfl rfl), (List.forall_mem_cons.mpr ⟨(tg_6 165 rfl rfl), (List.forall_mem_cons.mpr ⟨(tg_0 80 rfl rfl), (List.forall_mem_cons.mpr ⟨(tg_1 12 rfl rfl), (List.forall_mem_cons.mpr ⟨(tg_6 166 rfl rfl), (fun _ h => absurd h List.not_mem_nil)⟩)⟩)⟩)⟩)⟩), by decide +kernel, by decide +kernel⟩
theorem cf_X11_279 : CFV RX11 279 yX11_adds cX11_adds 4 none 3 := ⟨(List.forall_mem_cons.mpr ⟨(tg_6 151 rfl rfl), (List.forall_mem_cons.mpr ⟨(tg_6 153 rfl rfl), (List.forall_mem_cons.mpr ⟨(tg_0 77 rfl rfl), (List.forall_mem_cons.mpr ⟨(tg_1 12 rfl rfl), (List.forall_mem_cons.mpr ⟨(tg_6 154 rfl rfl), (fun _ h => absurd h List.not_mem_nil)⟩)⟩)⟩)⟩)⟩), by decide +kernel, by decide +kernel⟩
theorem cf_X11_283 : CFV RX11 283 yX11_homeOf cX11_homeOf 3 (some .int) 1 := ⟨(List.forall_mem_cons.mpr ⟨(tg_6 104 rfl rfl), (List.forall_mem_cons.mpr ⟨(tg_6 106 rfl rfl), (List.forall_mem_cons.mpr ⟨(tg_0 69 rfl rfl), (List.forall_mem_cons.mpr ⟨(tg_1 12 rfl rfl), (List.forall_mem_cons.mpr ⟨(tg_6 107 rfl rfl), (fun _ h => absurd h List.not_mem_nil)⟩)⟩)⟩)⟩)⟩), by decide +kernel, by decide +kernel⟩
theorem cf_X11_286 : CFV RX11 286 yX11_feeds cX11_feeds 5 (some .int) 2 := ⟨(List.forall_mem_cons.mpr ⟨(tg_6 136 rfl rfl), (List.forall_mem_cons.mpr ⟨(tg_6 138 rfl rfl), (List.forall_mem_cons.mpr ⟨(tg_0 74 rfl rfl), (List.forall_mem_cons.mpr ⟨(tg_1 12 rfl rfl), (List.forall_mem_cons.mpr ⟨(tg_6 139 rfl rfl), (fun _ h => absurd h List.not_mem_nil)⟩)⟩)⟩)⟩)⟩), by decide +kernel, by decide +kernel⟩
theorem cf_X11_289 : CFV RX11 289 yX11_goesTo cX11_goesTo 8 (some .int) 3 := ⟨(List.forall_mem_cons.mpr ⟨(tg_6 155 rfl rfl), (List.forall_mem_cons.mpr ⟨(tg_6 157 rfl rfl), (List.forall_mem_cons.mpr ⟨(tg_0 78 rfl rfl), (List.forall_mem_cons.mpr ⟨(tg_1 12 rfl rfl), (List.forall_mem_cons.mpr ⟨(tg_6 158 rfl rfl), (fun _ h => absurd h List.not_mem_nil)⟩)⟩)⟩)⟩)⟩), by decide +kernel, by decide +kernel⟩
theorem cf_X11_292 : CFV RX11 292 yX11_takes cX11_takes 7 (some .int) 3 := ⟨(List.forall_mem_cons.mpr ⟨(tg_6 171 rfl rfl), (List.forall_mem_cons.mpr ⟨(tg_6 173 rfl rfl), (List.forall_mem_cons.mpr ⟨(tg_0 81 rfl rfl), (List.forall_mem_cons.mpr ⟨(tg_1 12 rfl rfl), (List.forall_mem_cons.mpr ⟨(tg_6 174 rfl rfl), (fun _ h => absurd h List.not_mem_nil)⟩)⟩)⟩)⟩)⟩), by decide +kernel, by decide +kernel⟩
theorem cf_X11_295 : CFV RX11 295 yX11_hunts cX11_hunts 9 none 1 := ⟨(List.forall_mem_cons.mpr ⟨(tg_6 132 rfl rfl), (List.forall_mem_cons.mpr ⟨(tg_6 134 rfl rfl), (List.forall_mem_cons.mpr ⟨(tg_0 73 rfl rfl), (List.forall_mem_cons.mpr ⟨(tg_1 12 rfl rfl), (List.forall_mem_cons.mpr ⟨(tg_6 135 rfl rfl), (fun _ h => absurd h List.not_mem_nil)⟩)⟩)⟩)⟩)⟩), by decide +kernel, by decide +kernel⟩
theorem cf_X11_298 : CFV RX11 298 yX11_isFarm cX11_isFarm 2 (some .boolean) 1 := ⟨(List.forall_mem_cons.mpr ⟨(tg_6 89 rfl rfl), (List.forall_mem_cons.mpr ⟨(tg_6 91 rfl rfl), (List.forall_mem_cons.mpr ⟨(tg_0 66 rfl rfl), (List.forall_mem_cons.mpr ⟨(tg_1 12 rfl rfl), (List.forall_mem_cons.mpr ⟨(tg_6 92 rfl rfl), (fun _ h => absurd h List.not_mem_nil)⟩)⟩)⟩)⟩)⟩), by decide +kernel, by decide +kernel⟩
theorem cf_X11_301 : CFS RX11 301 yX11_within cX11_within 3 (some .boolean) 3 := ⟨(List.forall_mem_cons.mpr ⟨(tg_6 97 rfl rfl), (List.forall_mem_cons.mpr ⟨(tg_6 98 rfl rfl), (List.forall_mem_cons.mpr ⟨(tg_1 12 rfl rfl), (List.forall_mem_cons.mpr ⟨(tg_6 99 rfl rfl), (fun _ h => absurd h List.not_mem_nil)⟩)⟩)⟩)⟩), by decide +kernel, by decide +kernel⟩
theorem cf_X11_305 : CFV RX11 305 yX11_near cX11_near 4 (some .int) 1 := ⟨(List.forall_mem_cons.mpr ⟨(tg_6 108 rfl rfl), (List.forall_mem_cons.mpr ⟨(tg_6 110 rfl rfl), (List.forall_mem_cons.mpr ⟨(tg_0 70 rfl rfl), (List.forall_mem_cons.mpr ⟨(tg_1 12 rfl rfl), (List.forall_mem_cons.mpr ⟨(tg_6 111 rfl rfl), (fun _ h => absurd h List.not_mem_nil)⟩)⟩)⟩)⟩)⟩), by decide +kernel, by decide +kernel⟩
theorem cf_X11_308 : CFV RX11 308 yX11_passes cX11_passes 5 none 1 := ⟨(List.forall_mem_cons.mpr ⟨(tg_6 128 rfl rfl), (List.forall_mem_cons.mpr ⟨(tg_6 130 rfl rfl), (List.forall_mem_cons.mpr ⟨(tg_0 72 rfl rfl), (List.forall_mem_cons.mpr ⟨(tg_1 12 rfl rfl), (List.forall_mem_cons.mpr ⟨(tg_6 131 rfl rfl), (fun _ h => absurd h List.not_mem_nil)⟩)⟩)⟩)⟩)⟩), by decide +kernel, by decide +kernel⟩
theorem cf_X11_311 : CFS RX11 311 yX11_areNights cX11_areNights 1 (some .boolean) 1 := ⟨(List.forall_mem_cons.mpr ⟨(tg_6 199 rfl rfl), (List.forall_mem_cons.mpr ⟨(tg_6 200 rfl rfl), (List.forall_mem_cons.mpr ⟨(tg_1 12 rfl rfl), (List.forall_mem_cons.mpr ⟨(tg_6 201 rfl rfl), (fun _ h => absurd h List.not_mem_nil)⟩)⟩)⟩)⟩), by decide +kernel, by decide +kernel⟩
theorem cf_X11_314 : CFV RX11 314 yX11_findLosses cX11_findLosses 4 none 1 := ⟨(List.forall_mem_cons.mpr ⟨(tg_6 202 rfl rfl), (List.forall_mem_cons.mpr ⟨(tg_6 204 rfl rfl), (List.forall_mem_cons.mpr ⟨(tg_0 82 rfl rfl), (List.forall_mem_cons.mpr ⟨(tg_1 12 rfl rfl), (List.forall_mem_cons.mpr ⟨(tg_6 205 rfl rfl), (fun _ h => absurd h List.not_mem_nil)⟩)⟩)⟩)⟩)⟩), by decide +kernel, by decide +kernel⟩
theorem cf_X11_317 : CFV RX11 317 yX11_gameRows cX11_gameRows 1 (some .int) 0 := ⟨(List.forall_mem_cons.mpr ⟨(tg_6 214 rfl rfl), (List.forall_mem_cons.mpr ⟨(tg_6 216 rfl rfl), (List.forall_mem_cons.mpr ⟨(tg_0 84 rfl rfl), (List.forall_mem_cons.mpr ⟨(tg_1 12 rfl rfl), (List.forall_mem_cons.mpr ⟨(tg_6 217 rfl rfl), (fun _ h => absurd h List.not_mem_nil)⟩)⟩)⟩)⟩)⟩), by decide +kernel, by decide +kernel⟩
theorem cf_X11_320 : CFV RX11 320 yX11_isGame cX11_isGame 2 (some .boolean) 1 := ⟨(List.forall_mem_cons.mpr ⟨(tg_6 210 rfl rfl), (List.forall_mem_cons.mpr ⟨(tg_6 212 rfl rfl), (List.forall_mem_cons.mpr ⟨(tg_0 83 rfl rfl), (List.forall_mem_cons.mpr ⟨(tg_1 12 rfl rfl), (List.forall_mem_cons.mpr ⟨(tg_6 213 rfl rfl), (fun _ h => absurd h List.not_mem_nil)⟩)⟩)⟩)⟩)⟩), by decide +kernel, by decide +kernel⟩
theorem cf_X11_323 : CFS RX11 323 yX11_with cX11_with 3 (some .int) 3 := ⟨(List.forall_mem_cons.mpr ⟨(tg_6 234 rfl rfl), (List.forall_mem_cons.mpr ⟨(tg_6 235 rfl rfl), (List.forall_mem_cons.mpr ⟨(tg_1 12 rfl rfl), (List.forall_mem_cons.mpr ⟨(tg_6 236 rfl rfl), (fun _ h => absurd h List.not_mem_nil)⟩)⟩)⟩)⟩), by decide +kernel, by decide +kernel⟩
theorem cf_X11_326 : CFV RX11 326 yX11_bestLevel cX11_bestLevel 7 (some .int) 2 := ⟨(List.forall_mem_cons.mpr ⟨(tg_6 230 rfl rfl), (List.forall_mem_cons.mpr ⟨(tg_6 232 rfl rfl), (List.forall_mem_cons.mpr ⟨(tg_0 87 rfl rfl), (List.forall_mem_cons.mpr ⟨(tg_1 12 rfl rfl), (List.forall_mem_cons.mpr ⟨(tg_6 233 rfl rfl), (fun _ h => absurd h List.not_mem_nil)⟩)⟩)⟩)⟩)⟩), by decide +kernel, by decide +kernel⟩
theorem cf_X11_329 : CFV RX11 329 yX11_findGame cX11_findGame 4 none 1 := ⟨(List.forall_mem_cons.mpr ⟨(tg_6 222 rfl rfl), (List.forall_mem_cons.mpr ⟨(tg_6 224 rfl rfl), (List.forall_mem_cons.mpr ⟨(tg_0 85 rfl rfl), (List.forall_mem_cons.mpr ⟨(tg_1 12 rfl rfl), (List.forall_mem_cons.mpr ⟨(tg_6 225 rfl rfl), (fun _ h => absurd h List.not_mem_nil)⟩)⟩)⟩)⟩)⟩), by decide +kernel, by decide +kernel⟩
theorem cf_X11_332 : CFV RX11 332 yX11_isRest cX11_isRest 4 (some .boolean) 1 := ⟨(List.forall_mem_cons.mpr ⟨(tg_6 226 rfl rfl), (List.forall_mem_cons.mpr ⟨(tg_6 228 rfl rfl), (List.forall_mem_cons.mpr ⟨(tg_0 86 rfl rfl), (List.forall_mem_cons.mpr ⟨(tg_1 12 rfl rfl), (List.forall_mem_cons.mpr ⟨(tg_6 229 rfl rfl), (fun _ h => absurd h List.not_mem_nil)⟩)⟩)⟩)⟩)⟩), by decide +kernel, by decide +kernel⟩
theorem cf_X11_338 : CFV RX11 338 yX11_findGroups cX11_findGroups 5 none 3 := ⟨(List.forall_mem_cons.mpr ⟨(tg_7 17 rfl rfl), (List.forall_mem_cons.mpr ⟨(tg_7 19 rfl rfl), (List.forall_mem_cons.mpr ⟨(tg_0 90 rfl rfl), (List.forall_mem_cons.mpr ⟨(tg_1 12 rfl rfl), (List.forall_mem_cons.mpr ⟨(tg_7 20 rfl rfl), (fun _ h => absurd h List.not_mem_nil)⟩)⟩)⟩)⟩)⟩), by decide +kernel, by decide +kernel⟩
theorem cf_X11_341 : CFS RX11 341 yX11_groupOf cX11_groupOf 2 (some .int) 2 := ⟨(List.forall_mem_cons.mpr ⟨(tg_7 21 rfl rfl), (List.forall_mem_cons.mpr ⟨(tg_7 22 rfl rfl), (List.forall_mem_cons.mpr ⟨(tg_1 12 rfl rfl), (List.forall_mem_cons.mpr ⟨(tg_7 23 rfl rfl), (fun _ h => absurd h List.not_mem_nil)⟩)⟩)⟩)⟩), by decide +kernel, by decide +kernel⟩
theorem cf_X11_344 : CFV RX11 344 yX11_without cX11_without 10 (some .int) 2 := ⟨(List.forall_mem_cons.mpr ⟨(tg_7 28 rfl rfl), (List.forall_mem_cons.mpr ⟨(tg_7 30 rfl rfl), (List.forall_mem_cons.mpr ⟨(tg_0 92 rfl rfl), (List.forall_mem_cons.mpr ⟨(tg_1 12 rfl rfl), (List.forall_mem_cons.mpr ⟨(tg_7 31 rfl rfl), (fun _ h => absurd h List.not_mem_nil)⟩)⟩)⟩)⟩)⟩), by decide +kernel, by decide +kernel⟩
theorem cf_X11_347 : CFV RX11 347 yX11_canJoin cX11_canJoin 2 (some .boolean) 1 := ⟨(List.forall_mem_cons.mpr ⟨(tg_7 9 rfl rfl), (List.forall_mem_cons.mpr ⟨(tg_7 11 rfl rfl), (List.forall_mem_cons.mpr ⟨(tg_0 88 rfl rfl), (List.forall_mem_cons.mpr ⟨(tg_1 12 rfl rfl), (List.forall_mem_cons.mpr ⟨(tg_7 12 rfl rfl), (fun _ h => absurd h List.not_mem_nil)⟩)⟩)⟩)⟩)⟩), by decide +kernel, by decide +kernel⟩
theorem cf_X11_350 : CFV RX11 350 yX11_findJoined cX11_findJoined 5 none 1 := ⟨(List.forall_mem_cons.mpr ⟨(tg_7 13 rfl rfl), (List.forall_mem_cons.mpr ⟨(tg_7 15 rfl rfl), (List.forall_mem_cons.mpr ⟨(tg_0 89 rfl rfl), (List.forall_mem_cons.mpr ⟨(tg_1 12 rfl rfl), (List.forall_mem_cons.mpr ⟨(tg_7 16 rfl rfl), (fun _ h => absurd h List.not_mem_nil)⟩)⟩)⟩)⟩)⟩), by decide +kernel, by decide +kernel⟩
theorem cf_X11_353 : CFV RX11 353 yX11_isFirm cX11_isFirm 6 (some .boolean) 1 := ⟨(List.forall_mem_cons.mpr ⟨(tg_7 24 rfl rfl), (List.forall_mem_cons.mpr ⟨(tg_7 26 rfl rfl), (List.forall_mem_cons.mpr ⟨(tg_0 91 rfl rfl), (List.forall_mem_cons.mpr ⟨(tg_1 12 rfl rfl), (List.forall_mem_cons.mpr ⟨(tg_7 27 rfl rfl), (fun _ h => absurd h List.not_mem_nil)⟩)⟩)⟩)⟩)⟩), by decide +kernel, by decide +kernel⟩
theorem cf_X11_356 : CFV RX11 356 yX11_bitesSo cX11_bitesSo 4 (some .int) 1 := ⟨(List.forall_mem_cons.mpr ⟨(tg_7 48 rfl rfl), (List.forall_mem_cons.mpr ⟨(tg_7 50 rfl rfl), (List.forall_mem_cons.mpr ⟨(tg_0 93 rfl rfl), (List.forall_mem_cons.mpr ⟨(tg_1 12 rfl rfl), (List.forall_mem_cons.mpr ⟨(tg_7 51 rfl rfl), (fun _ h => absurd h List.not_mem_nil)⟩)⟩)⟩)⟩)⟩), by decide +kernel, by decide +kernel⟩
theorem cf_X11_359 : CFS RX11 359 yX11_common cX11_common 5 (some .int) 2 := ⟨(List.forall_mem_cons.mpr ⟨(tg_7 52 rfl rfl), (List.forall_mem_cons.mpr ⟨(tg_7 53 rfl rfl), (List.forall_mem_cons.mpr ⟨(tg_1 12 rfl rfl), (List.forall_mem_cons.mpr ⟨(tg_7 54 rfl rfl), (fun _ h => absurd h List.not_mem_nil)⟩)⟩)⟩)⟩), by decide +kernel, by decide +kernel⟩
theorem cf_X11_362 : CFS RX11 362 yX11_bits cX11_bits 3 (some .int) 1 := ⟨(List.forall_mem_cons.mpr ⟨(tg_7 59 rfl rfl), (List.forall_mem_cons.mpr ⟨(tg_7 60 rfl rfl), (List.forall_mem_cons.mpr ⟨(tg_1 12 rfl rfl), (List.forall_mem_cons.mpr ⟨(tg_7 61 rfl rfl), (fun _ h => absurd h List.not_mem_nil)⟩)⟩)⟩)⟩), by decide +kernel, by decide +kernel⟩
theorem cf_X11_365 : CFV RX11 365 yX11_pairs cX11_pairs 5 (some .int) 1 := ⟨(List.forall_mem_cons.mpr ⟨(tg_7 70 rfl rfl), (List.forall_mem_cons.mpr ⟨(tg_7 72 rfl rfl), (List.forall_mem_cons.mpr ⟨(tg_0 94 rfl rfl), (List.forall_mem_cons.mpr ⟨(tg_1 12 rfl rfl), (List.forall_mem_cons.mpr ⟨(tg_7 73 rfl rfl), (fun _ h => absurd h List.not_mem_nil)⟩)⟩)⟩)⟩)⟩), by decide +kernel, by decide +kernel⟩
theorem cf_X11_7 : CFV RX11 7 yX11_lay cX11_lay 5 none 1 := ⟨(List.forall_mem_cons.mpr ⟨(tg_5 80 rfl rfl), (List.forall_mem_cons.mpr ⟨(tg_5 82 rfl rfl), (List.forall_mem_cons.mpr ⟨(tg_0 38 rfl rfl), (List.forall_mem_cons.mpr ⟨(tg_1 12 rfl rfl), (List.forall_mem_cons.mpr ⟨(tg_5 84 rfl rfl), (fun _ h => absurd h List.not_mem_nil)⟩)⟩)⟩)⟩)⟩), by decide +kernel, by decide +kernel⟩
theorem cu_X2_18_X2 : CFU RX2 18 RX2 "WolfHalf$Outlook" ⟨"WolfHalf$Joined", "farms", "()I"⟩ yX6_farms cX6_farms 1 (some .int) 0 := ⟨(List.forall_mem_cons.mpr ⟨(tg_4 79 rfl rfl), (List.forall_mem_cons.mpr ⟨(tg_4 80 rfl rfl), (List.forall_mem_cons.mpr ⟨(tg_4 81 rfl rfl), (List.forall_mem_cons.mpr ⟨(tg_4 57 rfl rfl), (List.forall_mem_cons.mpr ⟨(tg_1 8 rfl rfl), (List.forall_mem_cons.mpr ⟨(tg_4 58 rfl rfl), (fun _ h => absurd h List.not_mem_nil)⟩)⟩)⟩)⟩)⟩)⟩), Or.inl rfl, by decide +kernel, by decide +kernel⟩
theorem cf_X2_22 : CFV RX2 22 yX2_split cX2_split 4 none 1 := ⟨(List.forall_mem_cons.mpr ⟨(tg_4 75 rfl rfl), (List.forall_mem_cons.mpr ⟨(tg_4 77 rfl rfl), (List.forall_mem_cons.mpr ⟨(tg_0 32 rfl rfl), (List.forall_mem_cons.mpr ⟨(tg_1 10 rfl rfl), (List.forall_mem_cons.mpr ⟨(tg_4 78 rfl rfl), (fun _ h => absurd h List.not_mem_nil)⟩)⟩)⟩)⟩)⟩), by decide +kernel, by decide +kernel⟩
theorem cf_X2_31 : CFV RX2 31 yX2_wouldLeave cX2_wouldLeave 6 (some .boolean) 2 := ⟨(List.forall_mem_cons.mpr ⟨(tg_4 133 rfl rfl), (List.forall_mem_cons.mpr ⟨(tg_4 135 rfl rfl), (List.forall_mem_cons.mpr ⟨(tg_0 34 rfl rfl), (List.forall_mem_cons.mpr ⟨(tg_1 10 rfl rfl), (List.forall_mem_cons.mpr ⟨(tg_4 136 rfl rfl), (fun _ h => absurd h List.not_mem_nil)⟩)⟩)⟩)⟩)⟩), by decide +kernel, by decide +kernel⟩
theorem cf_X2_35 : CFV RX2 35 yX2_rowWithout cX2_rowWithout 6 (some .int) 1 := ⟨(List.forall_mem_cons.mpr ⟨(tg_4 137 rfl rfl), (List.forall_mem_cons.mpr ⟨(tg_4 139 rfl rfl), (List.forall_mem_cons.mpr ⟨(tg_0 35 rfl rfl), (List.forall_mem_cons.mpr ⟨(tg_1 10 rfl rfl), (List.forall_mem_cons.mpr ⟨(tg_4 140 rfl rfl), (fun _ h => absurd h List.not_mem_nil)⟩)⟩)⟩)⟩)⟩), by decide +kernel, by decide +kernel⟩
theorem cu_X2_39_X2 : CFU RX2 39 RX2 "WolfHalf$Outlook" ⟨"WolfHalf$Joined", "lossIn", "(II)I"⟩ yX6_lossIn cX6_lossIn 4 (some .int) 2 := ⟨(List.forall_mem_cons.mpr ⟨(tg_4 142 rfl rfl), (List.forall_mem_cons.mpr ⟨(tg_4 143 rfl rfl), (List.forall_mem_cons.mpr ⟨(tg_4 144 rfl rfl), (List.forall_mem_cons.mpr ⟨(tg_4 88 rfl rfl), (List.forall_mem_cons.mpr ⟨(tg_1 8 rfl rfl), (List.forall_mem_cons.mpr ⟨(tg_4 89 rfl rfl), (fun _ h => absurd h List.not_mem_nil)⟩)⟩)⟩)⟩)⟩)⟩), Or.inl rfl, by decide +kernel, by decide +kernel⟩
theorem ff_X2_43 : CFS RX2 43 yJ7_fill_53178 cJ7_fill_53178 4 none 2 := ⟨(List.forall_mem_cons.mpr ⟨(tg_4 141 rfl rfl), (List.forall_mem_cons.mpr ⟨(tg_2 174 rfl rfl), (List.forall_mem_cons.mpr ⟨(tg_1 13 rfl rfl), (List.forall_mem_cons.mpr ⟨(tg_2 175 rfl rfl), (fun _ h => absurd h List.not_mem_nil)⟩)⟩)⟩)⟩), by decide +kernel, by decide +kernel⟩
theorem cf_X3_30 : CFV RX3 30 yX3_add cX3_add 4 (some .int) 3 := ⟨(List.forall_mem_cons.mpr ⟨(tg_3 83 rfl rfl), (List.forall_mem_cons.mpr ⟨(tg_3 85 rfl rfl), (List.forall_mem_cons.mpr ⟨(tg_0 19 rfl rfl), (List.forall_mem_cons.mpr ⟨(tg_1 3 rfl rfl), (List.forall_mem_cons.mpr ⟨(tg_3 86 rfl rfl), (fun _ h => absurd h List.not_mem_nil)⟩)⟩)⟩)⟩)⟩), by decide +kernel, by decide +kernel⟩
theorem cf_X5_63 : CFV RX5 63 yX3_clear cX3_clear 1 none 0 := ⟨(List.forall_mem_cons.mpr ⟨(tg_2 169 rfl rfl), (List.forall_mem_cons.mpr ⟨(tg_2 170 rfl rfl), (List.forall_mem_cons.mpr ⟨(tg_2 171 rfl rfl), (List.forall_mem_cons.mpr ⟨(tg_1 3 rfl rfl), (List.forall_mem_cons.mpr ⟨(tg_2 172 rfl rfl), (fun _ h => absurd h List.not_mem_nil)⟩)⟩)⟩)⟩)⟩), by decide +kernel, by decide +kernel⟩
theorem ff_X5_66 : CFS RX5 66 yJ7_fill_53178 cJ7_fill_53178 4 none 2 := ⟨(List.forall_mem_cons.mpr ⟨(tg_2 173 rfl rfl), (List.forall_mem_cons.mpr ⟨(tg_2 174 rfl rfl), (List.forall_mem_cons.mpr ⟨(tg_1 13 rfl rfl), (List.forall_mem_cons.mpr ⟨(tg_2 175 rfl rfl), (fun _ h => absurd h List.not_mem_nil)⟩)⟩)⟩)⟩), by decide +kernel, by decide +kernel⟩
theorem cf_X6_42 : CFN RX6 42 "WolfHalf" yX10_isAhead cX10_isAhead 1 (some .boolean) 1 := ⟨(List.forall_mem_cons.mpr ⟨(tg_4 19 rfl rfl), (List.forall_mem_cons.mpr ⟨(tg_1 1 rfl rfl), (List.forall_mem_cons.mpr ⟨(tg_4 20 rfl rfl), (fun _ h => absurd h List.not_mem_nil)⟩)⟩)⟩), (List.mem_filter.mpr ⟨tm_4 (List.mem_of_getElem? (i := 43) rfl), rfl⟩), by decide +kernel, by decide +kernel⟩
theorem ff_X6_58 : CFS RX6 58 yJ7_fill_53178 cJ7_fill_53178 4 none 2 := ⟨(List.forall_mem_cons.mpr ⟨(tg_4 44 rfl rfl), (List.forall_mem_cons.mpr ⟨(tg_2 174 rfl rfl), (List.forall_mem_cons.mpr ⟨(tg_1 13 rfl rfl), (List.forall_mem_cons.mpr ⟨(tg_2 175 rfl rfl), (fun _ h => absurd h List.not_mem_nil)⟩)⟩)⟩)⟩), by decide +kernel, by decide +kernel⟩
theorem cf_X6_64 : CFV RX6 64 yX9_copyFrom cX9_copyFrom 2 none 1 := ⟨(List.forall_mem_cons.mpr ⟨(tg_4 65 rfl rfl), (List.forall_mem_cons.mpr ⟨(tg_4 26 rfl rfl), (List.forall_mem_cons.mpr ⟨(tg_4 27 rfl rfl), (List.forall_mem_cons.mpr ⟨(tg_1 6 rfl rfl), (List.forall_mem_cons.mpr ⟨(tg_4 28 rfl rfl), (fun _ h => absurd h List.not_mem_nil)⟩)⟩)⟩)⟩)⟩), by decide +kernel, by decide +kernel⟩
theorem cu_X6_68_X1 : CFU RX6 68 RX1 "WolfHalf$Outlook" ⟨"WolfHalf$Outlook", "arrange", "(LWolfHalf$Valley;I)V"⟩ yX1_arrange cX1_arrange 4 none 2 := ⟨(List.forall_mem_cons.mpr ⟨(tg_4 66 rfl rfl), (List.forall_mem_cons.mpr ⟨(tg_4 68 rfl rfl), (List.forall_mem_cons.mpr ⟨(tg_4 69 rfl rfl), (List.forall_mem_cons.mpr ⟨(tg_4 70 rfl rfl), (List.forall_mem_cons.mpr ⟨(tg_1 9 rfl rfl), (List.forall_mem_cons.mpr ⟨(tg_4 71 rfl rfl), (fun _ h => absurd h List.not_mem_nil)⟩)⟩)⟩)⟩)⟩)⟩), Or.inr (List.mem_filter.mpr ⟨tm_4 (List.mem_of_getElem? (i := 67) rfl), rfl⟩), by decide +kernel, by decide +kernel⟩
theorem cu_X6_68_X2 : CFU RX6 68 RX2 "WolfHalf$Outlook" ⟨"WolfHalf$Outlook", "arrange", "(LWolfHalf$Valley;I)V"⟩ yX2_arrange cX2_arrange 6 none 2 := ⟨(List.forall_mem_cons.mpr ⟨(tg_4 66 rfl rfl), (List.forall_mem_cons.mpr ⟨(tg_4 68 rfl rfl), (List.forall_mem_cons.mpr ⟨(tg_4 72 rfl rfl), (List.forall_mem_cons.mpr ⟨(tg_4 73 rfl rfl), (List.forall_mem_cons.mpr ⟨(tg_1 10 rfl rfl), (List.forall_mem_cons.mpr ⟨(tg_4 74 rfl rfl), (fun _ h => absurd h List.not_mem_nil)⟩)⟩)⟩)⟩)⟩)⟩), Or.inr (List.mem_filter.mpr ⟨tm_4 (List.mem_of_getElem? (i := 67) rfl), rfl⟩), by decide +kernel, by decide +kernel⟩
theorem cf_X6_72 : CFV RX6 72 yX9_run cX9_run 5 none 2 := ⟨(List.forall_mem_cons.mpr ⟨(tg_4 82 rfl rfl), (List.forall_mem_cons.mpr ⟨(tg_3 165 rfl rfl), (List.forall_mem_cons.mpr ⟨(tg_3 166 rfl rfl), (List.forall_mem_cons.mpr ⟨(tg_1 6 rfl rfl), (List.forall_mem_cons.mpr ⟨(tg_3 167 rfl rfl), (fun _ h => absurd h List.not_mem_nil)⟩)⟩)⟩)⟩)⟩), by decide +kernel, by decide +kernel⟩
theorem cf_X6_76 : CFV RX6 76 yX9_goneFrom cX9_goneFrom 2 (some .int) 1 := ⟨(List.forall_mem_cons.mpr ⟨(tg_4 83 rfl rfl), (List.forall_mem_cons.mpr ⟨(tg_4 30 rfl rfl), (List.forall_mem_cons.mpr ⟨(tg_4 31 rfl rfl), (List.forall_mem_cons.mpr ⟨(tg_1 6 rfl rfl), (List.forall_mem_cons.mpr ⟨(tg_4 32 rfl rfl), (fun _ h => absurd h List.not_mem_nil)⟩)⟩)⟩)⟩)⟩), by decide +kernel, by decide +kernel⟩
theorem cu_X6_80_X1 : CFU RX6 80 RX1 "WolfHalf$Outlook" ⟨"WolfHalf$Outlook", "rows", "()I"⟩ yX1_rows cX1_rows 1 (some .int) 0 := ⟨(List.forall_mem_cons.mpr ⟨(tg_4 100 rfl rfl), (List.forall_mem_cons.mpr ⟨(tg_4 102 rfl rfl), (List.forall_mem_cons.mpr ⟨(tg_4 103 rfl rfl), (List.forall_mem_cons.mpr ⟨(tg_4 50 rfl rfl), (List.forall_mem_cons.mpr ⟨(tg_1 9 rfl rfl), (List.forall_mem_cons.mpr ⟨(tg_4 52 rfl rfl), (fun _ h => absurd h List.not_mem_nil)⟩)⟩)⟩)⟩)⟩)⟩), Or.inr (List.mem_filter.mpr ⟨tm_4 (List.mem_of_getElem? (i := 101) rfl), rfl⟩), by decide +kernel, by decide +kernel⟩
theorem cu_X6_80_X2 : CFU RX6 80 RX2 "WolfHalf$Outlook" ⟨"WolfHalf$Outlook", "rows", "()I"⟩ yX2_rows cX2_rows 3 (some .int) 0 := ⟨(List.forall_mem_cons.mpr ⟨(tg_4 100 rfl rfl), (List.forall_mem_cons.mpr ⟨(tg_4 102 rfl rfl), (List.forall_mem_cons.mpr ⟨(tg_4 104 rfl rfl), (List.forall_mem_cons.mpr ⟨(tg_4 105 rfl rfl), (List.forall_mem_cons.mpr ⟨(tg_1 10 rfl rfl), (List.forall_mem_cons.mpr ⟨(tg_4 106 rfl rfl), (fun _ h => absurd h List.not_mem_nil)⟩)⟩)⟩)⟩)⟩)⟩), Or.inr (List.mem_filter.mpr ⟨tm_4 (List.mem_of_getElem? (i := 101) rfl), rfl⟩), by decide +kernel, by decide +kernel⟩
theorem mm_X6_84 : (Cond.methodLink RX6 84 Lib.Math.min.name ∈ TT) ∧ (Cond.static Lib.Math.min.name ∈ TT) ∧ (Cond.initialized "java/lang/Math" ∈ TT) ∧ (Cond.code Lib.Math.min.name Lib.Math.min.code 2 (some .int) ∈ TT) := ⟨(tg_4 107 rfl rfl), (tg_3 185 rfl rfl), (tg_1 15 rfl rfl), (tg_3 186 rfl rfl)⟩
theorem cu_X6_90_X1 : CFU RX6 90 RX1 "WolfHalf$Outlook" ⟨"WolfHalf$Outlook", "isRow", "(I)Z"⟩ yX1_isRow cX1_isRow 2 (some .boolean) 1 := ⟨(List.forall_mem_cons.mpr ⟨(tg_4 108 rfl rfl), (List.forall_mem_cons.mpr ⟨(tg_4 110 rfl rfl), (List.forall_mem_cons.mpr ⟨(tg_4 111 rfl rfl), (List.forall_mem_cons.mpr ⟨(tg_4 46 rfl rfl), (List.forall_mem_cons.mpr ⟨(tg_1 9 rfl rfl), (List.forall_mem_cons.mpr ⟨(tg_4 48 rfl rfl), (fun _ h => absurd h List.not_mem_nil)⟩)⟩)⟩)⟩)⟩)⟩), Or.inr (List.mem_filter.mpr ⟨tm_4 (List.mem_of_getElem? (i := 109) rfl), rfl⟩), by decide +kernel, by decide +kernel⟩
theorem cu_X6_90_X2 : CFU RX6 90 RX2 "WolfHalf$Outlook" ⟨"WolfHalf$Outlook", "isRow", "(I)Z"⟩ yX2_isRow cX2_isRow 4 (some .boolean) 1 := ⟨(List.forall_mem_cons.mpr ⟨(tg_4 108 rfl rfl), (List.forall_mem_cons.mpr ⟨(tg_4 110 rfl rfl), (List.forall_mem_cons.mpr ⟨(tg_4 112 rfl rfl), (List.forall_mem_cons.mpr ⟨(tg_4 113 rfl rfl), (List.forall_mem_cons.mpr ⟨(tg_1 10 rfl rfl), (List.forall_mem_cons.mpr ⟨(tg_4 114 rfl rfl), (fun _ h => absurd h List.not_mem_nil)⟩)⟩)⟩)⟩)⟩)⟩), Or.inr (List.mem_filter.mpr ⟨tm_4 (List.mem_of_getElem? (i := 109) rfl), rfl⟩), by decide +kernel, by decide +kernel⟩
theorem cu_X6_93_X1 : CFU RX6 93 RX1 "WolfHalf$Outlook" ⟨"WolfHalf$Outlook", "lookAt", "(I)V"⟩ yX6_lookAt cX6_lookAt 3 none 1 := ⟨(List.forall_mem_cons.mpr ⟨(tg_4 115 rfl rfl), (List.forall_mem_cons.mpr ⟨(tg_7 75 rfl rfl), (List.forall_mem_cons.mpr ⟨(tg_7 76 rfl rfl), (List.forall_mem_cons.mpr ⟨(tg_4 63 rfl rfl), (List.forall_mem_cons.mpr ⟨(tg_1 8 rfl rfl), (List.forall_mem_cons.mpr ⟨(tg_4 64 rfl rfl), (fun _ h => absurd h List.not_mem_nil)⟩)⟩)⟩)⟩)⟩)⟩), Or.inl rfl, by decide +kernel, by decide +kernel⟩
theorem cu_X6_93_X2 : CFU RX6 93 RX2 "WolfHalf$Outlook" ⟨"WolfHalf$Outlook", "lookAt", "(I)V"⟩ yX6_lookAt cX6_lookAt 3 none 1 := ⟨(List.forall_mem_cons.mpr ⟨(tg_4 115 rfl rfl), (List.forall_mem_cons.mpr ⟨(tg_7 75 rfl rfl), (List.forall_mem_cons.mpr ⟨(tg_7 77 rfl rfl), (List.forall_mem_cons.mpr ⟨(tg_4 63 rfl rfl), (List.forall_mem_cons.mpr ⟨(tg_1 8 rfl rfl), (List.forall_mem_cons.mpr ⟨(tg_4 64 rfl rfl), (fun _ h => absurd h List.not_mem_nil)⟩)⟩)⟩)⟩)⟩)⟩), Or.inl rfl, by decide +kernel, by decide +kernel⟩
theorem cu_X6_97_X1 : CFU RX6 97 RX1 "WolfHalf$Outlook" ⟨"WolfHalf$Outlook", "stays", "(I)Z"⟩ yX1_stays cX1_stays 3 (some .boolean) 1 := ⟨(List.forall_mem_cons.mpr ⟨(tg_4 116 rfl rfl), (List.forall_mem_cons.mpr ⟨(tg_4 118 rfl rfl), (List.forall_mem_cons.mpr ⟨(tg_4 119 rfl rfl), (List.forall_mem_cons.mpr ⟨(tg_4 120 rfl rfl), (List.forall_mem_cons.mpr ⟨(tg_1 9 rfl rfl), (List.forall_mem_cons.mpr ⟨(tg_4 121 rfl rfl), (fun _ h => absurd h List.not_mem_nil)⟩)⟩)⟩)⟩)⟩)⟩), Or.inr (List.mem_filter.mpr ⟨tm_4 (List.mem_of_getElem? (i := 117) rfl), rfl⟩), by decide +kernel, by decide +kernel⟩
theorem cu_X6_97_X2 : CFU RX6 97 RX2 "WolfHalf$Outlook" ⟨"WolfHalf$Outlook", "stays", "(I)Z"⟩ yX2_stays cX2_stays 3 (some .boolean) 1 := ⟨(List.forall_mem_cons.mpr ⟨(tg_4 116 rfl rfl), (List.forall_mem_cons.mpr ⟨(tg_4 118 rfl rfl), (List.forall_mem_cons.mpr ⟨(tg_4 130 rfl rfl), (List.forall_mem_cons.mpr ⟨(tg_4 131 rfl rfl), (List.forall_mem_cons.mpr ⟨(tg_1 10 rfl rfl), (List.forall_mem_cons.mpr ⟨(tg_4 132 rfl rfl), (fun _ h => absurd h List.not_mem_nil)⟩)⟩)⟩)⟩)⟩)⟩), Or.inr (List.mem_filter.mpr ⟨tm_4 (List.mem_of_getElem? (i := 117) rfl), rfl⟩), by decide +kernel, by decide +kernel⟩
theorem cf_X7_106 : CFV RX7 106 yX8_next cX8_next 4 none 0 := ⟨(List.forall_mem_cons.mpr ⟨(tg_2 197 rfl rfl), (List.forall_mem_cons.mpr ⟨(tg_2 181 rfl rfl), (List.forall_mem_cons.mpr ⟨(tg_2 182 rfl rfl), (List.forall_mem_cons.mpr ⟨(tg_1 4 rfl rfl), (List.forall_mem_cons.mpr ⟨(tg_2 183 rfl rfl), (fun _ h => absurd h List.not_mem_nil)⟩)⟩)⟩)⟩)⟩), by decide +kernel, by decide +kernel⟩
theorem cf_X7_109 : CFS RX7 109 yX7_isName cX7_isName 3 (some .boolean) 1 := ⟨(List.forall_mem_cons.mpr ⟨(tg_2 198 rfl rfl), (List.forall_mem_cons.mpr ⟨(tg_2 199 rfl rfl), (List.forall_mem_cons.mpr ⟨(tg_1 5 rfl rfl), (List.forall_mem_cons.mpr ⟨(tg_2 200 rfl rfl), (fun _ h => absurd h List.not_mem_nil)⟩)⟩)⟩)⟩), by decide +kernel, by decide +kernel⟩
theorem cf_X7_113 : CFV RX7 113 yX5_named cX5_named 4 (some .int) 1 := ⟨(List.forall_mem_cons.mpr ⟨(tg_2 203 rfl rfl), (List.forall_mem_cons.mpr ⟨(tg_2 204 rfl rfl), (List.forall_mem_cons.mpr ⟨(tg_2 205 rfl rfl), (List.forall_mem_cons.mpr ⟨(tg_1 2 rfl rfl), (List.forall_mem_cons.mpr ⟨(tg_2 206 rfl rfl), (fun _ h => absurd h List.not_mem_nil)⟩)⟩)⟩)⟩)⟩), by decide +kernel, by decide +kernel⟩
theorem cf_X7_119 : CFV RX7 119 yX7_readWord cX7_readWord 3 none 1 := ⟨(List.forall_mem_cons.mpr ⟨(tg_2 208 rfl rfl), (List.forall_mem_cons.mpr ⟨(tg_2 210 rfl rfl), (List.forall_mem_cons.mpr ⟨(tg_0 3 rfl rfl), (List.forall_mem_cons.mpr ⟨(tg_1 5 rfl rfl), (List.forall_mem_cons.mpr ⟨(tg_2 211 rfl rfl), (fun _ h => absurd h List.not_mem_nil)⟩)⟩)⟩)⟩)⟩), by decide +kernel, by decide +kernel⟩
theorem cf_X7_123 : CFV RX7 123 yX7_readNumber cX7_readNumber 3 (some .int) 1 := ⟨(List.forall_mem_cons.mpr ⟨(tg_2 212 rfl rfl), (List.forall_mem_cons.mpr ⟨(tg_2 214 rfl rfl), (List.forall_mem_cons.mpr ⟨(tg_0 4 rfl rfl), (List.forall_mem_cons.mpr ⟨(tg_1 5 rfl rfl), (List.forall_mem_cons.mpr ⟨(tg_2 215 rfl rfl), (fun _ h => absurd h List.not_mem_nil)⟩)⟩)⟩)⟩)⟩), by decide +kernel, by decide +kernel⟩
theorem cf_X7_130 : CFV RX7 130 yX7_readSign cX7_readSign 2 none 1 := ⟨(List.forall_mem_cons.mpr ⟨(tg_2 218 rfl rfl), (List.forall_mem_cons.mpr ⟨(tg_2 220 rfl rfl), (List.forall_mem_cons.mpr ⟨(tg_0 5 rfl rfl), (List.forall_mem_cons.mpr ⟨(tg_1 5 rfl rfl), (List.forall_mem_cons.mpr ⟨(tg_2 221 rfl rfl), (fun _ h => absurd h List.not_mem_nil)⟩)⟩)⟩)⟩)⟩), by decide +kernel, by decide +kernel⟩
theorem cf_X7_134 : CFV RX7 134 yX5_addFarm cX5_addFarm 6 none 4 := ⟨(List.forall_mem_cons.mpr ⟨(tg_2 222 rfl rfl), (List.forall_mem_cons.mpr ⟨(tg_2 223 rfl rfl), (List.forall_mem_cons.mpr ⟨(tg_2 224 rfl rfl), (List.forall_mem_cons.mpr ⟨(tg_1 2 rfl rfl), (List.forall_mem_cons.mpr ⟨(tg_2 225 rfl rfl), (fun _ h => absurd h List.not_mem_nil)⟩)⟩)⟩)⟩)⟩), by decide +kernel, by decide +kernel⟩
theorem cf_X7_138 : CFV RX7 138 yX7_oldFarm cX7_oldFarm 2 (some .int) 0 := ⟨(List.forall_mem_cons.mpr ⟨(tg_2 231 rfl rfl), (List.forall_mem_cons.mpr ⟨(tg_2 233 rfl rfl), (List.forall_mem_cons.mpr ⟨(tg_0 7 rfl rfl), (List.forall_mem_cons.mpr ⟨(tg_1 5 rfl rfl), (List.forall_mem_cons.mpr ⟨(tg_2 234 rfl rfl), (fun _ h => absurd h List.not_mem_nil)⟩)⟩)⟩)⟩)⟩), by decide +kernel, by decide +kernel⟩
theorem cf_X7_142 : CFV RX7 142 yX5_haveFence cX5_haveFence 3 (some .boolean) 2 := ⟨(List.forall_mem_cons.mpr ⟨(tg_2 235 rfl rfl), (List.forall_mem_cons.mpr ⟨(tg_2 236 rfl rfl), (List.forall_mem_cons.mpr ⟨(tg_2 237 rfl rfl), (List.forall_mem_cons.mpr ⟨(tg_1 2 rfl rfl), (List.forall_mem_cons.mpr ⟨(tg_2 238 rfl rfl), (fun _ h => absurd h List.not_mem_nil)⟩)⟩)⟩)⟩)⟩), by decide +kernel, by decide +kernel⟩
theorem cf_X7_146 : CFV RX7 146 yX5_addFence cX5_addFence 4 none 3 := ⟨(List.forall_mem_cons.mpr ⟨(tg_2 239 rfl rfl), (List.forall_mem_cons.mpr ⟨(tg_3 0 rfl rfl), (List.forall_mem_cons.mpr ⟨(tg_3 1 rfl rfl), (List.forall_mem_cons.mpr ⟨(tg_1 2 rfl rfl), (List.forall_mem_cons.mpr ⟨(tg_3 2 rfl rfl), (fun _ h => absurd h List.not_mem_nil)⟩)⟩)⟩)⟩)⟩), by decide +kernel, by decide +kernel⟩
theorem cf_X7_150 : CFV RX7 150 yX5_havePact cX5_havePact 3 (some .boolean) 2 := ⟨(List.forall_mem_cons.mpr ⟨(tg_3 8 rfl rfl), (List.forall_mem_cons.mpr ⟨(tg_3 9 rfl rfl), (List.forall_mem_cons.mpr ⟨(tg_3 10 rfl rfl), (List.forall_mem_cons.mpr ⟨(tg_1 2 rfl rfl), (List.forall_mem_cons.mpr ⟨(tg_3 11 rfl rfl), (fun _ h => absurd h List.not_mem_nil)⟩)⟩)⟩)⟩)⟩), by decide +kernel, by decide +kernel⟩
theorem cf_X7_153 : CFV RX7 153 yX5_addPact cX5_addPact 3 none 2 := ⟨(List.forall_mem_cons.mpr ⟨(tg_3 12 rfl rfl), (List.forall_mem_cons.mpr ⟨(tg_3 13 rfl rfl), (List.forall_mem_cons.mpr ⟨(tg_3 14 rfl rfl), (List.forall_mem_cons.mpr ⟨(tg_1 2 rfl rfl), (List.forall_mem_cons.mpr ⟨(tg_3 15 rfl rfl), (fun _ h => absurd h List.not_mem_nil)⟩)⟩)⟩)⟩)⟩), by decide +kernel, by decide +kernel⟩
theorem cf_X7_161 : CFV RX7 161 yX5_addShare cX5_addShare 3 none 2 := ⟨(List.forall_mem_cons.mpr ⟨(tg_3 21 rfl rfl), (List.forall_mem_cons.mpr ⟨(tg_3 22 rfl rfl), (List.forall_mem_cons.mpr ⟨(tg_3 23 rfl rfl), (List.forall_mem_cons.mpr ⟨(tg_1 2 rfl rfl), (List.forall_mem_cons.mpr ⟨(tg_3 24 rfl rfl), (fun _ h => absurd h List.not_mem_nil)⟩)⟩)⟩)⟩)⟩), by decide +kernel, by decide +kernel⟩
theorem cf_X7_164 : CFV RX7 164 yX5_hasTooth cX5_hasTooth 2 (some .boolean) 1 := ⟨(List.forall_mem_cons.mpr ⟨(tg_3 30 rfl rfl), (List.forall_mem_cons.mpr ⟨(tg_3 31 rfl rfl), (List.forall_mem_cons.mpr ⟨(tg_3 32 rfl rfl), (List.forall_mem_cons.mpr ⟨(tg_1 2 rfl rfl), (List.forall_mem_cons.mpr ⟨(tg_3 33 rfl rfl), (fun _ h => absurd h List.not_mem_nil)⟩)⟩)⟩)⟩)⟩), by decide +kernel, by decide +kernel⟩
theorem cf_X7_171 : CFV RX7 171 yX5_setOften cX5_setOften 4 none 3 := ⟨(List.forall_mem_cons.mpr ⟨(tg_3 34 rfl rfl), (List.forall_mem_cons.mpr ⟨(tg_3 35 rfl rfl), (List.forall_mem_cons.mpr ⟨(tg_3 36 rfl rfl), (List.forall_mem_cons.mpr ⟨(tg_1 2 rfl rfl), (List.forall_mem_cons.mpr ⟨(tg_3 37 rfl rfl), (fun _ h => absurd h List.not_mem_nil)⟩)⟩)⟩)⟩)⟩), by decide +kernel, by decide +kernel⟩
theorem cf_X7_174 : CFV RX7 174 yX5_addTooth cX5_addTooth 2 none 1 := ⟨(List.forall_mem_cons.mpr ⟨(tg_3 38 rfl rfl), (List.forall_mem_cons.mpr ⟨(tg_3 39 rfl rfl), (List.forall_mem_cons.mpr ⟨(tg_3 40 rfl rfl), (List.forall_mem_cons.mpr ⟨(tg_1 2 rfl rfl), (List.forall_mem_cons.mpr ⟨(tg_3 41 rfl rfl), (fun _ h => absurd h List.not_mem_nil)⟩)⟩)⟩)⟩)⟩), by decide +kernel, by decide +kernel⟩
theorem cf_X7_177 : CFV RX7 177 yX7_readAll cX7_readAll 7 (some .int) 1 := ⟨(List.forall_mem_cons.mpr ⟨(tg_3 47 rfl rfl), (List.forall_mem_cons.mpr ⟨(tg_3 49 rfl rfl), (List.forall_mem_cons.mpr ⟨(tg_0 12 rfl rfl), (List.forall_mem_cons.mpr ⟨(tg_1 5 rfl rfl), (List.forall_mem_cons.mpr ⟨(tg_3 50 rfl rfl), (fun _ h => absurd h List.not_mem_nil)⟩)⟩)⟩)⟩)⟩), by decide +kernel, by decide +kernel⟩
theorem cf_X7_180 : CFV RX7 180 yX7_readTest cX7_readTest 5 (some .int) 1 := ⟨(List.forall_mem_cons.mpr ⟨(tg_3 51 rfl rfl), (List.forall_mem_cons.mpr ⟨(tg_3 53 rfl rfl), (List.forall_mem_cons.mpr ⟨(tg_0 13 rfl rfl), (List.forall_mem_cons.mpr ⟨(tg_1 5 rfl rfl), (List.forall_mem_cons.mpr ⟨(tg_3 54 rfl rfl), (fun _ h => absurd h List.not_mem_nil)⟩)⟩)⟩)⟩)⟩), by decide +kernel, by decide +kernel⟩
theorem cf_X7_187 : CFV RX7 187 yX3_join cX3_join 5 (some .int) 3 := ⟨(List.forall_mem_cons.mpr ⟨(tg_3 79 rfl rfl), (List.forall_mem_cons.mpr ⟨(tg_3 80 rfl rfl), (List.forall_mem_cons.mpr ⟨(tg_3 81 rfl rfl), (List.forall_mem_cons.mpr ⟨(tg_1 3 rfl rfl), (List.forall_mem_cons.mpr ⟨(tg_3 82 rfl rfl), (fun _ h => absurd h List.not_mem_nil)⟩)⟩)⟩)⟩)⟩), by decide +kernel, by decide +kernel⟩
theorem cf_X7_191 : CFV RX7 191 yX7_readSum cX7_readSum 6 (some .int) 1 := ⟨(List.forall_mem_cons.mpr ⟨(tg_3 55 rfl rfl), (List.forall_mem_cons.mpr ⟨(tg_3 57 rfl rfl), (List.forall_mem_cons.mpr ⟨(tg_0 14 rfl rfl), (List.forall_mem_cons.mpr ⟨(tg_1 5 rfl rfl), (List.forall_mem_cons.mpr ⟨(tg_3 58 rfl rfl), (fun _ h => absurd h List.not_mem_nil)⟩)⟩)⟩)⟩)⟩), by decide +kernel, by decide +kernel⟩
theorem cf_X7_198 : CFV RX7 198 yX7_readProduct cX7_readProduct 5 (some .int) 1 := ⟨(List.forall_mem_cons.mpr ⟨(tg_3 59 rfl rfl), (List.forall_mem_cons.mpr ⟨(tg_3 61 rfl rfl), (List.forall_mem_cons.mpr ⟨(tg_0 15 rfl rfl), (List.forall_mem_cons.mpr ⟨(tg_1 5 rfl rfl), (List.forall_mem_cons.mpr ⟨(tg_3 62 rfl rfl), (fun _ h => absurd h List.not_mem_nil)⟩)⟩)⟩)⟩)⟩), by decide +kernel, by decide +kernel⟩
theorem cf_X7_201 : CFV RX7 201 yX7_readPart cX7_readPart 5 (some .int) 1 := ⟨(List.forall_mem_cons.mpr ⟨(tg_3 63 rfl rfl), (List.forall_mem_cons.mpr ⟨(tg_3 65 rfl rfl), (List.forall_mem_cons.mpr ⟨(tg_0 16 rfl rfl), (List.forall_mem_cons.mpr ⟨(tg_1 5 rfl rfl), (List.forall_mem_cons.mpr ⟨(tg_3 66 rfl rfl), (fun _ h => absurd h List.not_mem_nil)⟩)⟩)⟩)⟩)⟩), by decide +kernel, by decide +kernel⟩
theorem cf_X7_204 : CFV RX7 204 yX7_factOf cX7_factOf 4 (some .int) 1 := ⟨(List.forall_mem_cons.mpr ⟨(tg_3 67 rfl rfl), (List.forall_mem_cons.mpr ⟨(tg_3 69 rfl rfl), (List.forall_mem_cons.mpr ⟨(tg_0 17 rfl rfl), (List.forall_mem_cons.mpr ⟨(tg_1 5 rfl rfl), (List.forall_mem_cons.mpr ⟨(tg_3 70 rfl rfl), (fun _ h => absurd h List.not_mem_nil)⟩)⟩)⟩)⟩)⟩), by decide +kernel, by decide +kernel⟩
theorem cf_X7_209 : CFV RX7 209 yX7_readInner cX7_readInner 4 (some .int) 1 := ⟨(List.forall_mem_cons.mpr ⟨(tg_3 75 rfl rfl), (List.forall_mem_cons.mpr ⟨(tg_3 77 rfl rfl), (List.forall_mem_cons.mpr ⟨(tg_0 18 rfl rfl), (List.forall_mem_cons.mpr ⟨(tg_1 5 rfl rfl), (List.forall_mem_cons.mpr ⟨(tg_3 78 rfl rfl), (fun _ h => absurd h List.not_mem_nil)⟩)⟩)⟩)⟩)⟩), by decide +kernel, by decide +kernel⟩
theorem cf_X7_28 : CFV RX7 28 yX5_clear cX5_clear 1 none 0 := ⟨(List.forall_mem_cons.mpr ⟨(tg_2 165 rfl rfl), (List.forall_mem_cons.mpr ⟨(tg_2 166 rfl rfl), (List.forall_mem_cons.mpr ⟨(tg_2 167 rfl rfl), (List.forall_mem_cons.mpr ⟨(tg_1 2 rfl rfl), (List.forall_mem_cons.mpr ⟨(tg_2 168 rfl rfl), (fun _ h => absurd h List.not_mem_nil)⟩)⟩)⟩)⟩)⟩), by decide +kernel, by decide +kernel⟩
theorem cf_X7_35 : CFV RX7 35 yX8_start cX8_start 1 none 0 := ⟨(List.forall_mem_cons.mpr ⟨(tg_2 176 rfl rfl), (List.forall_mem_cons.mpr ⟨(tg_2 177 rfl rfl), (List.forall_mem_cons.mpr ⟨(tg_2 178 rfl rfl), (List.forall_mem_cons.mpr ⟨(tg_1 4 rfl rfl), (List.forall_mem_cons.mpr ⟨(tg_2 179 rfl rfl), (fun _ h => absurd h List.not_mem_nil)⟩)⟩)⟩)⟩)⟩), by decide +kernel, by decide +kernel⟩
theorem cf_X7_44 : CFV RX7 44 yX7_readLine cX7_readLine 3 none 0 := ⟨(List.forall_mem_cons.mpr ⟨(tg_2 184 rfl rfl), (List.forall_mem_cons.mpr ⟨(tg_2 186 rfl rfl), (List.forall_mem_cons.mpr ⟨(tg_0 0 rfl rfl), (List.forall_mem_cons.mpr ⟨(tg_1 5 rfl rfl), (List.forall_mem_cons.mpr ⟨(tg_2 187 rfl rfl), (fun _ h => absurd h List.not_mem_nil)⟩)⟩)⟩)⟩)⟩), by decide +kernel, by decide +kernel⟩
theorem cf_X7_52 : CFV RX7 52 yX3_addNumber cX3_addNumber 2 (some .int) 1 := ⟨(List.forall_mem_cons.mpr ⟨(tg_3 87 rfl rfl), (List.forall_mem_cons.mpr ⟨(tg_3 88 rfl rfl), (List.forall_mem_cons.mpr ⟨(tg_3 89 rfl rfl), (List.forall_mem_cons.mpr ⟨(tg_1 3 rfl rfl), (List.forall_mem_cons.mpr ⟨(tg_3 90 rfl rfl), (fun _ h => absurd h List.not_mem_nil)⟩)⟩)⟩)⟩)⟩), by decide +kernel, by decide +kernel⟩
theorem cf_X7_59 : CFV RX7 59 yX3_addFact cX3_addFact 2 (some .int) 1 := ⟨(List.forall_mem_cons.mpr ⟨(tg_3 91 rfl rfl), (List.forall_mem_cons.mpr ⟨(tg_3 92 rfl rfl), (List.forall_mem_cons.mpr ⟨(tg_3 93 rfl rfl), (List.forall_mem_cons.mpr ⟨(tg_1 3 rfl rfl), (List.forall_mem_cons.mpr ⟨(tg_3 94 rfl rfl), (fun _ h => absurd h List.not_mem_nil)⟩)⟩)⟩)⟩)⟩), by decide +kernel, by decide +kernel⟩
theorem cf_X7_68 : CFV RX7 68 yX7_readFarm cX7_readFarm 6 none 0 := ⟨(List.forall_mem_cons.mpr ⟨(tg_2 189 rfl rfl), (List.forall_mem_cons.mpr ⟨(tg_2 191 rfl rfl), (List.forall_mem_cons.mpr ⟨(tg_0 1 rfl rfl), (List.forall_mem_cons.mpr ⟨(tg_1 5 rfl rfl), (List.forall_mem_cons.mpr ⟨(tg_2 192 rfl rfl), (fun _ h => absurd h List.not_mem_nil)⟩)⟩)⟩)⟩)⟩), by decide +kernel, by decide +kernel⟩
theorem cf_X7_73 : CFV RX7 73 yX7_readFence cX7_readFence 4 none 0 := ⟨(List.forall_mem_cons.mpr ⟨(tg_2 227 rfl rfl), (List.forall_mem_cons.mpr ⟨(tg_2 229 rfl rfl), (List.forall_mem_cons.mpr ⟨(tg_0 6 rfl rfl), (List.forall_mem_cons.mpr ⟨(tg_1 5 rfl rfl), (List.forall_mem_cons.mpr ⟨(tg_2 230 rfl rfl), (fun _ h => absurd h List.not_mem_nil)⟩)⟩)⟩)⟩)⟩), by decide +kernel, by decide +kernel⟩
theorem cf_X7_78 : CFV RX7 78 yX7_readPact cX7_readPact 3 none 0 := ⟨(List.forall_mem_cons.mpr ⟨(tg_3 4 rfl rfl), (List.forall_mem_cons.mpr ⟨(tg_3 6 rfl rfl), (List.forall_mem_cons.mpr ⟨(tg_0 8 rfl rfl), (List.forall_mem_cons.mpr ⟨(tg_1 5 rfl rfl), (List.forall_mem_cons.mpr ⟨(tg_3 7 rfl rfl), (fun _ h => absurd h List.not_mem_nil)⟩)⟩)⟩)⟩)⟩), by decide +kernel, by decide +kernel⟩
theorem cf_X7_83 : CFV RX7 83 yX7_readShare cX7_readShare 3 none 0 := ⟨(List.forall_mem_cons.mpr ⟨(tg_3 17 rfl rfl), (List.forall_mem_cons.mpr ⟨(tg_3 19 rfl rfl), (List.forall_mem_cons.mpr ⟨(tg_0 9 rfl rfl), (List.forall_mem_cons.mpr ⟨(tg_1 5 rfl rfl), (List.forall_mem_cons.mpr ⟨(tg_3 20 rfl rfl), (fun _ h => absurd h List.not_mem_nil)⟩)⟩)⟩)⟩)⟩), by decide +kernel, by decide +kernel⟩
theorem cf_X7_88 : CFV RX7 88 yX7_readTooth cX7_readTooth 6 none 0 := ⟨(List.forall_mem_cons.mpr ⟨(tg_3 26 rfl rfl), (List.forall_mem_cons.mpr ⟨(tg_3 28 rfl rfl), (List.forall_mem_cons.mpr ⟨(tg_0 10 rfl rfl), (List.forall_mem_cons.mpr ⟨(tg_1 5 rfl rfl), (List.forall_mem_cons.mpr ⟨(tg_3 29 rfl rfl), (fun _ h => absurd h List.not_mem_nil)⟩)⟩)⟩)⟩)⟩), by decide +kernel, by decide +kernel⟩
theorem cf_X7_93 : CFV RX7 93 yX7_readLaw cX7_readLaw 2 none 1 := ⟨(List.forall_mem_cons.mpr ⟨(tg_3 43 rfl rfl), (List.forall_mem_cons.mpr ⟨(tg_3 45 rfl rfl), (List.forall_mem_cons.mpr ⟨(tg_0 11 rfl rfl), (List.forall_mem_cons.mpr ⟨(tg_1 5 rfl rfl), (List.forall_mem_cons.mpr ⟨(tg_3 46 rfl rfl), (fun _ h => absurd h List.not_mem_nil)⟩)⟩)⟩)⟩)⟩), by decide +kernel, by decide +kernel⟩
theorem cf_X7_99 : CFV RX7 99 yX7_refuse cX7_refuse 2 none 1 := ⟨(List.forall_mem_cons.mpr ⟨(tg_2 193 rfl rfl), (List.forall_mem_cons.mpr ⟨(tg_2 195 rfl rfl), (List.forall_mem_cons.mpr ⟨(tg_0 2 rfl rfl), (List.forall_mem_cons.mpr ⟨(tg_1 5 rfl rfl), (List.forall_mem_cons.mpr ⟨(tg_2 196 rfl rfl), (fun _ h => absurd h List.not_mem_nil)⟩)⟩)⟩)⟩)⟩), by decide +kernel, by decide +kernel⟩
theorem cf_X8_22 : CFV RX8 22 yX8_next cX8_next 4 none 0 := ⟨(List.forall_mem_cons.mpr ⟨(tg_2 180 rfl rfl), (List.forall_mem_cons.mpr ⟨(tg_2 181 rfl rfl), (List.forall_mem_cons.mpr ⟨(tg_2 182 rfl rfl), (List.forall_mem_cons.mpr ⟨(tg_1 4 rfl rfl), (List.forall_mem_cons.mpr ⟨(tg_2 183 rfl rfl), (fun _ h => absurd h List.not_mem_nil)⟩)⟩)⟩)⟩)⟩), by decide +kernel, by decide +kernel⟩
theorem cf_X9_101 : CFV RX9 101 yX9_takenAt cX9_takenAt 4 (some .int) 2 := ⟨(List.forall_mem_cons.mpr ⟨(tg_3 210 rfl rfl), (List.forall_mem_cons.mpr ⟨(tg_3 212 rfl rfl), (List.forall_mem_cons.mpr ⟨(tg_0 28 rfl rfl), (List.forall_mem_cons.mpr ⟨(tg_1 6 rfl rfl), (List.forall_mem_cons.mpr ⟨(tg_3 213 rfl rfl), (fun _ h => absurd h List.not_mem_nil)⟩)⟩)⟩)⟩)⟩), by decide +kernel, by decide +kernel⟩
theorem cf_X9_104 : CFV RX9 104 yX0_addBone cX0_addBone 6 none 4 := ⟨(List.forall_mem_cons.mpr ⟨(tg_3 214 rfl rfl), (List.forall_mem_cons.mpr ⟨(tg_3 215 rfl rfl), (List.forall_mem_cons.mpr ⟨(tg_3 216 rfl rfl), (List.forall_mem_cons.mpr ⟨(tg_1 7 rfl rfl), (List.forall_mem_cons.mpr ⟨(tg_3 217 rfl rfl), (fun _ h => absurd h List.not_mem_nil)⟩)⟩)⟩)⟩)⟩), by decide +kernel, by decide +kernel⟩
theorem cf_X9_110 : CFV RX9 110 yX0_addFeud cX0_addFeud 3 none 2 := ⟨(List.forall_mem_cons.mpr ⟨(tg_3 218 rfl rfl), (List.forall_mem_cons.mpr ⟨(tg_3 219 rfl rfl), (List.forall_mem_cons.mpr ⟨(tg_3 220 rfl rfl), (List.forall_mem_cons.mpr ⟨(tg_1 7 rfl rfl), (List.forall_mem_cons.mpr ⟨(tg_3 221 rfl rfl), (fun _ h => absurd h List.not_mem_nil)⟩)⟩)⟩)⟩)⟩), by decide +kernel, by decide +kernel⟩
theorem cf_X9_121 : CFV RX9 121 yX3_worth cX3_worth 6 (some .int) 1 := ⟨(List.forall_mem_cons.mpr ⟨(tg_3 177 rfl rfl), (List.forall_mem_cons.mpr ⟨(tg_3 178 rfl rfl), (List.forall_mem_cons.mpr ⟨(tg_3 179 rfl rfl), (List.forall_mem_cons.mpr ⟨(tg_1 3 rfl rfl), (List.forall_mem_cons.mpr ⟨(tg_3 180 rfl rfl), (fun _ h => absurd h List.not_mem_nil)⟩)⟩)⟩)⟩)⟩), by decide +kernel, by decide +kernel⟩
theorem mm_X9_127 : (Cond.methodLink RX9 127 Lib.Math.max.name ∈ TT) ∧ (Cond.static Lib.Math.max.name ∈ TT) ∧ (Cond.initialized "java/lang/Math" ∈ TT) ∧ (Cond.code Lib.Math.max.name Lib.Math.max.code 2 (some .int) ∈ TT) := ⟨(tg_3 181 rfl rfl), (tg_3 182 rfl rfl), (tg_1 15 rfl rfl), (tg_3 183 rfl rfl)⟩
theorem mm_X9_132 : (Cond.methodLink RX9 132 Lib.Math.min.name ∈ TT) ∧ (Cond.static Lib.Math.min.name ∈ TT) ∧ (Cond.initialized "java/lang/Math" ∈ TT) ∧ (Cond.code Lib.Math.min.name Lib.Math.min.code 2 (some .int) ∈ TT) := ⟨(tg_3 184 rfl rfl), (tg_3 185 rfl rfl), (tg_1 15 rfl rfl), (tg_3 186 rfl rfl)⟩
theorem cf_X9_135 : CFV RX9 135 yX9_neighboursOf cX9_neighboursOf 2 (some .int) 1 := ⟨(List.forall_mem_cons.mpr ⟨(tg_3 191 rfl rfl), (List.forall_mem_cons.mpr ⟨(tg_3 145 rfl rfl), (List.forall_mem_cons.mpr ⟨(tg_3 146 rfl rfl), (List.forall_mem_cons.mpr ⟨(tg_1 6 rfl rfl), (List.forall_mem_cons.mpr ⟨(tg_3 147 rfl rfl), (fun _ h => absurd h List.not_mem_nil)⟩)⟩)⟩)⟩)⟩), by decide +kernel, by decide +kernel⟩
theorem cf_X9_144 : CFV RX9 144 yX9_draw cX9_draw 2 (some .int) 1 := ⟨(List.forall_mem_cons.mpr ⟨(tg_3 202 rfl rfl), (List.forall_mem_cons.mpr ⟨(tg_3 204 rfl rfl), (List.forall_mem_cons.mpr ⟨(tg_0 27 rfl rfl), (List.forall_mem_cons.mpr ⟨(tg_1 6 rfl rfl), (List.forall_mem_cons.mpr ⟨(tg_3 205 rfl rfl), (fun _ h => absurd h List.not_mem_nil)⟩)⟩)⟩)⟩)⟩), by decide +kernel, by decide +kernel⟩
theorem cp_X9_51 : Cond.methodLink RX9 51 arraycopyName ∈ TT ∧ Cond.native arraycopyName ∈ TT ∧ Cond.static arraycopyName ∈ TT ∧ Cond.initialized "java/lang/System" ∈ TT := ⟨(tg_3 110 rfl rfl), (tg_3 112 rfl rfl), (tg_3 111 rfl rfl), (tg_1 14 rfl rfl)⟩
theorem ff_X9_59 : CFS RX9 59 yJ7_fill_53178 cJ7_fill_53178 4 none 2 := ⟨(List.forall_mem_cons.mpr ⟨(tg_3 113 rfl rfl), (List.forall_mem_cons.mpr ⟨(tg_2 174 rfl rfl), (List.forall_mem_cons.mpr ⟨(tg_1 13 rfl rfl), (List.forall_mem_cons.mpr ⟨(tg_2 175 rfl rfl), (fun _ h => absurd h List.not_mem_nil)⟩)⟩)⟩)⟩), by decide +kernel, by decide +kernel⟩
theorem cf_X9_74 : CFS RX9 74 yJ6_bitCount_0f7a4 cJ6_bitCount_0f7a4 1 (some .int) 1 := ⟨(List.forall_mem_cons.mpr ⟨(tg_3 196 rfl rfl), (List.forall_mem_cons.mpr ⟨(tg_3 197 rfl rfl), (List.forall_mem_cons.mpr ⟨(tg_1 16 rfl rfl), (List.forall_mem_cons.mpr ⟨(tg_3 198 rfl rfl), (fun _ h => absurd h List.not_mem_nil)⟩)⟩)⟩)⟩), by decide +kernel, by decide +kernel⟩
theorem cf_X9_80 : CFV RX9 80 yX9_runWolf cX9_runWolf 8 none 2 := ⟨(List.forall_mem_cons.mpr ⟨(tg_3 168 rfl rfl), (List.forall_mem_cons.mpr ⟨(tg_3 170 rfl rfl), (List.forall_mem_cons.mpr ⟨(tg_0 23 rfl rfl), (List.forall_mem_cons.mpr ⟨(tg_1 6 rfl rfl), (List.forall_mem_cons.mpr ⟨(tg_3 171 rfl rfl), (fun _ h => absurd h List.not_mem_nil)⟩)⟩)⟩)⟩)⟩), by decide +kernel, by decide +kernel⟩
theorem cf_X9_84 : CFV RX9 84 yX9_endNight cX9_endNight 2 none 0 := ⟨(List.forall_mem_cons.mpr ⟨(tg_3 222 rfl rfl), (List.forall_mem_cons.mpr ⟨(tg_3 224 rfl rfl), (List.forall_mem_cons.mpr ⟨(tg_0 29 rfl rfl), (List.forall_mem_cons.mpr ⟨(tg_1 6 rfl rfl), (List.forall_mem_cons.mpr ⟨(tg_3 225 rfl rfl), (fun _ h => absurd h List.not_mem_nil)⟩)⟩)⟩)⟩)⟩), by decide +kernel, by decide +kernel⟩
theorem cf_X9_87 : CFV RX9 87 yX9_homeOf cX9_homeOf 4 (some .int) 1 := ⟨(List.forall_mem_cons.mpr ⟨(tg_3 172 rfl rfl), (List.forall_mem_cons.mpr ⟨(tg_3 141 rfl rfl), (List.forall_mem_cons.mpr ⟨(tg_3 142 rfl rfl), (List.forall_mem_cons.mpr ⟨(tg_1 6 rfl rfl), (List.forall_mem_cons.mpr ⟨(tg_3 143 rfl rfl), (fun _ h => absurd h List.not_mem_nil)⟩)⟩)⟩)⟩)⟩), by decide +kernel, by decide +kernel⟩
theorem cf_X9_90 : CFV RX9 90 yX9_fedAt cX9_fedAt 4 (some .int) 2 := ⟨(List.forall_mem_cons.mpr ⟨(tg_3 173 rfl rfl), (List.forall_mem_cons.mpr ⟨(tg_3 175 rfl rfl), (List.forall_mem_cons.mpr ⟨(tg_0 24 rfl rfl), (List.forall_mem_cons.mpr ⟨(tg_1 6 rfl rfl), (List.forall_mem_cons.mpr ⟨(tg_3 176 rfl rfl), (fun _ h => absurd h List.not_mem_nil)⟩)⟩)⟩)⟩)⟩), by decide +kernel, by decide +kernel⟩
theorem cf_X9_94 : CFV RX9 94 yX9_bestAround cX9_bestAround 9 (some .int) 3 := ⟨(List.forall_mem_cons.mpr ⟨(tg_3 187 rfl rfl), (List.forall_mem_cons.mpr ⟨(tg_3 189 rfl rfl), (List.forall_mem_cons.mpr ⟨(tg_0 25 rfl rfl), (List.forall_mem_cons.mpr ⟨(tg_1 6 rfl rfl), (List.forall_mem_cons.mpr ⟨(tg_3 190 rfl rfl), (fun _ h => absurd h List.not_mem_nil)⟩)⟩)⟩)⟩)⟩), by decide +kernel, by decide +kernel⟩
theorem cf_X9_98 : CFV RX9 98 yX9_oneOf cX9_oneOf 5 (some .int) 1 := ⟨(List.forall_mem_cons.mpr ⟨(tg_3 192 rfl rfl), (List.forall_mem_cons.mpr ⟨(tg_3 194 rfl rfl), (List.forall_mem_cons.mpr ⟨(tg_0 26 rfl rfl), (List.forall_mem_cons.mpr ⟨(tg_1 6 rfl rfl), (List.forall_mem_cons.mpr ⟨(tg_3 195 rfl rfl), (fun _ h => absurd h List.not_mem_nil)⟩)⟩)⟩)⟩)⟩), by decide +kernel, by decide +kernel⟩
