/-! printed by wip/gen/gen1.py: the words of the tables, by their places -/
theorem tt1 {w : Cond} (i : Nat) (h : tables_1_1[i]? = some w) (g : goodWord w = true) : w ∈ TT := List.mem_filter.mpr ⟨List.mem_append_right _ (List.mem_append_left _ (List.mem_of_getElem? h)), g⟩
theorem tt2 {w : Cond} (i : Nat) (h : tables_1_2[i]? = some w) (g : goodWord w = true) : w ∈ TT := List.mem_filter.mpr ⟨List.mem_append_right _ (List.mem_append_right _ (List.mem_append_left _ (List.mem_of_getElem? h))), g⟩
theorem tt3 {w : Cond} (i : Nat) (h : tables_1_3[i]? = some w) (g : goodWord w = true) : w ∈ TT := List.mem_filter.mpr ⟨List.mem_append_right _ (List.mem_append_right _ (List.mem_append_right _ (List.mem_append_left _ (List.mem_of_getElem? h)))), g⟩
theorem tt4 {w : Cond} (i : Nat) (h : tables_1_4[i]? = some w) (g : goodWord w = true) : w ∈ TT := List.mem_filter.mpr ⟨List.mem_append_right _ (List.mem_append_right _ (List.mem_append_right _ (List.mem_append_right _ (List.mem_append_left _ (List.mem_of_getElem? h))))), g⟩
theorem tt5 {w : Cond} (i : Nat) (h : tables_1_5[i]? = some w) (g : goodWord w = true) : w ∈ TT := List.mem_filter.mpr ⟨List.mem_append_right _ (List.mem_append_right _ (List.mem_append_right _ (List.mem_append_right _ (List.mem_append_right _ (List.mem_append_left _ (List.mem_of_getElem? h)))))), g⟩
theorem tt6 {w : Cond} (i : Nat) (h : tables_1_6[i]? = some w) (g : goodWord w = true) : w ∈ TT := List.mem_filter.mpr ⟨List.mem_append_right _ (List.mem_append_right _ (List.mem_append_right _ (List.mem_append_right _ (List.mem_append_right _ (List.mem_append_right _ (List.mem_append_left _ (List.mem_of_getElem? h))))))), g⟩
theorem tt7 {w : Cond} (i : Nat) (h : tables_1_7[i]? = some w) (g : goodWord w = true) : w ∈ TT := List.mem_filter.mpr ⟨List.mem_append_right _ (List.mem_append_right _ (List.mem_append_right _ (List.mem_append_right _ (List.mem_append_right _ (List.mem_append_right _ (List.mem_append_right _ (List.mem_append_left _ (List.mem_of_getElem? h)))))))), g⟩
theorem tt8 {w : Cond} (i : Nat) (h : tables_1_8[i]? = some w) (g : goodWord w = true) : w ∈ TT := List.mem_filter.mpr ⟨List.mem_append_right _ (List.mem_append_right _ (List.mem_append_right _ (List.mem_append_right _ (List.mem_append_right _ (List.mem_append_right _ (List.mem_append_right _ (List.mem_append_right _ (List.mem_of_getElem? h)))))))), g⟩
theorem iX0 : ∀ w ∈ u_ws RX0 TX0 9, w ∈ TT := by
  intro w hw
  obtain ⟨k, hk, rfl⟩ := List.mem_map.mp hw
  have hk := List.mem_range.mp hk
  match k, hk with
  | 0, _ => exact tt1 225 (by decide +kernel) rfl
  | 1, _ => exact tt1 227 (by decide +kernel) rfl
  | 2, _ => exact tt1 229 (by decide +kernel) rfl
  | 3, _ => exact tt1 231 (by decide +kernel) rfl
  | 4, _ => exact tt1 233 (by decide +kernel) rfl
  | 5, _ => exact tt1 235 (by decide +kernel) rfl
  | 6, _ => exact tt1 237 (by decide +kernel) rfl
  | 7, _ => exact tt1 239 (by decide +kernel) rfl
  | 8, _ => exact tt2 1 (by decide +kernel) rfl
  | k + 9, hk => exact absurd hk (by omega)
theorem iX1 : ∀ w ∈ u_ws RX1 TX1 15, w ∈ TT := by
  intro w hw
  obtain ⟨k, hk, rfl⟩ := List.mem_map.mp hw
  have hk := List.mem_range.mp hk
  match k, hk with
  | 0, _ => exact tt2 72 (by decide +kernel) rfl
  | 1, _ => exact tt2 74 (by decide +kernel) rfl
  | 2, _ => exact tt2 76 (by decide +kernel) rfl
  | 3, _ => exact tt2 78 (by decide +kernel) rfl
  | 4, _ => exact tt2 80 (by decide +kernel) rfl
  | 5, _ => exact tt2 82 (by decide +kernel) rfl
  | 6, _ => exact tt2 84 (by decide +kernel) rfl
  | 7, _ => exact tt2 86 (by decide +kernel) rfl
  | 8, _ => exact tt2 88 (by decide +kernel) rfl
  | 9, _ => exact tt2 90 (by decide +kernel) rfl
  | 10, _ => exact tt2 92 (by decide +kernel) rfl
  | 11, _ => exact tt2 94 (by decide +kernel) rfl
  | 12, _ => exact tt2 96 (by decide +kernel) rfl
  | 13, _ => exact tt2 98 (by decide +kernel) rfl
  | 14, _ => exact tt2 100 (by decide +kernel) rfl
  | k + 15, hk => exact absurd hk (by omega)
theorem iX2 : ∀ w ∈ u_ws RX2 TX2 17, w ∈ TT := by
  intro w hw
  obtain ⟨k, hk, rfl⟩ := List.mem_map.mp hw
  have hk := List.mem_range.mp hk
  match k, hk with
  | 0, _ => exact tt1 97 (by decide +kernel) rfl
  | 1, _ => exact tt1 99 (by decide +kernel) rfl
  | 2, _ => exact tt1 101 (by decide +kernel) rfl
  | 3, _ => exact tt1 103 (by decide +kernel) rfl
  | 4, _ => exact tt1 105 (by decide +kernel) rfl
  | 5, _ => exact tt1 107 (by decide +kernel) rfl
  | 6, _ => exact tt1 109 (by decide +kernel) rfl
  | 7, _ => exact tt1 111 (by decide +kernel) rfl
  | 8, _ => exact tt1 113 (by decide +kernel) rfl
  | 9, _ => exact tt1 115 (by decide +kernel) rfl
  | 10, _ => exact tt1 117 (by decide +kernel) rfl
  | 11, _ => exact tt1 119 (by decide +kernel) rfl
  | 12, _ => exact tt1 121 (by decide +kernel) rfl
  | 13, _ => exact tt1 123 (by decide +kernel) rfl
  | 14, _ => exact tt1 125 (by decide +kernel) rfl
  | 15, _ => exact tt1 127 (by decide +kernel) rfl
  | 16, _ => exact tt1 129 (by decide +kernel) rfl
  | k + 17, hk => exact absurd hk (by omega)
theorem iX3 : ∀ w ∈ u_ws RX3 TX3 6, w ∈ TT := by
  intro w hw
  obtain ⟨k, hk, rfl⟩ := List.mem_map.mp hw
  have hk := List.mem_range.mp hk
  match k, hk with
  | 0, _ => exact tt1 187 (by decide +kernel) rfl
  | 1, _ => exact tt1 189 (by decide +kernel) rfl
  | 2, _ => exact tt1 191 (by decide +kernel) rfl
  | 3, _ => exact tt1 193 (by decide +kernel) rfl
  | 4, _ => exact tt1 195 (by decide +kernel) rfl
  | 5, _ => exact tt1 197 (by decide +kernel) rfl
  | k + 6, hk => exact absurd hk (by omega)
theorem iX4 : ∀ w ∈ u_ws RX4 TX4 3, w ∈ TT := by
  intro w hw
  obtain ⟨k, hk, rfl⟩ := List.mem_map.mp hw
  have hk := List.mem_range.mp hk
  match k, hk with
  | 0, _ => exact tt1 142 (by decide +kernel) rfl
  | 1, _ => exact tt1 144 (by decide +kernel) rfl
  | 2, _ => exact tt1 146 (by decide +kernel) rfl
  | k + 3, hk => exact absurd hk (by omega)
theorem iX5 : ∀ w ∈ u_ws RX5 TX5 3, w ∈ TT := by
  intro w hw
  obtain ⟨k, hk, rfl⟩ := List.mem_map.mp hw
  have hk := List.mem_range.mp hk
  match k, hk with
  | 0, _ => exact tt3 231 (by decide +kernel) rfl
  | 1, _ => exact tt3 233 (by decide +kernel) rfl
  | 2, _ => exact tt3 235 (by decide +kernel) rfl
  | k + 3, hk => exact absurd hk (by omega)
theorem iX6 : ∀ w ∈ u_ws RX6 TX6 5, w ∈ TT := by
  intro w hw
  obtain ⟨k, hk, rfl⟩ := List.mem_map.mp hw
  have hk := List.mem_range.mp hk
  match k, hk with
  | 0, _ => exact tt2 181 (by decide +kernel) rfl
  | 1, _ => exact tt2 183 (by decide +kernel) rfl
  | 2, _ => exact tt2 185 (by decide +kernel) rfl
  | 3, _ => exact tt2 187 (by decide +kernel) rfl
  | 4, _ => exact tt2 189 (by decide +kernel) rfl
  | k + 5, hk => exact absurd hk (by omega)
theorem iX7 : ∀ w ∈ u_ws RX7 TX7 2, w ∈ TT := by
  intro w hw
  obtain ⟨k, hk, rfl⟩ := List.mem_map.mp hw
  have hk := List.mem_range.mp hk
  match k, hk with
  | 0, _ => exact tt1 172 (by decide +kernel) rfl
  | 1, _ => exact tt1 174 (by decide +kernel) rfl
  | k + 2, hk => exact absurd hk (by omega)
theorem iX8 : ∀ w ∈ u_ws RX8 TX8 4, w ∈ TT := by
  intro w hw
  obtain ⟨k, hk, rfl⟩ := List.mem_map.mp hw
  have hk := List.mem_range.mp hk
  match k, hk with
  | 0, _ => exact tt1 38 (by decide +kernel) rfl
  | 1, _ => exact tt1 40 (by decide +kernel) rfl
  | 2, _ => exact tt1 42 (by decide +kernel) rfl
  | 3, _ => exact tt1 44 (by decide +kernel) rfl
  | k + 4, hk => exact absurd hk (by omega)
theorem iX9 : ∀ w ∈ u_ws RX9 TX9 9, w ∈ TT := by
  intro w hw
  obtain ⟨k, hk, rfl⟩ := List.mem_map.mp hw
  have hk := List.mem_range.mp hk
  match k, hk with
  | 0, _ => exact tt2 27 (by decide +kernel) rfl
  | 1, _ => exact tt2 29 (by decide +kernel) rfl
  | 2, _ => exact tt2 31 (by decide +kernel) rfl
  | 3, _ => exact tt2 33 (by decide +kernel) rfl
  | 4, _ => exact tt2 35 (by decide +kernel) rfl
  | 5, _ => exact tt2 37 (by decide +kernel) rfl
  | 6, _ => exact tt2 39 (by decide +kernel) rfl
  | 7, _ => exact tt2 41 (by decide +kernel) rfl
  | 8, _ => exact tt2 43 (by decide +kernel) rfl
  | k + 9, hk => exact absurd hk (by omega)
theorem iX10 : ∀ w ∈ u_ws RX10 TX10 17, w ∈ TT := by
  intro w hw
  obtain ⟨k, hk, rfl⟩ := List.mem_map.mp hw
  have hk := List.mem_range.mp hk
  match k, hk with
  | 0, _ => exact tt2 135 (by decide +kernel) rfl
  | 1, _ => exact tt2 137 (by decide +kernel) rfl
  | 2, _ => exact tt2 139 (by decide +kernel) rfl
  | 3, _ => exact tt2 141 (by decide +kernel) rfl
  | 4, _ => exact tt2 143 (by decide +kernel) rfl
  | 5, _ => exact tt2 145 (by decide +kernel) rfl
  | 6, _ => exact tt2 147 (by decide +kernel) rfl
  | 7, _ => exact tt2 149 (by decide +kernel) rfl
  | 8, _ => exact tt2 151 (by decide +kernel) rfl
  | 9, _ => exact tt2 153 (by decide +kernel) rfl
  | 10, _ => exact tt2 155 (by decide +kernel) rfl
  | 11, _ => exact tt2 157 (by decide +kernel) rfl
  | 12, _ => exact tt2 159 (by decide +kernel) rfl
  | 13, _ => exact tt2 161 (by decide +kernel) rfl
  | 14, _ => exact tt2 163 (by decide +kernel) rfl
  | 15, _ => exact tt2 165 (by decide +kernel) rfl
  | 16, _ => exact tt2 167 (by decide +kernel) rfl
  | k + 17, hk => exact absurd hk (by omega)
theorem iX11 : ∀ w ∈ u_ws RX11 TX11 17, w ∈ TT := by
  intro w hw
  obtain ⟨k, hk, rfl⟩ := List.mem_map.mp hw
  have hk := List.mem_range.mp hk
  match k, hk with
  | 0, _ => exact tt2 209 (by decide +kernel) rfl
  | 1, _ => exact tt2 211 (by decide +kernel) rfl
  | 2, _ => exact tt2 213 (by decide +kernel) rfl
  | 3, _ => exact tt2 215 (by decide +kernel) rfl
  | 4, _ => exact tt2 217 (by decide +kernel) rfl
  | 5, _ => exact tt2 219 (by decide +kernel) rfl
  | 6, _ => exact tt2 221 (by decide +kernel) rfl
  | 7, _ => exact tt2 223 (by decide +kernel) rfl
  | 8, _ => exact tt2 225 (by decide +kernel) rfl
  | 9, _ => exact tt2 227 (by decide +kernel) rfl
  | 10, _ => exact tt2 229 (by decide +kernel) rfl
  | 11, _ => exact tt2 231 (by decide +kernel) rfl
  | 12, _ => exact tt2 233 (by decide +kernel) rfl
  | 13, _ => exact tt2 235 (by decide +kernel) rfl
  | 14, _ => exact tt2 237 (by decide +kernel) rfl
  | 15, _ => exact tt2 239 (by decide +kernel) rfl
  | 16, _ => exact tt3 1 (by decide +kernel) rfl
  | k + 17, hk => exact absurd hk (by omega)
theorem iX12 : ∀ w ∈ u_ws RX12 TX12 61, w ∈ TT := by
  intro w hw
  obtain ⟨k, hk, rfl⟩ := List.mem_map.mp hw
  have hk := List.mem_range.mp hk
  match k, hk with
  | 0, _ => exact tt6 142 (by decide +kernel) rfl
  | 1, _ => exact tt6 144 (by decide +kernel) rfl
  | 2, _ => exact tt6 146 (by decide +kernel) rfl
  | 3, _ => exact tt6 148 (by decide +kernel) rfl
  | 4, _ => exact tt6 150 (by decide +kernel) rfl
  | 5, _ => exact tt6 152 (by decide +kernel) rfl
  | 6, _ => exact tt6 154 (by decide +kernel) rfl
  | 7, _ => exact tt6 156 (by decide +kernel) rfl
  | 8, _ => exact tt6 158 (by decide +kernel) rfl
  | 9, _ => exact tt6 160 (by decide +kernel) rfl
  | 10, _ => exact tt6 162 (by decide +kernel) rfl
  | 11, _ => exact tt6 164 (by decide +kernel) rfl
  | 12, _ => exact tt6 166 (by decide +kernel) rfl
  | 13, _ => exact tt6 168 (by decide +kernel) rfl
  | 14, _ => exact tt6 170 (by decide +kernel) rfl
  | 15, _ => exact tt6 172 (by decide +kernel) rfl
  | 16, _ => exact tt6 174 (by decide +kernel) rfl
  | 17, _ => exact tt6 176 (by decide +kernel) rfl
  | 18, _ => exact tt6 178 (by decide +kernel) rfl
  | 19, _ => exact tt6 180 (by decide +kernel) rfl
  | 20, _ => exact tt6 182 (by decide +kernel) rfl
  | 21, _ => exact tt6 184 (by decide +kernel) rfl
  | 22, _ => exact tt6 186 (by decide +kernel) rfl
  | 23, _ => exact tt6 188 (by decide +kernel) rfl
  | 24, _ => exact tt6 190 (by decide +kernel) rfl
  | 25, _ => exact tt6 192 (by decide +kernel) rfl
  | 26, _ => exact tt6 194 (by decide +kernel) rfl
  | 27, _ => exact tt6 196 (by decide +kernel) rfl
  | 28, _ => exact tt6 198 (by decide +kernel) rfl
  | 29, _ => exact tt6 200 (by decide +kernel) rfl
  | 30, _ => exact tt6 202 (by decide +kernel) rfl
  | 31, _ => exact tt6 204 (by decide +kernel) rfl
  | 32, _ => exact tt6 206 (by decide +kernel) rfl
  | 33, _ => exact tt6 208 (by decide +kernel) rfl
  | 34, _ => exact tt6 210 (by decide +kernel) rfl
  | 35, _ => exact tt6 212 (by decide +kernel) rfl
  | 36, _ => exact tt6 214 (by decide +kernel) rfl
  | 37, _ => exact tt6 216 (by decide +kernel) rfl
  | 38, _ => exact tt6 218 (by decide +kernel) rfl
  | 39, _ => exact tt6 220 (by decide +kernel) rfl
  | 40, _ => exact tt6 222 (by decide +kernel) rfl
  | 41, _ => exact tt6 224 (by decide +kernel) rfl
  | 42, _ => exact tt6 226 (by decide +kernel) rfl
  | 43, _ => exact tt6 228 (by decide +kernel) rfl
  | 44, _ => exact tt6 230 (by decide +kernel) rfl
  | 45, _ => exact tt6 232 (by decide +kernel) rfl
  | 46, _ => exact tt6 234 (by decide +kernel) rfl
  | 47, _ => exact tt6 236 (by decide +kernel) rfl
  | 48, _ => exact tt6 238 (by decide +kernel) rfl
  | 49, _ => exact tt7 0 (by decide +kernel) rfl
  | 50, _ => exact tt7 2 (by decide +kernel) rfl
  | 51, _ => exact tt7 4 (by decide +kernel) rfl
  | 52, _ => exact tt7 6 (by decide +kernel) rfl
  | 53, _ => exact tt7 8 (by decide +kernel) rfl
  | 54, _ => exact tt7 10 (by decide +kernel) rfl
  | 55, _ => exact tt7 12 (by decide +kernel) rfl
  | 56, _ => exact tt7 14 (by decide +kernel) rfl
  | 57, _ => exact tt7 16 (by decide +kernel) rfl
  | 58, _ => exact tt7 18 (by decide +kernel) rfl
  | 59, _ => exact tt7 20 (by decide +kernel) rfl
  | 60, _ => exact tt7 22 (by decide +kernel) rfl
  | k + 61, hk => exact absurd hk (by omega)
theorem fl_X11_10 : Cond.fieldLink RX11 10 (TX11 0).1 (TX11 0).2.1 (TX11 0).2.2.1 ∈ TT := tt2 192 (by decide +kernel) rfl
theorem fl_X11_19 : Cond.fieldLink RX11 19 (TX11 1).1 (TX11 1).2.1 (TX11 1).2.2.1 ∈ TT := tt2 193 (by decide +kernel) rfl
theorem fl_X11_26 : Cond.fieldLink RX11 26 (TX11 2).1 (TX11 2).2.1 (TX11 2).2.2.1 ∈ TT := tt2 194 (by decide +kernel) rfl
theorem fl_X11_32 : Cond.fieldLink RX11 32 (TX11 3).1 (TX11 3).2.1 (TX11 3).2.2.1 ∈ TT := tt2 195 (by decide +kernel) rfl
theorem fl_X11_36 : Cond.fieldLink RX11 36 (TX11 4).1 (TX11 4).2.1 (TX11 4).2.2.1 ∈ TT := tt2 196 (by decide +kernel) rfl
theorem fl_X11_45 : Cond.fieldLink RX11 45 (TX11 5).1 (TX11 5).2.1 (TX11 5).2.2.1 ∈ TT := tt2 197 (by decide +kernel) rfl
theorem fl_X11_54 : Cond.fieldLink RX11 54 (TX11 6).1 (TX11 6).2.1 (TX11 6).2.2.1 ∈ TT := tt2 198 (by decide +kernel) rfl
theorem fl_X11_63 : Cond.fieldLink RX11 63 (TX11 7).1 (TX11 7).2.1 (TX11 7).2.2.1 ∈ TT := tt2 199 (by decide +kernel) rfl
theorem fl_X11_72 : Cond.fieldLink RX11 72 (TX11 8).1 (TX11 8).2.1 (TX11 8).2.2.1 ∈ TT := tt2 200 (by decide +kernel) rfl
theorem fl_X11_81 : Cond.fieldLink RX11 81 (TX11 9).1 (TX11 9).2.1 (TX11 9).2.2.1 ∈ TT := tt2 201 (by decide +kernel) rfl
theorem fl_X11_88 : Cond.fieldLink RX11 88 (TX11 10).1 (TX11 10).2.1 (TX11 10).2.2.1 ∈ TT := tt2 202 (by decide +kernel) rfl
theorem fl_X11_92 : Cond.fieldLink RX11 92 (TX11 11).1 (TX11 11).2.1 (TX11 11).2.2.1 ∈ TT := tt2 203 (by decide +kernel) rfl
theorem fl_X11_96 : Cond.fieldLink RX11 96 (TX11 12).1 (TX11 12).2.1 (TX11 12).2.2.1 ∈ TT := tt2 204 (by decide +kernel) rfl
theorem fl_X11_99 : Cond.fieldLink RX11 99 (TX11 13).1 (TX11 13).2.1 (TX11 13).2.2.1 ∈ TT := tt2 205 (by decide +kernel) rfl
theorem fl_X11_103 : Cond.fieldLink RX11 103 (TX11 14).1 (TX11 14).2.1 (TX11 14).2.2.1 ∈ TT := tt2 206 (by decide +kernel) rfl
theorem fl_X11_106 : Cond.fieldLink RX11 106 (TX11 15).1 (TX11 15).2.1 (TX11 15).2.2.1 ∈ TT := tt2 207 (by decide +kernel) rfl
theorem fl_X11_109 : Cond.fieldLink RX11 109 (TX11 16).1 (TX11 16).2.1 (TX11 16).2.2.1 ∈ TT := tt2 208 (by decide +kernel) rfl
theorem fl_X11_117 : Cond.fieldLink RX11 117 (TX8 0).1 (TX8 0).2.1 (TX8 0).2.2.1 ∈ TT := tt1 32 (by decide +kernel) rfl
theorem fl_X11_123 : Cond.fieldLink RX11 123 (TX8 1).1 (TX8 1).2.1 (TX8 1).2.2.1 ∈ TT := tt1 34 (by decide +kernel) rfl
theorem fl_X11_126 : Cond.fieldLink RX11 126 (TX8 3).1 (TX8 3).2.1 (TX8 3).2.2.1 ∈ TT := tt1 37 (by decide +kernel) rfl
theorem fl_X11_149 : Cond.fieldLink RX11 149 (TX2 13).1 (TX2 13).2.1 (TX2 13).2.2.1 ∈ TT := tt1 90 (by decide +kernel) rfl
theorem fl_X11_166 : Cond.fieldLink RX11 166 (TX2 5).1 (TX2 5).2.1 (TX2 5).2.2.1 ∈ TT := tt1 68 (by decide +kernel) rfl
theorem fl_X11_169 : Cond.fieldLink RX11 169 (TX2 12).1 (TX2 12).2.1 (TX2 12).2.2.1 ∈ TT := tt1 86 (by decide +kernel) rfl
theorem fl_X11_200 : Cond.fieldLink RX11 200 (TX4 1).1 (TX4 1).2.1 (TX4 1).2.2.1 ∈ TT := tt1 140 (by decide +kernel) rfl
theorem fl_X11_229 : Cond.fieldLink RX11 229 (TX5 1).1 (TX5 1).2.1 (TX5 1).2.2.1 ∈ TT := tt3 229 (by decide +kernel) rfl
theorem fl_X11_248 : Cond.fieldLink RX11 248 (TX0 5).1 (TX0 5).2.1 (TX0 5).2.2.1 ∈ TT := tt1 219 (by decide +kernel) rfl
theorem fl_X11_268 : Cond.fieldLink RX11 268 (TX1 3).1 (TX1 3).2.1 (TX1 3).2.2.1 ∈ TT := tt2 56 (by decide +kernel) rfl
theorem fl_X11_274 : Cond.fieldLink RX11 274 (TX1 4).1 (TX1 4).2.1 (TX1 4).2.2.1 ∈ TT := tt2 58 (by decide +kernel) rfl
theorem fl_X11_283 : Cond.fieldLink RX11 283 (TX1 9).1 (TX1 9).2.1 (TX1 9).2.2.1 ∈ TT := tt2 65 (by decide +kernel) rfl
theorem fl_X11_286 : Cond.fieldLink RX11 286 (TX1 8).1 (TX1 8).2.1 (TX1 8).2.2.1 ∈ TT := tt2 63 (by decide +kernel) rfl
theorem fl_X11_314 : Cond.fieldLink RX11 314 (TX3 1).1 (TX3 1).2.1 (TX3 1).2.2.1 ∈ TT := tt1 181 (by decide +kernel) rfl
theorem fl_X11_323 : Cond.fieldLink RX11 323 (TX7 0).1 (TX7 0).2.1 (TX7 0).2.2.1 ∈ TT := tt1 167 (by decide +kernel) rfl
theorem fl_X11_341 : Cond.fieldLink RX11 341 (TX2 4).1 (TX2 4).2.1 (TX2 4).2.2.1 ∈ TT := tt1 64 (by decide +kernel) rfl
theorem fl_X11_350 : Cond.fieldLink RX11 350 (TX3 5).1 (TX3 5).2.1 (TX3 5).2.2.1 ∈ TT := tt1 186 (by decide +kernel) rfl
theorem fl_X11_359 : Cond.fieldLink RX11 359 (TX7 1).1 (TX7 1).2.1 (TX7 1).2.2.1 ∈ TT := tt1 171 (by decide +kernel) rfl
theorem fl_X11_369 : Cond.fieldLink RX11 369 (TX10 12).1 (TX10 12).2.1 (TX10 12).2.2.1 ∈ TT := tt2 126 (by decide +kernel) rfl
theorem fl_X11_372 : Cond.fieldLink RX11 372 (TX10 10).1 (TX10 10).2.1 (TX10 10).2.2.1 ∈ TT := tt2 122 (by decide +kernel) rfl
theorem fl_X11_375 : Cond.fieldLink RX11 375 (TX10 11).1 (TX10 11).2.1 (TX10 11).2.2.1 ∈ TT := tt2 124 (by decide +kernel) rfl
theorem fl_X11_403 : Cond.fieldLink RX11 403 (TX10 15).1 (TX10 15).2.1 (TX10 15).2.2.1 ∈ TT := tt2 132 (by decide +kernel) rfl
theorem fl_X11_409 : Cond.fieldLink RX11 409 (TX2 10).1 (TX2 10).2.1 (TX2 10).2.2.1 ∈ TT := tt1 79 (by decide +kernel) rfl
theorem fl_X11_429 : Cond.fieldLink RX11 429 (TX0 8).1 (TX0 8).2.1 (TX0 8).2.2.1 ∈ TT := tt1 224 (by decide +kernel) rfl
theorem fl_X11_433 : Cond.fieldLink RX11 433 (TX9 8).1 (TX9 8).2.1 (TX9 8).2.2.1 ∈ TT := tt2 26 (by decide +kernel) rfl
theorem fl_X11_434 : Cond.fieldLink RX11 434 (TX1 14).1 (TX1 14).2.1 (TX1 14).2.2.1 ∈ TT := tt2 71 (by decide +kernel) rfl
theorem fl_X11_435 : Cond.fieldLink RX11 435 (TX10 13).1 (TX10 13).2.1 (TX10 13).2.2.1 ∈ TT := tt2 128 (by decide +kernel) rfl
theorem fl_X11_438 : Cond.fieldLink RX11 438 (TX10 7).1 (TX10 7).2.1 (TX10 7).2.2.1 ∈ TT := tt2 118 (by decide +kernel) rfl
theorem fl_X11_441 : Cond.fieldLink RX11 441 (TX10 16).1 (TX10 16).2.1 (TX10 16).2.2.1 ∈ TT := tt2 134 (by decide +kernel) rfl
theorem fl_X11_445 : Cond.fieldLink RX11 445 (TX0 7).1 (TX0 7).2.1 (TX0 7).2.2.1 ∈ TT := tt1 222 (by decide +kernel) rfl
theorem fl_X11_451 : Cond.fieldLink RX11 451 (TX10 4).1 (TX10 4).2.1 (TX10 4).2.2.1 ∈ TT := tt2 114 (by decide +kernel) rfl
theorem fl_X11_460 : Cond.fieldLink RX11 460 (TX2 6).1 (TX2 6).2.1 (TX2 6).2.2.1 ∈ TT := tt1 72 (by decide +kernel) rfl
theorem fl_X11_466 : Cond.fieldLink RX11 466 (TX9 3).1 (TX9 3).2.1 (TX9 3).2.2.1 ∈ TT := tt2 15 (by decide +kernel) rfl
theorem fl_X11_469 : Cond.fieldLink RX11 469 (TX9 4).1 (TX9 4).2.1 (TX9 4).2.2.1 ∈ TT := tt2 17 (by decide +kernel) rfl
theorem fl_X11_476 : Cond.fieldLink RX11 476 (TX2 7).1 (TX2 7).2.1 (TX2 7).2.2.1 ∈ TT := tt1 75 (by decide +kernel) rfl
theorem fl_X11_501 : Cond.fieldLink RX11 501 (TX10 14).1 (TX10 14).2.1 (TX10 14).2.2.1 ∈ TT := tt2 130 (by decide +kernel) rfl
theorem fl_X0_9 : Cond.fieldLink RX0 9 (TX0 2).1 (TX0 2).2.1 (TX0 2).2.2.1 ∈ TT := tt1 208 (by decide +kernel) rfl
theorem fl_X0_15 : Cond.fieldLink RX0 15 (TX0 3).1 (TX0 3).2.1 (TX0 3).2.2.1 ∈ TT := tt1 212 (by decide +kernel) rfl
theorem fl_X0_19 : Cond.fieldLink RX0 19 (TX0 4).1 (TX0 4).2.1 (TX0 4).2.2.1 ∈ TT := tt1 214 (by decide +kernel) rfl
theorem fl_X0_22 : Cond.fieldLink RX0 22 (TX0 5).1 (TX0 5).2.1 (TX0 5).2.2.1 ∈ TT := tt1 215 (by decide +kernel) rfl
theorem fl_X0_26 : Cond.fieldLink RX0 26 (TX0 6).1 (TX0 6).2.1 (TX0 6).2.2.1 ∈ TT := tt1 220 (by decide +kernel) rfl
theorem fl_X0_29 : Cond.fieldLink RX0 29 (TX0 7).1 (TX0 7).2.1 (TX0 7).2.2.1 ∈ TT := tt1 221 (by decide +kernel) rfl
theorem fl_X0_33 : Cond.fieldLink RX0 33 (TX0 8).1 (TX0 8).2.1 (TX0 8).2.2.1 ∈ TT := tt1 223 (by decide +kernel) rfl
theorem fl_X0_36 : Cond.fieldLink RX0 36 (TX0 0).1 (TX0 0).2.1 (TX0 0).2.2.1 ∈ TT := tt1 206 (by decide +kernel) rfl
theorem fl_X0_40 : Cond.fieldLink RX0 40 (TX0 1).1 (TX0 1).2.1 (TX0 1).2.2.1 ∈ TT := tt1 207 (by decide +kernel) rfl
theorem fl_X0_50 : Cond.fieldLink RX0 50 (TX2 0).1 (TX2 0).2.1 (TX2 0).2.2.1 ∈ TT := tt1 58 (by decide +kernel) rfl
theorem fl_X0_63 : Cond.fieldLink RX0 63 (TX2 12).1 (TX2 12).2.1 (TX2 12).2.2.1 ∈ TT := tt1 85 (by decide +kernel) rfl
theorem fl_X0_79 : Cond.fieldLink RX0 79 (TX2 2).1 (TX2 2).2.1 (TX2 2).2.2.1 ∈ TT := tt1 61 (by decide +kernel) rfl
theorem fl_X0_82 : Cond.fieldLink RX0 82 (TX2 5).1 (TX2 5).2.1 (TX2 5).2.2.1 ∈ TT := tt1 67 (by decide +kernel) rfl
theorem fl_X0_85 : Cond.fieldLink RX0 85 (TX2 6).1 (TX2 6).2.1 (TX2 6).2.2.1 ∈ TT := tt1 71 (by decide +kernel) rfl
theorem fl_X0_94 : Cond.fieldLink RX0 94 (TX2 7).1 (TX2 7).2.1 (TX2 7).2.2.1 ∈ TT := tt1 74 (by decide +kernel) rfl
theorem fl_X0_103 : Cond.fieldLink RX0 103 (TX2 11).1 (TX2 11).2.1 (TX2 11).2.2.1 ∈ TT := tt1 83 (by decide +kernel) rfl
theorem fl_X1_9 : Cond.fieldLink RX1 9 (TX1 3).1 (TX1 3).2.1 (TX1 3).2.2.1 ∈ TT := tt2 55 (by decide +kernel) rfl
theorem fl_X1_15 : Cond.fieldLink RX1 15 (TX1 4).1 (TX1 4).2.1 (TX1 4).2.2.1 ∈ TT := tt2 57 (by decide +kernel) rfl
theorem fl_X1_18 : Cond.fieldLink RX1 18 (TX1 5).1 (TX1 5).2.1 (TX1 5).2.2.1 ∈ TT := tt2 59 (by decide +kernel) rfl
theorem fl_X1_21 : Cond.fieldLink RX1 21 (TX1 6).1 (TX1 6).2.1 (TX1 6).2.2.1 ∈ TT := tt2 60 (by decide +kernel) rfl
theorem fl_X1_24 : Cond.fieldLink RX1 24 (TX1 7).1 (TX1 7).2.1 (TX1 7).2.2.1 ∈ TT := tt2 61 (by decide +kernel) rfl
theorem fl_X1_27 : Cond.fieldLink RX1 27 (TX1 8).1 (TX1 8).2.1 (TX1 8).2.2.1 ∈ TT := tt2 62 (by decide +kernel) rfl
theorem fl_X1_31 : Cond.fieldLink RX1 31 (TX1 9).1 (TX1 9).2.1 (TX1 9).2.2.1 ∈ TT := tt2 64 (by decide +kernel) rfl
theorem fl_X1_34 : Cond.fieldLink RX1 34 (TX1 10).1 (TX1 10).2.1 (TX1 10).2.2.1 ∈ TT := tt2 66 (by decide +kernel) rfl
theorem fl_X1_37 : Cond.fieldLink RX1 37 (TX1 11).1 (TX1 11).2.1 (TX1 11).2.2.1 ∈ TT := tt2 67 (by decide +kernel) rfl
theorem fl_X1_40 : Cond.fieldLink RX1 40 (TX1 12).1 (TX1 12).2.1 (TX1 12).2.2.1 ∈ TT := tt2 68 (by decide +kernel) rfl
theorem fl_X1_43 : Cond.fieldLink RX1 43 (TX1 13).1 (TX1 13).2.1 (TX1 13).2.2.1 ∈ TT := tt2 69 (by decide +kernel) rfl
theorem fl_X1_46 : Cond.fieldLink RX1 46 (TX1 14).1 (TX1 14).2.1 (TX1 14).2.2.1 ∈ TT := tt2 70 (by decide +kernel) rfl
theorem fl_X1_50 : Cond.fieldLink RX1 50 (TX1 0).1 (TX1 0).2.1 (TX1 0).2.2.1 ∈ TT := tt2 52 (by decide +kernel) rfl
theorem fl_X1_54 : Cond.fieldLink RX1 54 (TX1 1).1 (TX1 1).2.1 (TX1 1).2.2.1 ∈ TT := tt2 53 (by decide +kernel) rfl
theorem fl_X1_58 : Cond.fieldLink RX1 58 (TX1 2).1 (TX1 2).2.1 (TX1 2).2.2.1 ∈ TT := tt2 54 (by decide +kernel) rfl
theorem fl_X1_70 : Cond.fieldLink RX1 70 (TX0 5).1 (TX0 5).2.1 (TX0 5).2.2.1 ∈ TT := tt1 217 (by decide +kernel) rfl
theorem fl_X1_89 : Cond.fieldLink RX1 89 (TX9 6).1 (TX9 6).2.1 (TX9 6).2.2.1 ∈ TT := tt2 22 (by decide +kernel) rfl
theorem fl_X1_95 : Cond.fieldLink RX1 95 (TX2 13).1 (TX2 13).2.1 (TX2 13).2.2.1 ∈ TT := tt1 89 (by decide +kernel) rfl
theorem fl_X1_100 : Cond.fieldLink RX1 100 (TX2 11).1 (TX2 11).2.1 (TX2 11).2.2.1 ∈ TT := tt1 82 (by decide +kernel) rfl
theorem fl_X1_106 : Cond.fieldLink RX1 106 (TX9 5).1 (TX9 5).2.1 (TX9 5).2.2.1 ∈ TT := tt2 19 (by decide +kernel) rfl
theorem fl_X1_123 : Cond.fieldLink RX1 123 (TX0 2).1 (TX0 2).2.1 (TX0 2).2.2.1 ∈ TT := tt1 211 (by decide +kernel) rfl
theorem fl_X1_139 : Cond.fieldLink RX1 139 (TX2 5).1 (TX2 5).2.1 (TX2 5).2.2.1 ∈ TT := tt1 69 (by decide +kernel) rfl
theorem fl_X2_9 : Cond.fieldLink RX2 9 (TX2 0).1 (TX2 0).2.1 (TX2 0).2.2.1 ∈ TT := tt1 57 (by decide +kernel) rfl
theorem fl_X2_15 : Cond.fieldLink RX2 15 (TX2 1).1 (TX2 1).2.1 (TX2 1).2.2.1 ∈ TT := tt1 59 (by decide +kernel) rfl
theorem fl_X2_18 : Cond.fieldLink RX2 18 (TX2 2).1 (TX2 2).2.1 (TX2 2).2.2.1 ∈ TT := tt1 60 (by decide +kernel) rfl
theorem fl_X2_21 : Cond.fieldLink RX2 21 (TX2 3).1 (TX2 3).2.1 (TX2 3).2.2.1 ∈ TT := tt1 62 (by decide +kernel) rfl
theorem fl_X2_24 : Cond.fieldLink RX2 24 (TX2 4).1 (TX2 4).2.1 (TX2 4).2.2.1 ∈ TT := tt1 63 (by decide +kernel) rfl
theorem fl_X2_27 : Cond.fieldLink RX2 27 (TX2 5).1 (TX2 5).2.1 (TX2 5).2.2.1 ∈ TT := tt1 65 (by decide +kernel) rfl
theorem fl_X2_30 : Cond.fieldLink RX2 30 (TX2 6).1 (TX2 6).2.1 (TX2 6).2.2.1 ∈ TT := tt1 70 (by decide +kernel) rfl
theorem fl_X2_33 : Cond.fieldLink RX2 33 (TX2 7).1 (TX2 7).2.1 (TX2 7).2.2.1 ∈ TT := tt1 73 (by decide +kernel) rfl
theorem fl_X2_36 : Cond.fieldLink RX2 36 (TX2 8).1 (TX2 8).2.1 (TX2 8).2.2.1 ∈ TT := tt1 76 (by decide +kernel) rfl
theorem fl_X2_39 : Cond.fieldLink RX2 39 (TX2 9).1 (TX2 9).2.1 (TX2 9).2.2.1 ∈ TT := tt1 77 (by decide +kernel) rfl
theorem fl_X2_42 : Cond.fieldLink RX2 42 (TX2 10).1 (TX2 10).2.1 (TX2 10).2.2.1 ∈ TT := tt1 78 (by decide +kernel) rfl
theorem fl_X2_46 : Cond.fieldLink RX2 46 (TX2 11).1 (TX2 11).2.1 (TX2 11).2.2.1 ∈ TT := tt1 80 (by decide +kernel) rfl
theorem fl_X2_49 : Cond.fieldLink RX2 49 (TX2 12).1 (TX2 12).2.1 (TX2 12).2.2.1 ∈ TT := tt1 84 (by decide +kernel) rfl
theorem fl_X2_52 : Cond.fieldLink RX2 52 (TX2 13).1 (TX2 13).2.1 (TX2 13).2.2.1 ∈ TT := tt1 87 (by decide +kernel) rfl
theorem fl_X2_55 : Cond.fieldLink RX2 55 (TX2 14).1 (TX2 14).2.1 (TX2 14).2.2.1 ∈ TT := tt1 91 (by decide +kernel) rfl
theorem fl_X2_58 : Cond.fieldLink RX2 58 (TX2 15).1 (TX2 15).2.1 (TX2 15).2.2.1 ∈ TT := tt1 93 (by decide +kernel) rfl
theorem fl_X2_61 : Cond.fieldLink RX2 61 (TX2 16).1 (TX2 16).2.1 (TX2 16).2.2.1 ∈ TT := tt1 95 (by decide +kernel) rfl
theorem fl_X3_12 : Cond.fieldLink RX3 12 (TX3 1).1 (TX3 1).2.1 (TX3 1).2.2.1 ∈ TT := tt1 179 (by decide +kernel) rfl
theorem fl_X3_18 : Cond.fieldLink RX3 18 (TX3 2).1 (TX3 2).2.1 (TX3 2).2.2.1 ∈ TT := tt1 182 (by decide +kernel) rfl
theorem fl_X3_21 : Cond.fieldLink RX3 21 (TX3 3).1 (TX3 3).2.1 (TX3 3).2.2.1 ∈ TT := tt1 183 (by decide +kernel) rfl
theorem fl_X3_25 : Cond.fieldLink RX3 25 (TX3 4).1 (TX3 4).2.1 (TX3 4).2.2.1 ∈ TT := tt1 184 (by decide +kernel) rfl
theorem fl_X3_29 : Cond.fieldLink RX3 29 (TX3 5).1 (TX3 5).2.1 (TX3 5).2.2.1 ∈ TT := tt1 185 (by decide +kernel) rfl
theorem fl_X3_32 : Cond.fieldLink RX3 32 (TX3 0).1 (TX3 0).2.1 (TX3 0).2.2.1 ∈ TT := tt1 178 (by decide +kernel) rfl
theorem fl_X3_36 : Cond.fieldLink RX3 36 (TX2 13).1 (TX2 13).2.1 (TX2 13).2.2.1 ∈ TT := tt1 88 (by decide +kernel) rfl
theorem fl_X3_41 : Cond.fieldLink RX3 41 (TX7 1).1 (TX7 1).2.1 (TX7 1).2.2.1 ∈ TT := tt1 169 (by decide +kernel) rfl
theorem fl_X3_45 : Cond.fieldLink RX3 45 (TX2 5).1 (TX2 5).2.1 (TX2 5).2.2.1 ∈ TT := tt1 66 (by decide +kernel) rfl
theorem fl_X3_48 : Cond.fieldLink RX3 48 (TX2 11).1 (TX2 11).2.1 (TX2 11).2.2.1 ∈ TT := tt1 81 (by decide +kernel) rfl
theorem fl_X3_80 : Cond.fieldLink RX3 80 (TX7 0).1 (TX7 0).2.1 (TX7 0).2.2.1 ∈ TT := tt1 166 (by decide +kernel) rfl
theorem fl_X4_9 : Cond.fieldLink RX4 9 (TX4 0).1 (TX4 0).2.1 (TX4 0).2.2.1 ∈ TT := tt1 138 (by decide +kernel) rfl
theorem fl_X4_15 : Cond.fieldLink RX4 15 (TX4 1).1 (TX4 1).2.1 (TX4 1).2.2.1 ∈ TT := tt1 139 (by decide +kernel) rfl
theorem fl_X4_18 : Cond.fieldLink RX4 18 (TX4 2).1 (TX4 2).2.1 (TX4 2).2.2.1 ∈ TT := tt1 141 (by decide +kernel) rfl
theorem fl_X5_9 : Cond.fieldLink RX5 9 (TX5 0).1 (TX5 0).2.1 (TX5 0).2.2.1 ∈ TT := tt3 227 (by decide +kernel) rfl
theorem fl_X5_15 : Cond.fieldLink RX5 15 (TX5 1).1 (TX5 1).2.1 (TX5 1).2.2.1 ∈ TT := tt3 228 (by decide +kernel) rfl
theorem fl_X5_19 : Cond.fieldLink RX5 19 (TX5 2).1 (TX5 2).2.1 (TX5 2).2.2.1 ∈ TT := tt3 230 (by decide +kernel) rfl
theorem fl_X6_9 : Cond.fieldLink RX6 9 (TX6 0).1 (TX6 0).2.1 (TX6 0).2.2.1 ∈ TT := tt2 176 (by decide +kernel) rfl
theorem fl_X6_15 : Cond.fieldLink RX6 15 (TX6 1).1 (TX6 1).2.1 (TX6 1).2.2.1 ∈ TT := tt2 177 (by decide +kernel) rfl
theorem fl_X6_19 : Cond.fieldLink RX6 19 (TX6 2).1 (TX6 2).2.1 (TX6 2).2.2.1 ∈ TT := tt2 178 (by decide +kernel) rfl
theorem fl_X6_22 : Cond.fieldLink RX6 22 (TX6 3).1 (TX6 3).2.1 (TX6 3).2.2.1 ∈ TT := tt2 179 (by decide +kernel) rfl
theorem fl_X6_26 : Cond.fieldLink RX6 26 (TX6 4).1 (TX6 4).2.1 (TX6 4).2.2.1 ∈ TT := tt2 180 (by decide +kernel) rfl
theorem fl_X7_9 : Cond.fieldLink RX7 9 (TX7 0).1 (TX7 0).2.1 (TX7 0).2.2.1 ∈ TT := tt1 164 (by decide +kernel) rfl
theorem fl_X7_15 : Cond.fieldLink RX7 15 (TX7 1).1 (TX7 1).2.1 (TX7 1).2.2.1 ∈ TT := tt1 168 (by decide +kernel) rfl
theorem fl_X8_9 : Cond.fieldLink RX8 9 (TX8 0).1 (TX8 0).2.1 (TX8 0).2.2.1 ∈ TT := tt1 31 (by decide +kernel) rfl
theorem fl_X8_15 : Cond.fieldLink RX8 15 (TX8 1).1 (TX8 1).2.1 (TX8 1).2.2.1 ∈ TT := tt1 33 (by decide +kernel) rfl
theorem fl_X8_18 : Cond.fieldLink RX8 18 (TX8 2).1 (TX8 2).2.1 (TX8 2).2.2.1 ∈ TT := tt1 35 (by decide +kernel) rfl
theorem fl_X8_21 : Cond.fieldLink RX8 21 (TX8 3).1 (TX8 3).2.1 (TX8 3).2.2.1 ∈ TT := tt1 36 (by decide +kernel) rfl
theorem fl_X9_9 : Cond.fieldLink RX9 9 (TX9 3).1 (TX9 3).2.1 (TX9 3).2.2.1 ∈ TT := tt2 14 (by decide +kernel) rfl
theorem fl_X9_15 : Cond.fieldLink RX9 15 (TX9 4).1 (TX9 4).2.1 (TX9 4).2.2.1 ∈ TT := tt2 16 (by decide +kernel) rfl
theorem fl_X9_18 : Cond.fieldLink RX9 18 (TX9 5).1 (TX9 5).2.1 (TX9 5).2.2.1 ∈ TT := tt2 18 (by decide +kernel) rfl
theorem fl_X9_22 : Cond.fieldLink RX9 22 (TX9 6).1 (TX9 6).2.1 (TX9 6).2.2.1 ∈ TT := tt2 21 (by decide +kernel) rfl
theorem fl_X9_26 : Cond.fieldLink RX9 26 (TX9 7).1 (TX9 7).2.1 (TX9 7).2.2.1 ∈ TT := tt2 24 (by decide +kernel) rfl
theorem fl_X9_29 : Cond.fieldLink RX9 29 (TX9 8).1 (TX9 8).2.1 (TX9 8).2.2.1 ∈ TT := tt2 25 (by decide +kernel) rfl
theorem fl_X9_33 : Cond.fieldLink RX9 33 (TX9 0).1 (TX9 0).2.1 (TX9 0).2.2.1 ∈ TT := tt2 11 (by decide +kernel) rfl
theorem fl_X9_37 : Cond.fieldLink RX9 37 (TX9 1).1 (TX9 1).2.1 (TX9 1).2.2.1 ∈ TT := tt2 12 (by decide +kernel) rfl
theorem fl_X9_41 : Cond.fieldLink RX9 41 (TX9 2).1 (TX9 2).2.1 (TX9 2).2.2.1 ∈ TT := tt2 13 (by decide +kernel) rfl
theorem fl_X9_51 : Cond.fieldLink RX9 51 (TX0 5).1 (TX0 5).2.1 (TX0 5).2.2.1 ∈ TT := tt1 218 (by decide +kernel) rfl
theorem fl_X9_60 : Cond.fieldLink RX9 60 (TX2 14).1 (TX2 14).2.1 (TX2 14).2.2.1 ∈ TT := tt1 92 (by decide +kernel) rfl
theorem fl_X9_65 : Cond.fieldLink RX9 65 (TX0 2).1 (TX0 2).2.1 (TX0 2).2.2.1 ∈ TT := tt1 209 (by decide +kernel) rfl
theorem fl_X9_68 : Cond.fieldLink RX9 68 (TX2 15).1 (TX2 15).2.1 (TX2 15).2.2.1 ∈ TT := tt1 94 (by decide +kernel) rfl
theorem fl_X9_71 : Cond.fieldLink RX9 71 (TX0 3).1 (TX0 3).2.1 (TX0 3).2.2.1 ∈ TT := tt1 213 (by decide +kernel) rfl
theorem fl_X9_80 : Cond.fieldLink RX9 80 (TX2 16).1 (TX2 16).2.1 (TX2 16).2.2.1 ∈ TT := tt1 96 (by decide +kernel) rfl
theorem fl_X10_9 : Cond.fieldLink RX10 9 (TX10 3).1 (TX10 3).2.1 (TX10 3).2.2.1 ∈ TT := tt2 112 (by decide +kernel) rfl
theorem fl_X10_15 : Cond.fieldLink RX10 15 (TX10 4).1 (TX10 4).2.1 (TX10 4).2.2.1 ∈ TT := tt2 113 (by decide +kernel) rfl
theorem fl_X10_19 : Cond.fieldLink RX10 19 (TX10 5).1 (TX10 5).2.1 (TX10 5).2.2.1 ∈ TT := tt2 115 (by decide +kernel) rfl
theorem fl_X10_22 : Cond.fieldLink RX10 22 (TX10 6).1 (TX10 6).2.1 (TX10 6).2.2.1 ∈ TT := tt2 116 (by decide +kernel) rfl
theorem fl_X10_25 : Cond.fieldLink RX10 25 (TX10 7).1 (TX10 7).2.1 (TX10 7).2.2.1 ∈ TT := tt2 117 (by decide +kernel) rfl
theorem fl_X10_29 : Cond.fieldLink RX10 29 (TX10 8).1 (TX10 8).2.1 (TX10 8).2.2.1 ∈ TT := tt2 119 (by decide +kernel) rfl
theorem fl_X10_32 : Cond.fieldLink RX10 32 (TX10 9).1 (TX10 9).2.1 (TX10 9).2.2.1 ∈ TT := tt2 120 (by decide +kernel) rfl
theorem fl_X10_35 : Cond.fieldLink RX10 35 (TX10 10).1 (TX10 10).2.1 (TX10 10).2.2.1 ∈ TT := tt2 121 (by decide +kernel) rfl
theorem fl_X10_39 : Cond.fieldLink RX10 39 (TX10 11).1 (TX10 11).2.1 (TX10 11).2.2.1 ∈ TT := tt2 123 (by decide +kernel) rfl
theorem fl_X10_42 : Cond.fieldLink RX10 42 (TX10 12).1 (TX10 12).2.1 (TX10 12).2.2.1 ∈ TT := tt2 125 (by decide +kernel) rfl
theorem fl_X10_45 : Cond.fieldLink RX10 45 (TX10 13).1 (TX10 13).2.1 (TX10 13).2.2.1 ∈ TT := tt2 127 (by decide +kernel) rfl
theorem fl_X10_48 : Cond.fieldLink RX10 48 (TX10 14).1 (TX10 14).2.1 (TX10 14).2.2.1 ∈ TT := tt2 129 (by decide +kernel) rfl
theorem fl_X10_51 : Cond.fieldLink RX10 51 (TX10 15).1 (TX10 15).2.1 (TX10 15).2.2.1 ∈ TT := tt2 131 (by decide +kernel) rfl
theorem fl_X10_54 : Cond.fieldLink RX10 54 (TX10 16).1 (TX10 16).2.1 (TX10 16).2.2.1 ∈ TT := tt2 133 (by decide +kernel) rfl
theorem fl_X10_57 : Cond.fieldLink RX10 57 (TX10 0).1 (TX10 0).2.1 (TX10 0).2.2.1 ∈ TT := tt2 109 (by decide +kernel) rfl
theorem fl_X10_61 : Cond.fieldLink RX10 61 (TX10 1).1 (TX10 1).2.1 (TX10 1).2.2.1 ∈ TT := tt2 110 (by decide +kernel) rfl
theorem fl_X10_65 : Cond.fieldLink RX10 65 (TX10 2).1 (TX10 2).2.1 (TX10 2).2.2.1 ∈ TT := tt2 111 (by decide +kernel) rfl
theorem fl_X10_69 : Cond.fieldLink RX10 69 (TX0 5).1 (TX0 5).2.1 (TX0 5).2.2.1 ∈ TT := tt1 216 (by decide +kernel) rfl
theorem fl_X10_88 : Cond.fieldLink RX10 88 (TX3 1).1 (TX3 1).2.1 (TX3 1).2.2.1 ∈ TT := tt1 180 (by decide +kernel) rfl
theorem fl_X10_94 : Cond.fieldLink RX10 94 (TX0 2).1 (TX0 2).2.1 (TX0 2).2.2.1 ∈ TT := tt1 210 (by decide +kernel) rfl
theorem fl_X10_97 : Cond.fieldLink RX10 97 (TX7 1).1 (TX7 1).2.1 (TX7 1).2.2.1 ∈ TT := tt1 170 (by decide +kernel) rfl
theorem fl_X10_105 : Cond.fieldLink RX10 105 (TX7 0).1 (TX7 0).2.1 (TX7 0).2.2.1 ∈ TT := tt1 165 (by decide +kernel) rfl
theorem fl_X10_134 : Cond.fieldLink RX10 134 (TX9 6).1 (TX9 6).2.1 (TX9 6).2.2.1 ∈ TT := tt2 23 (by decide +kernel) rfl
theorem fl_X10_153 : Cond.fieldLink RX10 153 (TX9 5).1 (TX9 5).2.1 (TX9 5).2.2.1 ∈ TT := tt2 20 (by decide +kernel) rfl
theorem fl_X12_7 : Cond.fieldLink RX12 7 (TX12 1).1 (TX12 1).2.1 (TX12 1).2.2.1 ∈ TT := tt6 82 (by decide +kernel) rfl
theorem fl_X12_13 : Cond.fieldLink RX12 13 (TX12 2).1 (TX12 2).2.1 (TX12 2).2.2.1 ∈ TT := tt6 83 (by decide +kernel) rfl
theorem fl_X12_16 : Cond.fieldLink RX12 16 (TX12 3).1 (TX12 3).2.1 (TX12 3).2.2.1 ∈ TT := tt6 84 (by decide +kernel) rfl
theorem fl_X12_19 : Cond.fieldLink RX12 19 (TX12 5).1 (TX12 5).2.1 (TX12 5).2.2.1 ∈ TT := tt6 86 (by decide +kernel) rfl
theorem fl_X12_22 : Cond.fieldLink RX12 22 (TX12 6).1 (TX12 6).2.1 (TX12 6).2.2.1 ∈ TT := tt6 87 (by decide +kernel) rfl
theorem fl_X12_26 : Cond.fieldLink RX12 26 (TX12 8).1 (TX12 8).2.1 (TX12 8).2.2.1 ∈ TT := tt6 89 (by decide +kernel) rfl
theorem fl_X12_29 : Cond.fieldLink RX12 29 (TX12 9).1 (TX12 9).2.1 (TX12 9).2.2.1 ∈ TT := tt6 90 (by decide +kernel) rfl
theorem fl_X12_32 : Cond.fieldLink RX12 32 (TX12 10).1 (TX12 10).2.1 (TX12 10).2.2.1 ∈ TT := tt6 91 (by decide +kernel) rfl
theorem fl_X12_35 : Cond.fieldLink RX12 35 (TX12 11).1 (TX12 11).2.1 (TX12 11).2.2.1 ∈ TT := tt6 92 (by decide +kernel) rfl
theorem fl_X12_38 : Cond.fieldLink RX12 38 (TX12 12).1 (TX12 12).2.1 (TX12 12).2.2.1 ∈ TT := tt6 93 (by decide +kernel) rfl
theorem fl_X12_41 : Cond.fieldLink RX12 41 (TX12 14).1 (TX12 14).2.1 (TX12 14).2.2.1 ∈ TT := tt6 95 (by decide +kernel) rfl
theorem fl_X12_44 : Cond.fieldLink RX12 44 (TX12 15).1 (TX12 15).2.1 (TX12 15).2.2.1 ∈ TT := tt6 96 (by decide +kernel) rfl
theorem fl_X12_47 : Cond.fieldLink RX12 47 (TX12 16).1 (TX12 16).2.1 (TX12 16).2.2.1 ∈ TT := tt6 97 (by decide +kernel) rfl
theorem fl_X12_50 : Cond.fieldLink RX12 50 (TX12 17).1 (TX12 17).2.1 (TX12 17).2.2.1 ∈ TT := tt6 98 (by decide +kernel) rfl
theorem fl_X12_53 : Cond.fieldLink RX12 53 (TX12 18).1 (TX12 18).2.1 (TX12 18).2.2.1 ∈ TT := tt6 99 (by decide +kernel) rfl
theorem fl_X12_56 : Cond.fieldLink RX12 56 (TX12 19).1 (TX12 19).2.1 (TX12 19).2.2.1 ∈ TT := tt6 100 (by decide +kernel) rfl
theorem fl_X12_59 : Cond.fieldLink RX12 59 (TX12 20).1 (TX12 20).2.1 (TX12 20).2.2.1 ∈ TT := tt6 101 (by decide +kernel) rfl
theorem fl_X12_63 : Cond.fieldLink RX12 63 (TX12 21).1 (TX12 21).2.1 (TX12 21).2.2.1 ∈ TT := tt6 102 (by decide +kernel) rfl
theorem fl_X12_66 : Cond.fieldLink RX12 66 (TX12 23).1 (TX12 23).2.1 (TX12 23).2.2.1 ∈ TT := tt6 104 (by decide +kernel) rfl
theorem fl_X12_69 : Cond.fieldLink RX12 69 (TX12 24).1 (TX12 24).2.1 (TX12 24).2.2.1 ∈ TT := tt6 105 (by decide +kernel) rfl
theorem fl_X12_72 : Cond.fieldLink RX12 72 (TX12 25).1 (TX12 25).2.1 (TX12 25).2.2.1 ∈ TT := tt6 106 (by decide +kernel) rfl
theorem fl_X12_75 : Cond.fieldLink RX12 75 (TX12 26).1 (TX12 26).2.1 (TX12 26).2.2.1 ∈ TT := tt6 107 (by decide +kernel) rfl
theorem fl_X12_78 : Cond.fieldLink RX12 78 (TX12 29).1 (TX12 29).2.1 (TX12 29).2.2.1 ∈ TT := tt6 110 (by decide +kernel) rfl
theorem fl_X12_81 : Cond.fieldLink RX12 81 (TX12 30).1 (TX12 30).2.1 (TX12 30).2.2.1 ∈ TT := tt6 111 (by decide +kernel) rfl
theorem fl_X12_84 : Cond.fieldLink RX12 84 (TX12 33).1 (TX12 33).2.1 (TX12 33).2.2.1 ∈ TT := tt6 114 (by decide +kernel) rfl
theorem fl_X12_87 : Cond.fieldLink RX12 87 (TX12 34).1 (TX12 34).2.1 (TX12 34).2.2.1 ∈ TT := tt6 115 (by decide +kernel) rfl
theorem fl_X12_90 : Cond.fieldLink RX12 90 (TX12 35).1 (TX12 35).2.1 (TX12 35).2.2.1 ∈ TT := tt6 116 (by decide +kernel) rfl
theorem fl_X12_93 : Cond.fieldLink RX12 93 (TX12 36).1 (TX12 36).2.1 (TX12 36).2.2.1 ∈ TT := tt6 117 (by decide +kernel) rfl
theorem fl_X12_96 : Cond.fieldLink RX12 96 (TX12 37).1 (TX12 37).2.1 (TX12 37).2.2.1 ∈ TT := tt6 118 (by decide +kernel) rfl
theorem fl_X12_99 : Cond.fieldLink RX12 99 (TX12 38).1 (TX12 38).2.1 (TX12 38).2.2.1 ∈ TT := tt6 119 (by decide +kernel) rfl
theorem fl_X12_102 : Cond.fieldLink RX12 102 (TX12 39).1 (TX12 39).2.1 (TX12 39).2.2.1 ∈ TT := tt6 120 (by decide +kernel) rfl
theorem fl_X12_105 : Cond.fieldLink RX12 105 (TX12 41).1 (TX12 41).2.1 (TX12 41).2.2.1 ∈ TT := tt6 122 (by decide +kernel) rfl
theorem fl_X12_109 : Cond.fieldLink RX12 109 (TX12 42).1 (TX12 42).2.1 (TX12 42).2.2.1 ∈ TT := tt6 123 (by decide +kernel) rfl
theorem fl_X12_112 : Cond.fieldLink RX12 112 (TX12 43).1 (TX12 43).2.1 (TX12 43).2.2.1 ∈ TT := tt6 124 (by decide +kernel) rfl
theorem fl_X12_115 : Cond.fieldLink RX12 115 (TX12 44).1 (TX12 44).2.1 (TX12 44).2.2.1 ∈ TT := tt6 125 (by decide +kernel) rfl
theorem fl_X12_118 : Cond.fieldLink RX12 118 (TX12 45).1 (TX12 45).2.1 (TX12 45).2.2.1 ∈ TT := tt6 126 (by decide +kernel) rfl
theorem fl_X12_121 : Cond.fieldLink RX12 121 (TX12 46).1 (TX12 46).2.1 (TX12 46).2.2.1 ∈ TT := tt6 127 (by decide +kernel) rfl
theorem fl_X12_124 : Cond.fieldLink RX12 124 (TX12 47).1 (TX12 47).2.1 (TX12 47).2.2.1 ∈ TT := tt6 128 (by decide +kernel) rfl
theorem fl_X12_127 : Cond.fieldLink RX12 127 (TX12 48).1 (TX12 48).2.1 (TX12 48).2.2.1 ∈ TT := tt6 129 (by decide +kernel) rfl
theorem fl_X12_130 : Cond.fieldLink RX12 130 (TX12 52).1 (TX12 52).2.1 (TX12 52).2.2.1 ∈ TT := tt6 133 (by decide +kernel) rfl
theorem fl_X12_133 : Cond.fieldLink RX12 133 (TX12 55).1 (TX12 55).2.1 (TX12 55).2.2.1 ∈ TT := tt6 136 (by decide +kernel) rfl
theorem fl_X12_136 : Cond.fieldLink RX12 136 (TX12 56).1 (TX12 56).2.1 (TX12 56).2.2.1 ∈ TT := tt6 137 (by decide +kernel) rfl
theorem fl_X12_139 : Cond.fieldLink RX12 139 (TX12 57).1 (TX12 57).2.1 (TX12 57).2.2.1 ∈ TT := tt6 138 (by decide +kernel) rfl
theorem fl_X12_142 : Cond.fieldLink RX12 142 (TX12 60).1 (TX12 60).2.1 (TX12 60).2.2.1 ∈ TT := tt6 141 (by decide +kernel) rfl
theorem fl_X12_145 : Cond.fieldLink RX12 145 (TX12 4).1 (TX12 4).2.1 (TX12 4).2.2.1 ∈ TT := tt6 85 (by decide +kernel) rfl
theorem fl_X12_149 : Cond.fieldLink RX12 149 (TX12 0).1 (TX12 0).2.1 (TX12 0).2.2.1 ∈ TT := tt6 81 (by decide +kernel) rfl
theorem fl_X12_170 : Cond.fieldLink RX12 170 (TX12 7).1 (TX12 7).2.1 (TX12 7).2.2.1 ∈ TT := tt6 88 (by decide +kernel) rfl
theorem fl_X12_201 : Cond.fieldLink RX12 201 (TX12 13).1 (TX12 13).2.1 (TX12 13).2.2.1 ∈ TT := tt6 94 (by decide +kernel) rfl
theorem fl_X12_204 : Cond.fieldLink RX12 204 (TX12 22).1 (TX12 22).2.1 (TX12 22).2.2.1 ∈ TT := tt6 103 (by decide +kernel) rfl
theorem fl_X12_228 : Cond.fieldLink RX12 228 (TX12 27).1 (TX12 27).2.1 (TX12 27).2.2.1 ∈ TT := tt6 108 (by decide +kernel) rfl
theorem fl_X12_232 : Cond.fieldLink RX12 232 (TX12 31).1 (TX12 31).2.1 (TX12 31).2.2.1 ∈ TT := tt6 112 (by decide +kernel) rfl
theorem fl_X12_235 : Cond.fieldLink RX12 235 (TX12 32).1 (TX12 32).2.1 (TX12 32).2.2.1 ∈ TT := tt6 113 (by decide +kernel) rfl
theorem fl_X12_239 : Cond.fieldLink RX12 239 (TX12 28).1 (TX12 28).2.1 (TX12 28).2.2.1 ∈ TT := tt6 109 (by decide +kernel) rfl
theorem fl_X12_298 : Cond.fieldLink RX12 298 (TX12 40).1 (TX12 40).2.1 (TX12 40).2.2.1 ∈ TT := tt6 121 (by decide +kernel) rfl
theorem fl_X12_360 : Cond.fieldLink RX12 360 (TX12 49).1 (TX12 49).2.1 (TX12 49).2.2.1 ∈ TT := tt6 130 (by decide +kernel) rfl
theorem fl_X12_363 : Cond.fieldLink RX12 363 (TX12 50).1 (TX12 50).2.1 (TX12 50).2.2.1 ∈ TT := tt6 131 (by decide +kernel) rfl
theorem fl_X12_366 : Cond.fieldLink RX12 366 (TX12 51).1 (TX12 51).2.1 (TX12 51).2.2.1 ∈ TT := tt6 132 (by decide +kernel) rfl
theorem fl_X12_372 : Cond.fieldLink RX12 372 (TX12 53).1 (TX12 53).2.1 (TX12 53).2.2.1 ∈ TT := tt6 134 (by decide +kernel) rfl
theorem fl_X12_375 : Cond.fieldLink RX12 375 (TX12 54).1 (TX12 54).2.1 (TX12 54).2.2.1 ∈ TT := tt6 135 (by decide +kernel) rfl
theorem fl_X12_393 : Cond.fieldLink RX12 393 (TX12 58).1 (TX12 58).2.1 (TX12 58).2.2.1 ∈ TT := tt6 139 (by decide +kernel) rfl
theorem fl_X12_408 : Cond.fieldLink RX12 408 (TX12 59).1 (TX12 59).2.1 (TX12 59).2.2.1 ∈ TT := tt6 140 (by decide +kernel) rfl
theorem kl_X11_256 : Cond.constantLong RX11 256 (100000) ∈ TT := tt4 124 (by decide +kernel) rfl
theorem kl_X11_410 : Cond.constantLong RX11 410 (17) ∈ TT := tt6 61 (by decide +kernel) rfl
theorem kl_X11_412 : Cond.constantLong RX11 412 (31) ∈ TT := tt6 62 (by decide +kernel) rfl
theorem kl_X5_40 : Cond.constantLong RX5 40 (31) ∈ TT := tt6 72 (by decide +kernel) rfl
theorem kl_X7_41 : Cond.constantLong RX7 41 (31) ∈ TT := tt6 67 (by decide +kernel) rfl
theorem kl_X9_94 : Cond.constantLong RX9 94 (-7046029254386353131) ∈ TT := tt4 164 (by decide +kernel) rfl
theorem kl_X9_96 : Cond.constantLong RX9 96 (-4417276706812531889) ∈ TT := tt4 165 (by decide +kernel) rfl
theorem kl_X9_98 : Cond.constantLong RX9 98 (7146057691288625177) ∈ TT := tt4 166 (by decide +kernel) rfl
theorem kl_L_82 : Cond.constantLong RL 82 (4294967295) ∈ TT := tt8 212 (by decide +kernel) rfl
theorem kl_X12_152 : Cond.constantLong RX12 152 (5) ∈ TT := tt7 33 (by decide +kernel) rfl
theorem kl_X12_158 : Cond.constantLong RX12 158 (2) ∈ TT := tt7 41 (by decide +kernel) rfl
theorem kl_X12_160 : Cond.constantLong RX12 160 (-400) ∈ TT := tt7 42 (by decide +kernel) rfl
theorem kl_X12_162 : Cond.constantLong RX12 162 (400) ∈ TT := tt7 43 (by decide +kernel) rfl
theorem kl_X12_164 : Cond.constantLong RX12 164 (7) ∈ TT := tt7 48 (by decide +kernel) rfl
theorem kl_X12_166 : Cond.constantLong RX12 166 (-1000) ∈ TT := tt7 49 (by decide +kernel) rfl
theorem kl_X12_168 : Cond.constantLong RX12 168 (1000) ∈ TT := tt7 50 (by decide +kernel) rfl
theorem kl_X12_210 : Cond.constantLong RX12 210 (4) ∈ TT := tt7 122 (by decide +kernel) rfl
theorem kl_X12_212 : Cond.constantLong RX12 212 (3) ∈ TT := tt7 135 (by decide +kernel) rfl
theorem kl_X12_280 : Cond.constantLong RX12 280 (100000) ∈ TT := tt7 226 (by decide +kernel) rfl
theorem kl_X12_309 : Cond.constantLong RX12 309 (-100000) ∈ TT := tt8 78 (by decide +kernel) rfl
theorem kl_X12_328 : Cond.constantLong RX12 328 (-20) ∈ TT := tt8 72 (by decide +kernel) rfl
theorem kl_X12_330 : Cond.constantLong RX12 330 (20) ∈ TT := tt8 73 (by decide +kernel) rfl
theorem kl_X12_345 : Cond.constantLong RX12 345 (100) ∈ TT := tt8 107 (by decide +kernel) rfl
theorem kl_X12_350 : Cond.constantLong RX12 350 (6) ∈ TT := tt8 124 (by decide +kernel) rfl
theorem kl_X12_388 : Cond.constantLong RX12 388 (-1) ∈ TT := tt8 158 (by decide +kernel) rfl
theorem kl_X12_400 : Cond.constantLong RX12 400 (16) ∈ TT := tt8 167 (by decide +kernel) rfl
theorem kl_X12_417 : Cond.constantLong RX12 417 (9) ∈ TT := tt8 200 (by decide +kernel) rfl
theorem kl_X12_419 : Cond.constantLong RX12 419 (17) ∈ TT := tt8 209 (by decide +kernel) rfl
theorem kl_X12_421 : Cond.constantLong RX12 421 (31) ∈ TT := tt8 210 (by decide +kernel) rfl
theorem ki_X11_365 : Cond.constant RX11 365 (1000000) ∈ TT := tt5 139 (by decide +kernel) rfl
theorem ki_X11_421 : Cond.constant RX11 421 (-100000) ∈ TT := tt5 51 (by decide +kernel) rfl
theorem ki_X11_422 : Cond.constant RX11 422 (100000) ∈ TT := tt5 52 (by decide +kernel) rfl
theorem ki_X12_108 : Cond.constant RX12 108 (89600) ∈ TT := tt6 80 (by decide +kernel) rfl
theorem ki_X12_308 : Cond.constant RX12 308 (85120) ∈ TT := tt8 67 (by decide +kernel) rfl
theorem ki_X12_352 : Cond.constant RX12 352 (1000000) ∈ TT := tt8 125 (by decide +kernel) rfl
theorem in_X0 : Cond.initialized RX0 ∈ TT := tt1 8 (by decide +kernel) rfl
theorem in_X1 : Cond.initialized RX1 ∈ TT := tt1 10 (by decide +kernel) rfl
theorem in_X2 : Cond.initialized RX2 ∈ TT := tt1 3 (by decide +kernel) rfl
theorem in_X3 : Cond.initialized RX3 ∈ TT := tt1 6 (by decide +kernel) rfl
theorem in_X4 : Cond.initialized RX4 ∈ TT := tt1 5 (by decide +kernel) rfl
theorem in_X5 : Cond.initialized RX5 ∈ TT := tt1 15 (by decide +kernel) rfl
theorem in_X6 : Cond.initialized RX6 ∈ TT := tt1 12 (by decide +kernel) rfl
theorem in_X7 : Cond.initialized RX7 ∈ TT := tt1 7 (by decide +kernel) rfl
theorem in_X8 : Cond.initialized RX8 ∈ TT := tt1 2 (by decide +kernel) rfl
theorem in_X9 : Cond.initialized RX9 ∈ TT := tt1 9 (by decide +kernel) rfl
theorem in_X10 : Cond.initialized RX10 ∈ TT := tt1 11 (by decide +kernel) rfl
theorem in_X11 : Cond.initialized RX11 ∈ TT := tt1 1 (by decide +kernel) rfl
theorem in_X12 : Cond.initialized RX12 ∈ TT := tt1 13 (by decide +kernel) rfl
theorem in_J9 : Cond.initialized RJ9 ∈ TT := tt1 16 (by decide +kernel) rfl
theorem in_J10 : Cond.initialized RJ10 ∈ TT := tt1 14 (by decide +kernel) rfl
theorem in_J7 : Cond.initialized RJ7 ∈ TT := tt1 4 (by decide +kernel) rfl
theorem in_L : Cond.initialized RL ∈ TT := tt1 0 (by decide +kernel) rfl
theorem cd_X8_init : Cond.code yX8_init cX8_init 1 none ∈ TT := tt1 29 (by decide +kernel) rfl
theorem im_X8_init : Cond.instanceMethod yX8_init ∈ TT := tt1 28 (by decide +kernel) rfl
theorem hd_X8_init : yX8_init.cls ≠ "java/lang/invoke/MethodHandle" ∧ yX8_init.cls ≠ "java/lang/invoke/VarHandle" ∧ (parseMethodDescriptor yX8_init.desc).map (fun d => d.parameters.length) = some 0 := by decide +kernel
theorem cd_X2_init : Cond.code yX2_init cX2_init 1 none ∈ TT := tt1 52 (by decide +kernel) rfl
theorem im_X2_init : Cond.instanceMethod yX2_init ∈ TT := tt1 51 (by decide +kernel) rfl
theorem hd_X2_init : yX2_init.cls ≠ "java/lang/invoke/MethodHandle" ∧ yX2_init.cls ≠ "java/lang/invoke/VarHandle" ∧ (parseMethodDescriptor yX2_init.desc).map (fun d => d.parameters.length) = some 0 := by decide +kernel
theorem ml_X11_18 : Cond.methodLink RX11 18 yX2_init ∈ TT := tt1 50 (by decide +kernel) rfl
theorem cd_X4_init : Cond.code yX4_init cX4_init 1 none ∈ TT := tt1 136 (by decide +kernel) rfl
theorem im_X4_init : Cond.instanceMethod yX4_init ∈ TT := tt1 135 (by decide +kernel) rfl
theorem hd_X4_init : yX4_init.cls ≠ "java/lang/invoke/MethodHandle" ∧ yX4_init.cls ≠ "java/lang/invoke/VarHandle" ∧ (parseMethodDescriptor yX4_init.desc).map (fun d => d.parameters.length) = some 0 := by decide +kernel
theorem cd_X3_init : Cond.code yX3_init cX3_init 2 none ∈ TT := tt1 156 (by decide +kernel) rfl
theorem im_X3_init : Cond.instanceMethod yX3_init ∈ TT := tt1 155 (by decide +kernel) rfl
theorem hd_X3_init : yX3_init.cls ≠ "java/lang/invoke/MethodHandle" ∧ yX3_init.cls ≠ "java/lang/invoke/VarHandle" ∧ (parseMethodDescriptor yX3_init.desc).map (fun d => d.parameters.length) = some 1 := by decide +kernel
theorem ml_X11_42 : Cond.methodLink RX11 42 yX3_init ∈ TT := tt1 154 (by decide +kernel) rfl
theorem cd_X0_init : Cond.code yX0_init cX0_init 3 none ∈ TT := tt1 204 (by decide +kernel) rfl
theorem im_X0_init : Cond.instanceMethod yX0_init ∈ TT := tt1 203 (by decide +kernel) rfl
theorem hd_X0_init : yX0_init.cls ≠ "java/lang/invoke/MethodHandle" ∧ yX0_init.cls ≠ "java/lang/invoke/VarHandle" ∧ (parseMethodDescriptor yX0_init.desc).map (fun d => d.parameters.length) = some 2 := by decide +kernel
theorem ml_X11_51 : Cond.methodLink RX11 51 yX0_init ∈ TT := tt1 202 (by decide +kernel) rfl
theorem cd_X9_init : Cond.code yX9_init cX9_init 4 none ∈ TT := tt2 9 (by decide +kernel) rfl
theorem im_X9_init : Cond.instanceMethod yX9_init ∈ TT := tt2 8 (by decide +kernel) rfl
theorem hd_X9_init : yX9_init.cls ≠ "java/lang/invoke/MethodHandle" ∧ yX9_init.cls ≠ "java/lang/invoke/VarHandle" ∧ (parseMethodDescriptor yX9_init.desc).map (fun d => d.parameters.length) = some 3 := by decide +kernel
theorem ml_X11_60 : Cond.methodLink RX11 60 yX9_init ∈ TT := tt2 7 (by decide +kernel) rfl
theorem cd_X1_init : Cond.code yX1_init cX1_init 4 none ∈ TT := tt2 50 (by decide +kernel) rfl
theorem im_X1_init : Cond.instanceMethod yX1_init ∈ TT := tt2 49 (by decide +kernel) rfl
theorem hd_X1_init : yX1_init.cls ≠ "java/lang/invoke/MethodHandle" ∧ yX1_init.cls ≠ "java/lang/invoke/VarHandle" ∧ (parseMethodDescriptor yX1_init.desc).map (fun d => d.parameters.length) = some 3 := by decide +kernel
theorem ml_X11_69 : Cond.methodLink RX11 69 yX1_init ∈ TT := tt2 48 (by decide +kernel) rfl
theorem cd_X10_init : Cond.code yX10_init cX10_init 4 none ∈ TT := tt2 107 (by decide +kernel) rfl
theorem im_X10_init : Cond.instanceMethod yX10_init ∈ TT := tt2 106 (by decide +kernel) rfl
theorem hd_X10_init : yX10_init.cls ≠ "java/lang/invoke/MethodHandle" ∧ yX10_init.cls ≠ "java/lang/invoke/VarHandle" ∧ (parseMethodDescriptor yX10_init.desc).map (fun d => d.parameters.length) = some 3 := by decide +kernel
theorem ml_X11_78 : Cond.methodLink RX11 78 yX10_init ∈ TT := tt2 105 (by decide +kernel) rfl
theorem cd_X6_init : Cond.code yX6_init cX6_init 1 none ∈ TT := tt2 174 (by decide +kernel) rfl
theorem im_X6_init : Cond.instanceMethod yX6_init ∈ TT := tt2 173 (by decide +kernel) rfl
theorem hd_X6_init : yX6_init.cls ≠ "java/lang/invoke/MethodHandle" ∧ yX6_init.cls ≠ "java/lang/invoke/VarHandle" ∧ (parseMethodDescriptor yX6_init.desc).map (fun d => d.parameters.length) = some 0 := by decide +kernel
theorem cd_X11_within : Cond.code yX11_within cX11_within 3 (some .boolean) ∈ TT := tt3 10 (by decide +kernel) rfl
theorem st_X11_within : Cond.static yX11_within ∈ TT := tt3 9 (by decide +kernel) rfl
theorem hd_X11_within : yX11_within.cls ≠ "java/lang/invoke/MethodHandle" ∧ yX11_within.cls ≠ "java/lang/invoke/VarHandle" ∧ (parseMethodDescriptor yX11_within.desc).map (fun d => d.parameters.length) = some 3 := by decide +kernel
theorem ml_X11_113 : Cond.methodLink RX11 113 yX11_within ∈ TT := tt3 8 (by decide +kernel) rfl
theorem mw_X11_113 : mwS RX11 113 yX11_within cX11_within 3 (some .boolean) 3 := ⟨⟨ml_X11_113, st_X11_within, in_X11, cd_X11_within⟩, hd_X11_within⟩
theorem cd_X11_programChanged : Cond.code yX11_programChanged cX11_programChanged 1 none ∈ TT := tt3 14 (by decide +kernel) rfl
theorem im_X11_programChanged : Cond.instanceMethod yX11_programChanged ∈ TT := tt3 13 (by decide +kernel) rfl
theorem se_X11_programChanged : Cond.selects RX11 yX11_programChanged yX11_programChanged ∈ TT := tt_s 0 (by decide +kernel) rfl
theorem hd_X11_programChanged : yX11_programChanged.cls ≠ "java/lang/invoke/MethodHandle" ∧ yX11_programChanged.cls ≠ "java/lang/invoke/VarHandle" ∧ (parseMethodDescriptor yX11_programChanged.desc).map (fun d => d.parameters.length) = some 0 := by decide +kernel
theorem ml_X11_120 : Cond.methodLink RX11 120 yX11_programChanged ∈ TT := tt3 11 (by decide +kernel) rfl
theorem mw_X11_120 : mwV RX11 120 RX11 yX11_programChanged cX11_programChanged 1 none 0 := ⟨⟨ml_X11_120, im_X11_programChanged, se_X11_programChanged, in_X11, cd_X11_programChanged⟩, rfl, hd_X11_programChanged⟩
theorem cd_X8_keepDraft : Cond.code yX8_keepDraft cX8_keepDraft 1 (some .int) ∈ TT := tt3 34 (by decide +kernel) rfl
theorem im_X8_keepDraft : Cond.instanceMethod yX8_keepDraft ∈ TT := tt3 32 (by decide +kernel) rfl
theorem se_X8_keepDraft : Cond.selects RX8 yX8_keepDraft yX8_keepDraft ∈ TT := tt3 33 (by decide +kernel) rfl
theorem hd_X8_keepDraft : yX8_keepDraft.cls ≠ "java/lang/invoke/MethodHandle" ∧ yX8_keepDraft.cls ≠ "java/lang/invoke/VarHandle" ∧ (parseMethodDescriptor yX8_keepDraft.desc).map (fun d => d.parameters.length) = some 0 := by decide +kernel
theorem ml_X11_129 : Cond.methodLink RX11 129 yX8_keepDraft ∈ TT := tt3 31 (by decide +kernel) rfl
theorem mw_X11_129 : mwV RX11 129 RX8 yX8_keepDraft cX8_keepDraft 1 (some .int) 0 := ⟨⟨ml_X11_129, im_X8_keepDraft, se_X8_keepDraft, in_X8, cd_X8_keepDraft⟩, rfl, hd_X8_keepDraft⟩
theorem cd_X2_opens : Cond.code yX2_opens cX2_opens 2 (some .boolean) ∈ TT := tt3 46 (by decide +kernel) rfl
theorem im_X2_opens : Cond.instanceMethod yX2_opens ∈ TT := tt3 44 (by decide +kernel) rfl
theorem se_X2_opens : Cond.selects RX2 yX2_opens yX2_opens ∈ TT := tt3 45 (by decide +kernel) rfl
theorem hd_X2_opens : yX2_opens.cls ≠ "java/lang/invoke/MethodHandle" ∧ yX2_opens.cls ≠ "java/lang/invoke/VarHandle" ∧ (parseMethodDescriptor yX2_opens.desc).map (fun d => d.parameters.length) = some 1 := by decide +kernel
theorem ml_X11_133 : Cond.methodLink RX11 133 yX2_opens ∈ TT := tt3 43 (by decide +kernel) rfl
theorem mw_X11_133 : mwV RX11 133 RX2 yX2_opens cX2_opens 2 (some .boolean) 1 := ⟨⟨ml_X11_133, im_X2_opens, se_X2_opens, in_X2, cd_X2_opens⟩, rfl, hd_X2_opens⟩
theorem cd_X2_loopsIn : Cond.code yX2_loopsIn cX2_loopsIn 2 (some .int) ∈ TT := tt3 58 (by decide +kernel) rfl
theorem im_X2_loopsIn : Cond.instanceMethod yX2_loopsIn ∈ TT := tt3 56 (by decide +kernel) rfl
theorem se_X2_loopsIn : Cond.selects RX2 yX2_loopsIn yX2_loopsIn ∈ TT := tt3 57 (by decide +kernel) rfl
theorem hd_X2_loopsIn : yX2_loopsIn.cls ≠ "java/lang/invoke/MethodHandle" ∧ yX2_loopsIn.cls ≠ "java/lang/invoke/VarHandle" ∧ (parseMethodDescriptor yX2_loopsIn.desc).map (fun d => d.parameters.length) = some 1 := by decide +kernel
theorem ml_X11_137 : Cond.methodLink RX11 137 yX2_loopsIn ∈ TT := tt3 55 (by decide +kernel) rfl
theorem mw_X11_137 : mwV RX11 137 RX2 yX2_loopsIn cX2_loopsIn 2 (some .int) 1 := ⟨⟨ml_X11_137, im_X2_loopsIn, se_X2_loopsIn, in_X2, cd_X2_loopsIn⟩, rfl, hd_X2_loopsIn⟩
theorem cd_X8_fits : Cond.code yX8_fits cX8_fits 5 (some .boolean) ∈ TT := tt3 66 (by decide +kernel) rfl
theorem im_X8_fits : Cond.instanceMethod yX8_fits ∈ TT := tt3 64 (by decide +kernel) rfl
theorem se_X8_fits : Cond.selects RX8 yX8_fits yX8_fits ∈ TT := tt3 65 (by decide +kernel) rfl
theorem hd_X8_fits : yX8_fits.cls ≠ "java/lang/invoke/MethodHandle" ∧ yX8_fits.cls ≠ "java/lang/invoke/VarHandle" ∧ (parseMethodDescriptor yX8_fits.desc).map (fun d => d.parameters.length) = some 2 := by decide +kernel
theorem ml_X11_141 : Cond.methodLink RX11 141 yX8_fits ∈ TT := tt3 63 (by decide +kernel) rfl
theorem mw_X11_141 : mwV RX11 141 RX8 yX8_fits cX8_fits 5 (some .boolean) 2 := ⟨⟨ml_X11_141, im_X8_fits, se_X8_fits, in_X8, cd_X8_fits⟩, rfl, hd_X8_fits⟩
theorem cd_X11_grow : Cond.code yX11_grow cX11_grow 6 (some .int) ∈ TT := tt3 74 (by decide +kernel) rfl
theorem im_X11_grow : Cond.instanceMethod yX11_grow ∈ TT := tt3 73 (by decide +kernel) rfl
theorem se_X11_grow : Cond.selects RX11 yX11_grow yX11_grow ∈ TT := tt_s 3 (by decide +kernel) rfl
theorem hd_X11_grow : yX11_grow.cls ≠ "java/lang/invoke/MethodHandle" ∧ yX11_grow.cls ≠ "java/lang/invoke/VarHandle" ∧ (parseMethodDescriptor yX11_grow.desc).map (fun d => d.parameters.length) = some 4 := by decide +kernel
theorem ml_X11_145 : Cond.methodLink RX11 145 yX11_grow ∈ TT := tt3 71 (by decide +kernel) rfl
theorem mw_X11_145 : mwV RX11 145 RX11 yX11_grow cX11_grow 6 (some .int) 4 := ⟨⟨ml_X11_145, im_X11_grow, se_X11_grow, in_X11, cd_X11_grow⟩, rfl, hd_X11_grow⟩
theorem cd_X2_known : Cond.code yX2_known cX2_known 2 (some .boolean) ∈ TT := tt3 50 (by decide +kernel) rfl
theorem im_X2_known : Cond.instanceMethod yX2_known ∈ TT := tt3 48 (by decide +kernel) rfl
theorem se_X2_known : Cond.selects RX2 yX2_known yX2_known ∈ TT := tt3 49 (by decide +kernel) rfl
theorem hd_X2_known : yX2_known.cls ≠ "java/lang/invoke/MethodHandle" ∧ yX2_known.cls ≠ "java/lang/invoke/VarHandle" ∧ (parseMethodDescriptor yX2_known.desc).map (fun d => d.parameters.length) = some 1 := by decide +kernel
theorem ml_X11_152 : Cond.methodLink RX11 152 yX2_known ∈ TT := tt3 130 (by decide +kernel) rfl
theorem mw_X11_152 : mwV RX11 152 RX2 yX2_known cX2_known 2 (some .boolean) 1 := ⟨⟨ml_X11_152, im_X2_known, se_X2_known, in_X2, cd_X2_known⟩, rfl, hd_X2_known⟩
theorem cd_X11_rackOf : Cond.code yX11_rackOf cX11_rackOf 2 (some (.object "LoopLoom$Rack")) ∈ TT := tt3 134 (by decide +kernel) rfl
theorem im_X11_rackOf : Cond.instanceMethod yX11_rackOf ∈ TT := tt3 133 (by decide +kernel) rfl
theorem se_X11_rackOf : Cond.selects RX11 yX11_rackOf yX11_rackOf ∈ TT := tt_s 7 (by decide +kernel) rfl
theorem hd_X11_rackOf : yX11_rackOf.cls ≠ "java/lang/invoke/MethodHandle" ∧ yX11_rackOf.cls ≠ "java/lang/invoke/VarHandle" ∧ (parseMethodDescriptor yX11_rackOf.desc).map (fun d => d.parameters.length) = some 1 := by decide +kernel
theorem ml_X11_155 : Cond.methodLink RX11 155 yX11_rackOf ∈ TT := tt3 131 (by decide +kernel) rfl
theorem mw_X11_155 : mwV RX11 155 RX11 yX11_rackOf cX11_rackOf 2 (some (.object "LoopLoom$Rack")) 1 := ⟨⟨ml_X11_155, im_X11_rackOf, se_X11_rackOf, in_X11, cd_X11_rackOf⟩, rfl, hd_X11_rackOf⟩
theorem cd_X8_known : Cond.code yX8_known cX8_known 2 (some .boolean) ∈ TT := tt3 70 (by decide +kernel) rfl
theorem im_X8_known : Cond.instanceMethod yX8_known ∈ TT := tt3 68 (by decide +kernel) rfl
theorem se_X8_known : Cond.selects RX8 yX8_known yX8_known ∈ TT := tt3 69 (by decide +kernel) rfl
theorem hd_X8_known : yX8_known.cls ≠ "java/lang/invoke/MethodHandle" ∧ yX8_known.cls ≠ "java/lang/invoke/VarHandle" ∧ (parseMethodDescriptor yX8_known.desc).map (fun d => d.parameters.length) = some 1 := by decide +kernel
theorem ml_X11_159 : Cond.methodLink RX11 159 yX8_known ∈ TT := tt3 135 (by decide +kernel) rfl
theorem mw_X11_159 : mwV RX11 159 RX8 yX8_known cX8_known 2 (some .boolean) 1 := ⟨⟨ml_X11_159, im_X8_known, se_X8_known, in_X8, cd_X8_known⟩, rfl, hd_X8_known⟩
theorem cd_X2_isAct : Cond.code yX2_isAct cX2_isAct 2 (some .boolean) ∈ TT := tt3 54 (by decide +kernel) rfl
theorem im_X2_isAct : Cond.instanceMethod yX2_isAct ∈ TT := tt3 52 (by decide +kernel) rfl
theorem se_X2_isAct : Cond.selects RX2 yX2_isAct yX2_isAct ∈ TT := tt3 53 (by decide +kernel) rfl
theorem hd_X2_isAct : yX2_isAct.cls ≠ "java/lang/invoke/MethodHandle" ∧ yX2_isAct.cls ≠ "java/lang/invoke/VarHandle" ∧ (parseMethodDescriptor yX2_isAct.desc).map (fun d => d.parameters.length) = some 1 := by decide +kernel
theorem ml_X11_160 : Cond.methodLink RX11 160 yX2_isAct ∈ TT := tt3 136 (by decide +kernel) rfl
theorem mw_X11_160 : mwV RX11 160 RX2 yX2_isAct cX2_isAct 2 (some .boolean) 1 := ⟨⟨ml_X11_160, im_X2_isAct, se_X2_isAct, in_X2, cd_X2_isAct⟩, rfl, hd_X2_isAct⟩
theorem cd_X11_meet : Cond.code yX11_meet cX11_meet 2 (some .int) ∈ TT := tt3 140 (by decide +kernel) rfl
theorem im_X11_meet : Cond.instanceMethod yX11_meet ∈ TT := tt3 139 (by decide +kernel) rfl
theorem se_X11_meet : Cond.selects RX11 yX11_meet yX11_meet ∈ TT := tt_s 8 (by decide +kernel) rfl
theorem hd_X11_meet : yX11_meet.cls ≠ "java/lang/invoke/MethodHandle" ∧ yX11_meet.cls ≠ "java/lang/invoke/VarHandle" ∧ (parseMethodDescriptor yX11_meet.desc).map (fun d => d.parameters.length) = some 1 := by decide +kernel
theorem ml_X11_163 : Cond.methodLink RX11 163 yX11_meet ∈ TT := tt3 137 (by decide +kernel) rfl
theorem mw_X11_163 : mwV RX11 163 RX11 yX11_meet cX11_meet 2 (some .int) 1 := ⟨⟨ml_X11_163, im_X11_meet, se_X11_meet, in_X11, cd_X11_meet⟩, rfl, hd_X11_meet⟩
theorem cd_X2_setAim : Cond.code yX2_setAim cX2_setAim 5 none ∈ TT := tt3 144 (by decide +kernel) rfl
theorem im_X2_setAim : Cond.instanceMethod yX2_setAim ∈ TT := tt3 142 (by decide +kernel) rfl
theorem se_X2_setAim : Cond.selects RX2 yX2_setAim yX2_setAim ∈ TT := tt3 143 (by decide +kernel) rfl
theorem hd_X2_setAim : yX2_setAim.cls ≠ "java/lang/invoke/MethodHandle" ∧ yX2_setAim.cls ≠ "java/lang/invoke/VarHandle" ∧ (parseMethodDescriptor yX2_setAim.desc).map (fun d => d.parameters.length) = some 4 := by decide +kernel
theorem ml_X11_172 : Cond.methodLink RX11 172 yX2_setAim ∈ TT := tt3 141 (by decide +kernel) rfl
theorem mw_X11_172 : mwV RX11 172 RX2 yX2_setAim cX2_setAim 5 none 4 := ⟨⟨ml_X11_172, im_X2_setAim, se_X2_setAim, in_X2, cd_X2_setAim⟩, rfl, hd_X2_setAim⟩
theorem cd_X11_aimsChanged : Cond.code yX11_aimsChanged cX11_aimsChanged 1 none ∈ TT := tt3 18 (by decide +kernel) rfl
theorem im_X11_aimsChanged : Cond.instanceMethod yX11_aimsChanged ∈ TT := tt3 17 (by decide +kernel) rfl
theorem se_X11_aimsChanged : Cond.selects RX11 yX11_aimsChanged yX11_aimsChanged ∈ TT := tt_s 1 (by decide +kernel) rfl
theorem hd_X11_aimsChanged : yX11_aimsChanged.cls ≠ "java/lang/invoke/MethodHandle" ∧ yX11_aimsChanged.cls ≠ "java/lang/invoke/VarHandle" ∧ (parseMethodDescriptor yX11_aimsChanged.desc).map (fun d => d.parameters.length) = some 0 := by decide +kernel
theorem ml_X11_176 : Cond.methodLink RX11 176 yX11_aimsChanged ∈ TT := tt3 15 (by decide +kernel) rfl
theorem mw_X11_176 : mwV RX11 176 RX11 yX11_aimsChanged cX11_aimsChanged 1 none 0 := ⟨⟨ml_X11_176, im_X11_aimsChanged, se_X11_aimsChanged, in_X11, cd_X11_aimsChanged⟩, rfl, hd_X11_aimsChanged⟩
theorem cd_X2_tell : Cond.code yX2_tell cX2_tell 3 (some .int) ∈ TT := tt3 152 (by decide +kernel) rfl
theorem im_X2_tell : Cond.instanceMethod yX2_tell ∈ TT := tt3 150 (by decide +kernel) rfl
theorem se_X2_tell : Cond.selects RX2 yX2_tell yX2_tell ∈ TT := tt3 151 (by decide +kernel) rfl
theorem hd_X2_tell : yX2_tell.cls ≠ "java/lang/invoke/MethodHandle" ∧ yX2_tell.cls ≠ "java/lang/invoke/VarHandle" ∧ (parseMethodDescriptor yX2_tell.desc).map (fun d => d.parameters.length) = some 2 := by decide +kernel
theorem ml_X11_179 : Cond.methodLink RX11 179 yX2_tell ∈ TT := tt3 149 (by decide +kernel) rfl
theorem mw_X11_179 : mwV RX11 179 RX2 yX2_tell cX2_tell 3 (some .int) 2 := ⟨⟨ml_X11_179, im_X2_tell, se_X2_tell, in_X2, cd_X2_tell⟩, rfl, hd_X2_tell⟩
theorem cd_X4_empty : Cond.code yX4_empty cX4_empty 2 none ∈ TT := tt3 160 (by decide +kernel) rfl
theorem im_X4_empty : Cond.instanceMethod yX4_empty ∈ TT := tt3 158 (by decide +kernel) rfl
theorem se_X4_empty : Cond.selects RX4 yX4_empty yX4_empty ∈ TT := tt3 159 (by decide +kernel) rfl
theorem hd_X4_empty : yX4_empty.cls ≠ "java/lang/invoke/MethodHandle" ∧ yX4_empty.cls ≠ "java/lang/invoke/VarHandle" ∧ (parseMethodDescriptor yX4_empty.desc).map (fun d => d.parameters.length) = some 1 := by decide +kernel
theorem ml_X11_183 : Cond.methodLink RX11 183 yX4_empty ∈ TT := tt3 157 (by decide +kernel) rfl
theorem mw_X11_183 : mwV RX11 183 RX4 yX4_empty cX4_empty 2 none 1 := ⟨⟨ml_X11_183, im_X4_empty, se_X4_empty, in_X4, cd_X4_empty⟩, rfl, hd_X4_empty⟩
theorem cd_X4_putNode : Cond.code yX4_putNode cX4_putNode 3 none ∈ TT := tt3 164 (by decide +kernel) rfl
theorem im_X4_putNode : Cond.instanceMethod yX4_putNode ∈ TT := tt3 162 (by decide +kernel) rfl
theorem se_X4_putNode : Cond.selects RX4 yX4_putNode yX4_putNode ∈ TT := tt3 163 (by decide +kernel) rfl
theorem hd_X4_putNode : yX4_putNode.cls ≠ "java/lang/invoke/MethodHandle" ∧ yX4_putNode.cls ≠ "java/lang/invoke/VarHandle" ∧ (parseMethodDescriptor yX4_putNode.desc).map (fun d => d.parameters.length) = some 2 := by decide +kernel
theorem ml_X11_187 : Cond.methodLink RX11 187 yX4_putNode ∈ TT := tt3 161 (by decide +kernel) rfl
theorem mw_X11_187 : mwV RX11 187 RX4 yX4_putNode cX4_putNode 3 none 2 := ⟨⟨ml_X11_187, im_X4_putNode, se_X4_putNode, in_X4, cd_X4_putNode⟩, rfl, hd_X4_putNode⟩
theorem cd_X4_putNote : Cond.code yX4_putNote cX4_putNote 3 none ∈ TT := tt3 172 (by decide +kernel) rfl
theorem im_X4_putNote : Cond.instanceMethod yX4_putNote ∈ TT := tt3 170 (by decide +kernel) rfl
theorem se_X4_putNote : Cond.selects RX4 yX4_putNote yX4_putNote ∈ TT := tt3 171 (by decide +kernel) rfl
theorem hd_X4_putNote : yX4_putNote.cls ≠ "java/lang/invoke/MethodHandle" ∧ yX4_putNote.cls ≠ "java/lang/invoke/VarHandle" ∧ (parseMethodDescriptor yX4_putNote.desc).map (fun d => d.parameters.length) = some 2 := by decide +kernel
theorem ml_X11_191 : Cond.methodLink RX11 191 yX4_putNote ∈ TT := tt3 169 (by decide +kernel) rfl
theorem mw_X11_191 : mwV RX11 191 RX4 yX4_putNote cX4_putNote 3 none 2 := ⟨⟨ml_X11_191, im_X4_putNote, se_X4_putNote, in_X4, cd_X4_putNote⟩, rfl, hd_X4_putNote⟩
theorem cd_X4_isNote : Cond.code yX4_isNote cX4_isNote 2 (some .boolean) ∈ TT := tt3 183 (by decide +kernel) rfl
theorem im_X4_isNote : Cond.instanceMethod yX4_isNote ∈ TT := tt3 181 (by decide +kernel) rfl
theorem se_X4_isNote : Cond.selects RX4 yX4_isNote yX4_isNote ∈ TT := tt3 182 (by decide +kernel) rfl
theorem hd_X4_isNote : yX4_isNote.cls ≠ "java/lang/invoke/MethodHandle" ∧ yX4_isNote.cls ≠ "java/lang/invoke/VarHandle" ∧ (parseMethodDescriptor yX4_isNote.desc).map (fun d => d.parameters.length) = some 1 := by decide +kernel
theorem ml_X11_194 : Cond.methodLink RX11 194 yX4_isNote ∈ TT := tt3 180 (by decide +kernel) rfl
theorem mw_X11_194 : mwV RX11 194 RX4 yX4_isNote cX4_isNote 2 (some .boolean) 1 := ⟨⟨ml_X11_194, im_X4_isNote, se_X4_isNote, in_X4, cd_X4_isNote⟩, rfl, hd_X4_isNote⟩
theorem cd_X4_isEmpty : Cond.code yX4_isEmpty cX4_isEmpty 2 (some .boolean) ∈ TT := tt3 187 (by decide +kernel) rfl
theorem im_X4_isEmpty : Cond.instanceMethod yX4_isEmpty ∈ TT := tt3 185 (by decide +kernel) rfl
theorem se_X4_isEmpty : Cond.selects RX4 yX4_isEmpty yX4_isEmpty ∈ TT := tt3 186 (by decide +kernel) rfl
theorem hd_X4_isEmpty : yX4_isEmpty.cls ≠ "java/lang/invoke/MethodHandle" ∧ yX4_isEmpty.cls ≠ "java/lang/invoke/VarHandle" ∧ (parseMethodDescriptor yX4_isEmpty.desc).map (fun d => d.parameters.length) = some 1 := by decide +kernel
theorem ml_X11_197 : Cond.methodLink RX11 197 yX4_isEmpty ∈ TT := tt3 184 (by decide +kernel) rfl
theorem mw_X11_197 : mwV RX11 197 RX4 yX4_isEmpty cX4_isEmpty 2 (some .boolean) 1 := ⟨⟨ml_X11_197, im_X4_isEmpty, se_X4_isEmpty, in_X4, cd_X4_isEmpty⟩, rfl, hd_X4_isEmpty⟩
theorem cd_X2_isOfKind : Cond.code yX2_isOfKind cX2_isOfKind 3 (some .boolean) ∈ TT := tt3 191 (by decide +kernel) rfl
theorem im_X2_isOfKind : Cond.instanceMethod yX2_isOfKind ∈ TT := tt3 189 (by decide +kernel) rfl
theorem se_X2_isOfKind : Cond.selects RX2 yX2_isOfKind yX2_isOfKind ∈ TT := tt3 190 (by decide +kernel) rfl
theorem hd_X2_isOfKind : yX2_isOfKind.cls ≠ "java/lang/invoke/MethodHandle" ∧ yX2_isOfKind.cls ≠ "java/lang/invoke/VarHandle" ∧ (parseMethodDescriptor yX2_isOfKind.desc).map (fun d => d.parameters.length) = some 2 := by decide +kernel
theorem ml_X11_203 : Cond.methodLink RX11 203 yX2_isOfKind ∈ TT := tt3 188 (by decide +kernel) rfl
theorem mw_X11_203 : mwV RX11 203 RX2 yX2_isOfKind cX2_isOfKind 3 (some .boolean) 2 := ⟨⟨ml_X11_203, im_X2_isOfKind, se_X2_isOfKind, in_X2, cd_X2_isOfKind⟩, rfl, hd_X2_isOfKind⟩
theorem cd_X4_change : Cond.code yX4_change cX4_change 5 (some .int) ∈ TT := tt3 199 (by decide +kernel) rfl
theorem im_X4_change : Cond.instanceMethod yX4_change ∈ TT := tt3 197 (by decide +kernel) rfl
theorem se_X4_change : Cond.selects RX4 yX4_change yX4_change ∈ TT := tt3 198 (by decide +kernel) rfl
theorem hd_X4_change : yX4_change.cls ≠ "java/lang/invoke/MethodHandle" ∧ yX4_change.cls ≠ "java/lang/invoke/VarHandle" ∧ (parseMethodDescriptor yX4_change.desc).map (fun d => d.parameters.length) = some 3 := by decide +kernel
theorem ml_X11_206 : Cond.methodLink RX11 206 yX4_change ∈ TT := tt3 196 (by decide +kernel) rfl
theorem mw_X11_206 : mwV RX11 206 RX4 yX4_change cX4_change 5 (some .int) 3 := ⟨⟨ml_X11_206, im_X4_change, se_X4_change, in_X4, cd_X4_change⟩, rfl, hd_X4_change⟩
theorem cd_X4_isNode : Cond.code yX4_isNode cX4_isNode 2 (some .boolean) ∈ TT := tt3 207 (by decide +kernel) rfl
theorem im_X4_isNode : Cond.instanceMethod yX4_isNode ∈ TT := tt3 205 (by decide +kernel) rfl
theorem se_X4_isNode : Cond.selects RX4 yX4_isNode yX4_isNode ∈ TT := tt3 206 (by decide +kernel) rfl
theorem hd_X4_isNode : yX4_isNode.cls ≠ "java/lang/invoke/MethodHandle" ∧ yX4_isNode.cls ≠ "java/lang/invoke/VarHandle" ∧ (parseMethodDescriptor yX4_isNode.desc).map (fun d => d.parameters.length) = some 1 := by decide +kernel
theorem ml_X11_210 : Cond.methodLink RX11 210 yX4_isNode ∈ TT := tt3 204 (by decide +kernel) rfl
theorem mw_X11_210 : mwV RX11 210 RX4 yX4_isNode cX4_isNode 2 (some .boolean) 1 := ⟨⟨ml_X11_210, im_X4_isNode, se_X4_isNode, in_X4, cd_X4_isNode⟩, rfl, hd_X4_isNode⟩
theorem cd_X4_spans : Cond.code yX4_spans cX4_spans 4 (some .boolean) ∈ TT := tt3 211 (by decide +kernel) rfl
theorem im_X4_spans : Cond.instanceMethod yX4_spans ∈ TT := tt3 209 (by decide +kernel) rfl
theorem se_X4_spans : Cond.selects RX4 yX4_spans yX4_spans ∈ TT := tt3 210 (by decide +kernel) rfl
theorem hd_X4_spans : yX4_spans.cls ≠ "java/lang/invoke/MethodHandle" ∧ yX4_spans.cls ≠ "java/lang/invoke/VarHandle" ∧ (parseMethodDescriptor yX4_spans.desc).map (fun d => d.parameters.length) = some 3 := by decide +kernel
theorem ml_X11_213 : Cond.methodLink RX11 213 yX4_spans ∈ TT := tt3 208 (by decide +kernel) rfl
theorem mw_X11_213 : mwV RX11 213 RX4 yX4_spans cX4_spans 4 (some .boolean) 3 := ⟨⟨ml_X11_213, im_X4_spans, se_X4_spans, in_X4, cd_X4_spans⟩, rfl, hd_X4_spans⟩
theorem cd_X4_move : Cond.code yX4_move cX4_move 6 none ∈ TT := tt3 215 (by decide +kernel) rfl
theorem im_X4_move : Cond.instanceMethod yX4_move ∈ TT := tt3 213 (by decide +kernel) rfl
theorem se_X4_move : Cond.selects RX4 yX4_move yX4_move ∈ TT := tt3 214 (by decide +kernel) rfl
theorem hd_X4_move : yX4_move.cls ≠ "java/lang/invoke/MethodHandle" ∧ yX4_move.cls ≠ "java/lang/invoke/VarHandle" ∧ (parseMethodDescriptor yX4_move.desc).map (fun d => d.parameters.length) = some 5 := by decide +kernel
theorem ml_X11_216 : Cond.methodLink RX11 216 yX4_move ∈ TT := tt3 212 (by decide +kernel) rfl
theorem mw_X11_216 : mwV RX11 216 RX4 yX4_move cX4_move 6 none 5 := ⟨⟨ml_X11_216, im_X4_move, se_X4_move, in_X4, cd_X4_move⟩, rfl, hd_X4_move⟩
theorem cd_X5_init : Cond.code yX5_init cX5_init 3 none ∈ TT := tt3 224 (by decide +kernel) rfl
theorem im_X5_init : Cond.instanceMethod yX5_init ∈ TT := tt3 223 (by decide +kernel) rfl
theorem hd_X5_init : yX5_init.cls ≠ "java/lang/invoke/MethodHandle" ∧ yX5_init.cls ≠ "java/lang/invoke/VarHandle" ∧ (parseMethodDescriptor yX5_init.desc).map (fun d => d.parameters.length) = some 2 := by decide +kernel
theorem ml_X11_220 : Cond.methodLink RX11 220 yX5_init ∈ TT := tt3 222 (by decide +kernel) rfl
theorem cd_X5_hasRow : Cond.code yX5_hasRow cX5_hasRow 3 (some .boolean) ∈ TT := tt4 5 (by decide +kernel) rfl
theorem im_X5_hasRow : Cond.instanceMethod yX5_hasRow ∈ TT := tt4 3 (by decide +kernel) rfl
theorem se_X5_hasRow : Cond.selects RX5 yX5_hasRow yX5_hasRow ∈ TT := tt4 4 (by decide +kernel) rfl
theorem hd_X5_hasRow : yX5_hasRow.cls ≠ "java/lang/invoke/MethodHandle" ∧ yX5_hasRow.cls ≠ "java/lang/invoke/VarHandle" ∧ (parseMethodDescriptor yX5_hasRow.desc).map (fun d => d.parameters.length) = some 1 := by decide +kernel
theorem ml_X11_222 : Cond.methodLink RX11 222 yX5_hasRow ∈ TT := tt4 2 (by decide +kernel) rfl
theorem mw_X11_222 : mwV RX11 222 RX5 yX5_hasRow cX5_hasRow 3 (some .boolean) 1 := ⟨⟨ml_X11_222, im_X5_hasRow, se_X5_hasRow, in_X5, cd_X5_hasRow⟩, rfl, hd_X5_hasRow⟩
theorem cd_X5_renew : Cond.code yX5_renew cX5_renew 3 none ∈ TT := tt4 9 (by decide +kernel) rfl
theorem im_X5_renew : Cond.instanceMethod yX5_renew ∈ TT := tt4 7 (by decide +kernel) rfl
theorem se_X5_renew : Cond.selects RX5 yX5_renew yX5_renew ∈ TT := tt4 8 (by decide +kernel) rfl
theorem hd_X5_renew : yX5_renew.cls ≠ "java/lang/invoke/MethodHandle" ∧ yX5_renew.cls ≠ "java/lang/invoke/VarHandle" ∧ (parseMethodDescriptor yX5_renew.desc).map (fun d => d.parameters.length) = some 2 := by decide +kernel
theorem ml_X11_226 : Cond.methodLink RX11 226 yX5_renew ∈ TT := tt4 6 (by decide +kernel) rfl
theorem mw_X11_226 : mwV RX11 226 RX5 yX5_renew cX5_renew 3 none 2 := ⟨⟨ml_X11_226, im_X5_renew, se_X5_renew, in_X5, cd_X5_renew⟩, rfl, hd_X5_renew⟩
theorem cd_X5_lack : Cond.code yX5_lack cX5_lack 6 (some .int) ∈ TT := tt4 24 (by decide +kernel) rfl
theorem im_X5_lack : Cond.instanceMethod yX5_lack ∈ TT := tt4 22 (by decide +kernel) rfl
theorem se_X5_lack : Cond.selects RX5 yX5_lack yX5_lack ∈ TT := tt4 23 (by decide +kernel) rfl
theorem hd_X5_lack : yX5_lack.cls ≠ "java/lang/invoke/MethodHandle" ∧ yX5_lack.cls ≠ "java/lang/invoke/VarHandle" ∧ (parseMethodDescriptor yX5_lack.desc).map (fun d => d.parameters.length) = some 2 := by decide +kernel
theorem ml_X11_232 : Cond.methodLink RX11 232 yX5_lack ∈ TT := tt4 21 (by decide +kernel) rfl
theorem mw_X11_232 : mwV RX11 232 RX5 yX5_lack cX5_lack 6 (some .int) 2 := ⟨⟨ml_X11_232, im_X5_lack, se_X5_lack, in_X5, cd_X5_lack⟩, rfl, hd_X5_lack⟩
theorem cd_X5_store : Cond.code yX5_store cX5_store 5 none ∈ TT := tt4 29 (by decide +kernel) rfl
theorem im_X5_store : Cond.instanceMethod yX5_store ∈ TT := tt4 27 (by decide +kernel) rfl
theorem se_X5_store : Cond.selects RX5 yX5_store yX5_store ∈ TT := tt4 28 (by decide +kernel) rfl
theorem hd_X5_store : yX5_store.cls ≠ "java/lang/invoke/MethodHandle" ∧ yX5_store.cls ≠ "java/lang/invoke/VarHandle" ∧ (parseMethodDescriptor yX5_store.desc).map (fun d => d.parameters.length) = some 3 := by decide +kernel
theorem ml_X11_236 : Cond.methodLink RX11 236 yX5_store ∈ TT := tt4 26 (by decide +kernel) rfl
theorem mw_X11_236 : mwV RX11 236 RX5 yX5_store cX5_store 5 none 3 := ⟨⟨ml_X11_236, im_X5_store, se_X5_store, in_X5, cd_X5_store⟩, rfl, hd_X5_store⟩
theorem cd_X5_load : Cond.code yX5_load cX5_load 3 (some .long) ∈ TT := tt4 41 (by decide +kernel) rfl
theorem im_X5_load : Cond.instanceMethod yX5_load ∈ TT := tt4 39 (by decide +kernel) rfl
theorem se_X5_load : Cond.selects RX5 yX5_load yX5_load ∈ TT := tt4 40 (by decide +kernel) rfl
theorem hd_X5_load : yX5_load.cls ≠ "java/lang/invoke/MethodHandle" ∧ yX5_load.cls ≠ "java/lang/invoke/VarHandle" ∧ (parseMethodDescriptor yX5_load.desc).map (fun d => d.parameters.length) = some 2 := by decide +kernel
theorem ml_X11_240 : Cond.methodLink RX11 240 yX5_load ∈ TT := tt4 38 (by decide +kernel) rfl
theorem mw_X11_240 : mwV RX11 240 RX5 yX5_load cX5_load 3 (some .long) 2 := ⟨⟨ml_X11_240, im_X5_load, se_X5_load, in_X5, cd_X5_load⟩, rfl, hd_X5_load⟩
theorem cd_X11_tooMany : Cond.code yX11_tooMany cX11_tooMany 1 (some .boolean) ∈ TT := tt4 53 (by decide +kernel) rfl
theorem im_X11_tooMany : Cond.instanceMethod yX11_tooMany ∈ TT := tt4 52 (by decide +kernel) rfl
theorem se_X11_tooMany : Cond.selects RX11 yX11_tooMany yX11_tooMany ∈ TT := tt_s 10 (by decide +kernel) rfl
theorem hd_X11_tooMany : yX11_tooMany.cls ≠ "java/lang/invoke/MethodHandle" ∧ yX11_tooMany.cls ≠ "java/lang/invoke/VarHandle" ∧ (parseMethodDescriptor yX11_tooMany.desc).map (fun d => d.parameters.length) = some 0 := by decide +kernel
theorem ml_X11_244 : Cond.methodLink RX11 244 yX11_tooMany ∈ TT := tt4 50 (by decide +kernel) rfl
theorem mw_X11_244 : mwV RX11 244 RX11 yX11_tooMany cX11_tooMany 1 (some .boolean) 0 := ⟨⟨ml_X11_244, im_X11_tooMany, se_X11_tooMany, in_X11, cd_X11_tooMany⟩, rfl, hd_X11_tooMany⟩
theorem cd_X11_visitAt : Cond.code yX11_visitAt cX11_visitAt 3 (some .int) ∈ TT := tt4 91 (by decide +kernel) rfl
theorem im_X11_visitAt : Cond.instanceMethod yX11_visitAt ∈ TT := tt4 90 (by decide +kernel) rfl
theorem se_X11_visitAt : Cond.selects RX11 yX11_visitAt yX11_visitAt ∈ TT := tt_s 15 (by decide +kernel) rfl
theorem hd_X11_visitAt : yX11_visitAt.cls ≠ "java/lang/invoke/MethodHandle" ∧ yX11_visitAt.cls ≠ "java/lang/invoke/VarHandle" ∧ (parseMethodDescriptor yX11_visitAt.desc).map (fun d => d.parameters.length) = some 2 := by decide +kernel
theorem ml_X11_249 : Cond.methodLink RX11 249 yX11_visitAt ∈ TT := tt4 88 (by decide +kernel) rfl
theorem mw_X11_249 : mwV RX11 249 RX11 yX11_visitAt cX11_visitAt 3 (some .int) 2 := ⟨⟨ml_X11_249, im_X11_visitAt, se_X11_visitAt, in_X11, cd_X11_visitAt⟩, rfl, hd_X11_visitAt⟩
theorem cd_X0_actNode : Cond.code yX0_actNode cX0_actNode 2 (some .int) ∈ TT := tt4 123 (by decide +kernel) rfl
theorem im_X0_actNode : Cond.instanceMethod yX0_actNode ∈ TT := tt4 121 (by decide +kernel) rfl
theorem se_X0_actNode : Cond.selects RX0 yX0_actNode yX0_actNode ∈ TT := tt4 122 (by decide +kernel) rfl
theorem hd_X0_actNode : yX0_actNode.cls ≠ "java/lang/invoke/MethodHandle" ∧ yX0_actNode.cls ≠ "java/lang/invoke/VarHandle" ∧ (parseMethodDescriptor yX0_actNode.desc).map (fun d => d.parameters.length) = some 1 := by decide +kernel
theorem ml_X11_253 : Cond.methodLink RX11 253 yX0_actNode ∈ TT := tt4 120 (by decide +kernel) rfl
theorem mw_X11_253 : mwV RX11 253 RX0 yX0_actNode cX0_actNode 2 (some .int) 1 := ⟨⟨ml_X11_253, im_X0_actNode, se_X0_actNode, in_X0, cd_X0_actNode⟩, rfl, hd_X0_actNode⟩
theorem cd_X0_letter : Cond.code yX0_letter cX0_letter 3 (some .long) ∈ TT := tt4 104 (by decide +kernel) rfl
theorem im_X0_letter : Cond.instanceMethod yX0_letter ∈ TT := tt4 102 (by decide +kernel) rfl
theorem se_X0_letter : Cond.selects RX0 yX0_letter yX0_letter ∈ TT := tt4 103 (by decide +kernel) rfl
theorem hd_X0_letter : yX0_letter.cls ≠ "java/lang/invoke/MethodHandle" ∧ yX0_letter.cls ≠ "java/lang/invoke/VarHandle" ∧ (parseMethodDescriptor yX0_letter.desc).map (fun d => d.parameters.length) = some 2 := by decide +kernel
theorem ml_X11_258 : Cond.methodLink RX11 258 yX0_letter ∈ TT := tt4 125 (by decide +kernel) rfl
theorem mw_X11_258 : mwV RX11 258 RX0 yX0_letter cX0_letter 3 (some .long) 2 := ⟨⟨ml_X11_258, im_X0_letter, se_X0_letter, in_X0, cd_X0_letter⟩, rfl, hd_X0_letter⟩
theorem cd_X0_isAt : Cond.code yX0_isAt cX0_isAt 6 (some .boolean) ∈ TT := tt4 133 (by decide +kernel) rfl
theorem im_X0_isAt : Cond.instanceMethod yX0_isAt ∈ TT := tt4 131 (by decide +kernel) rfl
theorem se_X0_isAt : Cond.selects RX0 yX0_isAt yX0_isAt ∈ TT := tt4 132 (by decide +kernel) rfl
theorem hd_X0_isAt : yX0_isAt.cls ≠ "java/lang/invoke/MethodHandle" ∧ yX0_isAt.cls ≠ "java/lang/invoke/VarHandle" ∧ (parseMethodDescriptor yX0_isAt.desc).map (fun d => d.parameters.length) = some 5 := by decide +kernel
theorem ml_X11_261 : Cond.methodLink RX11 261 yX0_isAt ∈ TT := tt4 130 (by decide +kernel) rfl
theorem mw_X11_261 : mwV RX11 261 RX0 yX0_isAt cX0_isAt 6 (some .boolean) 5 := ⟨⟨ml_X11_261, im_X0_isAt, se_X0_isAt, in_X0, cd_X0_isAt⟩, rfl, hd_X0_isAt⟩
theorem cd_X1_refresh : Cond.code yX1_refresh cX1_refresh 2 none ∈ TT := tt4 146 (by decide +kernel) rfl
theorem im_X1_refresh : Cond.instanceMethod yX1_refresh ∈ TT := tt4 144 (by decide +kernel) rfl
theorem se_X1_refresh : Cond.selects RX1 yX1_refresh yX1_refresh ∈ TT := tt4 145 (by decide +kernel) rfl
theorem hd_X1_refresh : yX1_refresh.cls ≠ "java/lang/invoke/MethodHandle" ∧ yX1_refresh.cls ≠ "java/lang/invoke/VarHandle" ∧ (parseMethodDescriptor yX1_refresh.desc).map (fun d => d.parameters.length) = some 0 := by decide +kernel
theorem ml_X11_265 : Cond.methodLink RX11 265 yX1_refresh ∈ TT := tt4 143 (by decide +kernel) rfl
theorem mw_X11_265 : mwV RX11 265 RX1 yX1_refresh cX1_refresh 2 none 0 := ⟨⟨ml_X11_265, im_X1_refresh, se_X1_refresh, in_X1, cd_X1_refresh⟩, rfl, hd_X1_refresh⟩
theorem cd_X2_pair : Cond.code yX2_pair cX2_pair 3 (some .int) ∈ TT := tt4 219 (by decide +kernel) rfl
theorem im_X2_pair : Cond.instanceMethod yX2_pair ∈ TT := tt4 217 (by decide +kernel) rfl
theorem se_X2_pair : Cond.selects RX2 yX2_pair yX2_pair ∈ TT := tt4 218 (by decide +kernel) rfl
theorem hd_X2_pair : yX2_pair.cls ≠ "java/lang/invoke/MethodHandle" ∧ yX2_pair.cls ≠ "java/lang/invoke/VarHandle" ∧ (parseMethodDescriptor yX2_pair.desc).map (fun d => d.parameters.length) = some 2 := by decide +kernel
theorem ml_X11_271 : Cond.methodLink RX11 271 yX2_pair ∈ TT := tt4 216 (by decide +kernel) rfl
theorem mw_X11_271 : mwV RX11 271 RX2 yX2_pair cX2_pair 3 (some .int) 2 := ⟨⟨ml_X11_271, im_X2_pair, se_X2_pair, in_X2, cd_X2_pair⟩, rfl, hd_X2_pair⟩
theorem cd_X2_common : Cond.code yX2_common cX2_common 5 (some .int) ∈ TT := tt4 180 (by decide +kernel) rfl
theorem im_X2_common : Cond.instanceMethod yX2_common ∈ TT := tt4 178 (by decide +kernel) rfl
theorem se_X2_common : Cond.selects RX2 yX2_common yX2_common ∈ TT := tt4 179 (by decide +kernel) rfl
theorem hd_X2_common : yX2_common.cls ≠ "java/lang/invoke/MethodHandle" ∧ yX2_common.cls ≠ "java/lang/invoke/VarHandle" ∧ (parseMethodDescriptor yX2_common.desc).map (fun d => d.parameters.length) = some 2 := by decide +kernel
theorem ml_X11_277 : Cond.methodLink RX11 277 yX2_common ∈ TT := tt4 228 (by decide +kernel) rfl
theorem mw_X11_277 : mwV RX11 277 RX2 yX2_common cX2_common 5 (some .int) 2 := ⟨⟨ml_X11_277, im_X2_common, se_X2_common, in_X2, cd_X2_common⟩, rfl, hd_X2_common⟩
theorem cd_X1_isAny : Cond.code yX1_isAny cX1_isAny 2 (some .boolean) ∈ TT := tt4 232 (by decide +kernel) rfl
theorem im_X1_isAny : Cond.instanceMethod yX1_isAny ∈ TT := tt4 230 (by decide +kernel) rfl
theorem se_X1_isAny : Cond.selects RX1 yX1_isAny yX1_isAny ∈ TT := tt4 231 (by decide +kernel) rfl
theorem hd_X1_isAny : yX1_isAny.cls ≠ "java/lang/invoke/MethodHandle" ∧ yX1_isAny.cls ≠ "java/lang/invoke/VarHandle" ∧ (parseMethodDescriptor yX1_isAny.desc).map (fun d => d.parameters.length) = some 1 := by decide +kernel
theorem ml_X11_280 : Cond.methodLink RX11 280 yX1_isAny ∈ TT := tt4 229 (by decide +kernel) rfl
theorem mw_X11_280 : mwV RX11 280 RX1 yX1_isAny cX1_isAny 2 (some .boolean) 1 := ⟨⟨ml_X11_280, im_X1_isAny, se_X1_isAny, in_X1, cd_X1_isAny⟩, rfl, hd_X1_isAny⟩
theorem cd_X2_isLoop : Cond.code yX2_isLoop cX2_isLoop 2 (some .boolean) ∈ TT := tt3 62 (by decide +kernel) rfl
theorem im_X2_isLoop : Cond.instanceMethod yX2_isLoop ∈ TT := tt3 60 (by decide +kernel) rfl
theorem se_X2_isLoop : Cond.selects RX2 yX2_isLoop yX2_isLoop ∈ TT := tt3 61 (by decide +kernel) rfl
theorem hd_X2_isLoop : yX2_isLoop.cls ≠ "java/lang/invoke/MethodHandle" ∧ yX2_isLoop.cls ≠ "java/lang/invoke/VarHandle" ∧ (parseMethodDescriptor yX2_isLoop.desc).map (fun d => d.parameters.length) = some 1 := by decide +kernel
theorem ml_X11_289 : Cond.methodLink RX11 289 yX2_isLoop ∈ TT := tt4 237 (by decide +kernel) rfl
theorem mw_X11_289 : mwV RX11 289 RX2 yX2_isLoop cX2_isLoop 2 (some .boolean) 1 := ⟨⟨ml_X11_289, im_X2_isLoop, se_X2_isLoop, in_X2, cd_X2_isLoop⟩, rfl, hd_X2_isLoop⟩
theorem cd_X1_isCarriedBy : Cond.code yX1_isCarriedBy cX1_isCarriedBy 6 (some .boolean) ∈ TT := tt5 1 (by decide +kernel) rfl
theorem im_X1_isCarriedBy : Cond.instanceMethod yX1_isCarriedBy ∈ TT := tt4 239 (by decide +kernel) rfl
theorem se_X1_isCarriedBy : Cond.selects RX1 yX1_isCarriedBy yX1_isCarriedBy ∈ TT := tt5 0 (by decide +kernel) rfl
theorem hd_X1_isCarriedBy : yX1_isCarriedBy.cls ≠ "java/lang/invoke/MethodHandle" ∧ yX1_isCarriedBy.cls ≠ "java/lang/invoke/VarHandle" ∧ (parseMethodDescriptor yX1_isCarriedBy.desc).map (fun d => d.parameters.length) = some 1 := by decide +kernel
theorem ml_X11_292 : Cond.methodLink RX11 292 yX1_isCarriedBy ∈ TT := tt4 238 (by decide +kernel) rfl
theorem mw_X11_292 : mwV RX11 292 RX1 yX1_isCarriedBy cX1_isCarriedBy 6 (some .boolean) 1 := ⟨⟨ml_X11_292, im_X1_isCarriedBy, se_X1_isCarriedBy, in_X1, cd_X1_isCarriedBy⟩, rfl, hd_X1_isCarriedBy⟩
theorem cd_X3_keep : Cond.code yX3_keep cX3_keep 3 none ∈ TT := tt5 13 (by decide +kernel) rfl
theorem im_X3_keep : Cond.instanceMethod yX3_keep ∈ TT := tt5 11 (by decide +kernel) rfl
theorem se_X3_keep : Cond.selects RX3 yX3_keep yX3_keep ∈ TT := tt5 12 (by decide +kernel) rfl
theorem hd_X3_keep : yX3_keep.cls ≠ "java/lang/invoke/MethodHandle" ∧ yX3_keep.cls ≠ "java/lang/invoke/VarHandle" ∧ (parseMethodDescriptor yX3_keep.desc).map (fun d => d.parameters.length) = some 0 := by decide +kernel
theorem ml_X11_295 : Cond.methodLink RX11 295 yX3_keep ∈ TT := tt5 10 (by decide +kernel) rfl
theorem mw_X11_295 : mwV RX11 295 RX3 yX3_keep cX3_keep 3 none 0 := ⟨⟨ml_X11_295, im_X3_keep, se_X3_keep, in_X3, cd_X3_keep⟩, rfl, hd_X3_keep⟩
theorem cd_X3_swapRows : Cond.code yX3_swapRows cX3_swapRows 9 none ∈ TT := tt5 22 (by decide +kernel) rfl
theorem im_X3_swapRows : Cond.instanceMethod yX3_swapRows ∈ TT := tt5 20 (by decide +kernel) rfl
theorem se_X3_swapRows : Cond.selects RX3 yX3_swapRows yX3_swapRows ∈ TT := tt5 21 (by decide +kernel) rfl
theorem hd_X3_swapRows : yX3_swapRows.cls ≠ "java/lang/invoke/MethodHandle" ∧ yX3_swapRows.cls ≠ "java/lang/invoke/VarHandle" ∧ (parseMethodDescriptor yX3_swapRows.desc).map (fun d => d.parameters.length) = some 2 := by decide +kernel
theorem ml_X11_298 : Cond.methodLink RX11 298 yX3_swapRows ∈ TT := tt5 19 (by decide +kernel) rfl
theorem mw_X11_298 : mwV RX11 298 RX3 yX3_swapRows cX3_swapRows 9 none 2 := ⟨⟨ml_X11_298, im_X3_swapRows, se_X3_swapRows, in_X3, cd_X3_swapRows⟩, rfl, hd_X3_swapRows⟩
theorem cd_X11_turned : Cond.code yX11_turned cX11_turned 1 (some .int) ∈ TT := tt5 39 (by decide +kernel) rfl
theorem im_X11_turned : Cond.instanceMethod yX11_turned ∈ TT := tt5 38 (by decide +kernel) rfl
theorem se_X11_turned : Cond.selects RX11 yX11_turned yX11_turned ∈ TT := tt_s 29 (by decide +kernel) rfl
theorem hd_X11_turned : yX11_turned.cls ≠ "java/lang/invoke/MethodHandle" ∧ yX11_turned.cls ≠ "java/lang/invoke/VarHandle" ∧ (parseMethodDescriptor yX11_turned.desc).map (fun d => d.parameters.length) = some 0 := by decide +kernel
theorem ml_X11_301 : Cond.methodLink RX11 301 yX11_turned ∈ TT := tt5 36 (by decide +kernel) rfl
theorem mw_X11_301 : mwV RX11 301 RX11 yX11_turned cX11_turned 1 (some .int) 0 := ⟨⟨ml_X11_301, im_X11_turned, se_X11_turned, in_X11, cd_X11_turned⟩, rfl, hd_X11_turned⟩
theorem cd_X3_leanFits : Cond.code yX3_leanFits cX3_leanFits 9 (some .boolean) ∈ TT := tt5 47 (by decide +kernel) rfl
theorem im_X3_leanFits : Cond.instanceMethod yX3_leanFits ∈ TT := tt5 45 (by decide +kernel) rfl
theorem se_X3_leanFits : Cond.selects RX3 yX3_leanFits yX3_leanFits ∈ TT := tt5 46 (by decide +kernel) rfl
theorem hd_X3_leanFits : yX3_leanFits.cls ≠ "java/lang/invoke/MethodHandle" ∧ yX3_leanFits.cls ≠ "java/lang/invoke/VarHandle" ∧ (parseMethodDescriptor yX3_leanFits.desc).map (fun d => d.parameters.length) = some 3 := by decide +kernel
theorem ml_X11_304 : Cond.methodLink RX11 304 yX3_leanFits ∈ TT := tt5 44 (by decide +kernel) rfl
theorem mw_X11_304 : mwV RX11 304 RX3 yX3_leanFits cX3_leanFits 9 (some .boolean) 3 := ⟨⟨ml_X11_304, im_X3_leanFits, se_X3_leanFits, in_X3, cd_X3_leanFits⟩, rfl, hd_X3_leanFits⟩
theorem cd_X3_leanRows : Cond.code yX3_leanRows cX3_leanRows 9 none ∈ TT := tt5 56 (by decide +kernel) rfl
theorem im_X3_leanRows : Cond.instanceMethod yX3_leanRows ∈ TT := tt5 54 (by decide +kernel) rfl
theorem se_X3_leanRows : Cond.selects RX3 yX3_leanRows yX3_leanRows ∈ TT := tt5 55 (by decide +kernel) rfl
theorem hd_X3_leanRows : yX3_leanRows.cls ≠ "java/lang/invoke/MethodHandle" ∧ yX3_leanRows.cls ≠ "java/lang/invoke/VarHandle" ∧ (parseMethodDescriptor yX3_leanRows.desc).map (fun d => d.parameters.length) = some 3 := by decide +kernel
theorem ml_X11_307 : Cond.methodLink RX11 307 yX3_leanRows ∈ TT := tt5 53 (by decide +kernel) rfl
theorem mw_X11_307 : mwV RX11 307 RX3 yX3_leanRows cX3_leanRows 9 none 3 := ⟨⟨ml_X11_307, im_X3_leanRows, se_X3_leanRows, in_X3, cd_X3_leanRows⟩, rfl, hd_X3_leanRows⟩
theorem cd_X3_turnSigns : Cond.code yX3_turnSigns cX3_turnSigns 6 none ∈ TT := tt5 64 (by decide +kernel) rfl
theorem im_X3_turnSigns : Cond.instanceMethod yX3_turnSigns ∈ TT := tt5 62 (by decide +kernel) rfl
theorem se_X3_turnSigns : Cond.selects RX3 yX3_turnSigns yX3_turnSigns ∈ TT := tt5 63 (by decide +kernel) rfl
theorem hd_X3_turnSigns : yX3_turnSigns.cls ≠ "java/lang/invoke/MethodHandle" ∧ yX3_turnSigns.cls ≠ "java/lang/invoke/VarHandle" ∧ (parseMethodDescriptor yX3_turnSigns.desc).map (fun d => d.parameters.length) = some 1 := by decide +kernel
theorem ml_X11_311 : Cond.methodLink RX11 311 yX3_turnSigns ∈ TT := tt5 61 (by decide +kernel) rfl
theorem mw_X11_311 : mwV RX11 311 RX3 yX3_turnSigns cX3_turnSigns 6 none 1 := ⟨⟨ml_X11_311, im_X3_turnSigns, se_X3_turnSigns, in_X3, cd_X3_turnSigns⟩, rfl, hd_X3_turnSigns⟩
theorem cd_X7_loopRow : Cond.code yX7_loopRow cX7_loopRow 5 (some .int) ∈ TT := tt5 35 (by decide +kernel) rfl
theorem im_X7_loopRow : Cond.instanceMethod yX7_loopRow ∈ TT := tt5 33 (by decide +kernel) rfl
theorem se_X7_loopRow : Cond.selects RX7 yX7_loopRow yX7_loopRow ∈ TT := tt5 34 (by decide +kernel) rfl
theorem hd_X7_loopRow : yX7_loopRow.cls ≠ "java/lang/invoke/MethodHandle" ∧ yX7_loopRow.cls ≠ "java/lang/invoke/VarHandle" ∧ (parseMethodDescriptor yX7_loopRow.desc).map (fun d => d.parameters.length) = some 2 := by decide +kernel
theorem ml_X11_318 : Cond.methodLink RX11 318 yX7_loopRow ∈ TT := tt5 69 (by decide +kernel) rfl
theorem mw_X11_318 : mwV RX11 318 RX7 yX7_loopRow cX7_loopRow 5 (some .int) 2 := ⟨⟨ml_X11_318, im_X7_loopRow, se_X7_loopRow, in_X7, cd_X7_loopRow⟩, rfl, hd_X7_loopRow⟩
theorem cd_X11_rowNumberFits : Cond.code yX11_rowNumberFits cX11_rowNumberFits 1 (some .boolean) ∈ TT := tt5 50 (by decide +kernel) rfl
theorem st_X11_rowNumberFits : Cond.static yX11_rowNumberFits ∈ TT := tt5 49 (by decide +kernel) rfl
theorem hd_X11_rowNumberFits : yX11_rowNumberFits.cls ≠ "java/lang/invoke/MethodHandle" ∧ yX11_rowNumberFits.cls ≠ "java/lang/invoke/VarHandle" ∧ (parseMethodDescriptor yX11_rowNumberFits.desc).map (fun d => d.parameters.length) = some 1 := by decide +kernel
theorem ml_X11_326 : Cond.methodLink RX11 326 yX11_rowNumberFits ∈ TT := tt5 70 (by decide +kernel) rfl
theorem mw_X11_326 : mwS RX11 326 yX11_rowNumberFits cX11_rowNumberFits 1 (some .boolean) 1 := ⟨⟨ml_X11_326, st_X11_rowNumberFits, in_X11, cd_X11_rowNumberFits⟩, hd_X11_rowNumberFits⟩
theorem cd_X3_tileFits : Cond.code yX3_tileFits cX3_tileFits 8 (some .boolean) ∈ TT := tt5 78 (by decide +kernel) rfl
theorem im_X3_tileFits : Cond.instanceMethod yX3_tileFits ∈ TT := tt5 76 (by decide +kernel) rfl
theorem se_X3_tileFits : Cond.selects RX3 yX3_tileFits yX3_tileFits ∈ TT := tt5 77 (by decide +kernel) rfl
theorem hd_X3_tileFits : yX3_tileFits.cls ≠ "java/lang/invoke/MethodHandle" ∧ yX3_tileFits.cls ≠ "java/lang/invoke/VarHandle" ∧ (parseMethodDescriptor yX3_tileFits.desc).map (fun d => d.parameters.length) = some 3 := by decide +kernel
theorem ml_X11_329 : Cond.methodLink RX11 329 yX3_tileFits ∈ TT := tt5 75 (by decide +kernel) rfl
theorem mw_X11_329 : mwV RX11 329 RX3 yX3_tileFits cX3_tileFits 8 (some .boolean) 3 := ⟨⟨ml_X11_329, im_X3_tileFits, se_X3_tileFits, in_X3, cd_X3_tileFits⟩, rfl, hd_X3_tileFits⟩
theorem cd_X3_tileRows : Cond.code yX3_tileRows cX3_tileRows 8 none ∈ TT := tt5 82 (by decide +kernel) rfl
theorem im_X3_tileRows : Cond.instanceMethod yX3_tileRows ∈ TT := tt5 80 (by decide +kernel) rfl
theorem se_X3_tileRows : Cond.selects RX3 yX3_tileRows yX3_tileRows ∈ TT := tt5 81 (by decide +kernel) rfl
theorem hd_X3_tileRows : yX3_tileRows.cls ≠ "java/lang/invoke/MethodHandle" ∧ yX3_tileRows.cls ≠ "java/lang/invoke/VarHandle" ∧ (parseMethodDescriptor yX3_tileRows.desc).map (fun d => d.parameters.length) = some 3 := by decide +kernel
theorem ml_X11_332 : Cond.methodLink RX11 332 yX3_tileRows ∈ TT := tt5 79 (by decide +kernel) rfl
theorem mw_X11_332 : mwV RX11 332 RX3 yX3_tileRows cX3_tileRows 8 none 3 := ⟨⟨ml_X11_332, im_X3_tileRows, se_X3_tileRows, in_X3, cd_X3_tileRows⟩, rfl, hd_X3_tileRows⟩
theorem cd_X3_partFits : Cond.code yX3_partFits cX3_partFits 5 (some .boolean) ∈ TT := tt5 99 (by decide +kernel) rfl
theorem im_X3_partFits : Cond.instanceMethod yX3_partFits ∈ TT := tt5 97 (by decide +kernel) rfl
theorem se_X3_partFits : Cond.selects RX3 yX3_partFits yX3_partFits ∈ TT := tt5 98 (by decide +kernel) rfl
theorem hd_X3_partFits : yX3_partFits.cls ≠ "java/lang/invoke/MethodHandle" ∧ yX3_partFits.cls ≠ "java/lang/invoke/VarHandle" ∧ (parseMethodDescriptor yX3_partFits.desc).map (fun d => d.parameters.length) = some 1 := by decide +kernel
theorem ml_X11_335 : Cond.methodLink RX11 335 yX3_partFits ∈ TT := tt5 96 (by decide +kernel) rfl
theorem mw_X11_335 : mwV RX11 335 RX3 yX3_partFits cX3_partFits 5 (some .boolean) 1 := ⟨⟨ml_X11_335, im_X3_partFits, se_X3_partFits, in_X3, cd_X3_partFits⟩, rfl, hd_X3_partFits⟩
theorem cd_X3_partRows : Cond.code yX3_partRows cX3_partRows 5 none ∈ TT := tt5 112 (by decide +kernel) rfl
theorem im_X3_partRows : Cond.instanceMethod yX3_partRows ∈ TT := tt5 110 (by decide +kernel) rfl
theorem se_X3_partRows : Cond.selects RX3 yX3_partRows yX3_partRows ∈ TT := tt5 111 (by decide +kernel) rfl
theorem hd_X3_partRows : yX3_partRows.cls ≠ "java/lang/invoke/MethodHandle" ∧ yX3_partRows.cls ≠ "java/lang/invoke/VarHandle" ∧ (parseMethodDescriptor yX3_partRows.desc).map (fun d => d.parameters.length) = some 1 := by decide +kernel
theorem ml_X11_338 : Cond.methodLink RX11 338 yX3_partRows ∈ TT := tt5 109 (by decide +kernel) rfl
theorem mw_X11_338 : mwV RX11 338 RX3 yX3_partRows cX3_partRows 5 none 1 := ⟨⟨ml_X11_338, im_X3_partRows, se_X3_partRows, in_X3, cd_X3_partRows⟩, rfl, hd_X3_partRows⟩
theorem cd_X2_firstActIn : Cond.code yX2_firstActIn cX2_firstActIn 3 (some .int) ∈ TT := tt5 120 (by decide +kernel) rfl
theorem im_X2_firstActIn : Cond.instanceMethod yX2_firstActIn ∈ TT := tt5 118 (by decide +kernel) rfl
theorem se_X2_firstActIn : Cond.selects RX2 yX2_firstActIn yX2_firstActIn ∈ TT := tt5 119 (by decide +kernel) rfl
theorem hd_X2_firstActIn : yX2_firstActIn.cls ≠ "java/lang/invoke/MethodHandle" ∧ yX2_firstActIn.cls ≠ "java/lang/invoke/VarHandle" ∧ (parseMethodDescriptor yX2_firstActIn.desc).map (fun d => d.parameters.length) = some 1 := by decide +kernel
theorem ml_X11_344 : Cond.methodLink RX11 344 yX2_firstActIn ∈ TT := tt5 117 (by decide +kernel) rfl
theorem mw_X11_344 : mwV RX11 344 RX2 yX2_firstActIn cX2_firstActIn 3 (some .int) 1 := ⟨⟨ml_X11_344, im_X2_firstActIn, se_X2_firstActIn, in_X2, cd_X2_firstActIn⟩, rfl, hd_X2_firstActIn⟩
theorem cd_X3_joinRows : Cond.code yX3_joinRows cX3_joinRows 8 none ∈ TT := tt5 125 (by decide +kernel) rfl
theorem im_X3_joinRows : Cond.instanceMethod yX3_joinRows ∈ TT := tt5 123 (by decide +kernel) rfl
theorem se_X3_joinRows : Cond.selects RX3 yX3_joinRows yX3_joinRows ∈ TT := tt5 124 (by decide +kernel) rfl
theorem hd_X3_joinRows : yX3_joinRows.cls ≠ "java/lang/invoke/MethodHandle" ∧ yX3_joinRows.cls ≠ "java/lang/invoke/VarHandle" ∧ (parseMethodDescriptor yX3_joinRows.desc).map (fun d => d.parameters.length) = some 2 := by decide +kernel
theorem ml_X11_347 : Cond.methodLink RX11 347 yX3_joinRows ∈ TT := tt5 122 (by decide +kernel) rfl
theorem mw_X11_347 : mwV RX11 347 RX3 yX3_joinRows cX3_joinRows 8 none 2 := ⟨⟨ml_X11_347, im_X3_joinRows, se_X3_joinRows, in_X3, cd_X3_joinRows⟩, rfl, hd_X3_joinRows⟩
theorem cd_X3_takeBack : Cond.code yX3_takeBack cX3_takeBack 2 none ∈ TT := tt5 133 (by decide +kernel) rfl
theorem im_X3_takeBack : Cond.instanceMethod yX3_takeBack ∈ TT := tt5 131 (by decide +kernel) rfl
theorem se_X3_takeBack : Cond.selects RX3 yX3_takeBack yX3_takeBack ∈ TT := tt5 132 (by decide +kernel) rfl
theorem hd_X3_takeBack : yX3_takeBack.cls ≠ "java/lang/invoke/MethodHandle" ∧ yX3_takeBack.cls ≠ "java/lang/invoke/VarHandle" ∧ (parseMethodDescriptor yX3_takeBack.desc).map (fun d => d.parameters.length) = some 0 := by decide +kernel
theorem ml_X11_353 : Cond.methodLink RX11 353 yX3_takeBack ∈ TT := tt5 130 (by decide +kernel) rfl
theorem mw_X11_353 : mwV RX11 353 RX3 yX3_takeBack cX3_takeBack 2 none 0 := ⟨⟨ml_X11_353, im_X3_takeBack, se_X3_takeBack, in_X3, cd_X3_takeBack⟩, rfl, hd_X3_takeBack⟩
theorem cd_X11_ordersChanged : Cond.code yX11_ordersChanged cX11_ordersChanged 1 none ∈ TT := tt3 22 (by decide +kernel) rfl
theorem im_X11_ordersChanged : Cond.instanceMethod yX11_ordersChanged ∈ TT := tt3 21 (by decide +kernel) rfl
theorem se_X11_ordersChanged : Cond.selects RX11 yX11_ordersChanged yX11_ordersChanged ∈ TT := tt_s 2 (by decide +kernel) rfl
theorem hd_X11_ordersChanged : yX11_ordersChanged.cls ≠ "java/lang/invoke/MethodHandle" ∧ yX11_ordersChanged.cls ≠ "java/lang/invoke/VarHandle" ∧ (parseMethodDescriptor yX11_ordersChanged.desc).map (fun d => d.parameters.length) = some 0 := by decide +kernel
theorem ml_X11_356 : Cond.methodLink RX11 356 yX11_ordersChanged ∈ TT := tt3 19 (by decide +kernel) rfl
theorem mw_X11_356 : mwV RX11 356 RX11 yX11_ordersChanged cX11_ordersChanged 1 none 0 := ⟨⟨ml_X11_356, im_X11_ordersChanged, se_X11_ordersChanged, in_X11, cd_X11_ordersChanged⟩, rfl, hd_X11_ordersChanged⟩
theorem cd_X7_at : Cond.code yX7_at cX7_at 3 (some .int) ∈ TT := tt3 107 (by decide +kernel) rfl
theorem im_X7_at : Cond.instanceMethod yX7_at ∈ TT := tt3 105 (by decide +kernel) rfl
theorem se_X7_at : Cond.selects RX7 yX7_at yX7_at ∈ TT := tt3 106 (by decide +kernel) rfl
theorem hd_X7_at : yX7_at.cls ≠ "java/lang/invoke/MethodHandle" ∧ yX7_at.cls ≠ "java/lang/invoke/VarHandle" ∧ (parseMethodDescriptor yX7_at.desc).map (fun d => d.parameters.length) = some 2 := by decide +kernel
theorem ml_X11_362 : Cond.methodLink RX11 362 yX7_at ∈ TT := tt5 138 (by decide +kernel) rfl
theorem mw_X11_362 : mwV RX11 362 RX7 yX7_at cX7_at 3 (some .int) 2 := ⟨⟨ml_X11_362, im_X7_at, se_X7_at, in_X7, cd_X7_at⟩, rfl, hd_X7_at⟩
theorem cd_X10_isAllowed : Cond.code yX10_isAllowed cX10_isAllowed 2 (some .boolean) ∈ TT := tt5 147 (by decide +kernel) rfl
theorem im_X10_isAllowed : Cond.instanceMethod yX10_isAllowed ∈ TT := tt5 145 (by decide +kernel) rfl
theorem se_X10_isAllowed : Cond.selects RX10 yX10_isAllowed yX10_isAllowed ∈ TT := tt5 146 (by decide +kernel) rfl
theorem hd_X10_isAllowed : yX10_isAllowed.cls ≠ "java/lang/invoke/MethodHandle" ∧ yX10_isAllowed.cls ≠ "java/lang/invoke/VarHandle" ∧ (parseMethodDescriptor yX10_isAllowed.desc).map (fun d => d.parameters.length) = some 0 := by decide +kernel
theorem ml_X11_366 : Cond.methodLink RX11 366 yX10_isAllowed ∈ TT := tt5 144 (by decide +kernel) rfl
theorem mw_X11_366 : mwV RX11 366 RX10 yX10_isAllowed cX10_isAllowed 2 (some .boolean) 0 := ⟨⟨ml_X11_366, im_X10_isAllowed, se_X10_isAllowed, in_X10, cd_X10_isAllowed⟩, rfl, hd_X10_isAllowed⟩
theorem cd_X9_refresh : Cond.code yX9_refresh cX9_refresh 3 none ∈ TT := tt4 150 (by decide +kernel) rfl
theorem im_X9_refresh : Cond.instanceMethod yX9_refresh ∈ TT := tt4 148 (by decide +kernel) rfl
theorem se_X9_refresh : Cond.selects RX9 yX9_refresh yX9_refresh ∈ TT := tt4 149 (by decide +kernel) rfl
theorem hd_X9_refresh : yX9_refresh.cls ≠ "java/lang/invoke/MethodHandle" ∧ yX9_refresh.cls ≠ "java/lang/invoke/VarHandle" ∧ (parseMethodDescriptor yX9_refresh.desc).map (fun d => d.parameters.length) = some 0 := by decide +kernel
theorem ml_X11_378 : Cond.methodLink RX11 378 yX9_refresh ∈ TT := tt5 185 (by decide +kernel) rfl
theorem mw_X11_378 : mwV RX11 378 RX9 yX9_refresh cX9_refresh 3 none 0 := ⟨⟨ml_X11_378, im_X9_refresh, se_X9_refresh, in_X9, cd_X9_refresh⟩, rfl, hd_X9_refresh⟩
theorem cd_X11_perform : Cond.code yX11_perform cX11_perform 10 (some .int) ∈ TT := tt5 189 (by decide +kernel) rfl
theorem im_X11_perform : Cond.instanceMethod yX11_perform ∈ TT := tt5 188 (by decide +kernel) rfl
theorem se_X11_perform : Cond.selects RX11 yX11_perform yX11_perform ∈ TT := tt_s 36 (by decide +kernel) rfl
theorem hd_X11_perform : yX11_perform.cls ≠ "java/lang/invoke/MethodHandle" ∧ yX11_perform.cls ≠ "java/lang/invoke/VarHandle" ∧ (parseMethodDescriptor yX11_perform.desc).map (fun d => d.parameters.length) = some 1 := by decide +kernel
theorem ml_X11_379 : Cond.methodLink RX11 379 yX11_perform ∈ TT := tt5 186 (by decide +kernel) rfl
theorem mw_X11_379 : mwV RX11 379 RX11 yX11_perform cX11_perform 10 (some .int) 1 := ⟨⟨ml_X11_379, im_X11_perform, se_X11_perform, in_X11, cd_X11_perform⟩, rfl, hd_X11_perform⟩
theorem cd_X11_endAt : Cond.code yX11_endAt cX11_endAt 3 none ∈ TT := tt5 206 (by decide +kernel) rfl
theorem im_X11_endAt : Cond.instanceMethod yX11_endAt ∈ TT := tt5 205 (by decide +kernel) rfl
theorem se_X11_endAt : Cond.selects RX11 yX11_endAt yX11_endAt ∈ TT := tt_s 40 (by decide +kernel) rfl
theorem hd_X11_endAt : yX11_endAt.cls ≠ "java/lang/invoke/MethodHandle" ∧ yX11_endAt.cls ≠ "java/lang/invoke/VarHandle" ∧ (parseMethodDescriptor yX11_endAt.desc).map (fun d => d.parameters.length) = some 1 := by decide +kernel
theorem ml_X11_382 : Cond.methodLink RX11 382 yX11_endAt ∈ TT := tt5 203 (by decide +kernel) rfl
theorem mw_X11_382 : mwV RX11 382 RX11 yX11_endAt cX11_endAt 3 none 1 := ⟨⟨ml_X11_382, im_X11_endAt, se_X11_endAt, in_X11, cd_X11_endAt⟩, rfl, hd_X11_endAt⟩
theorem cd_X11_roomFits : Cond.code yX11_roomFits cX11_roomFits 2 (some .boolean) ∈ TT := tt5 217 (by decide +kernel) rfl
theorem st_X11_roomFits : Cond.static yX11_roomFits ∈ TT := tt5 216 (by decide +kernel) rfl
theorem hd_X11_roomFits : yX11_roomFits.cls ≠ "java/lang/invoke/MethodHandle" ∧ yX11_roomFits.cls ≠ "java/lang/invoke/VarHandle" ∧ (parseMethodDescriptor yX11_roomFits.desc).map (fun d => d.parameters.length) = some 2 := by decide +kernel
theorem ml_X11_385 : Cond.methodLink RX11 385 yX11_roomFits ∈ TT := tt5 215 (by decide +kernel) rfl
theorem mw_X11_385 : mwS RX11 385 yX11_roomFits cX11_roomFits 2 (some .boolean) 2 := ⟨⟨ml_X11_385, st_X11_roomFits, in_X11, cd_X11_roomFits⟩, hd_X11_roomFits⟩
theorem cd_X11_countFetched : Cond.code yX11_countFetched cX11_countFetched 6 (some .int) ∈ TT := tt5 221 (by decide +kernel) rfl
theorem im_X11_countFetched : Cond.instanceMethod yX11_countFetched ∈ TT := tt5 220 (by decide +kernel) rfl
theorem se_X11_countFetched : Cond.selects RX11 yX11_countFetched yX11_countFetched ∈ TT := tt_s 41 (by decide +kernel) rfl
theorem hd_X11_countFetched : yX11_countFetched.cls ≠ "java/lang/invoke/MethodHandle" ∧ yX11_countFetched.cls ≠ "java/lang/invoke/VarHandle" ∧ (parseMethodDescriptor yX11_countFetched.desc).map (fun d => d.parameters.length) = some 2 := by decide +kernel
theorem ml_X11_388 : Cond.methodLink RX11 388 yX11_countFetched ∈ TT := tt5 218 (by decide +kernel) rfl
theorem mw_X11_388 : mwV RX11 388 RX11 yX11_countFetched cX11_countFetched 6 (some .int) 2 := ⟨⟨ml_X11_388, im_X11_countFetched, se_X11_countFetched, in_X11, cd_X11_countFetched⟩, rfl, hd_X11_countFetched⟩
theorem cd_X11_choicesOf : Cond.code yX11_choicesOf cX11_choicesOf 2 (some .int) ∈ TT := tt6 3 (by decide +kernel) rfl
theorem im_X11_choicesOf : Cond.instanceMethod yX11_choicesOf ∈ TT := tt6 2 (by decide +kernel) rfl
theorem se_X11_choicesOf : Cond.selects RX11 yX11_choicesOf yX11_choicesOf ∈ TT := tt_s 43 (by decide +kernel) rfl
theorem hd_X11_choicesOf : yX11_choicesOf.cls ≠ "java/lang/invoke/MethodHandle" ∧ yX11_choicesOf.cls ≠ "java/lang/invoke/VarHandle" ∧ (parseMethodDescriptor yX11_choicesOf.desc).map (fun d => d.parameters.length) = some 1 := by decide +kernel
theorem ml_X11_391 : Cond.methodLink RX11 391 yX11_choicesOf ∈ TT := tt6 0 (by decide +kernel) rfl
theorem mw_X11_391 : mwV RX11 391 RX11 yX11_choicesOf cX11_choicesOf 2 (some .int) 1 := ⟨⟨ml_X11_391, im_X11_choicesOf, se_X11_choicesOf, in_X11, cd_X11_choicesOf⟩, rfl, hd_X11_choicesOf⟩
theorem cd_X11_tryChoice : Cond.code yX11_tryChoice cX11_tryChoice 6 (some .int) ∈ TT := tt6 7 (by decide +kernel) rfl
theorem im_X11_tryChoice : Cond.instanceMethod yX11_tryChoice ∈ TT := tt6 6 (by decide +kernel) rfl
theorem se_X11_tryChoice : Cond.selects RX11 yX11_tryChoice yX11_tryChoice ∈ TT := tt_s 44 (by decide +kernel) rfl
theorem hd_X11_tryChoice : yX11_tryChoice.cls ≠ "java/lang/invoke/MethodHandle" ∧ yX11_tryChoice.cls ≠ "java/lang/invoke/VarHandle" ∧ (parseMethodDescriptor yX11_tryChoice.desc).map (fun d => d.parameters.length) = some 4 := by decide +kernel
theorem ml_X11_394 : Cond.methodLink RX11 394 yX11_tryChoice ∈ TT := tt6 4 (by decide +kernel) rfl
theorem mw_X11_394 : mwV RX11 394 RX11 yX11_tryChoice cX11_tryChoice 6 (some .int) 4 := ⟨⟨ml_X11_394, im_X11_tryChoice, se_X11_tryChoice, in_X11, cd_X11_tryChoice⟩, rfl, hd_X11_tryChoice⟩
theorem cd_X11_makeChoice : Cond.code yX11_makeChoice cX11_makeChoice 3 none ∈ TT := tt6 15 (by decide +kernel) rfl
theorem im_X11_makeChoice : Cond.instanceMethod yX11_makeChoice ∈ TT := tt6 14 (by decide +kernel) rfl
theorem se_X11_makeChoice : Cond.selects RX11 yX11_makeChoice yX11_makeChoice ∈ TT := tt_s 45 (by decide +kernel) rfl
theorem hd_X11_makeChoice : yX11_makeChoice.cls ≠ "java/lang/invoke/MethodHandle" ∧ yX11_makeChoice.cls ≠ "java/lang/invoke/VarHandle" ∧ (parseMethodDescriptor yX11_makeChoice.desc).map (fun d => d.parameters.length) = some 2 := by decide +kernel
theorem ml_X11_397 : Cond.methodLink RX11 397 yX11_makeChoice ∈ TT := tt6 12 (by decide +kernel) rfl
theorem mw_X11_397 : mwV RX11 397 RX11 yX11_makeChoice cX11_makeChoice 3 none 2 := ⟨⟨ml_X11_397, im_X11_makeChoice, se_X11_makeChoice, in_X11, cd_X11_makeChoice⟩, rfl, hd_X11_makeChoice⟩
theorem cd_X10_partLines : Cond.code yX10_partLines cX10_partLines 3 none ∈ TT := tt6 27 (by decide +kernel) rfl
theorem im_X10_partLines : Cond.instanceMethod yX10_partLines ∈ TT := tt6 25 (by decide +kernel) rfl
theorem se_X10_partLines : Cond.selects RX10 yX10_partLines yX10_partLines ∈ TT := tt6 26 (by decide +kernel) rfl
theorem hd_X10_partLines : yX10_partLines.cls ≠ "java/lang/invoke/MethodHandle" ∧ yX10_partLines.cls ≠ "java/lang/invoke/VarHandle" ∧ (parseMethodDescriptor yX10_partLines.desc).map (fun d => d.parameters.length) = some 0 := by decide +kernel
theorem ml_X11_400 : Cond.methodLink RX11 400 yX10_partLines ∈ TT := tt6 24 (by decide +kernel) rfl
theorem mw_X11_400 : mwV RX11 400 RX10 yX10_partLines cX10_partLines 3 none 0 := ⟨⟨ml_X11_400, im_X10_partLines, se_X10_partLines, in_X10, cd_X10_partLines⟩, rfl, hd_X10_partLines⟩
theorem cd_X11_tellLine : Cond.code yX11_tellLine cX11_tellLine 7 (some .long) ∈ TT := tt6 44 (by decide +kernel) rfl
theorem im_X11_tellLine : Cond.instanceMethod yX11_tellLine ∈ TT := tt6 43 (by decide +kernel) rfl
theorem se_X11_tellLine : Cond.selects RX11 yX11_tellLine yX11_tellLine ∈ TT := tt_s 48 (by decide +kernel) rfl
theorem hd_X11_tellLine : yX11_tellLine.cls ≠ "java/lang/invoke/MethodHandle" ∧ yX11_tellLine.cls ≠ "java/lang/invoke/VarHandle" ∧ (parseMethodDescriptor yX11_tellLine.desc).map (fun d => d.parameters.length) = some 2 := by decide +kernel
theorem ml_X11_406 : Cond.methodLink RX11 406 yX11_tellLine ∈ TT := tt6 41 (by decide +kernel) rfl
theorem mw_X11_406 : mwV RX11 406 RX11 yX11_tellLine cX11_tellLine 7 (some .long) 2 := ⟨⟨ml_X11_406, im_X11_tellLine, se_X11_tellLine, in_X11, cd_X11_tellLine⟩, rfl, hd_X11_tellLine⟩
theorem cd_X7_mix : Cond.code yX7_mix cX7_mix 7 (some .long) ∈ TT := tt6 66 (by decide +kernel) rfl
theorem im_X7_mix : Cond.instanceMethod yX7_mix ∈ TT := tt6 64 (by decide +kernel) rfl
theorem se_X7_mix : Cond.selects RX7 yX7_mix yX7_mix ∈ TT := tt6 65 (by decide +kernel) rfl
theorem hd_X7_mix : yX7_mix.cls ≠ "java/lang/invoke/MethodHandle" ∧ yX7_mix.cls ≠ "java/lang/invoke/VarHandle" ∧ (parseMethodDescriptor yX7_mix.desc).map (fun d => d.parameters.length) = some 2 := by decide +kernel
theorem ml_X11_414 : Cond.methodLink RX11 414 yX7_mix ∈ TT := tt6 63 (by decide +kernel) rfl
theorem mw_X11_414 : mwV RX11 414 RX7 yX7_mix cX7_mix 7 (some .long) 2 := ⟨⟨ml_X11_414, im_X7_mix, se_X7_mix, in_X7, cd_X7_mix⟩, rfl, hd_X7_mix⟩
theorem cd_X5_mix : Cond.code yX5_mix cX5_mix 5 (some .long) ∈ TT := tt6 71 (by decide +kernel) rfl
theorem im_X5_mix : Cond.instanceMethod yX5_mix ∈ TT := tt6 69 (by decide +kernel) rfl
theorem se_X5_mix : Cond.selects RX5 yX5_mix yX5_mix ∈ TT := tt6 70 (by decide +kernel) rfl
theorem hd_X5_mix : yX5_mix.cls ≠ "java/lang/invoke/MethodHandle" ∧ yX5_mix.cls ≠ "java/lang/invoke/VarHandle" ∧ (parseMethodDescriptor yX5_mix.desc).map (fun d => d.parameters.length) = some 1 := by decide +kernel
theorem ml_X11_418 : Cond.methodLink RX11 418 yX5_mix ∈ TT := tt6 68 (by decide +kernel) rfl
theorem mw_X11_418 : mwV RX11 418 RX5 yX5_mix cX5_mix 5 (some .long) 1 := ⟨⟨ml_X11_418, im_X5_mix, se_X5_mix, in_X5, cd_X5_mix⟩, rfl, hd_X5_mix⟩
theorem cd_X2_add : Cond.code yX2_add cX2_add 6 (some .int) ∈ TT := tt3 78 (by decide +kernel) rfl
theorem im_X2_add : Cond.instanceMethod yX2_add ∈ TT := tt3 76 (by decide +kernel) rfl
theorem se_X2_add : Cond.selects RX2 yX2_add yX2_add ∈ TT := tt3 77 (by decide +kernel) rfl
theorem hd_X2_add : yX2_add.cls ≠ "java/lang/invoke/MethodHandle" ∧ yX2_add.cls ≠ "java/lang/invoke/VarHandle" ∧ (parseMethodDescriptor yX2_add.desc).map (fun d => d.parameters.length) = some 4 := by decide +kernel
theorem ml_X11_423 : Cond.methodLink RX11 423 yX2_add ∈ TT := tt3 75 (by decide +kernel) rfl
theorem mw_X11_423 : mwV RX11 423 RX2 yX2_add cX2_add 6 (some .int) 4 := ⟨⟨ml_X11_423, im_X2_add, se_X2_add, in_X2, cd_X2_add⟩, rfl, hd_X2_add⟩
theorem cd_X3_begin : Cond.code yX3_begin cX3_begin 4 none ∈ TT := tt3 91 (by decide +kernel) rfl
theorem im_X3_begin : Cond.instanceMethod yX3_begin ∈ TT := tt3 89 (by decide +kernel) rfl
theorem se_X3_begin : Cond.selects RX3 yX3_begin yX3_begin ∈ TT := tt3 90 (by decide +kernel) rfl
theorem hd_X3_begin : yX3_begin.cls ≠ "java/lang/invoke/MethodHandle" ∧ yX3_begin.cls ≠ "java/lang/invoke/VarHandle" ∧ (parseMethodDescriptor yX3_begin.desc).map (fun d => d.parameters.length) = some 0 := by decide +kernel
theorem ml_X11_426 : Cond.methodLink RX11 426 yX3_begin ∈ TT := tt3 88 (by decide +kernel) rfl
theorem mw_X11_426 : mwV RX11 426 RX3 yX3_begin cX3_begin 4 none 0 := ⟨⟨ml_X11_426, im_X3_begin, se_X3_begin, in_X3, cd_X3_begin⟩, rfl, hd_X3_begin⟩
theorem cd_X0_refresh : Cond.code yX0_refresh cX0_refresh 1 none ∈ TT := tt4 57 (by decide +kernel) rfl
theorem im_X0_refresh : Cond.instanceMethod yX0_refresh ∈ TT := tt4 55 (by decide +kernel) rfl
theorem se_X0_refresh : Cond.selects RX0 yX0_refresh yX0_refresh ∈ TT := tt4 56 (by decide +kernel) rfl
theorem hd_X0_refresh : yX0_refresh.cls ≠ "java/lang/invoke/MethodHandle" ∧ yX0_refresh.cls ≠ "java/lang/invoke/VarHandle" ∧ (parseMethodDescriptor yX0_refresh.desc).map (fun d => d.parameters.length) = some 0 := by decide +kernel
theorem ml_X11_444 : Cond.methodLink RX11 444 yX0_refresh ∈ TT := tt4 54 (by decide +kernel) rfl
theorem mw_X11_444 : mwV RX11 444 RX0 yX0_refresh cX0_refresh 1 none 0 := ⟨⟨ml_X11_444, im_X0_refresh, se_X0_refresh, in_X0, cd_X0_refresh⟩, rfl, hd_X0_refresh⟩
theorem cd_X10_arrange : Cond.code yX10_arrange cX10_arrange 3 none ∈ TT := tt4 95 (by decide +kernel) rfl
theorem im_X10_arrange : Cond.instanceMethod yX10_arrange ∈ TT := tt4 93 (by decide +kernel) rfl
theorem se_X10_arrange : Cond.selects RX10 yX10_arrange yX10_arrange ∈ TT := tt4 94 (by decide +kernel) rfl
theorem hd_X10_arrange : yX10_arrange.cls ≠ "java/lang/invoke/MethodHandle" ∧ yX10_arrange.cls ≠ "java/lang/invoke/VarHandle" ∧ (parseMethodDescriptor yX10_arrange.desc).map (fun d => d.parameters.length) = some 0 := by decide +kernel
theorem ml_X11_448 : Cond.methodLink RX11 448 yX10_arrange ∈ TT := tt4 92 (by decide +kernel) rfl
theorem mw_X11_448 : mwV RX11 448 RX10 yX10_arrange cX10_arrange 3 none 0 := ⟨⟨ml_X11_448, im_X10_arrange, se_X10_arrange, in_X10, cd_X10_arrange⟩, rfl, hd_X10_arrange⟩
theorem cd_X11_lackAt : Cond.code yX11_lackAt cX11_lackAt 5 (some .int) ∈ TT := tt5 193 (by decide +kernel) rfl
theorem im_X11_lackAt : Cond.instanceMethod yX11_lackAt ∈ TT := tt5 192 (by decide +kernel) rfl
theorem se_X11_lackAt : Cond.selects RX11 yX11_lackAt yX11_lackAt ∈ TT := tt_s 37 (by decide +kernel) rfl
theorem hd_X11_lackAt : yX11_lackAt.cls ≠ "java/lang/invoke/MethodHandle" ∧ yX11_lackAt.cls ≠ "java/lang/invoke/VarHandle" ∧ (parseMethodDescriptor yX11_lackAt.desc).map (fun d => d.parameters.length) = some 2 := by decide +kernel
theorem ml_X11_454 : Cond.methodLink RX11 454 yX11_lackAt ∈ TT := tt5 190 (by decide +kernel) rfl
theorem mw_X11_454 : mwV RX11 454 RX11 yX11_lackAt cX11_lackAt 5 (some .int) 2 := ⟨⟨ml_X11_454, im_X11_lackAt, se_X11_lackAt, in_X11, cd_X11_lackAt⟩, rfl, hd_X11_lackAt⟩
theorem cd_X11_loadAt : Cond.code yX11_loadAt cX11_loadAt 5 (some .long) ∈ TT := tt5 198 (by decide +kernel) rfl
theorem im_X11_loadAt : Cond.instanceMethod yX11_loadAt ∈ TT := tt5 197 (by decide +kernel) rfl
theorem se_X11_loadAt : Cond.selects RX11 yX11_loadAt yX11_loadAt ∈ TT := tt_s 38 (by decide +kernel) rfl
theorem hd_X11_loadAt : yX11_loadAt.cls ≠ "java/lang/invoke/MethodHandle" ∧ yX11_loadAt.cls ≠ "java/lang/invoke/VarHandle" ∧ (parseMethodDescriptor yX11_loadAt.desc).map (fun d => d.parameters.length) = some 2 := by decide +kernel
theorem ml_X11_457 : Cond.methodLink RX11 457 yX11_loadAt ∈ TT := tt5 195 (by decide +kernel) rfl
theorem mw_X11_457 : mwV RX11 457 RX11 yX11_loadAt cX11_loadAt 5 (some .long) 2 := ⟨⟨ml_X11_457, im_X11_loadAt, se_X11_loadAt, in_X11, cd_X11_loadAt⟩, rfl, hd_X11_loadAt⟩
theorem cd_X9_arrayAt : Cond.code yX9_arrayAt cX9_arrayAt 3 (some .int) ∈ TT := tt4 170 (by decide +kernel) rfl
theorem im_X9_arrayAt : Cond.instanceMethod yX9_arrayAt ∈ TT := tt4 168 (by decide +kernel) rfl
theorem se_X9_arrayAt : Cond.selects RX9 yX9_arrayAt yX9_arrayAt ∈ TT := tt4 169 (by decide +kernel) rfl
theorem hd_X9_arrayAt : yX9_arrayAt.cls ≠ "java/lang/invoke/MethodHandle" ∧ yX9_arrayAt.cls ≠ "java/lang/invoke/VarHandle" ∧ (parseMethodDescriptor yX9_arrayAt.desc).map (fun d => d.parameters.length) = some 2 := by decide +kernel
theorem ml_X11_463 : Cond.methodLink RX11 463 yX9_arrayAt ∈ TT := tt5 194 (by decide +kernel) rfl
theorem mw_X11_463 : mwV RX11 463 RX9 yX9_arrayAt cX9_arrayAt 3 (some .int) 2 := ⟨⟨ml_X11_463, im_X9_arrayAt, se_X9_arrayAt, in_X9, cd_X9_arrayAt⟩, rfl, hd_X9_arrayAt⟩
theorem cd_X11_outcome : Cond.code yX11_outcome cX11_outcome 7 (some .long) ∈ TT := tt5 202 (by decide +kernel) rfl
theorem im_X11_outcome : Cond.instanceMethod yX11_outcome ∈ TT := tt5 201 (by decide +kernel) rfl
theorem se_X11_outcome : Cond.selects RX11 yX11_outcome yX11_outcome ∈ TT := tt_s 39 (by decide +kernel) rfl
theorem hd_X11_outcome : yX11_outcome.cls ≠ "java/lang/invoke/MethodHandle" ∧ yX11_outcome.cls ≠ "java/lang/invoke/VarHandle" ∧ (parseMethodDescriptor yX11_outcome.desc).map (fun d => d.parameters.length) = some 3 := by decide +kernel
theorem ml_X11_472 : Cond.methodLink RX11 472 yX11_outcome ∈ TT := tt5 199 (by decide +kernel) rfl
theorem mw_X11_472 : mwV RX11 472 RX11 yX11_outcome cX11_outcome 7 (some .long) 3 := ⟨⟨ml_X11_472, im_X11_outcome, se_X11_outcome, in_X11, cd_X11_outcome⟩, rfl, hd_X11_outcome⟩
theorem cd_X6_clear : Cond.code yX6_clear cX6_clear 2 none ∈ TT := tt5 225 (by decide +kernel) rfl
theorem im_X6_clear : Cond.instanceMethod yX6_clear ∈ TT := tt5 223 (by decide +kernel) rfl
theorem se_X6_clear : Cond.selects RX6 yX6_clear yX6_clear ∈ TT := tt5 224 (by decide +kernel) rfl
theorem hd_X6_clear : yX6_clear.cls ≠ "java/lang/invoke/MethodHandle" ∧ yX6_clear.cls ≠ "java/lang/invoke/VarHandle" ∧ (parseMethodDescriptor yX6_clear.desc).map (fun d => d.parameters.length) = some 1 := by decide +kernel
theorem ml_X11_479 : Cond.methodLink RX11 479 yX6_clear ∈ TT := tt5 222 (by decide +kernel) rfl
theorem mw_X11_479 : mwV RX11 479 RX6 yX6_clear cX6_clear 2 none 1 := ⟨⟨ml_X11_479, im_X6_clear, se_X6_clear, in_X6, cd_X6_clear⟩, rfl, hd_X6_clear⟩
theorem cd_X11_fetchBy : Cond.code yX11_fetchBy cX11_fetchBy 6 (some .int) ∈ TT := tt5 230 (by decide +kernel) rfl
theorem im_X11_fetchBy : Cond.instanceMethod yX11_fetchBy ∈ TT := tt5 229 (by decide +kernel) rfl
theorem se_X11_fetchBy : Cond.selects RX11 yX11_fetchBy yX11_fetchBy ∈ TT := tt_s 42 (by decide +kernel) rfl
theorem hd_X11_fetchBy : yX11_fetchBy.cls ≠ "java/lang/invoke/MethodHandle" ∧ yX11_fetchBy.cls ≠ "java/lang/invoke/VarHandle" ∧ (parseMethodDescriptor yX11_fetchBy.desc).map (fun d => d.parameters.length) = some 3 := by decide +kernel
theorem ml_X11_482 : Cond.methodLink RX11 482 yX11_fetchBy ∈ TT := tt5 227 (by decide +kernel) rfl
theorem mw_X11_482 : mwV RX11 482 RX11 yX11_fetchBy cX11_fetchBy 6 (some .int) 3 := ⟨⟨ml_X11_482, im_X11_fetchBy, se_X11_fetchBy, in_X11, cd_X11_fetchBy⟩, rfl, hd_X11_fetchBy⟩
theorem cd_J9_floorDiv_f86c9 : Cond.code yJ9_floorDiv_f86c9 cJ9_floorDiv_f86c9 6 (some .long) ∈ TT := tt4 107 (by decide +kernel) rfl
theorem st_J9_floorDiv_f86c9 : Cond.static yJ9_floorDiv_f86c9 ∈ TT := tt4 106 (by decide +kernel) rfl
theorem hd_J9_floorDiv_f86c9 : yJ9_floorDiv_f86c9.cls ≠ "java/lang/invoke/MethodHandle" ∧ yJ9_floorDiv_f86c9.cls ≠ "java/lang/invoke/VarHandle" ∧ (parseMethodDescriptor yJ9_floorDiv_f86c9.desc).map (fun d => d.parameters.length) = some 2 := by decide +kernel
theorem ml_X11_485 : Cond.methodLink RX11 485 yJ9_floorDiv_f86c9 ∈ TT := tt5 231 (by decide +kernel) rfl
theorem mw_X11_485 : mwS RX11 485 yJ9_floorDiv_f86c9 cJ9_floorDiv_f86c9 6 (some .long) 2 := ⟨⟨ml_X11_485, st_J9_floorDiv_f86c9, in_J9, cd_J9_floorDiv_f86c9⟩, hd_J9_floorDiv_f86c9⟩
theorem cd_X6_bring : Cond.code yX6_bring cX6_bring 9 (some .boolean) ∈ TT := tt5 235 (by decide +kernel) rfl
theorem im_X6_bring : Cond.instanceMethod yX6_bring ∈ TT := tt5 233 (by decide +kernel) rfl
theorem se_X6_bring : Cond.selects RX6 yX6_bring yX6_bring ∈ TT := tt5 234 (by decide +kernel) rfl
theorem hd_X6_bring : yX6_bring.cls ≠ "java/lang/invoke/MethodHandle" ∧ yX6_bring.cls ≠ "java/lang/invoke/VarHandle" ∧ (parseMethodDescriptor yX6_bring.desc).map (fun d => d.parameters.length) = some 3 := by decide +kernel
theorem ml_X11_491 : Cond.methodLink RX11 491 yX6_bring ∈ TT := tt5 232 (by decide +kernel) rfl
theorem mw_X11_491 : mwV RX11 491 RX6 yX6_bring cX6_bring 9 (some .boolean) 3 := ⟨⟨ml_X11_491, im_X6_bring, se_X6_bring, in_X6, cd_X6_bring⟩, rfl, hd_X6_bring⟩
theorem cd_X3_setAside : Cond.code yX3_setAside cX3_setAside 1 none ∈ TT := tt6 11 (by decide +kernel) rfl
theorem im_X3_setAside : Cond.instanceMethod yX3_setAside ∈ TT := tt6 9 (by decide +kernel) rfl
theorem se_X3_setAside : Cond.selects RX3 yX3_setAside yX3_setAside ∈ TT := tt6 10 (by decide +kernel) rfl
theorem hd_X3_setAside : yX3_setAside.cls ≠ "java/lang/invoke/MethodHandle" ∧ yX3_setAside.cls ≠ "java/lang/invoke/VarHandle" ∧ (parseMethodDescriptor yX3_setAside.desc).map (fun d => d.parameters.length) = some 0 := by decide +kernel
theorem ml_X11_495 : Cond.methodLink RX11 495 yX3_setAside ∈ TT := tt6 8 (by decide +kernel) rfl
theorem mw_X11_495 : mwV RX11 495 RX3 yX3_setAside cX3_setAside 1 none 0 := ⟨⟨ml_X11_495, im_X3_setAside, se_X3_setAside, in_X3, cd_X3_setAside⟩, rfl, hd_X3_setAside⟩
theorem cd_X3_takeAside : Cond.code yX3_takeAside cX3_takeAside 1 none ∈ TT := tt6 19 (by decide +kernel) rfl
theorem im_X3_takeAside : Cond.instanceMethod yX3_takeAside ∈ TT := tt6 17 (by decide +kernel) rfl
theorem se_X3_takeAside : Cond.selects RX3 yX3_takeAside yX3_takeAside ∈ TT := tt6 18 (by decide +kernel) rfl
theorem hd_X3_takeAside : yX3_takeAside.cls ≠ "java/lang/invoke/MethodHandle" ∧ yX3_takeAside.cls ≠ "java/lang/invoke/VarHandle" ∧ (parseMethodDescriptor yX3_takeAside.desc).map (fun d => d.parameters.length) = some 0 := by decide +kernel
theorem ml_X11_498 : Cond.methodLink RX11 498 yX3_takeAside ∈ TT := tt6 16 (by decide +kernel) rfl
theorem mw_X11_498 : mwV RX11 498 RX3 yX3_takeAside cX3_takeAside 1 none 0 := ⟨⟨ml_X11_498, im_X3_takeAside, se_X3_takeAside, in_X3, cd_X3_takeAside⟩, rfl, hd_X3_takeAside⟩
theorem cd_J7_fill_d0a16 : Cond.code yJ7_fill_d0a16 cJ7_fill_d0a16 5 none ∈ TT := tt4 60 (by decide +kernel) rfl
theorem st_J7_fill_d0a16 : Cond.static yJ7_fill_d0a16 ∈ TT := tt4 59 (by decide +kernel) rfl
theorem hd_J7_fill_d0a16 : yJ7_fill_d0a16.cls ≠ "java/lang/invoke/MethodHandle" ∧ yJ7_fill_d0a16.cls ≠ "java/lang/invoke/VarHandle" ∧ (parseMethodDescriptor yJ7_fill_d0a16.desc).map (fun d => d.parameters.length) = some 2 := by decide +kernel
theorem ml_X0_44 : Cond.methodLink RX0 44 yJ7_fill_d0a16 ∈ TT := tt4 58 (by decide +kernel) rfl
theorem mw_X0_44 : mwS RX0 44 yJ7_fill_d0a16 cJ7_fill_d0a16 5 none 2 := ⟨⟨ml_X0_44, st_J7_fill_d0a16, in_J7, cd_J7_fill_d0a16⟩, hd_J7_fill_d0a16⟩
theorem cd_X0_walk : Cond.code yX0_walk cX0_walk 5 none ∈ TT := tt4 64 (by decide +kernel) rfl
theorem im_X0_walk : Cond.instanceMethod yX0_walk ∈ TT := tt4 63 (by decide +kernel) rfl
theorem se_X0_walk : Cond.selects RX0 yX0_walk yX0_walk ∈ TT := tt_s 11 (by decide +kernel) rfl
theorem hd_X0_walk : yX0_walk.cls ≠ "java/lang/invoke/MethodHandle" ∧ yX0_walk.cls ≠ "java/lang/invoke/VarHandle" ∧ (parseMethodDescriptor yX0_walk.desc).map (fun d => d.parameters.length) = some 2 := by decide +kernel
theorem ml_X0_55 : Cond.methodLink RX0 55 yX0_walk ∈ TT := tt4 61 (by decide +kernel) rfl
theorem mw_X0_55 : mwV RX0 55 RX0 yX0_walk cX0_walk 5 none 2 := ⟨⟨ml_X0_55, im_X0_walk, se_X0_walk, in_X0, cd_X0_walk⟩, rfl, hd_X0_walk⟩
theorem ml_X0_59 : Cond.methodLink RX0 59 yX2_isAct ∈ TT := tt4 65 (by decide +kernel) rfl
theorem mw_X0_59 : mwV RX0 59 RX2 yX2_isAct cX2_isAct 2 (some .boolean) 1 := ⟨⟨ml_X0_59, im_X2_isAct, se_X2_isAct, in_X2, cd_X2_isAct⟩, rfl, hd_X2_isAct⟩
theorem cd_X0_addVisit : Cond.code yX0_addVisit cX0_addVisit 2 none ∈ TT := tt4 69 (by decide +kernel) rfl
theorem im_X0_addVisit : Cond.instanceMethod yX0_addVisit ∈ TT := tt4 68 (by decide +kernel) rfl
theorem se_X0_addVisit : Cond.selects RX0 yX0_addVisit yX0_addVisit ∈ TT := tt_s 12 (by decide +kernel) rfl
theorem hd_X0_addVisit : yX0_addVisit.cls ≠ "java/lang/invoke/MethodHandle" ∧ yX0_addVisit.cls ≠ "java/lang/invoke/VarHandle" ∧ (parseMethodDescriptor yX0_addVisit.desc).map (fun d => d.parameters.length) = some 1 := by decide +kernel
theorem ml_X0_66 : Cond.methodLink RX0 66 yX0_addVisit ∈ TT := tt4 66 (by decide +kernel) rfl
theorem mw_X0_66 : mwV RX0 66 RX0 yX0_addVisit cX0_addVisit 2 none 1 := ⟨⟨ml_X0_66, im_X0_addVisit, se_X0_addVisit, in_X0, cd_X0_addVisit⟩, rfl, hd_X0_addVisit⟩
theorem ml_X0_70 : Cond.methodLink RX0 70 yX2_isLoop ∈ TT := tt4 71 (by decide +kernel) rfl
theorem mw_X0_70 : mwV RX0 70 RX2 yX2_isLoop cX2_isLoop 2 (some .boolean) 1 := ⟨⟨ml_X0_70, im_X2_isLoop, se_X2_isLoop, in_X2, cd_X2_isLoop⟩, rfl, hd_X2_isLoop⟩
theorem cd_X0_turnLoop : Cond.code yX0_turnLoop cX0_turnLoop 9 none ∈ TT := tt4 75 (by decide +kernel) rfl
theorem im_X0_turnLoop : Cond.instanceMethod yX0_turnLoop ∈ TT := tt4 74 (by decide +kernel) rfl
theorem se_X0_turnLoop : Cond.selects RX0 yX0_turnLoop yX0_turnLoop ∈ TT := tt_s 13 (by decide +kernel) rfl
theorem hd_X0_turnLoop : yX0_turnLoop.cls ≠ "java/lang/invoke/MethodHandle" ∧ yX0_turnLoop.cls ≠ "java/lang/invoke/VarHandle" ∧ (parseMethodDescriptor yX0_turnLoop.desc).map (fun d => d.parameters.length) = some 2 := by decide +kernel
theorem ml_X0_73 : Cond.methodLink RX0 73 yX0_turnLoop ∈ TT := tt4 72 (by decide +kernel) rfl
theorem mw_X0_73 : mwV RX0 73 RX0 yX0_turnLoop cX0_turnLoop 9 none 2 := ⟨⟨ml_X0_73, im_X0_turnLoop, se_X0_turnLoop, in_X0, cd_X0_turnLoop⟩, rfl, hd_X0_turnLoop⟩
theorem cd_X0_passes : Cond.code yX0_passes cX0_passes 5 (some .boolean) ∈ TT := tt4 83 (by decide +kernel) rfl
theorem im_X0_passes : Cond.instanceMethod yX0_passes ∈ TT := tt4 82 (by decide +kernel) rfl
theorem se_X0_passes : Cond.selects RX0 yX0_passes yX0_passes ∈ TT := tt_s 14 (by decide +kernel) rfl
theorem hd_X0_passes : yX0_passes.cls ≠ "java/lang/invoke/MethodHandle" ∧ yX0_passes.cls ≠ "java/lang/invoke/VarHandle" ∧ (parseMethodDescriptor yX0_passes.desc).map (fun d => d.parameters.length) = some 1 := by decide +kernel
theorem ml_X0_76 : Cond.methodLink RX0 76 yX0_passes ∈ TT := tt4 80 (by decide +kernel) rfl
theorem mw_X0_76 : mwV RX0 76 RX0 yX0_passes cX0_passes 5 (some .boolean) 1 := ⟨⟨ml_X0_76, im_X0_passes, se_X0_passes, in_X0, cd_X0_passes⟩, rfl, hd_X0_passes⟩
theorem cd_X8_reckon : Cond.code yX8_reckon cX8_reckon 8 (some .long) ∈ TT := tt4 79 (by decide +kernel) rfl
theorem im_X8_reckon : Cond.instanceMethod yX8_reckon ∈ TT := tt4 77 (by decide +kernel) rfl
theorem se_X8_reckon : Cond.selects RX8 yX8_reckon yX8_reckon ∈ TT := tt4 78 (by decide +kernel) rfl
theorem hd_X8_reckon : yX8_reckon.cls ≠ "java/lang/invoke/MethodHandle" ∧ yX8_reckon.cls ≠ "java/lang/invoke/VarHandle" ∧ (parseMethodDescriptor yX8_reckon.desc).map (fun d => d.parameters.length) = some 3 := by decide +kernel
theorem ml_X0_88 : Cond.methodLink RX0 88 yX8_reckon ∈ TT := tt4 76 (by decide +kernel) rfl
theorem mw_X0_88 : mwV RX0 88 RX8 yX8_reckon cX8_reckon 8 (some .long) 3 := ⟨⟨ml_X0_88, im_X8_reckon, se_X8_reckon, in_X8, cd_X8_reckon⟩, rfl, hd_X8_reckon⟩
theorem ml_X0_106 : Cond.methodLink RX0 106 yX0_letter ∈ TT := tt4 134 (by decide +kernel) rfl
theorem mw_X0_106 : mwV RX0 106 RX0 yX0_letter cX0_letter 3 (some .long) 2 := ⟨⟨ml_X0_106, im_X0_letter, se_X0_letter, in_X0, cd_X0_letter⟩, rfl, hd_X0_letter⟩
theorem ml_X1_62 : Cond.methodLink RX1 62 yX9_refresh ∈ TT := tt4 147 (by decide +kernel) rfl
theorem mw_X1_62 : mwV RX1 62 RX9 yX9_refresh cX9_refresh 3 none 0 := ⟨⟨ml_X1_62, im_X9_refresh, se_X9_refresh, in_X9, cd_X9_refresh⟩, rfl, hd_X9_refresh⟩
theorem cd_X1_clear : Cond.code yX1_clear cX1_clear 3 none ∈ TT := tt4 174 (by decide +kernel) rfl
theorem im_X1_clear : Cond.instanceMethod yX1_clear ∈ TT := tt4 173 (by decide +kernel) rfl
theorem se_X1_clear : Cond.selects RX1 yX1_clear yX1_clear ∈ TT := tt_s 21 (by decide +kernel) rfl
theorem hd_X1_clear : yX1_clear.cls ≠ "java/lang/invoke/MethodHandle" ∧ yX1_clear.cls ≠ "java/lang/invoke/VarHandle" ∧ (parseMethodDescriptor yX1_clear.desc).map (fun d => d.parameters.length) = some 0 := by decide +kernel
theorem ml_X1_67 : Cond.methodLink RX1 67 yX1_clear ∈ TT := tt4 171 (by decide +kernel) rfl
theorem mw_X1_67 : mwV RX1 67 RX1 yX1_clear cX1_clear 3 none 0 := ⟨⟨ml_X1_67, im_X1_clear, se_X1_clear, in_X1, cd_X1_clear⟩, rfl, hd_X1_clear⟩
theorem cd_X1_gather : Cond.code yX1_gather cX1_gather 5 none ∈ TT := tt4 185 (by decide +kernel) rfl
theorem im_X1_gather : Cond.instanceMethod yX1_gather ∈ TT := tt4 184 (by decide +kernel) rfl
theorem se_X1_gather : Cond.selects RX1 yX1_gather yX1_gather ∈ TT := tt_s 22 (by decide +kernel) rfl
theorem hd_X1_gather : yX1_gather.cls ≠ "java/lang/invoke/MethodHandle" ∧ yX1_gather.cls ≠ "java/lang/invoke/VarHandle" ∧ (parseMethodDescriptor yX1_gather.desc).map (fun d => d.parameters.length) = some 1 := by decide +kernel
theorem ml_X1_76 : Cond.methodLink RX1 76 yX1_gather ∈ TT := tt4 182 (by decide +kernel) rfl
theorem mw_X1_76 : mwV RX1 76 RX1 yX1_gather cX1_gather 5 none 1 := ⟨⟨ml_X1_76, im_X1_gather, se_X1_gather, in_X1, cd_X1_gather⟩, rfl, hd_X1_gather⟩
theorem cd_X1_link : Cond.code yX1_link cX1_link 5 none ∈ TT := tt4 211 (by decide +kernel) rfl
theorem im_X1_link : Cond.instanceMethod yX1_link ∈ TT := tt4 210 (by decide +kernel) rfl
theorem se_X1_link : Cond.selects RX1 yX1_link yX1_link ∈ TT := tt_s 26 (by decide +kernel) rfl
theorem hd_X1_link : yX1_link.cls ≠ "java/lang/invoke/MethodHandle" ∧ yX1_link.cls ≠ "java/lang/invoke/VarHandle" ∧ (parseMethodDescriptor yX1_link.desc).map (fun d => d.parameters.length) = some 1 := by decide +kernel
theorem ml_X1_80 : Cond.methodLink RX1 80 yX1_link ∈ TT := tt4 208 (by decide +kernel) rfl
theorem mw_X1_80 : mwV RX1 80 RX1 yX1_link cX1_link 5 none 1 := ⟨⟨ml_X1_80, im_X1_link, se_X1_link, in_X1, cd_X1_link⟩, rfl, hd_X1_link⟩
theorem cd_J7_fill_53178 : Cond.code yJ7_fill_53178 cJ7_fill_53178 4 none ∈ TT := tt1 56 (by decide +kernel) rfl
theorem st_J7_fill_53178 : Cond.static yJ7_fill_53178 ∈ TT := tt1 55 (by decide +kernel) rfl
theorem hd_J7_fill_53178 : yJ7_fill_53178.cls ≠ "java/lang/invoke/MethodHandle" ∧ yJ7_fill_53178.cls ≠ "java/lang/invoke/VarHandle" ∧ (parseMethodDescriptor yJ7_fill_53178.desc).map (fun d => d.parameters.length) = some 2 := by decide +kernel
theorem ml_X1_83 : Cond.methodLink RX1 83 yJ7_fill_53178 ∈ TT := tt4 175 (by decide +kernel) rfl
theorem mw_X1_83 : mwS RX1 83 yJ7_fill_53178 cJ7_fill_53178 4 none 2 := ⟨⟨ml_X1_83, st_J7_fill_53178, in_J7, cd_J7_fill_53178⟩, hd_J7_fill_53178⟩
theorem cd_J7_fill_fda19 : Cond.code yJ7_fill_fda19 cJ7_fill_fda19 5 none ∈ TT := tt3 110 (by decide +kernel) rfl
theorem st_J7_fill_fda19 : Cond.static yJ7_fill_fda19 ∈ TT := tt3 109 (by decide +kernel) rfl
theorem hd_J7_fill_fda19 : yJ7_fill_fda19.cls ≠ "java/lang/invoke/MethodHandle" ∧ yJ7_fill_fda19.cls ≠ "java/lang/invoke/VarHandle" ∧ (parseMethodDescriptor yJ7_fill_fda19.desc).map (fun d => d.parameters.length) = some 4 := by decide +kernel
theorem ml_X1_92 : Cond.methodLink RX1 92 yJ7_fill_fda19 ∈ TT := tt4 176 (by decide +kernel) rfl
theorem mw_X1_92 : mwS RX1 92 yJ7_fill_fda19 cJ7_fill_fda19 5 none 4 := ⟨⟨ml_X1_92, st_J7_fill_fda19, in_J7, cd_J7_fill_fda19⟩, hd_J7_fill_fda19⟩
theorem ml_X1_103 : Cond.methodLink RX1 103 yX2_common ∈ TT := tt4 177 (by decide +kernel) rfl
theorem mw_X1_103 : mwV RX1 103 RX2 yX2_common cX2_common 5 (some .int) 2 := ⟨⟨ml_X1_103, im_X2_common, se_X2_common, in_X2, cd_X2_common⟩, rfl, hd_X2_common⟩
theorem cd_X1_meetWriters : Cond.code yX1_meetWriters cX1_meetWriters 6 none ∈ TT := tt4 189 (by decide +kernel) rfl
theorem im_X1_meetWriters : Cond.instanceMethod yX1_meetWriters ∈ TT := tt4 188 (by decide +kernel) rfl
theorem se_X1_meetWriters : Cond.selects RX1 yX1_meetWriters yX1_meetWriters ∈ TT := tt_s 23 (by decide +kernel) rfl
theorem hd_X1_meetWriters : yX1_meetWriters.cls ≠ "java/lang/invoke/MethodHandle" ∧ yX1_meetWriters.cls ≠ "java/lang/invoke/VarHandle" ∧ (parseMethodDescriptor yX1_meetWriters.desc).map (fun d => d.parameters.length) = some 3 := by decide +kernel
theorem ml_X1_109 : Cond.methodLink RX1 109 yX1_meetWriters ∈ TT := tt4 186 (by decide +kernel) rfl
theorem mw_X1_109 : mwV RX1 109 RX1 yX1_meetWriters cX1_meetWriters 6 none 3 := ⟨⟨ml_X1_109, im_X1_meetWriters, se_X1_meetWriters, in_X1, cd_X1_meetWriters⟩, rfl, hd_X1_meetWriters⟩
theorem cd_X1_meetReaders : Cond.code yX1_meetReaders cX1_meetReaders 5 none ∈ TT := tt4 207 (by decide +kernel) rfl
theorem im_X1_meetReaders : Cond.instanceMethod yX1_meetReaders ∈ TT := tt4 206 (by decide +kernel) rfl
theorem se_X1_meetReaders : Cond.selects RX1 yX1_meetReaders yX1_meetReaders ∈ TT := tt_s 25 (by decide +kernel) rfl
theorem hd_X1_meetReaders : yX1_meetReaders.cls ≠ "java/lang/invoke/MethodHandle" ∧ yX1_meetReaders.cls ≠ "java/lang/invoke/VarHandle" ∧ (parseMethodDescriptor yX1_meetReaders.desc).map (fun d => d.parameters.length) = some 2 := by decide +kernel
theorem ml_X1_113 : Cond.methodLink RX1 113 yX1_meetReaders ∈ TT := tt4 204 (by decide +kernel) rfl
theorem mw_X1_113 : mwV RX1 113 RX1 yX1_meetReaders cX1_meetReaders 5 none 2 := ⟨⟨ml_X1_113, im_X1_meetReaders, se_X1_meetReaders, in_X1, cd_X1_meetReaders⟩, rfl, hd_X1_meetReaders⟩
theorem cd_X1_addNeed : Cond.code yX1_addNeed cX1_addNeed 12 none ∈ TT := tt4 193 (by decide +kernel) rfl
theorem im_X1_addNeed : Cond.instanceMethod yX1_addNeed ∈ TT := tt4 192 (by decide +kernel) rfl
theorem se_X1_addNeed : Cond.selects RX1 yX1_addNeed yX1_addNeed ∈ TT := tt_s 24 (by decide +kernel) rfl
theorem hd_X1_addNeed : yX1_addNeed.cls ≠ "java/lang/invoke/MethodHandle" ∧ yX1_addNeed.cls ≠ "java/lang/invoke/VarHandle" ∧ (parseMethodDescriptor yX1_addNeed.desc).map (fun d => d.parameters.length) = some 3 := by decide +kernel
theorem ml_X1_117 : Cond.methodLink RX1 117 yX1_addNeed ∈ TT := tt4 190 (by decide +kernel) rfl
theorem mw_X1_117 : mwV RX1 117 RX1 yX1_addNeed cX1_addNeed 12 none 3 := ⟨⟨ml_X1_117, im_X1_addNeed, se_X1_addNeed, in_X1, cd_X1_addNeed⟩, rfl, hd_X1_addNeed⟩
theorem cd_X1_linkReader : Cond.code yX1_linkReader cX1_linkReader 3 none ∈ TT := tt4 215 (by decide +kernel) rfl
theorem im_X1_linkReader : Cond.instanceMethod yX1_linkReader ∈ TT := tt4 214 (by decide +kernel) rfl
theorem se_X1_linkReader : Cond.selects RX1 yX1_linkReader yX1_linkReader ∈ TT := tt_s 27 (by decide +kernel) rfl
theorem hd_X1_linkReader : yX1_linkReader.cls ≠ "java/lang/invoke/MethodHandle" ∧ yX1_linkReader.cls ≠ "java/lang/invoke/VarHandle" ∧ (parseMethodDescriptor yX1_linkReader.desc).map (fun d => d.parameters.length) = some 2 := by decide +kernel
theorem ml_X1_120 : Cond.methodLink RX1 120 yX1_linkReader ∈ TT := tt4 212 (by decide +kernel) rfl
theorem mw_X1_120 : mwV RX1 120 RX1 yX1_linkReader cX1_linkReader 3 none 2 := ⟨⟨ml_X1_120, im_X1_linkReader, se_X1_linkReader, in_X1, cd_X1_linkReader⟩, rfl, hd_X1_linkReader⟩
theorem cd_X0_step : Cond.code yX0_step cX0_step 4 (some .long) ∈ TT := tt4 197 (by decide +kernel) rfl
theorem im_X0_step : Cond.instanceMethod yX0_step ∈ TT := tt4 195 (by decide +kernel) rfl
theorem se_X0_step : Cond.selects RX0 yX0_step yX0_step ∈ TT := tt4 196 (by decide +kernel) rfl
theorem hd_X0_step : yX0_step.cls ≠ "java/lang/invoke/MethodHandle" ∧ yX0_step.cls ≠ "java/lang/invoke/VarHandle" ∧ (parseMethodDescriptor yX0_step.desc).map (fun d => d.parameters.length) = some 3 := by decide +kernel
theorem ml_X1_126 : Cond.methodLink RX1 126 yX0_step ∈ TT := tt4 194 (by decide +kernel) rfl
theorem mw_X1_126 : mwV RX1 126 RX0 yX0_step cX0_step 4 (some .long) 3 := ⟨⟨ml_X1_126, im_X0_step, se_X0_step, in_X0, cd_X0_step⟩, rfl, hd_X0_step⟩
theorem cd_J9_min_f86c9 : Cond.code yJ9_min_f86c9 cJ9_min_f86c9 4 (some .long) ∈ TT := tt4 200 (by decide +kernel) rfl
theorem st_J9_min_f86c9 : Cond.static yJ9_min_f86c9 ∈ TT := tt4 199 (by decide +kernel) rfl
theorem hd_J9_min_f86c9 : yJ9_min_f86c9.cls ≠ "java/lang/invoke/MethodHandle" ∧ yJ9_min_f86c9.cls ≠ "java/lang/invoke/VarHandle" ∧ (parseMethodDescriptor yJ9_min_f86c9.desc).map (fun d => d.parameters.length) = some 2 := by decide +kernel
theorem ml_X1_130 : Cond.methodLink RX1 130 yJ9_min_f86c9 ∈ TT := tt4 198 (by decide +kernel) rfl
theorem mw_X1_130 : mwS RX1 130 yJ9_min_f86c9 cJ9_min_f86c9 4 (some .long) 2 := ⟨⟨ml_X1_130, st_J9_min_f86c9, in_J9, cd_J9_min_f86c9⟩, hd_J9_min_f86c9⟩
theorem cd_J9_max_f86c9 : Cond.code yJ9_max_f86c9 cJ9_max_f86c9 4 (some .long) ∈ TT := tt4 203 (by decide +kernel) rfl
theorem st_J9_max_f86c9 : Cond.static yJ9_max_f86c9 ∈ TT := tt4 202 (by decide +kernel) rfl
theorem hd_J9_max_f86c9 : yJ9_max_f86c9.cls ≠ "java/lang/invoke/MethodHandle" ∧ yJ9_max_f86c9.cls ≠ "java/lang/invoke/VarHandle" ∧ (parseMethodDescriptor yJ9_max_f86c9.desc).map (fun d => d.parameters.length) = some 2 := by decide +kernel
theorem ml_X1_136 : Cond.methodLink RX1 136 yJ9_max_f86c9 ∈ TT := tt4 201 (by decide +kernel) rfl
theorem mw_X1_136 : mwS RX1 136 yJ9_max_f86c9 cJ9_max_f86c9 4 (some .long) 2 := ⟨⟨ml_X1_136, st_J9_max_f86c9, in_J9, cd_J9_max_f86c9⟩, hd_J9_max_f86c9⟩
theorem cd_X2_stands : Cond.code yX2_stands cX2_stands 5 (some .boolean) ∈ TT := tt5 5 (by decide +kernel) rfl
theorem im_X2_stands : Cond.instanceMethod yX2_stands ∈ TT := tt5 3 (by decide +kernel) rfl
theorem se_X2_stands : Cond.selects RX2 yX2_stands yX2_stands ∈ TT := tt5 4 (by decide +kernel) rfl
theorem hd_X2_stands : yX2_stands.cls ≠ "java/lang/invoke/MethodHandle" ∧ yX2_stands.cls ≠ "java/lang/invoke/VarHandle" ∧ (parseMethodDescriptor yX2_stands.desc).map (fun d => d.parameters.length) = some 2 := by decide +kernel
theorem ml_X1_142 : Cond.methodLink RX1 142 yX2_stands ∈ TT := tt5 2 (by decide +kernel) rfl
theorem mw_X1_142 : mwV RX1 142 RX2 yX2_stands cX2_stands 5 (some .boolean) 2 := ⟨⟨ml_X1_142, im_X2_stands, se_X2_stands, in_X2, cd_X2_stands⟩, rfl, hd_X2_stands⟩
theorem ml_X2_64 : Cond.methodLink RX2 64 yJ7_fill_53178 ∈ TT := tt1 54 (by decide +kernel) rfl
theorem mw_X2_64 : mwS RX2 64 yJ7_fill_53178 cJ7_fill_53178 4 none 2 := ⟨⟨ml_X2_64, st_J7_fill_53178, in_J7, cd_J7_fill_53178⟩, hd_J7_fill_53178⟩
theorem ml_X2_70 : Cond.methodLink RX2 70 yX2_isLoop ∈ TT := tt3 59 (by decide +kernel) rfl
theorem mw_X2_70 : mwV RX2 70 RX2 yX2_isLoop cX2_isLoop 2 (some .boolean) 1 := ⟨⟨ml_X2_70, im_X2_isLoop, se_X2_isLoop, in_X2, cd_X2_isLoop⟩, rfl, hd_X2_isLoop⟩
theorem ml_X2_74 : Cond.methodLink RX2 74 yX2_known ∈ TT := tt3 47 (by decide +kernel) rfl
theorem mw_X2_74 : mwV RX2 74 RX2 yX2_known cX2_known 2 (some .boolean) 1 := ⟨⟨ml_X2_74, im_X2_known, se_X2_known, in_X2, cd_X2_known⟩, rfl, hd_X2_known⟩
theorem ml_X2_77 : Cond.methodLink RX2 77 yX2_isAct ∈ TT := tt3 51 (by decide +kernel) rfl
theorem mw_X2_77 : mwV RX2 77 RX2 yX2_isAct cX2_isAct 2 (some .boolean) 1 := ⟨⟨ml_X2_77, im_X2_isAct, se_X2_isAct, in_X2, cd_X2_isAct⟩, rfl, hd_X2_isAct⟩
theorem ml_X2_80 : Cond.methodLink RX2 80 yX2_loopsIn ∈ TT := tt3 79 (by decide +kernel) rfl
theorem mw_X2_80 : mwV RX2 80 RX2 yX2_loopsIn cX2_loopsIn 2 (some .int) 1 := ⟨⟨ml_X2_80, im_X2_loopsIn, se_X2_loopsIn, in_X2, cd_X2_loopsIn⟩, rfl, hd_X2_loopsIn⟩
theorem cd_X2_inherit : Cond.code yX2_inherit cX2_inherit 6 none ∈ TT := tt3 83 (by decide +kernel) rfl
theorem im_X2_inherit : Cond.instanceMethod yX2_inherit ∈ TT := tt3 82 (by decide +kernel) rfl
theorem se_X2_inherit : Cond.selects RX2 yX2_inherit yX2_inherit ∈ TT := tt_s 4 (by decide +kernel) rfl
theorem hd_X2_inherit : yX2_inherit.cls ≠ "java/lang/invoke/MethodHandle" ∧ yX2_inherit.cls ≠ "java/lang/invoke/VarHandle" ∧ (parseMethodDescriptor yX2_inherit.desc).map (fun d => d.parameters.length) = some 2 := by decide +kernel
theorem ml_X2_84 : Cond.methodLink RX2 84 yX2_inherit ∈ TT := tt3 80 (by decide +kernel) rfl
theorem mw_X2_84 : mwV RX2 84 RX2 yX2_inherit cX2_inherit 6 none 2 := ⟨⟨ml_X2_84, im_X2_inherit, se_X2_inherit, in_X2, cd_X2_inherit⟩, rfl, hd_X2_inherit⟩
theorem cd_X2_hang : Cond.code yX2_hang cX2_hang 3 none ∈ TT := tt3 87 (by decide +kernel) rfl
theorem im_X2_hang : Cond.instanceMethod yX2_hang ∈ TT := tt3 86 (by decide +kernel) rfl
theorem se_X2_hang : Cond.selects RX2 yX2_hang yX2_hang ∈ TT := tt_s 5 (by decide +kernel) rfl
theorem hd_X2_hang : yX2_hang.cls ≠ "java/lang/invoke/MethodHandle" ∧ yX2_hang.cls ≠ "java/lang/invoke/VarHandle" ∧ (parseMethodDescriptor yX2_hang.desc).map (fun d => d.parameters.length) = some 2 := by decide +kernel
theorem ml_X2_88 : Cond.methodLink RX2 88 yX2_hang ∈ TT := tt3 84 (by decide +kernel) rfl
theorem mw_X2_88 : mwV RX2 88 RX2 yX2_hang cX2_hang 3 none 2 := ⟨⟨ml_X2_88, im_X2_hang, se_X2_hang, in_X2, cd_X2_hang⟩, rfl, hd_X2_hang⟩
theorem ml_X2_91 : Cond.methodLink RX2 91 yX2_stands ∈ TT := tt5 121 (by decide +kernel) rfl
theorem mw_X2_91 : mwV RX2 91 RX2 yX2_stands cX2_stands 5 (some .boolean) 2 := ⟨⟨ml_X2_91, im_X2_stands, se_X2_stands, in_X2, cd_X2_stands⟩, rfl, hd_X2_stands⟩
theorem cd_J9_min_7cf53 : Cond.code yJ9_min_7cf53 cJ9_min_7cf53 2 (some .int) ∈ TT := tt4 110 (by decide +kernel) rfl
theorem st_J9_min_7cf53 : Cond.static yJ9_min_7cf53 ∈ TT := tt4 109 (by decide +kernel) rfl
theorem hd_J9_min_7cf53 : yJ9_min_7cf53.cls ≠ "java/lang/invoke/MethodHandle" ∧ yJ9_min_7cf53.cls ≠ "java/lang/invoke/VarHandle" ∧ (parseMethodDescriptor yJ9_min_7cf53.desc).map (fun d => d.parameters.length) = some 2 := by decide +kernel
theorem ml_X2_95 : Cond.methodLink RX2 95 yJ9_min_7cf53 ∈ TT := tt4 181 (by decide +kernel) rfl
theorem mw_X2_95 : mwS RX2 95 yJ9_min_7cf53 cJ9_min_7cf53 2 (some .int) 2 := ⟨⟨ml_X2_95, st_J9_min_7cf53, in_J9, cd_J9_min_7cf53⟩, hd_J9_min_7cf53⟩
theorem cd_X7_init : Cond.code yX7_init cX7_init 1 none ∈ TT := tt1 162 (by decide +kernel) rfl
theorem im_X7_init : Cond.instanceMethod yX7_init ∈ TT := tt1 161 (by decide +kernel) rfl
theorem hd_X7_init : yX7_init.cls ≠ "java/lang/invoke/MethodHandle" ∧ yX7_init.cls ≠ "java/lang/invoke/VarHandle" ∧ (parseMethodDescriptor yX7_init.desc).map (fun d => d.parameters.length) = some 0 := by decide +kernel
theorem cd_X2_placeOf : Cond.code yX2_placeOf cX2_placeOf 3 (some .int) ∈ TT := tt3 95 (by decide +kernel) rfl
theorem im_X2_placeOf : Cond.instanceMethod yX2_placeOf ∈ TT := tt3 93 (by decide +kernel) rfl
theorem se_X2_placeOf : Cond.selects RX2 yX2_placeOf yX2_placeOf ∈ TT := tt3 94 (by decide +kernel) rfl
theorem hd_X2_placeOf : yX2_placeOf.cls ≠ "java/lang/invoke/MethodHandle" ∧ yX2_placeOf.cls ≠ "java/lang/invoke/VarHandle" ∧ (parseMethodDescriptor yX2_placeOf.desc).map (fun d => d.parameters.length) = some 2 := by decide +kernel
theorem ml_X3_51 : Cond.methodLink RX3 51 yX2_placeOf ∈ TT := tt3 92 (by decide +kernel) rfl
theorem mw_X3_51 : mwV RX3 51 RX2 yX2_placeOf cX2_placeOf 3 (some .int) 2 := ⟨⟨ml_X3_51, im_X2_placeOf, se_X2_placeOf, in_X2, cd_X2_placeOf⟩, rfl, hd_X2_placeOf⟩
theorem cd_X7_addPlace : Cond.code yX7_addPlace cX7_addPlace 4 none ∈ TT := tt3 99 (by decide +kernel) rfl
theorem im_X7_addPlace : Cond.instanceMethod yX7_addPlace ∈ TT := tt3 97 (by decide +kernel) rfl
theorem se_X7_addPlace : Cond.selects RX7 yX7_addPlace yX7_addPlace ∈ TT := tt3 98 (by decide +kernel) rfl
theorem hd_X7_addPlace : yX7_addPlace.cls ≠ "java/lang/invoke/MethodHandle" ∧ yX7_addPlace.cls ≠ "java/lang/invoke/VarHandle" ∧ (parseMethodDescriptor yX7_addPlace.desc).map (fun d => d.parameters.length) = some 2 := by decide +kernel
theorem ml_X3_55 : Cond.methodLink RX3 55 yX7_addPlace ∈ TT := tt3 96 (by decide +kernel) rfl
theorem mw_X3_55 : mwV RX3 55 RX7 yX7_addPlace cX7_addPlace 4 none 2 := ⟨⟨ml_X3_55, im_X7_addPlace, se_X7_addPlace, in_X7, cd_X7_addPlace⟩, rfl, hd_X7_addPlace⟩
theorem cd_X7_addLetter : Cond.code yX7_addLetter cX7_addLetter 4 none ∈ TT := tt3 117 (by decide +kernel) rfl
theorem im_X7_addLetter : Cond.instanceMethod yX7_addLetter ∈ TT := tt3 115 (by decide +kernel) rfl
theorem se_X7_addLetter : Cond.selects RX7 yX7_addLetter yX7_addLetter ∈ TT := tt3 116 (by decide +kernel) rfl
theorem hd_X7_addLetter : yX7_addLetter.cls ≠ "java/lang/invoke/MethodHandle" ∧ yX7_addLetter.cls ≠ "java/lang/invoke/VarHandle" ∧ (parseMethodDescriptor yX7_addLetter.desc).map (fun d => d.parameters.length) = some 2 := by decide +kernel
theorem ml_X3_59 : Cond.methodLink RX3 59 yX7_addLetter ∈ TT := tt3 114 (by decide +kernel) rfl
theorem mw_X3_59 : mwV RX3 59 RX7 yX7_addLetter cX7_addLetter 4 none 2 := ⟨⟨ml_X3_59, im_X7_addLetter, se_X7_addLetter, in_X7, cd_X7_addLetter⟩, rfl, hd_X7_addLetter⟩
theorem cd_X7_take : Cond.code yX7_take cX7_take 3 none ∈ TT := tt5 17 (by decide +kernel) rfl
theorem im_X7_take : Cond.instanceMethod yX7_take ∈ TT := tt5 15 (by decide +kernel) rfl
theorem se_X7_take : Cond.selects RX7 yX7_take yX7_take ∈ TT := tt5 16 (by decide +kernel) rfl
theorem hd_X7_take : yX7_take.cls ≠ "java/lang/invoke/MethodHandle" ∧ yX7_take.cls ≠ "java/lang/invoke/VarHandle" ∧ (parseMethodDescriptor yX7_take.desc).map (fun d => d.parameters.length) = some 2 := by decide +kernel
theorem ml_X3_62 : Cond.methodLink RX3 62 yX7_take ∈ TT := tt5 14 (by decide +kernel) rfl
theorem mw_X3_62 : mwV RX3 62 RX7 yX7_take cX7_take 3 none 2 := ⟨⟨ml_X3_62, im_X7_take, se_X7_take, in_X7, cd_X7_take⟩, rfl, hd_X7_take⟩
theorem ml_X3_66 : Cond.methodLink RX3 66 yX2_stands ∈ TT := tt5 27 (by decide +kernel) rfl
theorem mw_X3_66 : mwV RX3 66 RX2 yX2_stands cX2_stands 5 (some .boolean) 2 := ⟨⟨ml_X3_66, im_X2_stands, se_X2_stands, in_X2, cd_X2_stands⟩, rfl, hd_X2_stands⟩
theorem cd_X2_hasLetter : Cond.code yX2_hasLetter cX2_hasLetter 3 (some .boolean) ∈ TT := tt5 31 (by decide +kernel) rfl
theorem im_X2_hasLetter : Cond.instanceMethod yX2_hasLetter ∈ TT := tt5 29 (by decide +kernel) rfl
theorem se_X2_hasLetter : Cond.selects RX2 yX2_hasLetter yX2_hasLetter ∈ TT := tt5 30 (by decide +kernel) rfl
theorem hd_X2_hasLetter : yX2_hasLetter.cls ≠ "java/lang/invoke/MethodHandle" ∧ yX2_hasLetter.cls ≠ "java/lang/invoke/VarHandle" ∧ (parseMethodDescriptor yX2_hasLetter.desc).map (fun d => d.parameters.length) = some 2 := by decide +kernel
theorem ml_X3_70 : Cond.methodLink RX3 70 yX2_hasLetter ∈ TT := tt5 28 (by decide +kernel) rfl
theorem mw_X3_70 : mwV RX3 70 RX2 yX2_hasLetter cX2_hasLetter 3 (some .boolean) 2 := ⟨⟨ml_X3_70, im_X2_hasLetter, se_X2_hasLetter, in_X2, cd_X2_hasLetter⟩, rfl, hd_X2_hasLetter⟩
theorem cd_X3_reaches : Cond.code yX3_reaches cX3_reaches 4 (some .boolean) ∈ TT := tt5 26 (by decide +kernel) rfl
theorem im_X3_reaches : Cond.instanceMethod yX3_reaches ∈ TT := tt5 25 (by decide +kernel) rfl
theorem se_X3_reaches : Cond.selects RX3 yX3_reaches yX3_reaches ∈ TT := tt_s 28 (by decide +kernel) rfl
theorem hd_X3_reaches : yX3_reaches.cls ≠ "java/lang/invoke/MethodHandle" ∧ yX3_reaches.cls ≠ "java/lang/invoke/VarHandle" ∧ (parseMethodDescriptor yX3_reaches.desc).map (fun d => d.parameters.length) = some 3 := by decide +kernel
theorem ml_X3_73 : Cond.methodLink RX3 73 yX3_reaches ∈ TT := tt5 23 (by decide +kernel) rfl
theorem mw_X3_73 : mwV RX3 73 RX3 yX3_reaches cX3_reaches 4 (some .boolean) 3 := ⟨⟨ml_X3_73, im_X3_reaches, se_X3_reaches, in_X3, cd_X3_reaches⟩, rfl, hd_X3_reaches⟩
theorem ml_X3_77 : Cond.methodLink RX3 77 yX7_loopRow ∈ TT := tt5 32 (by decide +kernel) rfl
theorem mw_X3_77 : mwV RX3 77 RX7 yX7_loopRow cX7_loopRow 5 (some .int) 2 := ⟨⟨ml_X3_77, im_X7_loopRow, se_X7_loopRow, in_X7, cd_X7_loopRow⟩, rfl, hd_X7_loopRow⟩
theorem cd_X7_openRows : Cond.code yX7_openRows cX7_openRows 5 none ∈ TT := tt5 86 (by decide +kernel) rfl
theorem im_X7_openRows : Cond.instanceMethod yX7_openRows ∈ TT := tt5 84 (by decide +kernel) rfl
theorem se_X7_openRows : Cond.selects RX7 yX7_openRows yX7_openRows ∈ TT := tt5 85 (by decide +kernel) rfl
theorem hd_X7_openRows : yX7_openRows.cls ≠ "java/lang/invoke/MethodHandle" ∧ yX7_openRows.cls ≠ "java/lang/invoke/VarHandle" ∧ (parseMethodDescriptor yX7_openRows.desc).map (fun d => d.parameters.length) = some 3 := by decide +kernel
theorem ml_X3_87 : Cond.methodLink RX3 87 yX7_openRows ∈ TT := tt5 83 (by decide +kernel) rfl
theorem mw_X3_87 : mwV RX3 87 RX7 yX7_openRows cX7_openRows 5 none 3 := ⟨⟨ml_X3_87, im_X7_openRows, se_X7_openRows, in_X7, cd_X7_openRows⟩, rfl, hd_X7_openRows⟩
theorem cd_X3_widen : Cond.code yX3_widen cX3_widen 6 none ∈ TT := tt5 90 (by decide +kernel) rfl
theorem im_X3_widen : Cond.instanceMethod yX3_widen ∈ TT := tt5 89 (by decide +kernel) rfl
theorem se_X3_widen : Cond.selects RX3 yX3_widen yX3_widen ∈ TT := tt_s 30 (by decide +kernel) rfl
theorem hd_X3_widen : yX3_widen.cls ≠ "java/lang/invoke/MethodHandle" ∧ yX3_widen.cls ≠ "java/lang/invoke/VarHandle" ∧ (parseMethodDescriptor yX3_widen.desc).map (fun d => d.parameters.length) = some 4 := by decide +kernel
theorem ml_X3_91 : Cond.methodLink RX3 91 yX3_widen ∈ TT := tt5 87 (by decide +kernel) rfl
theorem mw_X3_91 : mwV RX3 91 RX3 yX3_widen cX3_widen 6 none 4 := ⟨⟨ml_X3_91, im_X3_widen, se_X3_widen, in_X3, cd_X3_widen⟩, rfl, hd_X3_widen⟩
theorem cd_X7_rowAhead : Cond.code yX7_rowAhead cX7_rowAhead 4 (some .int) ∈ TT := tt5 103 (by decide +kernel) rfl
theorem im_X7_rowAhead : Cond.instanceMethod yX7_rowAhead ∈ TT := tt5 101 (by decide +kernel) rfl
theorem se_X7_rowAhead : Cond.selects RX7 yX7_rowAhead yX7_rowAhead ∈ TT := tt5 102 (by decide +kernel) rfl
theorem hd_X7_rowAhead : yX7_rowAhead.cls ≠ "java/lang/invoke/MethodHandle" ∧ yX7_rowAhead.cls ≠ "java/lang/invoke/VarHandle" ∧ (parseMethodDescriptor yX7_rowAhead.desc).map (fun d => d.parameters.length) = some 2 := by decide +kernel
theorem ml_X3_101 : Cond.methodLink RX3 101 yX7_rowAhead ∈ TT := tt5 100 (by decide +kernel) rfl
theorem mw_X3_101 : mwV RX3 101 RX7 yX7_rowAhead cX7_rowAhead 4 (some .int) 2 := ⟨⟨ml_X3_101, im_X7_rowAhead, se_X7_rowAhead, in_X7, cd_X7_rowAhead⟩, rfl, hd_X7_rowAhead⟩
theorem cd_X3_parted : Cond.code yX3_parted cX3_parted 4 (some .int) ∈ TT := tt5 108 (by decide +kernel) rfl
theorem im_X3_parted : Cond.instanceMethod yX3_parted ∈ TT := tt5 107 (by decide +kernel) rfl
theorem se_X3_parted : Cond.selects RX3 yX3_parted yX3_parted ∈ TT := tt_s 31 (by decide +kernel) rfl
theorem hd_X3_parted : yX3_parted.cls ≠ "java/lang/invoke/MethodHandle" ∧ yX3_parted.cls ≠ "java/lang/invoke/VarHandle" ∧ (parseMethodDescriptor yX3_parted.desc).map (fun d => d.parameters.length) = some 3 := by decide +kernel
theorem ml_X3_104 : Cond.methodLink RX3 104 yX3_parted ∈ TT := tt5 105 (by decide +kernel) rfl
theorem mw_X3_104 : mwV RX3 104 RX3 yX3_parted cX3_parted 4 (some .int) 3 := ⟨⟨ml_X3_104, im_X3_parted, se_X3_parted, in_X3, cd_X3_parted⟩, rfl, hd_X3_parted⟩
theorem cd_J7_fill_eb02e : Cond.code yJ7_fill_eb02e cJ7_fill_eb02e 5 none ∈ TT := tt3 175 (by decide +kernel) rfl
theorem st_J7_fill_eb02e : Cond.static yJ7_fill_eb02e ∈ TT := tt3 174 (by decide +kernel) rfl
theorem hd_J7_fill_eb02e : yJ7_fill_eb02e.cls ≠ "java/lang/invoke/MethodHandle" ∧ yJ7_fill_eb02e.cls ≠ "java/lang/invoke/VarHandle" ∧ (parseMethodDescriptor yJ7_fill_eb02e.desc).map (fun d => d.parameters.length) = some 4 := by decide +kernel
theorem ml_X4_22 : Cond.methodLink RX4 22 yJ7_fill_eb02e ∈ TT := tt3 173 (by decide +kernel) rfl
theorem mw_X4_22 : mwS RX4 22 yJ7_fill_eb02e cJ7_fill_eb02e 5 none 4 := ⟨⟨ml_X4_22, st_J7_fill_eb02e, in_J7, cd_J7_fill_eb02e⟩, hd_J7_fill_eb02e⟩
theorem ml_X5_23 : Cond.methodLink RX5 23 yJ7_fill_53178 ∈ TT := tt3 226 (by decide +kernel) rfl
theorem mw_X5_23 : mwS RX5 23 yJ7_fill_53178 cJ7_fill_53178 4 none 2 := ⟨⟨ml_X5_23, st_J7_fill_53178, in_J7, cd_J7_fill_53178⟩, hd_J7_fill_53178⟩
theorem cd_J7_fill_bad5a : Cond.code yJ7_fill_bad5a cJ7_fill_bad5a 6 none ∈ TT := tt4 12 (by decide +kernel) rfl
theorem st_J7_fill_bad5a : Cond.static yJ7_fill_bad5a ∈ TT := tt4 11 (by decide +kernel) rfl
theorem hd_J7_fill_bad5a : yJ7_fill_bad5a.cls ≠ "java/lang/invoke/MethodHandle" ∧ yJ7_fill_bad5a.cls ≠ "java/lang/invoke/VarHandle" ∧ (parseMethodDescriptor yJ7_fill_bad5a.desc).map (fun d => d.parameters.length) = some 4 := by decide +kernel
theorem ml_X5_29 : Cond.methodLink RX5 29 yJ7_fill_bad5a ∈ TT := tt4 10 (by decide +kernel) rfl
theorem mw_X5_29 : mwS RX5 29 yJ7_fill_bad5a cJ7_fill_bad5a 6 none 4 := ⟨⟨ml_X5_29, st_J7_fill_bad5a, in_J7, cd_J7_fill_bad5a⟩, hd_J7_fill_bad5a⟩
theorem ml_X5_32 : Cond.methodLink RX5 32 yX5_hasRow ∈ TT := tt4 25 (by decide +kernel) rfl
theorem mw_X5_32 : mwV RX5 32 RX5 yX5_hasRow cX5_hasRow 3 (some .boolean) 1 := ⟨⟨ml_X5_32, im_X5_hasRow, se_X5_hasRow, in_X5, cd_X5_hasRow⟩, rfl, hd_X5_hasRow⟩
theorem cd_X5_cut : Cond.code yX5_cut cX5_cut 3 (some .long) ∈ TT := tt4 33 (by decide +kernel) rfl
theorem im_X5_cut : Cond.instanceMethod yX5_cut ∈ TT := tt4 32 (by decide +kernel) rfl
theorem se_X5_cut : Cond.selects RX5 yX5_cut yX5_cut ∈ TT := tt_s 9 (by decide +kernel) rfl
theorem hd_X5_cut : yX5_cut.cls ≠ "java/lang/invoke/MethodHandle" ∧ yX5_cut.cls ≠ "java/lang/invoke/VarHandle" ∧ (parseMethodDescriptor yX5_cut.desc).map (fun d => d.parameters.length) = some 1 := by decide +kernel
theorem ml_X5_36 : Cond.methodLink RX5 36 yX5_cut ∈ TT := tt4 30 (by decide +kernel) rfl
theorem mw_X5_36 : mwV RX5 36 RX5 yX5_cut cX5_cut 3 (some .long) 1 := ⟨⟨ml_X5_36, im_X5_cut, se_X5_cut, in_X5, cd_X5_cut⟩, rfl, hd_X5_cut⟩
theorem ml_X5_42 : Cond.methodLink RX5 42 yX5_load ∈ TT := tt6 73 (by decide +kernel) rfl
theorem mw_X5_42 : mwV RX5 42 RX5 yX5_load cX5_load 3 (some .long) 2 := ⟨⟨ml_X5_42, im_X5_load, se_X5_load, in_X5, cd_X5_load⟩, rfl, hd_X5_load⟩
theorem ml_X6_29 : Cond.methodLink RX6 29 yJ9_min_7cf53 ∈ TT := tt5 226 (by decide +kernel) rfl
theorem mw_X6_29 : mwS RX6 29 yJ9_min_7cf53 cJ9_min_7cf53 2 (some .int) 2 := ⟨⟨ml_X6_29, st_J9_min_7cf53, in_J9, cd_J9_min_7cf53⟩, hd_J9_min_7cf53⟩
theorem cd_X7_addRow : Cond.code yX7_addRow cX7_addRow 3 (some .int) ∈ TT := tt3 103 (by decide +kernel) rfl
theorem im_X7_addRow : Cond.instanceMethod yX7_addRow ∈ TT := tt3 102 (by decide +kernel) rfl
theorem se_X7_addRow : Cond.selects RX7 yX7_addRow yX7_addRow ∈ TT := tt_s 6 (by decide +kernel) rfl
theorem hd_X7_addRow : yX7_addRow.cls ≠ "java/lang/invoke/MethodHandle" ∧ yX7_addRow.cls ≠ "java/lang/invoke/VarHandle" ∧ (parseMethodDescriptor yX7_addRow.desc).map (fun d => d.parameters.length) = some 1 := by decide +kernel
theorem ml_X7_24 : Cond.methodLink RX7 24 yX7_addRow ∈ TT := tt3 100 (by decide +kernel) rfl
theorem mw_X7_24 : mwV RX7 24 RX7 yX7_addRow cX7_addRow 3 (some .int) 1 := ⟨⟨ml_X7_24, im_X7_addRow, se_X7_addRow, in_X7, cd_X7_addRow⟩, rfl, hd_X7_addRow⟩
theorem ml_X7_28 : Cond.methodLink RX7 28 yX7_at ∈ TT := tt3 104 (by decide +kernel) rfl
theorem mw_X7_28 : mwV RX7 28 RX7 yX7_at cX7_at 3 (some .int) 2 := ⟨⟨ml_X7_28, im_X7_at, se_X7_at, in_X7, cd_X7_at⟩, rfl, hd_X7_at⟩
theorem ml_X7_32 : Cond.methodLink RX7 32 yJ7_fill_fda19 ∈ TT := tt3 108 (by decide +kernel) rfl
theorem mw_X7_32 : mwS RX7 32 yJ7_fill_fda19 cJ7_fill_fda19 5 none 4 := ⟨⟨ml_X7_32, st_J7_fill_fda19, in_J7, cd_J7_fill_fda19⟩, hd_J7_fill_fda19⟩
theorem ml_X7_38 : Cond.methodLink RX7 38 yX7_loopRow ∈ TT := tt5 104 (by decide +kernel) rfl
theorem mw_X7_38 : mwV RX7 38 RX7 yX7_loopRow cX7_loopRow 5 (some .int) 2 := ⟨⟨ml_X7_38, im_X7_loopRow, se_X7_loopRow, in_X7, cd_X7_loopRow⟩, rfl, hd_X7_loopRow⟩
theorem ml_X8_31 : Cond.methodLink RX8 31 yJ7_fill_53178 ∈ TT := tt3 38 (by decide +kernel) rfl
theorem mw_X8_31 : mwS RX8 31 yJ7_fill_53178 cJ7_fill_53178 4 none 2 := ⟨⟨ml_X8_31, st_J7_fill_53178, in_J7, cd_J7_fill_53178⟩, hd_J7_fill_53178⟩
theorem ml_X8_37 : Cond.methodLink RX8 37 yX8_known ∈ TT := tt3 67 (by decide +kernel) rfl
theorem mw_X8_37 : mwV RX8 37 RX8 yX8_known cX8_known 2 (some .boolean) 1 := ⟨⟨ml_X8_37, im_X8_known, se_X8_known, in_X8, cd_X8_known⟩, rfl, hd_X8_known⟩
theorem ml_X9_45 : Cond.methodLink RX9 45 yJ7_fill_53178 ∈ TT := tt4 151 (by decide +kernel) rfl
theorem mw_X9_45 : mwS RX9 45 yJ7_fill_53178 cJ7_fill_53178 4 none 2 := ⟨⟨ml_X9_45, st_J7_fill_53178, in_J7, cd_J7_fill_53178⟩, hd_J7_fill_53178⟩
theorem cd_X9_reckonTouch : Cond.code yX9_reckonTouch cX9_reckonTouch 5 none ∈ TT := tt4 155 (by decide +kernel) rfl
theorem im_X9_reckonTouch : Cond.instanceMethod yX9_reckonTouch ∈ TT := tt4 154 (by decide +kernel) rfl
theorem se_X9_reckonTouch : Cond.selects RX9 yX9_reckonTouch yX9_reckonTouch ∈ TT := tt_s 19 (by decide +kernel) rfl
theorem hd_X9_reckonTouch : yX9_reckonTouch.cls ≠ "java/lang/invoke/MethodHandle" ∧ yX9_reckonTouch.cls ≠ "java/lang/invoke/VarHandle" ∧ (parseMethodDescriptor yX9_reckonTouch.desc).map (fun d => d.parameters.length) = some 2 := by decide +kernel
theorem ml_X9_56 : Cond.methodLink RX9 56 yX9_reckonTouch ∈ TT := tt4 152 (by decide +kernel) rfl
theorem mw_X9_56 : mwV RX9 56 RX9 yX9_reckonTouch cX9_reckonTouch 5 none 2 := ⟨⟨ml_X9_56, im_X9_reckonTouch, se_X9_reckonTouch, in_X9, cd_X9_reckonTouch⟩, rfl, hd_X9_reckonTouch⟩
theorem ml_X9_74 : Cond.methodLink RX9 74 yX8_reckon ∈ TT := tt4 156 (by decide +kernel) rfl
theorem mw_X9_74 : mwV RX9 74 RX8 yX8_reckon cX8_reckon 8 (some .long) 3 := ⟨⟨ml_X9_74, im_X8_reckon, se_X8_reckon, in_X8, cd_X8_reckon⟩, rfl, hd_X8_reckon⟩
theorem cd_X9_spotOf : Cond.code yX9_spotOf cX9_spotOf 6 (some .int) ∈ TT := tt4 160 (by decide +kernel) rfl
theorem im_X9_spotOf : Cond.instanceMethod yX9_spotOf ∈ TT := tt4 159 (by decide +kernel) rfl
theorem se_X9_spotOf : Cond.selects RX9 yX9_spotOf yX9_spotOf ∈ TT := tt_s 20 (by decide +kernel) rfl
theorem hd_X9_spotOf : yX9_spotOf.cls ≠ "java/lang/invoke/MethodHandle" ∧ yX9_spotOf.cls ≠ "java/lang/invoke/VarHandle" ∧ (parseMethodDescriptor yX9_spotOf.desc).map (fun d => d.parameters.length) = some 2 := by decide +kernel
theorem ml_X9_83 : Cond.methodLink RX9 83 yX9_spotOf ∈ TT := tt4 157 (by decide +kernel) rfl
theorem mw_X9_83 : mwV RX9 83 RX9 yX9_spotOf cX9_spotOf 6 (some .int) 2 := ⟨⟨ml_X9_83, im_X9_spotOf, se_X9_spotOf, in_X9, cd_X9_spotOf⟩, rfl, hd_X9_spotOf⟩
theorem cd_X9_slotOf : Cond.code yX9_slotOf cX9_slotOf 7 (some .int) ∈ TT := tt4 163 (by decide +kernel) rfl
theorem st_X9_slotOf : Cond.static yX9_slotOf ∈ TT := tt4 162 (by decide +kernel) rfl
theorem hd_X9_slotOf : yX9_slotOf.cls ≠ "java/lang/invoke/MethodHandle" ∧ yX9_slotOf.cls ≠ "java/lang/invoke/VarHandle" ∧ (parseMethodDescriptor yX9_slotOf.desc).map (fun d => d.parameters.length) = some 3 := by decide +kernel
theorem ml_X9_87 : Cond.methodLink RX9 87 yX9_slotOf ∈ TT := tt4 161 (by decide +kernel) rfl
theorem mw_X9_87 : mwS RX9 87 yX9_slotOf cX9_slotOf 7 (some .int) 3 := ⟨⟨ml_X9_87, st_X9_slotOf, in_X9, cd_X9_slotOf⟩, hd_X9_slotOf⟩
theorem ml_X9_91 : Cond.methodLink RX9 91 yX9_arrayAt ∈ TT := tt4 167 (by decide +kernel) rfl
theorem mw_X9_91 : mwV RX9 91 RX9 yX9_arrayAt cX9_arrayAt 3 (some .int) 2 := ⟨⟨ml_X9_91, im_X9_arrayAt, se_X9_arrayAt, in_X9, cd_X9_arrayAt⟩, rfl, hd_X9_arrayAt⟩
theorem cd_X9_isSame : Cond.code yX9_isSame cX9_isSame 3 (some .boolean) ∈ TT := tt5 176 (by decide +kernel) rfl
theorem im_X9_isSame : Cond.instanceMethod yX9_isSame ∈ TT := tt5 175 (by decide +kernel) rfl
theorem se_X9_isSame : Cond.selects RX9 yX9_isSame yX9_isSame ∈ TT := tt_s 35 (by decide +kernel) rfl
theorem hd_X9_isSame : yX9_isSame.cls ≠ "java/lang/invoke/MethodHandle" ∧ yX9_isSame.cls ≠ "java/lang/invoke/VarHandle" ∧ (parseMethodDescriptor yX9_isSame.desc).map (fun d => d.parameters.length) = some 2 := by decide +kernel
theorem ml_X9_100 : Cond.methodLink RX9 100 yX9_isSame ∈ TT := tt5 173 (by decide +kernel) rfl
theorem mw_X9_100 : mwV RX9 100 RX9 yX9_isSame cX9_isSame 3 (some .boolean) 2 := ⟨⟨ml_X9_100, im_X9_isSame, se_X9_isSame, in_X9, cd_X9_isSame⟩, rfl, hd_X9_isSame⟩
theorem cd_X10_reckonTimes : Cond.code yX10_reckonTimes cX10_reckonTimes 9 none ∈ TT := tt4 99 (by decide +kernel) rfl
theorem im_X10_reckonTimes : Cond.instanceMethod yX10_reckonTimes ∈ TT := tt4 98 (by decide +kernel) rfl
theorem se_X10_reckonTimes : Cond.selects RX10 yX10_reckonTimes yX10_reckonTimes ∈ TT := tt_s 16 (by decide +kernel) rfl
theorem hd_X10_reckonTimes : yX10_reckonTimes.cls ≠ "java/lang/invoke/MethodHandle" ∧ yX10_reckonTimes.cls ≠ "java/lang/invoke/VarHandle" ∧ (parseMethodDescriptor yX10_reckonTimes.desc).map (fun d => d.parameters.length) = some 1 := by decide +kernel
theorem ml_X10_74 : Cond.methodLink RX10 74 yX10_reckonTimes ∈ TT := tt4 96 (by decide +kernel) rfl
theorem mw_X10_74 : mwV RX10 74 RX10 yX10_reckonTimes cX10_reckonTimes 9 none 1 := ⟨⟨ml_X10_74, im_X10_reckonTimes, se_X10_reckonTimes, in_X10, cd_X10_reckonTimes⟩, rfl, hd_X10_reckonTimes⟩
theorem ml_X10_78 : Cond.methodLink RX10 78 yJ9_min_7cf53 ∈ TT := tt4 108 (by decide +kernel) rfl
theorem mw_X10_78 : mwS RX10 78 yJ9_min_7cf53 cJ9_min_7cf53 2 (some .int) 2 := ⟨⟨ml_X10_78, st_J9_min_7cf53, in_J9, cd_J9_min_7cf53⟩, hd_J9_min_7cf53⟩
theorem cd_X10_merge : Cond.code yX10_merge cX10_merge 7 none ∈ TT := tt4 114 (by decide +kernel) rfl
theorem im_X10_merge : Cond.instanceMethod yX10_merge ∈ TT := tt4 113 (by decide +kernel) rfl
theorem se_X10_merge : Cond.selects RX10 yX10_merge yX10_merge ∈ TT := tt_s 17 (by decide +kernel) rfl
theorem hd_X10_merge : yX10_merge.cls ≠ "java/lang/invoke/MethodHandle" ∧ yX10_merge.cls ≠ "java/lang/invoke/VarHandle" ∧ (parseMethodDescriptor yX10_merge.desc).map (fun d => d.parameters.length) = some 3 := by decide +kernel
theorem ml_X10_84 : Cond.methodLink RX10 84 yX10_merge ∈ TT := tt4 111 (by decide +kernel) rfl
theorem mw_X10_84 : mwV RX10 84 RX10 yX10_merge cX10_merge 7 none 3 := ⟨⟨ml_X10_84, im_X10_merge, se_X10_merge, in_X10, cd_X10_merge⟩, rfl, hd_X10_merge⟩
theorem ml_X10_102 : Cond.methodLink RX10 102 yX7_at ∈ TT := tt4 100 (by decide +kernel) rfl
theorem mw_X10_102 : mwV RX10 102 RX7 yX7_at cX7_at 3 (some .int) 2 := ⟨⟨ml_X10_102, im_X7_at, se_X7_at, in_X7, cd_X7_at⟩, rfl, hd_X7_at⟩
theorem ml_X10_108 : Cond.methodLink RX10 108 yX0_letter ∈ TT := tt4 101 (by decide +kernel) rfl
theorem mw_X10_108 : mwV RX10 108 RX0 yX0_letter cX0_letter 3 (some .long) 2 := ⟨⟨ml_X10_108, im_X0_letter, se_X0_letter, in_X0, cd_X0_letter⟩, rfl, hd_X0_letter⟩
theorem ml_X10_112 : Cond.methodLink RX10 112 yJ9_floorDiv_f86c9 ∈ TT := tt4 105 (by decide +kernel) rfl
theorem mw_X10_112 : mwS RX10 112 yJ9_floorDiv_f86c9 cJ9_floorDiv_f86c9 6 (some .long) 2 := ⟨⟨ml_X10_112, st_J9_floorDiv_f86c9, in_J9, cd_J9_floorDiv_f86c9⟩, hd_J9_floorDiv_f86c9⟩
theorem cd_X10_isBehind : Cond.code yX10_isBehind cX10_isBehind 11 (some .boolean) ∈ TT := tt4 118 (by decide +kernel) rfl
theorem im_X10_isBehind : Cond.instanceMethod yX10_isBehind ∈ TT := tt4 117 (by decide +kernel) rfl
theorem se_X10_isBehind : Cond.selects RX10 yX10_isBehind yX10_isBehind ∈ TT := tt_s 18 (by decide +kernel) rfl
theorem hd_X10_isBehind : yX10_isBehind.cls ≠ "java/lang/invoke/MethodHandle" ∧ yX10_isBehind.cls ≠ "java/lang/invoke/VarHandle" ∧ (parseMethodDescriptor yX10_isBehind.desc).map (fun d => d.parameters.length) = some 2 := by decide +kernel
theorem ml_X10_116 : Cond.methodLink RX10 116 yX10_isBehind ∈ TT := tt4 115 (by decide +kernel) rfl
theorem mw_X10_116 : mwV RX10 116 RX10 yX10_isBehind cX10_isBehind 11 (some .boolean) 2 := ⟨⟨ml_X10_116, im_X10_isBehind, se_X10_isBehind, in_X10, cd_X10_isBehind⟩, rfl, hd_X10_isBehind⟩
theorem ml_X10_126 : Cond.methodLink RX10 126 yX10_arrange ∈ TT := tt5 148 (by decide +kernel) rfl
theorem mw_X10_126 : mwV RX10 126 RX10 yX10_arrange cX10_arrange 3 none 0 := ⟨⟨ml_X10_126, im_X10_arrange, se_X10_arrange, in_X10, cd_X10_arrange⟩, rfl, hd_X10_arrange⟩
theorem ml_X10_129 : Cond.methodLink RX10 129 yX9_refresh ∈ TT := tt5 149 (by decide +kernel) rfl
theorem mw_X10_129 : mwV RX10 129 RX9 yX9_refresh cX9_refresh 3 none 0 := ⟨⟨ml_X10_129, im_X9_refresh, se_X9_refresh, in_X9, cd_X9_refresh⟩, rfl, hd_X9_refresh⟩
theorem ml_X10_137 : Cond.methodLink RX10 137 yJ7_fill_fda19 ∈ TT := tt5 150 (by decide +kernel) rfl
theorem mw_X10_137 : mwS RX10 137 yJ7_fill_fda19 cJ7_fill_fda19 5 none 4 := ⟨⟨ml_X10_137, st_J7_fill_fda19, in_J7, cd_J7_fill_fda19⟩, hd_J7_fill_fda19⟩
theorem cd_X10_isEarly : Cond.code yX10_isEarly cX10_isEarly 3 (some .boolean) ∈ TT := tt5 154 (by decide +kernel) rfl
theorem im_X10_isEarly : Cond.instanceMethod yX10_isEarly ∈ TT := tt5 153 (by decide +kernel) rfl
theorem se_X10_isEarly : Cond.selects RX10 yX10_isEarly yX10_isEarly ∈ TT := tt_s 32 (by decide +kernel) rfl
theorem hd_X10_isEarly : yX10_isEarly.cls ≠ "java/lang/invoke/MethodHandle" ∧ yX10_isEarly.cls ≠ "java/lang/invoke/VarHandle" ∧ (parseMethodDescriptor yX10_isEarly.desc).map (fun d => d.parameters.length) = some 1 := by decide +kernel
theorem ml_X10_143 : Cond.methodLink RX10 143 yX10_isEarly ∈ TT := tt5 151 (by decide +kernel) rfl
theorem mw_X10_143 : mwV RX10 143 RX10 yX10_isEarly cX10_isEarly 3 (some .boolean) 1 := ⟨⟨ml_X10_143, im_X10_isEarly, se_X10_isEarly, in_X10, cd_X10_isEarly⟩, rfl, hd_X10_isEarly⟩
theorem cd_X10_remember : Cond.code yX10_remember cX10_remember 4 none ∈ TT := tt5 161 (by decide +kernel) rfl
theorem im_X10_remember : Cond.instanceMethod yX10_remember ∈ TT := tt5 160 (by decide +kernel) rfl
theorem se_X10_remember : Cond.selects RX10 yX10_remember yX10_remember ∈ TT := tt_s 33 (by decide +kernel) rfl
theorem hd_X10_remember : yX10_remember.cls ≠ "java/lang/invoke/MethodHandle" ∧ yX10_remember.cls ≠ "java/lang/invoke/VarHandle" ∧ (parseMethodDescriptor yX10_remember.desc).map (fun d => d.parameters.length) = some 1 := by decide +kernel
theorem ml_X10_147 : Cond.methodLink RX10 147 yX10_remember ∈ TT := tt5 158 (by decide +kernel) rfl
theorem mw_X10_147 : mwV RX10 147 RX10 yX10_remember cX10_remember 4 none 1 := ⟨⟨ml_X10_147, im_X10_remember, se_X10_remember, in_X10, cd_X10_remember⟩, rfl, hd_X10_remember⟩
theorem cd_X10_findPartner : Cond.code yX10_findPartner cX10_findPartner 4 none ∈ TT := tt5 168 (by decide +kernel) rfl
theorem im_X10_findPartner : Cond.instanceMethod yX10_findPartner ∈ TT := tt5 167 (by decide +kernel) rfl
theorem se_X10_findPartner : Cond.selects RX10 yX10_findPartner yX10_findPartner ∈ TT := tt_s 34 (by decide +kernel) rfl
theorem hd_X10_findPartner : yX10_findPartner.cls ≠ "java/lang/invoke/MethodHandle" ∧ yX10_findPartner.cls ≠ "java/lang/invoke/VarHandle" ∧ (parseMethodDescriptor yX10_findPartner.desc).map (fun d => d.parameters.length) = some 1 := by decide +kernel
theorem ml_X10_150 : Cond.methodLink RX10 150 yX10_findPartner ∈ TT := tt5 165 (by decide +kernel) rfl
theorem mw_X10_150 : mwV RX10 150 RX10 yX10_findPartner cX10_findPartner 4 none 1 := ⟨⟨ml_X10_150, im_X10_findPartner, se_X10_findPartner, in_X10, cd_X10_findPartner⟩, rfl, hd_X10_findPartner⟩
theorem cd_X10_latestAt : Cond.code yX10_latestAt cX10_latestAt 2 (some .int) ∈ TT := tt5 157 (by decide +kernel) rfl
theorem st_X10_latestAt : Cond.static yX10_latestAt ∈ TT := tt5 156 (by decide +kernel) rfl
theorem hd_X10_latestAt : yX10_latestAt.cls ≠ "java/lang/invoke/MethodHandle" ∧ yX10_latestAt.cls ≠ "java/lang/invoke/VarHandle" ∧ (parseMethodDescriptor yX10_latestAt.desc).map (fun d => d.parameters.length) = some 2 := by decide +kernel
theorem ml_X10_156 : Cond.methodLink RX10 156 yX10_latestAt ∈ TT := tt5 155 (by decide +kernel) rfl
theorem mw_X10_156 : mwS RX10 156 yX10_latestAt cX10_latestAt 2 (some .int) 2 := ⟨⟨ml_X10_156, st_X10_latestAt, in_X10, cd_X10_latestAt⟩, hd_X10_latestAt⟩
theorem cd_J9_max_7cf53 : Cond.code yJ9_max_7cf53 cJ9_max_7cf53 2 (some .int) ∈ TT := tt5 164 (by decide +kernel) rfl
theorem st_J9_max_7cf53 : Cond.static yJ9_max_7cf53 ∈ TT := tt5 163 (by decide +kernel) rfl
theorem hd_J9_max_7cf53 : yJ9_max_7cf53.cls ≠ "java/lang/invoke/MethodHandle" ∧ yJ9_max_7cf53.cls ≠ "java/lang/invoke/VarHandle" ∧ (parseMethodDescriptor yJ9_max_7cf53.desc).map (fun d => d.parameters.length) = some 2 := by decide +kernel
theorem ml_X10_160 : Cond.methodLink RX10 160 yJ9_max_7cf53 ∈ TT := tt5 162 (by decide +kernel) rfl
theorem mw_X10_160 : mwS RX10 160 yJ9_max_7cf53 cJ9_max_7cf53 2 (some .int) 2 := ⟨⟨ml_X10_160, st_J9_max_7cf53, in_J9, cd_J9_max_7cf53⟩, hd_J9_max_7cf53⟩
theorem cd_X9_leastKind : Cond.code yX9_leastKind cX9_leastKind 5 (some .int) ∈ TT := tt5 172 (by decide +kernel) rfl
theorem im_X9_leastKind : Cond.instanceMethod yX9_leastKind ∈ TT := tt5 170 (by decide +kernel) rfl
theorem se_X9_leastKind : Cond.selects RX9 yX9_leastKind yX9_leastKind ∈ TT := tt5 171 (by decide +kernel) rfl
theorem hd_X9_leastKind : yX9_leastKind.cls ≠ "java/lang/invoke/MethodHandle" ∧ yX9_leastKind.cls ≠ "java/lang/invoke/VarHandle" ∧ (parseMethodDescriptor yX9_leastKind.desc).map (fun d => d.parameters.length) = some 2 := by decide +kernel
theorem ml_X10_163 : Cond.methodLink RX10 163 yX9_leastKind ∈ TT := tt5 169 (by decide +kernel) rfl
theorem mw_X10_163 : mwV RX10 163 RX9 yX9_leastKind cX9_leastKind 5 (some .int) 2 := ⟨⟨ml_X10_163, im_X9_leastKind, se_X9_leastKind, in_X9, cd_X9_leastKind⟩, rfl, hd_X9_leastKind⟩
theorem cd_X10_endOfLine : Cond.code yX10_endOfLine cX10_endOfLine 3 (some .int) ∈ TT := tt6 31 (by decide +kernel) rfl
theorem im_X10_endOfLine : Cond.instanceMethod yX10_endOfLine ∈ TT := tt6 30 (by decide +kernel) rfl
theorem se_X10_endOfLine : Cond.selects RX10 yX10_endOfLine yX10_endOfLine ∈ TT := tt_s 46 (by decide +kernel) rfl
theorem hd_X10_endOfLine : yX10_endOfLine.cls ≠ "java/lang/invoke/MethodHandle" ∧ yX10_endOfLine.cls ≠ "java/lang/invoke/VarHandle" ∧ (parseMethodDescriptor yX10_endOfLine.desc).map (fun d => d.parameters.length) = some 1 := by decide +kernel
theorem ml_X10_166 : Cond.methodLink RX10 166 yX10_endOfLine ∈ TT := tt6 28 (by decide +kernel) rfl
theorem mw_X10_166 : mwV RX10 166 RX10 yX10_endOfLine cX10_endOfLine 3 (some .int) 1 := ⟨⟨ml_X10_166, im_X10_endOfLine, se_X10_endOfLine, in_X10, cd_X10_endOfLine⟩, rfl, hd_X10_endOfLine⟩
theorem cd_X10_goesOn : Cond.code yX10_goesOn cX10_goesOn 8 (some .boolean) ∈ TT := tt6 35 (by decide +kernel) rfl
theorem im_X10_goesOn : Cond.instanceMethod yX10_goesOn ∈ TT := tt6 34 (by decide +kernel) rfl
theorem se_X10_goesOn : Cond.selects RX10 yX10_goesOn yX10_goesOn ∈ TT := tt_s 47 (by decide +kernel) rfl
theorem hd_X10_goesOn : yX10_goesOn.cls ≠ "java/lang/invoke/MethodHandle" ∧ yX10_goesOn.cls ≠ "java/lang/invoke/VarHandle" ∧ (parseMethodDescriptor yX10_goesOn.desc).map (fun d => d.parameters.length) = some 2 := by decide +kernel
theorem ml_X10_170 : Cond.methodLink RX10 170 yX10_goesOn ∈ TT := tt6 32 (by decide +kernel) rfl
theorem mw_X10_170 : mwV RX10 170 RX10 yX10_goesOn cX10_goesOn 8 (some .boolean) 2 := ⟨⟨ml_X10_170, im_X10_goesOn, se_X10_goesOn, in_X10, cd_X10_goesOn⟩, rfl, hd_X10_goesOn⟩
theorem ml_X10_173 : Cond.methodLink RX10 173 yX0_step ∈ TT := tt6 36 (by decide +kernel) rfl
theorem mw_X10_173 : mwV RX10 173 RX0 yX0_step cX0_step 4 (some .long) 3 := ⟨⟨ml_X10_173, im_X0_step, se_X0_step, in_X0, cd_X0_step⟩, rfl, hd_X0_step⟩
theorem cd_X11_init : Cond.code yX11_init cX11_init 1 none ∈ TT := tt1 21 (by decide +kernel) rfl
theorem im_X11_init : Cond.instanceMethod yX11_init ∈ TT := tt1 20 (by decide +kernel) rfl
theorem hd_X11_init : yX11_init.cls ≠ "java/lang/invoke/MethodHandle" ∧ yX11_init.cls ≠ "java/lang/invoke/VarHandle" ∧ (parseMethodDescriptor yX11_init.desc).map (fun d => d.parameters.length) = some 0 := by decide +kernel
theorem ml_L_9 : Cond.methodLink RL 9 yX11_init ∈ TT := tt1 19 (by decide +kernel) rfl
theorem cd_X12_init : Cond.code yX12_init cX12_init 2 none ∈ TT := tt6 78 (by decide +kernel) rfl
theorem im_X12_init : Cond.instanceMethod yX12_init ∈ TT := tt6 77 (by decide +kernel) rfl
theorem hd_X12_init : yX12_init.cls ≠ "java/lang/invoke/MethodHandle" ∧ yX12_init.cls ≠ "java/lang/invoke/VarHandle" ∧ (parseMethodDescriptor yX12_init.desc).map (fun d => d.parameters.length) = some 0 := by decide +kernel
theorem ml_L_12 : Cond.methodLink RL 12 yX12_init ∈ TT := tt6 76 (by decide +kernel) rfl
theorem cd_X11_size : Cond.code yX11_size cX11_size 4 (some .int) ∈ TT := tt3 7 (by decide +kernel) rfl
theorem im_X11_size : Cond.instanceMethod yX11_size ∈ TT := tt3 5 (by decide +kernel) rfl
theorem se_X11_size : Cond.selects RX11 yX11_size yX11_size ∈ TT := tt3 6 (by decide +kernel) rfl
theorem hd_X11_size : yX11_size.cls ≠ "java/lang/invoke/MethodHandle" ∧ yX11_size.cls ≠ "java/lang/invoke/VarHandle" ∧ (parseMethodDescriptor yX11_size.desc).map (fun d => d.parameters.length) = some 2 := by decide +kernel
theorem ml_L_13 : Cond.methodLink RL 13 yX11_size ∈ TT := tt3 4 (by decide +kernel) rfl
theorem mw_L_13 : mwV RL 13 RX11 yX11_size cX11_size 4 (some .int) 2 := ⟨⟨ml_L_13, im_X11_size, se_X11_size, in_X11, cd_X11_size⟩, rfl, hd_X11_size⟩
theorem cd_X12_size : Cond.code yX12_size cX12_size 4 (some .int) ∈ TT := tt7 40 (by decide +kernel) rfl
theorem im_X12_size : Cond.instanceMethod yX12_size ∈ TT := tt7 38 (by decide +kernel) rfl
theorem se_X12_size : Cond.selects RX12 yX12_size yX12_size ∈ TT := tt7 39 (by decide +kernel) rfl
theorem hd_X12_size : yX12_size.cls ≠ "java/lang/invoke/MethodHandle" ∧ yX12_size.cls ≠ "java/lang/invoke/VarHandle" ∧ (parseMethodDescriptor yX12_size.desc).map (fun d => d.parameters.length) = some 2 := by decide +kernel
theorem ml_L_17 : Cond.methodLink RL 17 yX12_size ∈ TT := tt7 37 (by decide +kernel) rfl
theorem mw_L_17 : mwV RL 17 RX12 yX12_size cX12_size 4 (some .int) 2 := ⟨⟨ml_L_17, im_X12_size, se_X12_size, in_X12, cd_X12_size⟩, rfl, hd_X12_size⟩
theorem cd_X11_term : Cond.code yX11_term cX11_term 3 (some .int) ∈ TT := tt3 26 (by decide +kernel) rfl
theorem im_X11_term : Cond.instanceMethod yX11_term ∈ TT := tt3 24 (by decide +kernel) rfl
theorem se_X11_term : Cond.selects RX11 yX11_term yX11_term ∈ TT := tt3 25 (by decide +kernel) rfl
theorem hd_X11_term : yX11_term.cls ≠ "java/lang/invoke/MethodHandle" ∧ yX11_term.cls ≠ "java/lang/invoke/VarHandle" ∧ (parseMethodDescriptor yX11_term.desc).map (fun d => d.parameters.length) = some 2 := by decide +kernel
theorem ml_L_18 : Cond.methodLink RL 18 yX11_term ∈ TT := tt3 23 (by decide +kernel) rfl
theorem mw_L_18 : mwV RL 18 RX11 yX11_term cX11_term 3 (some .int) 2 := ⟨⟨ml_L_18, im_X11_term, se_X11_term, in_X11, cd_X11_term⟩, rfl, hd_X11_term⟩
theorem cd_X12_term : Cond.code yX12_term cX12_term 3 (some .int) ∈ TT := tt7 47 (by decide +kernel) rfl
theorem im_X12_term : Cond.instanceMethod yX12_term ∈ TT := tt7 45 (by decide +kernel) rfl
theorem se_X12_term : Cond.selects RX12 yX12_term yX12_term ∈ TT := tt7 46 (by decide +kernel) rfl
theorem hd_X12_term : yX12_term.cls ≠ "java/lang/invoke/MethodHandle" ∧ yX12_term.cls ≠ "java/lang/invoke/VarHandle" ∧ (parseMethodDescriptor yX12_term.desc).map (fun d => d.parameters.length) = some 2 := by decide +kernel
theorem ml_L_21 : Cond.methodLink RL 21 yX12_term ∈ TT := tt7 44 (by decide +kernel) rfl
theorem mw_L_21 : mwV RL 21 RX12 yX12_term cX12_term 3 (some .int) 2 := ⟨⟨ml_L_21, im_X12_term, se_X12_term, in_X12, cd_X12_term⟩, rfl, hd_X12_term⟩
theorem cd_X11_sum : Cond.code yX11_sum cX11_sum 1 (some .int) ∈ TT := tt3 30 (by decide +kernel) rfl
theorem im_X11_sum : Cond.instanceMethod yX11_sum ∈ TT := tt3 28 (by decide +kernel) rfl
theorem se_X11_sum : Cond.selects RX11 yX11_sum yX11_sum ∈ TT := tt3 29 (by decide +kernel) rfl
theorem hd_X11_sum : yX11_sum.cls ≠ "java/lang/invoke/MethodHandle" ∧ yX11_sum.cls ≠ "java/lang/invoke/VarHandle" ∧ (parseMethodDescriptor yX11_sum.desc).map (fun d => d.parameters.length) = some 0 := by decide +kernel
theorem ml_L_22 : Cond.methodLink RL 22 yX11_sum ∈ TT := tt3 27 (by decide +kernel) rfl
theorem mw_L_22 : mwV RL 22 RX11 yX11_sum cX11_sum 1 (some .int) 0 := ⟨⟨ml_L_22, im_X11_sum, se_X11_sum, in_X11, cd_X11_sum⟩, rfl, hd_X11_sum⟩
theorem cd_X12_sum : Cond.code yX12_sum cX12_sum 2 (some .int) ∈ TT := tt7 54 (by decide +kernel) rfl
theorem im_X12_sum : Cond.instanceMethod yX12_sum ∈ TT := tt7 52 (by decide +kernel) rfl
theorem se_X12_sum : Cond.selects RX12 yX12_sum yX12_sum ∈ TT := tt7 53 (by decide +kernel) rfl
theorem hd_X12_sum : yX12_sum.cls ≠ "java/lang/invoke/MethodHandle" ∧ yX12_sum.cls ≠ "java/lang/invoke/VarHandle" ∧ (parseMethodDescriptor yX12_sum.desc).map (fun d => d.parameters.length) = some 0 := by decide +kernel
theorem ml_L_26 : Cond.methodLink RL 26 yX12_sum ∈ TT := tt7 51 (by decide +kernel) rfl
theorem mw_L_26 : mwV RL 26 RX12 yX12_sum cX12_sum 2 (some .int) 0 := ⟨⟨ml_L_26, im_X12_sum, se_X12_sum, in_X12, cd_X12_sum⟩, rfl, hd_X12_sum⟩
theorem cd_X11_loop : Cond.code yX11_loop cX11_loop 6 (some .int) ∈ TT := tt3 42 (by decide +kernel) rfl
theorem im_X11_loop : Cond.instanceMethod yX11_loop ∈ TT := tt3 40 (by decide +kernel) rfl
theorem se_X11_loop : Cond.selects RX11 yX11_loop yX11_loop ∈ TT := tt3 41 (by decide +kernel) rfl
theorem hd_X11_loop : yX11_loop.cls ≠ "java/lang/invoke/MethodHandle" ∧ yX11_loop.cls ≠ "java/lang/invoke/VarHandle" ∧ (parseMethodDescriptor yX11_loop.desc).map (fun d => d.parameters.length) = some 4 := by decide +kernel
theorem ml_L_27 : Cond.methodLink RL 27 yX11_loop ∈ TT := tt3 39 (by decide +kernel) rfl
theorem mw_L_27 : mwV RL 27 RX11 yX11_loop cX11_loop 6 (some .int) 4 := ⟨⟨ml_L_27, im_X11_loop, se_X11_loop, in_X11, cd_X11_loop⟩, rfl, hd_X11_loop⟩
theorem cd_X12_loop : Cond.code yX12_loop cX12_loop 5 (some .int) ∈ TT := tt7 58 (by decide +kernel) rfl
theorem im_X12_loop : Cond.instanceMethod yX12_loop ∈ TT := tt7 56 (by decide +kernel) rfl
theorem se_X12_loop : Cond.selects RX12 yX12_loop yX12_loop ∈ TT := tt7 57 (by decide +kernel) rfl
theorem hd_X12_loop : yX12_loop.cls ≠ "java/lang/invoke/MethodHandle" ∧ yX12_loop.cls ≠ "java/lang/invoke/VarHandle" ∧ (parseMethodDescriptor yX12_loop.desc).map (fun d => d.parameters.length) = some 4 := by decide +kernel
theorem ml_L_31 : Cond.methodLink RL 31 yX12_loop ∈ TT := tt7 55 (by decide +kernel) rfl
theorem mw_L_31 : mwV RL 31 RX12 yX12_loop cX12_loop 5 (some .int) 4 := ⟨⟨ml_L_31, im_X12_loop, se_X12_loop, in_X12, cd_X12_loop⟩, rfl, hd_X12_loop⟩
theorem cd_X11_test : Cond.code yX11_test cX11_test 4 (some .int) ∈ TT := tt3 121 (by decide +kernel) rfl
theorem im_X11_test : Cond.instanceMethod yX11_test ∈ TT := tt3 119 (by decide +kernel) rfl
theorem se_X11_test : Cond.selects RX11 yX11_test yX11_test ∈ TT := tt3 120 (by decide +kernel) rfl
theorem hd_X11_test : yX11_test.cls ≠ "java/lang/invoke/MethodHandle" ∧ yX11_test.cls ≠ "java/lang/invoke/VarHandle" ∧ (parseMethodDescriptor yX11_test.desc).map (fun d => d.parameters.length) = some 3 := by decide +kernel
theorem ml_L_32 : Cond.methodLink RL 32 yX11_test ∈ TT := tt3 118 (by decide +kernel) rfl
theorem mw_L_32 : mwV RL 32 RX11 yX11_test cX11_test 4 (some .int) 3 := ⟨⟨ml_L_32, im_X11_test, se_X11_test, in_X11, cd_X11_test⟩, rfl, hd_X11_test⟩
theorem cd_X12_test : Cond.code yX12_test cX12_test 4 (some .int) ∈ TT := tt7 105 (by decide +kernel) rfl
theorem im_X12_test : Cond.instanceMethod yX12_test ∈ TT := tt7 103 (by decide +kernel) rfl
theorem se_X12_test : Cond.selects RX12 yX12_test yX12_test ∈ TT := tt7 104 (by decide +kernel) rfl
theorem hd_X12_test : yX12_test.cls ≠ "java/lang/invoke/MethodHandle" ∧ yX12_test.cls ≠ "java/lang/invoke/VarHandle" ∧ (parseMethodDescriptor yX12_test.desc).map (fun d => d.parameters.length) = some 3 := by decide +kernel
theorem ml_L_36 : Cond.methodLink RL 36 yX12_test ∈ TT := tt7 102 (by decide +kernel) rfl
theorem mw_L_36 : mwV RL 36 RX12 yX12_test cX12_test 4 (some .int) 3 := ⟨⟨ml_L_36, im_X12_test, se_X12_test, in_X12, cd_X12_test⟩, rfl, hd_X12_test⟩
theorem cd_X11_act : Cond.code yX11_act cX11_act 4 (some .int) ∈ TT := tt3 125 (by decide +kernel) rfl
theorem im_X11_act : Cond.instanceMethod yX11_act ∈ TT := tt3 123 (by decide +kernel) rfl
theorem se_X11_act : Cond.selects RX11 yX11_act yX11_act ∈ TT := tt3 124 (by decide +kernel) rfl
theorem hd_X11_act : yX11_act.cls ≠ "java/lang/invoke/MethodHandle" ∧ yX11_act.cls ≠ "java/lang/invoke/VarHandle" ∧ (parseMethodDescriptor yX11_act.desc).map (fun d => d.parameters.length) = some 3 := by decide +kernel
theorem ml_L_37 : Cond.methodLink RL 37 yX11_act ∈ TT := tt3 122 (by decide +kernel) rfl
theorem mw_L_37 : mwV RL 37 RX11 yX11_act cX11_act 4 (some .int) 3 := ⟨⟨ml_L_37, im_X11_act, se_X11_act, in_X11, cd_X11_act⟩, rfl, hd_X11_act⟩
theorem cd_X12_act : Cond.code yX12_act cX12_act 4 (some .int) ∈ TT := tt7 109 (by decide +kernel) rfl
theorem im_X12_act : Cond.instanceMethod yX12_act ∈ TT := tt7 107 (by decide +kernel) rfl
theorem se_X12_act : Cond.selects RX12 yX12_act yX12_act ∈ TT := tt7 108 (by decide +kernel) rfl
theorem hd_X12_act : yX12_act.cls ≠ "java/lang/invoke/MethodHandle" ∧ yX12_act.cls ≠ "java/lang/invoke/VarHandle" ∧ (parseMethodDescriptor yX12_act.desc).map (fun d => d.parameters.length) = some 3 := by decide +kernel
theorem ml_L_40 : Cond.methodLink RL 40 yX12_act ∈ TT := tt7 106 (by decide +kernel) rfl
theorem mw_L_40 : mwV RL 40 RX12 yX12_act cX12_act 4 (some .int) 3 := ⟨⟨ml_L_40, im_X12_act, se_X12_act, in_X12, cd_X12_act⟩, rfl, hd_X12_act⟩
theorem cd_X11_aim : Cond.code yX11_aim cX11_aim 7 (some .int) ∈ TT := tt3 129 (by decide +kernel) rfl
theorem im_X11_aim : Cond.instanceMethod yX11_aim ∈ TT := tt3 127 (by decide +kernel) rfl
theorem se_X11_aim : Cond.selects RX11 yX11_aim yX11_aim ∈ TT := tt3 128 (by decide +kernel) rfl
theorem hd_X11_aim : yX11_aim.cls ≠ "java/lang/invoke/MethodHandle" ∧ yX11_aim.cls ≠ "java/lang/invoke/VarHandle" ∧ (parseMethodDescriptor yX11_aim.desc).map (fun d => d.parameters.length) = some 5 := by decide +kernel
theorem ml_L_41 : Cond.methodLink RL 41 yX11_aim ∈ TT := tt3 126 (by decide +kernel) rfl
theorem mw_L_41 : mwV RL 41 RX11 yX11_aim cX11_aim 7 (some .int) 5 := ⟨⟨ml_L_41, im_X11_aim, se_X11_aim, in_X11, cd_X11_aim⟩, rfl, hd_X11_aim⟩
theorem cd_X12_aim : Cond.code yX12_aim cX12_aim 6 (some .int) ∈ TT := tt7 113 (by decide +kernel) rfl
theorem im_X12_aim : Cond.instanceMethod yX12_aim ∈ TT := tt7 111 (by decide +kernel) rfl
theorem se_X12_aim : Cond.selects RX12 yX12_aim yX12_aim ∈ TT := tt7 112 (by decide +kernel) rfl
theorem hd_X12_aim : yX12_aim.cls ≠ "java/lang/invoke/MethodHandle" ∧ yX12_aim.cls ≠ "java/lang/invoke/VarHandle" ∧ (parseMethodDescriptor yX12_aim.desc).map (fun d => d.parameters.length) = some 5 := by decide +kernel
theorem ml_L_45 : Cond.methodLink RL 45 yX12_aim ∈ TT := tt7 110 (by decide +kernel) rfl
theorem mw_L_45 : mwV RL 45 RX12 yX12_aim cX12_aim 6 (some .int) 5 := ⟨⟨ml_L_45, im_X12_aim, se_X12_aim, in_X12, cd_X12_aim⟩, rfl, hd_X12_aim⟩
theorem cd_X11_node : Cond.code yX11_node cX11_node 3 (some .int) ∈ TT := tt3 148 (by decide +kernel) rfl
theorem im_X11_node : Cond.instanceMethod yX11_node ∈ TT := tt3 146 (by decide +kernel) rfl
theorem se_X11_node : Cond.selects RX11 yX11_node yX11_node ∈ TT := tt3 147 (by decide +kernel) rfl
theorem hd_X11_node : yX11_node.cls ≠ "java/lang/invoke/MethodHandle" ∧ yX11_node.cls ≠ "java/lang/invoke/VarHandle" ∧ (parseMethodDescriptor yX11_node.desc).map (fun d => d.parameters.length) = some 2 := by decide +kernel
theorem ml_L_46 : Cond.methodLink RL 46 yX11_node ∈ TT := tt3 145 (by decide +kernel) rfl
theorem mw_L_46 : mwV RL 46 RX11 yX11_node cX11_node 3 (some .int) 2 := ⟨⟨ml_L_46, im_X11_node, se_X11_node, in_X11, cd_X11_node⟩, rfl, hd_X11_node⟩
theorem cd_X12_node : Cond.code yX12_node cX12_node 3 (some .int) ∈ TT := tt7 121 (by decide +kernel) rfl
theorem im_X12_node : Cond.instanceMethod yX12_node ∈ TT := tt7 119 (by decide +kernel) rfl
theorem se_X12_node : Cond.selects RX12 yX12_node yX12_node ∈ TT := tt7 120 (by decide +kernel) rfl
theorem hd_X12_node : yX12_node.cls ≠ "java/lang/invoke/MethodHandle" ∧ yX12_node.cls ≠ "java/lang/invoke/VarHandle" ∧ (parseMethodDescriptor yX12_node.desc).map (fun d => d.parameters.length) = some 2 := by decide +kernel
theorem ml_L_49 : Cond.methodLink RL 49 yX12_node ∈ TT := tt7 118 (by decide +kernel) rfl
theorem mw_L_49 : mwV RL 49 RX12 yX12_node cX12_node 3 (some .int) 2 := ⟨⟨ml_L_49, im_X12_node, se_X12_node, in_X12, cd_X12_node⟩, rfl, hd_X12_node⟩
theorem cd_X11_hold : Cond.code yX11_hold cX11_hold 3 (some .int) ∈ TT := tt3 156 (by decide +kernel) rfl
theorem im_X11_hold : Cond.instanceMethod yX11_hold ∈ TT := tt3 154 (by decide +kernel) rfl
theorem se_X11_hold : Cond.selects RX11 yX11_hold yX11_hold ∈ TT := tt3 155 (by decide +kernel) rfl
theorem hd_X11_hold : yX11_hold.cls ≠ "java/lang/invoke/MethodHandle" ∧ yX11_hold.cls ≠ "java/lang/invoke/VarHandle" ∧ (parseMethodDescriptor yX11_hold.desc).map (fun d => d.parameters.length) = some 2 := by decide +kernel
theorem ml_L_50 : Cond.methodLink RL 50 yX11_hold ∈ TT := tt3 153 (by decide +kernel) rfl
theorem mw_L_50 : mwV RL 50 RX11 yX11_hold cX11_hold 3 (some .int) 2 := ⟨⟨ml_L_50, im_X11_hold, se_X11_hold, in_X11, cd_X11_hold⟩, rfl, hd_X11_hold⟩
theorem cd_X12_hold : Cond.code yX12_hold cX12_hold 3 (some .int) ∈ TT := tt7 126 (by decide +kernel) rfl
theorem im_X12_hold : Cond.instanceMethod yX12_hold ∈ TT := tt7 124 (by decide +kernel) rfl
theorem se_X12_hold : Cond.selects RX12 yX12_hold yX12_hold ∈ TT := tt7 125 (by decide +kernel) rfl
theorem hd_X12_hold : yX12_hold.cls ≠ "java/lang/invoke/MethodHandle" ∧ yX12_hold.cls ≠ "java/lang/invoke/VarHandle" ∧ (parseMethodDescriptor yX12_hold.desc).map (fun d => d.parameters.length) = some 2 := by decide +kernel
theorem ml_L_53 : Cond.methodLink RL 53 yX12_hold ∈ TT := tt7 123 (by decide +kernel) rfl
theorem mw_L_53 : mwV RL 53 RX12 yX12_hold cX12_hold 3 (some .int) 2 := ⟨⟨ml_L_53, im_X12_hold, se_X12_hold, in_X12, cd_X12_hold⟩, rfl, hd_X12_hold⟩
theorem cd_X11_note : Cond.code yX11_note cX11_note 3 (some .int) ∈ TT := tt3 168 (by decide +kernel) rfl
theorem im_X11_note : Cond.instanceMethod yX11_note ∈ TT := tt3 166 (by decide +kernel) rfl
theorem se_X11_note : Cond.selects RX11 yX11_note yX11_note ∈ TT := tt3 167 (by decide +kernel) rfl
theorem hd_X11_note : yX11_note.cls ≠ "java/lang/invoke/MethodHandle" ∧ yX11_note.cls ≠ "java/lang/invoke/VarHandle" ∧ (parseMethodDescriptor yX11_note.desc).map (fun d => d.parameters.length) = some 2 := by decide +kernel
theorem ml_L_54 : Cond.methodLink RL 54 yX11_note ∈ TT := tt3 165 (by decide +kernel) rfl
theorem mw_L_54 : mwV RL 54 RX11 yX11_note cX11_note 3 (some .int) 2 := ⟨⟨ml_L_54, im_X11_note, se_X11_note, in_X11, cd_X11_note⟩, rfl, hd_X11_note⟩
theorem cd_X12_note : Cond.code yX12_note cX12_note 4 (some .int) ∈ TT := tt7 130 (by decide +kernel) rfl
theorem im_X12_note : Cond.instanceMethod yX12_note ∈ TT := tt7 128 (by decide +kernel) rfl
theorem se_X12_note : Cond.selects RX12 yX12_note yX12_note ∈ TT := tt7 129 (by decide +kernel) rfl
theorem hd_X12_note : yX12_note.cls ≠ "java/lang/invoke/MethodHandle" ∧ yX12_note.cls ≠ "java/lang/invoke/VarHandle" ∧ (parseMethodDescriptor yX12_note.desc).map (fun d => d.parameters.length) = some 2 := by decide +kernel
theorem ml_L_57 : Cond.methodLink RL 57 yX12_note ∈ TT := tt7 127 (by decide +kernel) rfl
theorem mw_L_57 : mwV RL 57 RX12 yX12_note cX12_note 4 (some .int) 2 := ⟨⟨ml_L_57, im_X12_note, se_X12_note, in_X12, cd_X12_note⟩, rfl, hd_X12_note⟩
theorem cd_X11_held : Cond.code yX11_held cX11_held 4 (some .int) ∈ TT := tt3 179 (by decide +kernel) rfl
theorem im_X11_held : Cond.instanceMethod yX11_held ∈ TT := tt3 177 (by decide +kernel) rfl
theorem se_X11_held : Cond.selects RX11 yX11_held yX11_held ∈ TT := tt3 178 (by decide +kernel) rfl
theorem hd_X11_held : yX11_held.cls ≠ "java/lang/invoke/MethodHandle" ∧ yX11_held.cls ≠ "java/lang/invoke/VarHandle" ∧ (parseMethodDescriptor yX11_held.desc).map (fun d => d.parameters.length) = some 2 := by decide +kernel
theorem ml_L_58 : Cond.methodLink RL 58 yX11_held ∈ TT := tt3 176 (by decide +kernel) rfl
theorem mw_L_58 : mwV RL 58 RX11 yX11_held cX11_held 4 (some .int) 2 := ⟨⟨ml_L_58, im_X11_held, se_X11_held, in_X11, cd_X11_held⟩, rfl, hd_X11_held⟩
theorem cd_X12_held : Cond.code yX12_held cX12_held 4 (some .int) ∈ TT := tt7 134 (by decide +kernel) rfl
theorem im_X12_held : Cond.instanceMethod yX12_held ∈ TT := tt7 132 (by decide +kernel) rfl
theorem se_X12_held : Cond.selects RX12 yX12_held yX12_held ∈ TT := tt7 133 (by decide +kernel) rfl
theorem hd_X12_held : yX12_held.cls ≠ "java/lang/invoke/MethodHandle" ∧ yX12_held.cls ≠ "java/lang/invoke/VarHandle" ∧ (parseMethodDescriptor yX12_held.desc).map (fun d => d.parameters.length) = some 2 := by decide +kernel
theorem ml_L_61 : Cond.methodLink RL 61 yX12_held ∈ TT := tt7 131 (by decide +kernel) rfl
theorem mw_L_61 : mwV RL 61 RX12 yX12_held cX12_held 4 (some .int) 2 := ⟨⟨ml_L_61, im_X12_held, se_X12_held, in_X12, cd_X12_held⟩, rfl, hd_X12_held⟩
theorem cd_X11_noted : Cond.code yX11_noted cX11_noted 4 (some .int) ∈ TT := tt3 195 (by decide +kernel) rfl
theorem im_X11_noted : Cond.instanceMethod yX11_noted ∈ TT := tt3 193 (by decide +kernel) rfl
theorem se_X11_noted : Cond.selects RX11 yX11_noted yX11_noted ∈ TT := tt3 194 (by decide +kernel) rfl
theorem hd_X11_noted : yX11_noted.cls ≠ "java/lang/invoke/MethodHandle" ∧ yX11_noted.cls ≠ "java/lang/invoke/VarHandle" ∧ (parseMethodDescriptor yX11_noted.desc).map (fun d => d.parameters.length) = some 3 := by decide +kernel
theorem ml_L_62 : Cond.methodLink RL 62 yX11_noted ∈ TT := tt3 192 (by decide +kernel) rfl
theorem mw_L_62 : mwV RL 62 RX11 yX11_noted cX11_noted 4 (some .int) 3 := ⟨⟨ml_L_62, im_X11_noted, se_X11_noted, in_X11, cd_X11_noted⟩, rfl, hd_X11_noted⟩
theorem cd_X12_noted : Cond.code yX12_noted cX12_noted 5 (some .int) ∈ TT := tt7 139 (by decide +kernel) rfl
theorem im_X12_noted : Cond.instanceMethod yX12_noted ∈ TT := tt7 137 (by decide +kernel) rfl
theorem se_X12_noted : Cond.selects RX12 yX12_noted yX12_noted ∈ TT := tt7 138 (by decide +kernel) rfl
theorem hd_X12_noted : yX12_noted.cls ≠ "java/lang/invoke/MethodHandle" ∧ yX12_noted.cls ≠ "java/lang/invoke/VarHandle" ∧ (parseMethodDescriptor yX12_noted.desc).map (fun d => d.parameters.length) = some 3 := by decide +kernel
theorem ml_L_65 : Cond.methodLink RL 65 yX12_noted ∈ TT := tt7 136 (by decide +kernel) rfl
theorem mw_L_65 : mwV RL 65 RX12 yX12_noted cX12_noted 5 (some .int) 3 := ⟨⟨ml_L_65, im_X12_noted, se_X12_noted, in_X12, cd_X12_noted⟩, rfl, hd_X12_noted⟩
theorem cd_X11_copy : Cond.code yX11_copy cX11_copy 6 (some .int) ∈ TT := tt3 203 (by decide +kernel) rfl
theorem im_X11_copy : Cond.instanceMethod yX11_copy ∈ TT := tt3 201 (by decide +kernel) rfl
theorem se_X11_copy : Cond.selects RX11 yX11_copy yX11_copy ∈ TT := tt3 202 (by decide +kernel) rfl
theorem hd_X11_copy : yX11_copy.cls ≠ "java/lang/invoke/MethodHandle" ∧ yX11_copy.cls ≠ "java/lang/invoke/VarHandle" ∧ (parseMethodDescriptor yX11_copy.desc).map (fun d => d.parameters.length) = some 5 := by decide +kernel
theorem ml_L_66 : Cond.methodLink RL 66 yX11_copy ∈ TT := tt3 200 (by decide +kernel) rfl
theorem mw_L_66 : mwV RL 66 RX11 yX11_copy cX11_copy 6 (some .int) 5 := ⟨⟨ml_L_66, im_X11_copy, se_X11_copy, in_X11, cd_X11_copy⟩, rfl, hd_X11_copy⟩
theorem cd_X12_copy : Cond.code yX12_copy cX12_copy 7 (some .int) ∈ TT := tt7 143 (by decide +kernel) rfl
theorem im_X12_copy : Cond.instanceMethod yX12_copy ∈ TT := tt7 141 (by decide +kernel) rfl
theorem se_X12_copy : Cond.selects RX12 yX12_copy yX12_copy ∈ TT := tt7 142 (by decide +kernel) rfl
theorem hd_X12_copy : yX12_copy.cls ≠ "java/lang/invoke/MethodHandle" ∧ yX12_copy.cls ≠ "java/lang/invoke/VarHandle" ∧ (parseMethodDescriptor yX12_copy.desc).map (fun d => d.parameters.length) = some 5 := by decide +kernel
theorem ml_L_69 : Cond.methodLink RL 69 yX12_copy ∈ TT := tt7 140 (by decide +kernel) rfl
theorem mw_L_69 : mwV RL 69 RX12 yX12_copy cX12_copy 7 (some .int) 5 := ⟨⟨ml_L_69, im_X12_copy, se_X12_copy, in_X12, cd_X12_copy⟩, rfl, hd_X12_copy⟩
theorem cd_X11_array : Cond.code yX11_array cX11_array 3 (some .int) ∈ TT := tt3 220 (by decide +kernel) rfl
theorem im_X11_array : Cond.instanceMethod yX11_array ∈ TT := tt3 218 (by decide +kernel) rfl
theorem se_X11_array : Cond.selects RX11 yX11_array yX11_array ∈ TT := tt3 219 (by decide +kernel) rfl
theorem hd_X11_array : yX11_array.cls ≠ "java/lang/invoke/MethodHandle" ∧ yX11_array.cls ≠ "java/lang/invoke/VarHandle" ∧ (parseMethodDescriptor yX11_array.desc).map (fun d => d.parameters.length) = some 2 := by decide +kernel
theorem ml_L_70 : Cond.methodLink RL 70 yX11_array ∈ TT := tt3 217 (by decide +kernel) rfl
theorem mw_L_70 : mwV RL 70 RX11 yX11_array cX11_array 3 (some .int) 2 := ⟨⟨ml_L_70, im_X11_array, se_X11_array, in_X11, cd_X11_array⟩, rfl, hd_X11_array⟩
theorem cd_X12_array : Cond.code yX12_array cX12_array 4 (some .int) ∈ TT := tt7 147 (by decide +kernel) rfl
theorem im_X12_array : Cond.instanceMethod yX12_array ∈ TT := tt7 145 (by decide +kernel) rfl
theorem se_X12_array : Cond.selects RX12 yX12_array yX12_array ∈ TT := tt7 146 (by decide +kernel) rfl
theorem hd_X12_array : yX12_array.cls ≠ "java/lang/invoke/MethodHandle" ∧ yX12_array.cls ≠ "java/lang/invoke/VarHandle" ∧ (parseMethodDescriptor yX12_array.desc).map (fun d => d.parameters.length) = some 2 := by decide +kernel
theorem ml_L_73 : Cond.methodLink RL 73 yX12_array ∈ TT := tt7 144 (by decide +kernel) rfl
theorem mw_L_73 : mwV RL 73 RX12 yX12_array cX12_array 4 (some .int) 2 := ⟨⟨ml_L_73, im_X12_array, se_X12_array, in_X12, cd_X12_array⟩, rfl, hd_X12_array⟩
theorem cd_X11_row : Cond.code yX11_row cX11_row 5 (some .int) ∈ TT := tt4 1 (by decide +kernel) rfl
theorem im_X11_row : Cond.instanceMethod yX11_row ∈ TT := tt3 239 (by decide +kernel) rfl
theorem se_X11_row : Cond.selects RX11 yX11_row yX11_row ∈ TT := tt4 0 (by decide +kernel) rfl
theorem hd_X11_row : yX11_row.cls ≠ "java/lang/invoke/MethodHandle" ∧ yX11_row.cls ≠ "java/lang/invoke/VarHandle" ∧ (parseMethodDescriptor yX11_row.desc).map (fun d => d.parameters.length) = some 3 := by decide +kernel
theorem ml_L_74 : Cond.methodLink RL 74 yX11_row ∈ TT := tt3 238 (by decide +kernel) rfl
theorem mw_L_74 : mwV RL 74 RX11 yX11_row cX11_row 5 (some .int) 3 := ⟨⟨ml_L_74, im_X11_row, se_X11_row, in_X11, cd_X11_row⟩, rfl, hd_X11_row⟩
theorem cd_X12_row : Cond.code yX12_row cX12_row 5 (some .int) ∈ TT := tt7 151 (by decide +kernel) rfl
theorem im_X12_row : Cond.instanceMethod yX12_row ∈ TT := tt7 149 (by decide +kernel) rfl
theorem se_X12_row : Cond.selects RX12 yX12_row yX12_row ∈ TT := tt7 150 (by decide +kernel) rfl
theorem hd_X12_row : yX12_row.cls ≠ "java/lang/invoke/MethodHandle" ∧ yX12_row.cls ≠ "java/lang/invoke/VarHandle" ∧ (parseMethodDescriptor yX12_row.desc).map (fun d => d.parameters.length) = some 3 := by decide +kernel
theorem ml_L_77 : Cond.methodLink RL 77 yX12_row ∈ TT := tt7 148 (by decide +kernel) rfl
theorem mw_L_77 : mwV RL 77 RX12 yX12_row cX12_row 5 (some .int) 3 := ⟨⟨ml_L_77, im_X12_row, se_X12_row, in_X12, cd_X12_row⟩, rfl, hd_X12_row⟩
theorem cd_X11_tear : Cond.code yX11_tear cX11_tear 4 (some .int) ∈ TT := tt4 16 (by decide +kernel) rfl
theorem im_X11_tear : Cond.instanceMethod yX11_tear ∈ TT := tt4 14 (by decide +kernel) rfl
theorem se_X11_tear : Cond.selects RX11 yX11_tear yX11_tear ∈ TT := tt4 15 (by decide +kernel) rfl
theorem hd_X11_tear : yX11_tear.cls ≠ "java/lang/invoke/MethodHandle" ∧ yX11_tear.cls ≠ "java/lang/invoke/VarHandle" ∧ (parseMethodDescriptor yX11_tear.desc).map (fun d => d.parameters.length) = some 2 := by decide +kernel
theorem ml_L_78 : Cond.methodLink RL 78 yX11_tear ∈ TT := tt4 13 (by decide +kernel) rfl
theorem mw_L_78 : mwV RL 78 RX11 yX11_tear cX11_tear 4 (some .int) 2 := ⟨⟨ml_L_78, im_X11_tear, se_X11_tear, in_X11, cd_X11_tear⟩, rfl, hd_X11_tear⟩
theorem cd_X12_tear : Cond.code yX12_tear cX12_tear 3 (some .int) ∈ TT := tt7 159 (by decide +kernel) rfl
theorem im_X12_tear : Cond.instanceMethod yX12_tear ∈ TT := tt7 157 (by decide +kernel) rfl
theorem se_X12_tear : Cond.selects RX12 yX12_tear yX12_tear ∈ TT := tt7 158 (by decide +kernel) rfl
theorem hd_X12_tear : yX12_tear.cls ≠ "java/lang/invoke/MethodHandle" ∧ yX12_tear.cls ≠ "java/lang/invoke/VarHandle" ∧ (parseMethodDescriptor yX12_tear.desc).map (fun d => d.parameters.length) = some 2 := by decide +kernel
theorem ml_L_81 : Cond.methodLink RL 81 yX12_tear ∈ TT := tt7 156 (by decide +kernel) rfl
theorem mw_L_81 : mwV RL 81 RX12 yX12_tear cX12_tear 3 (some .int) 2 := ⟨⟨ml_L_81, im_X12_tear, se_X12_tear, in_X12, cd_X12_tear⟩, rfl, hd_X12_tear⟩
theorem cd_X11_lay : Cond.code yX11_lay cX11_lay 8 (some .int) ∈ TT := tt4 20 (by decide +kernel) rfl
theorem im_X11_lay : Cond.instanceMethod yX11_lay ∈ TT := tt4 18 (by decide +kernel) rfl
theorem se_X11_lay : Cond.selects RX11 yX11_lay yX11_lay ∈ TT := tt4 19 (by decide +kernel) rfl
theorem hd_X11_lay : yX11_lay.cls ≠ "java/lang/invoke/MethodHandle" ∧ yX11_lay.cls ≠ "java/lang/invoke/VarHandle" ∧ (parseMethodDescriptor yX11_lay.desc).map (fun d => d.parameters.length) = some 4 := by decide +kernel
theorem ml_L_84 : Cond.methodLink RL 84 yX11_lay ∈ TT := tt4 17 (by decide +kernel) rfl
theorem mw_L_84 : mwV RL 84 RX11 yX11_lay cX11_lay 8 (some .int) 4 := ⟨⟨ml_L_84, im_X11_lay, se_X11_lay, in_X11, cd_X11_lay⟩, rfl, hd_X11_lay⟩
theorem cd_X12_lay : Cond.code yX12_lay cX12_lay 7 (some .int) ∈ TT := tt7 163 (by decide +kernel) rfl
theorem im_X12_lay : Cond.instanceMethod yX12_lay ∈ TT := tt7 161 (by decide +kernel) rfl
theorem se_X12_lay : Cond.selects RX12 yX12_lay yX12_lay ∈ TT := tt7 162 (by decide +kernel) rfl
theorem hd_X12_lay : yX12_lay.cls ≠ "java/lang/invoke/MethodHandle" ∧ yX12_lay.cls ≠ "java/lang/invoke/VarHandle" ∧ (parseMethodDescriptor yX12_lay.desc).map (fun d => d.parameters.length) = some 4 := by decide +kernel
theorem ml_L_88 : Cond.methodLink RL 88 yX12_lay ∈ TT := tt7 160 (by decide +kernel) rfl
theorem mw_L_88 : mwV RL 88 RX12 yX12_lay cX12_lay 7 (some .int) 4 := ⟨⟨ml_L_88, im_X12_lay, se_X12_lay, in_X12, cd_X12_lay⟩, rfl, hd_X12_lay⟩
theorem cd_X11_get : Cond.code yX11_get cX11_get 6 (some .int) ∈ TT := tt4 37 (by decide +kernel) rfl
theorem im_X11_get : Cond.instanceMethod yX11_get ∈ TT := tt4 35 (by decide +kernel) rfl
theorem se_X11_get : Cond.selects RX11 yX11_get yX11_get ∈ TT := tt4 36 (by decide +kernel) rfl
theorem hd_X11_get : yX11_get.cls ≠ "java/lang/invoke/MethodHandle" ∧ yX11_get.cls ≠ "java/lang/invoke/VarHandle" ∧ (parseMethodDescriptor yX11_get.desc).map (fun d => d.parameters.length) = some 3 := by decide +kernel
theorem ml_L_89 : Cond.methodLink RL 89 yX11_get ∈ TT := tt4 34 (by decide +kernel) rfl
theorem mw_L_89 : mwV RL 89 RX11 yX11_get cX11_get 6 (some .int) 3 := ⟨⟨ml_L_89, im_X11_get, se_X11_get, in_X11, cd_X11_get⟩, rfl, hd_X11_get⟩
theorem cd_X12_get : Cond.code yX12_get cX12_get 5 (some .int) ∈ TT := tt7 178 (by decide +kernel) rfl
theorem im_X12_get : Cond.instanceMethod yX12_get ∈ TT := tt7 176 (by decide +kernel) rfl
theorem se_X12_get : Cond.selects RX12 yX12_get yX12_get ∈ TT := tt7 177 (by decide +kernel) rfl
theorem hd_X12_get : yX12_get.cls ≠ "java/lang/invoke/MethodHandle" ∧ yX12_get.cls ≠ "java/lang/invoke/VarHandle" ∧ (parseMethodDescriptor yX12_get.desc).map (fun d => d.parameters.length) = some 3 := by decide +kernel
theorem ml_L_92 : Cond.methodLink RL 92 yX12_get ∈ TT := tt7 175 (by decide +kernel) rfl
theorem mw_L_92 : mwV RL 92 RX12 yX12_get cX12_get 5 (some .int) 3 := ⟨⟨ml_L_92, im_X12_get, se_X12_get, in_X12, cd_X12_get⟩, rfl, hd_X12_get⟩
theorem cd_X11_asked : Cond.code yX11_asked cX11_asked 1 (some .long) ∈ TT := tt4 45 (by decide +kernel) rfl
theorem im_X11_asked : Cond.instanceMethod yX11_asked ∈ TT := tt4 43 (by decide +kernel) rfl
theorem se_X11_asked : Cond.selects RX11 yX11_asked yX11_asked ∈ TT := tt4 44 (by decide +kernel) rfl
theorem hd_X11_asked : yX11_asked.cls ≠ "java/lang/invoke/MethodHandle" ∧ yX11_asked.cls ≠ "java/lang/invoke/VarHandle" ∧ (parseMethodDescriptor yX11_asked.desc).map (fun d => d.parameters.length) = some 0 := by decide +kernel
theorem ml_L_93 : Cond.methodLink RL 93 yX11_asked ∈ TT := tt4 42 (by decide +kernel) rfl
theorem mw_L_93 : mwV RL 93 RX11 yX11_asked cX11_asked 1 (some .long) 0 := ⟨⟨ml_L_93, im_X11_asked, se_X11_asked, in_X11, cd_X11_asked⟩, rfl, hd_X11_asked⟩
theorem cd_X12_asked : Cond.code yX12_asked cX12_asked 1 (some .long) ∈ TT := tt7 182 (by decide +kernel) rfl
theorem im_X12_asked : Cond.instanceMethod yX12_asked ∈ TT := tt7 180 (by decide +kernel) rfl
theorem se_X12_asked : Cond.selects RX12 yX12_asked yX12_asked ∈ TT := tt7 181 (by decide +kernel) rfl
theorem hd_X12_asked : yX12_asked.cls ≠ "java/lang/invoke/MethodHandle" ∧ yX12_asked.cls ≠ "java/lang/invoke/VarHandle" ∧ (parseMethodDescriptor yX12_asked.desc).map (fun d => d.parameters.length) = some 0 := by decide +kernel
theorem ml_L_97 : Cond.methodLink RL 97 yX12_asked ∈ TT := tt7 179 (by decide +kernel) rfl
theorem mw_L_97 : mwV RL 97 RX12 yX12_asked cX12_asked 1 (some .long) 0 := ⟨⟨ml_L_97, im_X12_asked, se_X12_asked, in_X12, cd_X12_asked⟩, rfl, hd_X12_asked⟩
theorem cd_X11_visits : Cond.code yX11_visits cX11_visits 1 (some .int) ∈ TT := tt4 49 (by decide +kernel) rfl
theorem im_X11_visits : Cond.instanceMethod yX11_visits ∈ TT := tt4 47 (by decide +kernel) rfl
theorem se_X11_visits : Cond.selects RX11 yX11_visits yX11_visits ∈ TT := tt4 48 (by decide +kernel) rfl
theorem hd_X11_visits : yX11_visits.cls ≠ "java/lang/invoke/MethodHandle" ∧ yX11_visits.cls ≠ "java/lang/invoke/VarHandle" ∧ (parseMethodDescriptor yX11_visits.desc).map (fun d => d.parameters.length) = some 0 := by decide +kernel
theorem ml_L_98 : Cond.methodLink RL 98 yX11_visits ∈ TT := tt4 46 (by decide +kernel) rfl
theorem mw_L_98 : mwV RL 98 RX11 yX11_visits cX11_visits 1 (some .int) 0 := ⟨⟨ml_L_98, im_X11_visits, se_X11_visits, in_X11, cd_X11_visits⟩, rfl, hd_X11_visits⟩
theorem cd_X12_visits : Cond.code yX12_visits cX12_visits 1 (some .int) ∈ TT := tt7 186 (by decide +kernel) rfl
theorem im_X12_visits : Cond.instanceMethod yX12_visits ∈ TT := tt7 184 (by decide +kernel) rfl
theorem se_X12_visits : Cond.selects RX12 yX12_visits yX12_visits ∈ TT := tt7 185 (by decide +kernel) rfl
theorem hd_X12_visits : yX12_visits.cls ≠ "java/lang/invoke/MethodHandle" ∧ yX12_visits.cls ≠ "java/lang/invoke/VarHandle" ∧ (parseMethodDescriptor yX12_visits.desc).map (fun d => d.parameters.length) = some 0 := by decide +kernel
theorem ml_L_101 : Cond.methodLink RL 101 yX12_visits ∈ TT := tt7 183 (by decide +kernel) rfl
theorem mw_L_101 : mwV RL 101 RX12 yX12_visits cX12_visits 1 (some .int) 0 := ⟨⟨ml_L_101, im_X12_visits, se_X12_visits, in_X12, cd_X12_visits⟩, rfl, hd_X12_visits⟩
theorem cd_X11_visit : Cond.code yX11_visit cX11_visit 5 (some .int) ∈ TT := tt4 87 (by decide +kernel) rfl
theorem im_X11_visit : Cond.instanceMethod yX11_visit ∈ TT := tt4 85 (by decide +kernel) rfl
theorem se_X11_visit : Cond.selects RX11 yX11_visit yX11_visit ∈ TT := tt4 86 (by decide +kernel) rfl
theorem hd_X11_visit : yX11_visit.cls ≠ "java/lang/invoke/MethodHandle" ∧ yX11_visit.cls ≠ "java/lang/invoke/VarHandle" ∧ (parseMethodDescriptor yX11_visit.desc).map (fun d => d.parameters.length) = some 3 := by decide +kernel
theorem ml_L_102 : Cond.methodLink RL 102 yX11_visit ∈ TT := tt4 84 (by decide +kernel) rfl
theorem mw_L_102 : mwV RL 102 RX11 yX11_visit cX11_visit 5 (some .int) 3 := ⟨⟨ml_L_102, im_X11_visit, se_X11_visit, in_X11, cd_X11_visit⟩, rfl, hd_X11_visit⟩
theorem cd_X12_visit : Cond.code yX12_visit cX12_visit 5 (some .int) ∈ TT := tt7 214 (by decide +kernel) rfl
theorem im_X12_visit : Cond.instanceMethod yX12_visit ∈ TT := tt7 212 (by decide +kernel) rfl
theorem se_X12_visit : Cond.selects RX12 yX12_visit yX12_visit ∈ TT := tt7 213 (by decide +kernel) rfl
theorem hd_X12_visit : yX12_visit.cls ≠ "java/lang/invoke/MethodHandle" ∧ yX12_visit.cls ≠ "java/lang/invoke/VarHandle" ∧ (parseMethodDescriptor yX12_visit.desc).map (fun d => d.parameters.length) = some 3 := by decide +kernel
theorem ml_L_106 : Cond.methodLink RL 106 yX12_visit ∈ TT := tt7 211 (by decide +kernel) rfl
theorem mw_L_106 : mwV RL 106 RX12 yX12_visit cX12_visit 5 (some .int) 3 := ⟨⟨ml_L_106, im_X12_visit, se_X12_visit, in_X12, cd_X12_visit⟩, rfl, hd_X12_visit⟩
theorem cd_X11_has : Cond.code yX11_has cX11_has 7 (some .int) ∈ TT := tt4 129 (by decide +kernel) rfl
theorem im_X11_has : Cond.instanceMethod yX11_has ∈ TT := tt4 127 (by decide +kernel) rfl
theorem se_X11_has : Cond.selects RX11 yX11_has yX11_has ∈ TT := tt4 128 (by decide +kernel) rfl
theorem hd_X11_has : yX11_has.cls ≠ "java/lang/invoke/MethodHandle" ∧ yX11_has.cls ≠ "java/lang/invoke/VarHandle" ∧ (parseMethodDescriptor yX11_has.desc).map (fun d => d.parameters.length) = some 5 := by decide +kernel
theorem ml_L_107 : Cond.methodLink RL 107 yX11_has ∈ TT := tt4 126 (by decide +kernel) rfl
theorem mw_L_107 : mwV RL 107 RX11 yX11_has cX11_has 7 (some .int) 5 := ⟨⟨ml_L_107, im_X11_has, se_X11_has, in_X11, cd_X11_has⟩, rfl, hd_X11_has⟩
theorem cd_X12_has : Cond.code yX12_has cX12_has 8 (some .int) ∈ TT := tt7 230 (by decide +kernel) rfl
theorem im_X12_has : Cond.instanceMethod yX12_has ∈ TT := tt7 228 (by decide +kernel) rfl
theorem se_X12_has : Cond.selects RX12 yX12_has yX12_has ∈ TT := tt7 229 (by decide +kernel) rfl
theorem hd_X12_has : yX12_has.cls ≠ "java/lang/invoke/MethodHandle" ∧ yX12_has.cls ≠ "java/lang/invoke/VarHandle" ∧ (parseMethodDescriptor yX12_has.desc).map (fun d => d.parameters.length) = some 5 := by decide +kernel
theorem ml_L_110 : Cond.methodLink RL 110 yX12_has ∈ TT := tt7 227 (by decide +kernel) rfl
theorem mw_L_110 : mwV RL 110 RX12 yX12_has cX12_has 8 (some .int) 5 := ⟨⟨ml_L_110, im_X12_has, se_X12_has, in_X12, cd_X12_has⟩, rfl, hd_X12_has⟩
theorem cd_X11_points : Cond.code yX11_points cX11_points 4 (some .int) ∈ TT := tt4 138 (by decide +kernel) rfl
theorem im_X11_points : Cond.instanceMethod yX11_points ∈ TT := tt4 136 (by decide +kernel) rfl
theorem se_X11_points : Cond.selects RX11 yX11_points yX11_points ∈ TT := tt4 137 (by decide +kernel) rfl
theorem hd_X11_points : yX11_points.cls ≠ "java/lang/invoke/MethodHandle" ∧ yX11_points.cls ≠ "java/lang/invoke/VarHandle" ∧ (parseMethodDescriptor yX11_points.desc).map (fun d => d.parameters.length) = some 1 := by decide +kernel
theorem ml_L_111 : Cond.methodLink RL 111 yX11_points ∈ TT := tt4 135 (by decide +kernel) rfl
theorem mw_L_111 : mwV RL 111 RX11 yX11_points cX11_points 4 (some .int) 1 := ⟨⟨ml_L_111, im_X11_points, se_X11_points, in_X11, cd_X11_points⟩, rfl, hd_X11_points⟩
theorem cd_X12_points : Cond.code yX12_points cX12_points 4 (some .int) ∈ TT := tt7 234 (by decide +kernel) rfl
theorem im_X12_points : Cond.instanceMethod yX12_points ∈ TT := tt7 232 (by decide +kernel) rfl
theorem se_X12_points : Cond.selects RX12 yX12_points yX12_points ∈ TT := tt7 233 (by decide +kernel) rfl
theorem hd_X12_points : yX12_points.cls ≠ "java/lang/invoke/MethodHandle" ∧ yX12_points.cls ≠ "java/lang/invoke/VarHandle" ∧ (parseMethodDescriptor yX12_points.desc).map (fun d => d.parameters.length) = some 1 := by decide +kernel
theorem ml_L_115 : Cond.methodLink RL 115 yX12_points ∈ TT := tt7 231 (by decide +kernel) rfl
theorem mw_L_115 : mwV RL 115 RX12 yX12_points cX12_points 4 (some .int) 1 := ⟨⟨ml_L_115, im_X12_points, se_X12_points, in_X12, cd_X12_points⟩, rfl, hd_X12_points⟩
theorem cd_X11_needs : Cond.code yX11_needs cX11_needs 4 (some .int) ∈ TT := tt4 142 (by decide +kernel) rfl
theorem im_X11_needs : Cond.instanceMethod yX11_needs ∈ TT := tt4 140 (by decide +kernel) rfl
theorem se_X11_needs : Cond.selects RX11 yX11_needs yX11_needs ∈ TT := tt4 141 (by decide +kernel) rfl
theorem hd_X11_needs : yX11_needs.cls ≠ "java/lang/invoke/MethodHandle" ∧ yX11_needs.cls ≠ "java/lang/invoke/VarHandle" ∧ (parseMethodDescriptor yX11_needs.desc).map (fun d => d.parameters.length) = some 3 := by decide +kernel
theorem ml_L_116 : Cond.methodLink RL 116 yX11_needs ∈ TT := tt4 139 (by decide +kernel) rfl
theorem mw_L_116 : mwV RL 116 RX11 yX11_needs cX11_needs 4 (some .int) 3 := ⟨⟨ml_L_116, im_X11_needs, se_X11_needs, in_X11, cd_X11_needs⟩, rfl, hd_X11_needs⟩
theorem cd_X12_needs : Cond.code yX12_needs cX12_needs 7 (some .int) ∈ TT := tt7 238 (by decide +kernel) rfl
theorem im_X12_needs : Cond.instanceMethod yX12_needs ∈ TT := tt7 236 (by decide +kernel) rfl
theorem se_X12_needs : Cond.selects RX12 yX12_needs yX12_needs ∈ TT := tt7 237 (by decide +kernel) rfl
theorem hd_X12_needs : yX12_needs.cls ≠ "java/lang/invoke/MethodHandle" ∧ yX12_needs.cls ≠ "java/lang/invoke/VarHandle" ∧ (parseMethodDescriptor yX12_needs.desc).map (fun d => d.parameters.length) = some 3 := by decide +kernel
theorem ml_L_119 : Cond.methodLink RL 119 yX12_needs ∈ TT := tt7 235 (by decide +kernel) rfl
theorem mw_L_119 : mwV RL 119 RX12 yX12_needs cX12_needs 7 (some .int) 3 := ⟨⟨ml_L_119, im_X12_needs, se_X12_needs, in_X12, cd_X12_needs⟩, rfl, hd_X12_needs⟩
theorem cd_X11_carried : Cond.code yX11_carried cX11_carried 2 (some .int) ∈ TT := tt4 223 (by decide +kernel) rfl
theorem im_X11_carried : Cond.instanceMethod yX11_carried ∈ TT := tt4 221 (by decide +kernel) rfl
theorem se_X11_carried : Cond.selects RX11 yX11_carried yX11_carried ∈ TT := tt4 222 (by decide +kernel) rfl
theorem hd_X11_carried : yX11_carried.cls ≠ "java/lang/invoke/MethodHandle" ∧ yX11_carried.cls ≠ "java/lang/invoke/VarHandle" ∧ (parseMethodDescriptor yX11_carried.desc).map (fun d => d.parameters.length) = some 1 := by decide +kernel
theorem ml_L_120 : Cond.methodLink RL 120 yX11_carried ∈ TT := tt4 220 (by decide +kernel) rfl
theorem mw_L_120 : mwV RL 120 RX11 yX11_carried cX11_carried 2 (some .int) 1 := ⟨⟨ml_L_120, im_X11_carried, se_X11_carried, in_X11, cd_X11_carried⟩, rfl, hd_X11_carried⟩
theorem cd_X12_carried : Cond.code yX12_carried cX12_carried 6 (some .int) ∈ TT := tt8 22 (by decide +kernel) rfl
theorem im_X12_carried : Cond.instanceMethod yX12_carried ∈ TT := tt8 20 (by decide +kernel) rfl
theorem se_X12_carried : Cond.selects RX12 yX12_carried yX12_carried ∈ TT := tt8 21 (by decide +kernel) rfl
theorem hd_X12_carried : yX12_carried.cls ≠ "java/lang/invoke/MethodHandle" ∧ yX12_carried.cls ≠ "java/lang/invoke/VarHandle" ∧ (parseMethodDescriptor yX12_carried.desc).map (fun d => d.parameters.length) = some 1 := by decide +kernel
theorem ml_L_123 : Cond.methodLink RL 123 yX12_carried ∈ TT := tt8 19 (by decide +kernel) rfl
theorem mw_L_123 : mwV RL 123 RX12 yX12_carried cX12_carried 6 (some .int) 1 := ⟨⟨ml_L_123, im_X12_carried, se_X12_carried, in_X12, cd_X12_carried⟩, rfl, hd_X12_carried⟩
theorem cd_X11_distance : Cond.code yX11_distance cX11_distance 6 (some .int) ∈ TT := tt4 227 (by decide +kernel) rfl
theorem im_X11_distance : Cond.instanceMethod yX11_distance ∈ TT := tt4 225 (by decide +kernel) rfl
theorem se_X11_distance : Cond.selects RX11 yX11_distance yX11_distance ∈ TT := tt4 226 (by decide +kernel) rfl
theorem hd_X11_distance : yX11_distance.cls ≠ "java/lang/invoke/MethodHandle" ∧ yX11_distance.cls ≠ "java/lang/invoke/VarHandle" ∧ (parseMethodDescriptor yX11_distance.desc).map (fun d => d.parameters.length) = some 4 := by decide +kernel
theorem ml_L_124 : Cond.methodLink RL 124 yX11_distance ∈ TT := tt4 224 (by decide +kernel) rfl
theorem mw_L_124 : mwV RL 124 RX11 yX11_distance cX11_distance 6 (some .int) 4 := ⟨⟨ml_L_124, im_X11_distance, se_X11_distance, in_X11, cd_X11_distance⟩, rfl, hd_X11_distance⟩
theorem cd_X12_distance : Cond.code yX12_distance cX12_distance 13 (some .int) ∈ TT := tt8 34 (by decide +kernel) rfl
theorem im_X12_distance : Cond.instanceMethod yX12_distance ∈ TT := tt8 32 (by decide +kernel) rfl
theorem se_X12_distance : Cond.selects RX12 yX12_distance yX12_distance ∈ TT := tt8 33 (by decide +kernel) rfl
theorem hd_X12_distance : yX12_distance.cls ≠ "java/lang/invoke/MethodHandle" ∧ yX12_distance.cls ≠ "java/lang/invoke/VarHandle" ∧ (parseMethodDescriptor yX12_distance.desc).map (fun d => d.parameters.length) = some 4 := by decide +kernel
theorem ml_L_127 : Cond.methodLink RL 127 yX12_distance ∈ TT := tt8 31 (by decide +kernel) rfl
theorem mw_L_127 : mwV RL 127 RX12 yX12_distance cX12_distance 13 (some .int) 4 := ⟨⟨ml_L_127, im_X12_distance, se_X12_distance, in_X12, cd_X12_distance⟩, rfl, hd_X12_distance⟩
theorem cd_X11_free : Cond.code yX11_free cX11_free 2 (some .int) ∈ TT := tt4 236 (by decide +kernel) rfl
theorem im_X11_free : Cond.instanceMethod yX11_free ∈ TT := tt4 234 (by decide +kernel) rfl
theorem se_X11_free : Cond.selects RX11 yX11_free yX11_free ∈ TT := tt4 235 (by decide +kernel) rfl
theorem hd_X11_free : yX11_free.cls ≠ "java/lang/invoke/MethodHandle" ∧ yX11_free.cls ≠ "java/lang/invoke/VarHandle" ∧ (parseMethodDescriptor yX11_free.desc).map (fun d => d.parameters.length) = some 1 := by decide +kernel
theorem ml_L_128 : Cond.methodLink RL 128 yX11_free ∈ TT := tt4 233 (by decide +kernel) rfl
theorem mw_L_128 : mwV RL 128 RX11 yX11_free cX11_free 2 (some .int) 1 := ⟨⟨ml_L_128, im_X11_free, se_X11_free, in_X11, cd_X11_free⟩, rfl, hd_X11_free⟩
theorem cd_X12_free : Cond.code yX12_free cX12_free 5 (some .int) ∈ TT := tt8 38 (by decide +kernel) rfl
theorem im_X12_free : Cond.instanceMethod yX12_free ∈ TT := tt8 36 (by decide +kernel) rfl
theorem se_X12_free : Cond.selects RX12 yX12_free yX12_free ∈ TT := tt8 37 (by decide +kernel) rfl
theorem hd_X12_free : yX12_free.cls ≠ "java/lang/invoke/MethodHandle" ∧ yX12_free.cls ≠ "java/lang/invoke/VarHandle" ∧ (parseMethodDescriptor yX12_free.desc).map (fun d => d.parameters.length) = some 1 := by decide +kernel
theorem ml_L_131 : Cond.methodLink RL 131 yX12_free ∈ TT := tt8 35 (by decide +kernel) rfl
theorem mw_L_131 : mwV RL 131 RX12 yX12_free cX12_free 5 (some .int) 1 := ⟨⟨ml_L_131, im_X12_free, se_X12_free, in_X12, cd_X12_free⟩, rfl, hd_X12_free⟩
theorem cd_X11_swap : Cond.code yX11_swap cX11_swap 3 (some .int) ∈ TT := tt5 9 (by decide +kernel) rfl
theorem im_X11_swap : Cond.instanceMethod yX11_swap ∈ TT := tt5 7 (by decide +kernel) rfl
theorem se_X11_swap : Cond.selects RX11 yX11_swap yX11_swap ∈ TT := tt5 8 (by decide +kernel) rfl
theorem hd_X11_swap : yX11_swap.cls ≠ "java/lang/invoke/MethodHandle" ∧ yX11_swap.cls ≠ "java/lang/invoke/VarHandle" ∧ (parseMethodDescriptor yX11_swap.desc).map (fun d => d.parameters.length) = some 2 := by decide +kernel
theorem ml_L_132 : Cond.methodLink RL 132 yX11_swap ∈ TT := tt5 6 (by decide +kernel) rfl
theorem mw_L_132 : mwV RL 132 RX11 yX11_swap cX11_swap 3 (some .int) 2 := ⟨⟨ml_L_132, im_X11_swap, se_X11_swap, in_X11, cd_X11_swap⟩, rfl, hd_X11_swap⟩
theorem cd_X12_swap : Cond.code yX12_swap cX12_swap 3 (some .int) ∈ TT := tt8 46 (by decide +kernel) rfl
theorem im_X12_swap : Cond.instanceMethod yX12_swap ∈ TT := tt8 44 (by decide +kernel) rfl
theorem se_X12_swap : Cond.selects RX12 yX12_swap yX12_swap ∈ TT := tt8 45 (by decide +kernel) rfl
theorem hd_X12_swap : yX12_swap.cls ≠ "java/lang/invoke/MethodHandle" ∧ yX12_swap.cls ≠ "java/lang/invoke/VarHandle" ∧ (parseMethodDescriptor yX12_swap.desc).map (fun d => d.parameters.length) = some 2 := by decide +kernel
theorem ml_L_135 : Cond.methodLink RL 135 yX12_swap ∈ TT := tt8 43 (by decide +kernel) rfl
theorem mw_L_135 : mwV RL 135 RX12 yX12_swap cX12_swap 3 (some .int) 2 := ⟨⟨ml_L_135, im_X12_swap, se_X12_swap, in_X12, cd_X12_swap⟩, rfl, hd_X12_swap⟩
theorem cd_X11_lean : Cond.code yX11_lean cX11_lean 4 (some .int) ∈ TT := tt5 43 (by decide +kernel) rfl
theorem im_X11_lean : Cond.instanceMethod yX11_lean ∈ TT := tt5 41 (by decide +kernel) rfl
theorem se_X11_lean : Cond.selects RX11 yX11_lean yX11_lean ∈ TT := tt5 42 (by decide +kernel) rfl
theorem hd_X11_lean : yX11_lean.cls ≠ "java/lang/invoke/MethodHandle" ∧ yX11_lean.cls ≠ "java/lang/invoke/VarHandle" ∧ (parseMethodDescriptor yX11_lean.desc).map (fun d => d.parameters.length) = some 3 := by decide +kernel
theorem ml_L_136 : Cond.methodLink RL 136 yX11_lean ∈ TT := tt5 40 (by decide +kernel) rfl
theorem mw_L_136 : mwV RL 136 RX11 yX11_lean cX11_lean 4 (some .int) 3 := ⟨⟨ml_L_136, im_X11_lean, se_X11_lean, in_X11, cd_X11_lean⟩, rfl, hd_X11_lean⟩
theorem cd_X12_lean : Cond.code yX12_lean cX12_lean 9 (some .int) ∈ TT := tt8 71 (by decide +kernel) rfl
theorem im_X12_lean : Cond.instanceMethod yX12_lean ∈ TT := tt8 69 (by decide +kernel) rfl
theorem se_X12_lean : Cond.selects RX12 yX12_lean yX12_lean ∈ TT := tt8 70 (by decide +kernel) rfl
theorem hd_X12_lean : yX12_lean.cls ≠ "java/lang/invoke/MethodHandle" ∧ yX12_lean.cls ≠ "java/lang/invoke/VarHandle" ∧ (parseMethodDescriptor yX12_lean.desc).map (fun d => d.parameters.length) = some 3 := by decide +kernel
theorem ml_L_139 : Cond.methodLink RL 139 yX12_lean ∈ TT := tt8 68 (by decide +kernel) rfl
theorem mw_L_139 : mwV RL 139 RX12 yX12_lean cX12_lean 9 (some .int) 3 := ⟨⟨ml_L_139, im_X12_lean, se_X12_lean, in_X12, cd_X12_lean⟩, rfl, hd_X12_lean⟩
theorem cd_X11_back : Cond.code yX11_back cX11_back 2 (some .int) ∈ TT := tt5 60 (by decide +kernel) rfl
theorem im_X11_back : Cond.instanceMethod yX11_back ∈ TT := tt5 58 (by decide +kernel) rfl
theorem se_X11_back : Cond.selects RX11 yX11_back yX11_back ∈ TT := tt5 59 (by decide +kernel) rfl
theorem hd_X11_back : yX11_back.cls ≠ "java/lang/invoke/MethodHandle" ∧ yX11_back.cls ≠ "java/lang/invoke/VarHandle" ∧ (parseMethodDescriptor yX11_back.desc).map (fun d => d.parameters.length) = some 1 := by decide +kernel
theorem ml_L_140 : Cond.methodLink RL 140 yX11_back ∈ TT := tt5 57 (by decide +kernel) rfl
theorem mw_L_140 : mwV RL 140 RX11 yX11_back cX11_back 2 (some .int) 1 := ⟨⟨ml_L_140, im_X11_back, se_X11_back, in_X11, cd_X11_back⟩, rfl, hd_X11_back⟩
theorem cd_X12_back : Cond.code yX12_back cX12_back 2 (some .int) ∈ TT := tt8 86 (by decide +kernel) rfl
theorem im_X12_back : Cond.instanceMethod yX12_back ∈ TT := tt8 84 (by decide +kernel) rfl
theorem se_X12_back : Cond.selects RX12 yX12_back yX12_back ∈ TT := tt8 85 (by decide +kernel) rfl
theorem hd_X12_back : yX12_back.cls ≠ "java/lang/invoke/MethodHandle" ∧ yX12_back.cls ≠ "java/lang/invoke/VarHandle" ∧ (parseMethodDescriptor yX12_back.desc).map (fun d => d.parameters.length) = some 1 := by decide +kernel
theorem ml_L_143 : Cond.methodLink RL 143 yX12_back ∈ TT := tt8 83 (by decide +kernel) rfl
theorem mw_L_143 : mwV RL 143 RX12 yX12_back cX12_back 2 (some .int) 1 := ⟨⟨ml_L_143, im_X12_back, se_X12_back, in_X12, cd_X12_back⟩, rfl, hd_X12_back⟩
theorem cd_X11_shift : Cond.code yX11_shift cX11_shift 6 (some .int) ∈ TT := tt5 68 (by decide +kernel) rfl
theorem im_X11_shift : Cond.instanceMethod yX11_shift ∈ TT := tt5 66 (by decide +kernel) rfl
theorem se_X11_shift : Cond.selects RX11 yX11_shift yX11_shift ∈ TT := tt5 67 (by decide +kernel) rfl
theorem hd_X11_shift : yX11_shift.cls ≠ "java/lang/invoke/MethodHandle" ∧ yX11_shift.cls ≠ "java/lang/invoke/VarHandle" ∧ (parseMethodDescriptor yX11_shift.desc).map (fun d => d.parameters.length) = some 3 := by decide +kernel
theorem ml_L_144 : Cond.methodLink RL 144 yX11_shift ∈ TT := tt5 65 (by decide +kernel) rfl
theorem mw_L_144 : mwV RL 144 RX11 yX11_shift cX11_shift 6 (some .int) 3 := ⟨⟨ml_L_144, im_X11_shift, se_X11_shift, in_X11, cd_X11_shift⟩, rfl, hd_X11_shift⟩
theorem cd_X12_shift : Cond.code yX12_shift cX12_shift 5 (some .int) ∈ TT := tt8 94 (by decide +kernel) rfl
theorem im_X12_shift : Cond.instanceMethod yX12_shift ∈ TT := tt8 92 (by decide +kernel) rfl
theorem se_X12_shift : Cond.selects RX12 yX12_shift yX12_shift ∈ TT := tt8 93 (by decide +kernel) rfl
theorem hd_X12_shift : yX12_shift.cls ≠ "java/lang/invoke/MethodHandle" ∧ yX12_shift.cls ≠ "java/lang/invoke/VarHandle" ∧ (parseMethodDescriptor yX12_shift.desc).map (fun d => d.parameters.length) = some 3 := by decide +kernel
theorem ml_L_147 : Cond.methodLink RL 147 yX12_shift ∈ TT := tt8 91 (by decide +kernel) rfl
theorem mw_L_147 : mwV RL 147 RX12 yX12_shift cX12_shift 5 (some .int) 3 := ⟨⟨ml_L_147, im_X12_shift, se_X12_shift, in_X12, cd_X12_shift⟩, rfl, hd_X12_shift⟩
theorem cd_X11_tile : Cond.code yX11_tile cX11_tile 4 (some .int) ∈ TT := tt5 74 (by decide +kernel) rfl
theorem im_X11_tile : Cond.instanceMethod yX11_tile ∈ TT := tt5 72 (by decide +kernel) rfl
theorem se_X11_tile : Cond.selects RX11 yX11_tile yX11_tile ∈ TT := tt5 73 (by decide +kernel) rfl
theorem hd_X11_tile : yX11_tile.cls ≠ "java/lang/invoke/MethodHandle" ∧ yX11_tile.cls ≠ "java/lang/invoke/VarHandle" ∧ (parseMethodDescriptor yX11_tile.desc).map (fun d => d.parameters.length) = some 3 := by decide +kernel
theorem ml_L_148 : Cond.methodLink RL 148 yX11_tile ∈ TT := tt5 71 (by decide +kernel) rfl
theorem mw_L_148 : mwV RL 148 RX11 yX11_tile cX11_tile 4 (some .int) 3 := ⟨⟨ml_L_148, im_X11_tile, se_X11_tile, in_X11, cd_X11_tile⟩, rfl, hd_X11_tile⟩
theorem cd_X12_tile : Cond.code yX12_tile cX12_tile 6 (some .int) ∈ TT := tt8 98 (by decide +kernel) rfl
theorem im_X12_tile : Cond.instanceMethod yX12_tile ∈ TT := tt8 96 (by decide +kernel) rfl
theorem se_X12_tile : Cond.selects RX12 yX12_tile yX12_tile ∈ TT := tt8 97 (by decide +kernel) rfl
theorem hd_X12_tile : yX12_tile.cls ≠ "java/lang/invoke/MethodHandle" ∧ yX12_tile.cls ≠ "java/lang/invoke/VarHandle" ∧ (parseMethodDescriptor yX12_tile.desc).map (fun d => d.parameters.length) = some 3 := by decide +kernel
theorem ml_L_151 : Cond.methodLink RL 151 yX12_tile ∈ TT := tt8 95 (by decide +kernel) rfl
theorem mw_L_151 : mwV RL 151 RX12 yX12_tile cX12_tile 6 (some .int) 3 := ⟨⟨ml_L_151, im_X12_tile, se_X12_tile, in_X12, cd_X12_tile⟩, rfl, hd_X12_tile⟩
theorem cd_X11_part : Cond.code yX11_part cX11_part 2 (some .int) ∈ TT := tt5 95 (by decide +kernel) rfl
theorem im_X11_part : Cond.instanceMethod yX11_part ∈ TT := tt5 93 (by decide +kernel) rfl
theorem se_X11_part : Cond.selects RX11 yX11_part yX11_part ∈ TT := tt5 94 (by decide +kernel) rfl
theorem hd_X11_part : yX11_part.cls ≠ "java/lang/invoke/MethodHandle" ∧ yX11_part.cls ≠ "java/lang/invoke/VarHandle" ∧ (parseMethodDescriptor yX11_part.desc).map (fun d => d.parameters.length) = some 1 := by decide +kernel
theorem ml_L_152 : Cond.methodLink RL 152 yX11_part ∈ TT := tt5 92 (by decide +kernel) rfl
theorem mw_L_152 : mwV RL 152 RX11 yX11_part cX11_part 2 (some .int) 1 := ⟨⟨ml_L_152, im_X11_part, se_X11_part, in_X11, cd_X11_part⟩, rfl, hd_X11_part⟩
theorem cd_X12_part : Cond.code yX12_part cX12_part 7 (some .int) ∈ TT := tt8 106 (by decide +kernel) rfl
theorem im_X12_part : Cond.instanceMethod yX12_part ∈ TT := tt8 104 (by decide +kernel) rfl
theorem se_X12_part : Cond.selects RX12 yX12_part yX12_part ∈ TT := tt8 105 (by decide +kernel) rfl
theorem hd_X12_part : yX12_part.cls ≠ "java/lang/invoke/MethodHandle" ∧ yX12_part.cls ≠ "java/lang/invoke/VarHandle" ∧ (parseMethodDescriptor yX12_part.desc).map (fun d => d.parameters.length) = some 1 := by decide +kernel
theorem ml_L_155 : Cond.methodLink RL 155 yX12_part ∈ TT := tt8 103 (by decide +kernel) rfl
theorem mw_L_155 : mwV RL 155 RX12 yX12_part cX12_part 7 (some .int) 1 := ⟨⟨ml_L_155, im_X12_part, se_X12_part, in_X12, cd_X12_part⟩, rfl, hd_X12_part⟩
theorem cd_X11_join : Cond.code yX11_join cX11_join 4 (some .int) ∈ TT := tt5 116 (by decide +kernel) rfl
theorem im_X11_join : Cond.instanceMethod yX11_join ∈ TT := tt5 114 (by decide +kernel) rfl
theorem se_X11_join : Cond.selects RX11 yX11_join yX11_join ∈ TT := tt5 115 (by decide +kernel) rfl
theorem hd_X11_join : yX11_join.cls ≠ "java/lang/invoke/MethodHandle" ∧ yX11_join.cls ≠ "java/lang/invoke/VarHandle" ∧ (parseMethodDescriptor yX11_join.desc).map (fun d => d.parameters.length) = some 2 := by decide +kernel
theorem ml_L_156 : Cond.methodLink RL 156 yX11_join ∈ TT := tt5 113 (by decide +kernel) rfl
theorem mw_L_156 : mwV RL 156 RX11 yX11_join cX11_join 4 (some .int) 2 := ⟨⟨ml_L_156, im_X11_join, se_X11_join, in_X11, cd_X11_join⟩, rfl, hd_X11_join⟩
theorem cd_X12_join : Cond.code yX12_join cX12_join 7 (some .int) ∈ TT := tt8 111 (by decide +kernel) rfl
theorem im_X12_join : Cond.instanceMethod yX12_join ∈ TT := tt8 109 (by decide +kernel) rfl
theorem se_X12_join : Cond.selects RX12 yX12_join yX12_join ∈ TT := tt8 110 (by decide +kernel) rfl
theorem hd_X12_join : yX12_join.cls ≠ "java/lang/invoke/MethodHandle" ∧ yX12_join.cls ≠ "java/lang/invoke/VarHandle" ∧ (parseMethodDescriptor yX12_join.desc).map (fun d => d.parameters.length) = some 2 := by decide +kernel
theorem ml_L_159 : Cond.methodLink RL 159 yX12_join ∈ TT := tt8 108 (by decide +kernel) rfl
theorem mw_L_159 : mwV RL 159 RX12 yX12_join cX12_join 7 (some .int) 2 := ⟨⟨ml_L_159, im_X12_join, se_X12_join, in_X12, cd_X12_join⟩, rfl, hd_X12_join⟩
theorem cd_X11_undo : Cond.code yX11_undo cX11_undo 1 (some .int) ∈ TT := tt5 129 (by decide +kernel) rfl
theorem im_X11_undo : Cond.instanceMethod yX11_undo ∈ TT := tt5 127 (by decide +kernel) rfl
theorem se_X11_undo : Cond.selects RX11 yX11_undo yX11_undo ∈ TT := tt5 128 (by decide +kernel) rfl
theorem hd_X11_undo : yX11_undo.cls ≠ "java/lang/invoke/MethodHandle" ∧ yX11_undo.cls ≠ "java/lang/invoke/VarHandle" ∧ (parseMethodDescriptor yX11_undo.desc).map (fun d => d.parameters.length) = some 0 := by decide +kernel
theorem ml_L_160 : Cond.methodLink RL 160 yX11_undo ∈ TT := tt5 126 (by decide +kernel) rfl
theorem mw_L_160 : mwV RL 160 RX11 yX11_undo cX11_undo 1 (some .int) 0 := ⟨⟨ml_L_160, im_X11_undo, se_X11_undo, in_X11, cd_X11_undo⟩, rfl, hd_X11_undo⟩
theorem cd_X12_undo : Cond.code yX12_undo cX12_undo 2 (some .int) ∈ TT := tt8 119 (by decide +kernel) rfl
theorem im_X12_undo : Cond.instanceMethod yX12_undo ∈ TT := tt8 117 (by decide +kernel) rfl
theorem se_X12_undo : Cond.selects RX12 yX12_undo yX12_undo ∈ TT := tt8 118 (by decide +kernel) rfl
theorem hd_X12_undo : yX12_undo.cls ≠ "java/lang/invoke/MethodHandle" ∧ yX12_undo.cls ≠ "java/lang/invoke/VarHandle" ∧ (parseMethodDescriptor yX12_undo.desc).map (fun d => d.parameters.length) = some 0 := by decide +kernel
theorem ml_L_163 : Cond.methodLink RL 163 yX12_undo ∈ TT := tt8 116 (by decide +kernel) rfl
theorem mw_L_163 : mwV RL 163 RX12 yX12_undo cX12_undo 2 (some .int) 0 := ⟨⟨ml_L_163, im_X12_undo, se_X12_undo, in_X12, cd_X12_undo⟩, rfl, hd_X12_undo⟩
theorem cd_X11_order : Cond.code yX11_order cX11_order 6 (some .int) ∈ TT := tt5 137 (by decide +kernel) rfl
theorem im_X11_order : Cond.instanceMethod yX11_order ∈ TT := tt5 135 (by decide +kernel) rfl
theorem se_X11_order : Cond.selects RX11 yX11_order yX11_order ∈ TT := tt5 136 (by decide +kernel) rfl
theorem hd_X11_order : yX11_order.cls ≠ "java/lang/invoke/MethodHandle" ∧ yX11_order.cls ≠ "java/lang/invoke/VarHandle" ∧ (parseMethodDescriptor yX11_order.desc).map (fun d => d.parameters.length) = some 3 := by decide +kernel
theorem ml_L_164 : Cond.methodLink RL 164 yX11_order ∈ TT := tt5 134 (by decide +kernel) rfl
theorem mw_L_164 : mwV RL 164 RX11 yX11_order cX11_order 6 (some .int) 3 := ⟨⟨ml_L_164, im_X11_order, se_X11_order, in_X11, cd_X11_order⟩, rfl, hd_X11_order⟩
theorem cd_X12_order : Cond.code yX12_order cX12_order 4 (some .int) ∈ TT := tt8 123 (by decide +kernel) rfl
theorem im_X12_order : Cond.instanceMethod yX12_order ∈ TT := tt8 121 (by decide +kernel) rfl
theorem se_X12_order : Cond.selects RX12 yX12_order yX12_order ∈ TT := tt8 122 (by decide +kernel) rfl
theorem hd_X12_order : yX12_order.cls ≠ "java/lang/invoke/MethodHandle" ∧ yX12_order.cls ≠ "java/lang/invoke/VarHandle" ∧ (parseMethodDescriptor yX12_order.desc).map (fun d => d.parameters.length) = some 3 := by decide +kernel
theorem ml_L_167 : Cond.methodLink RL 167 yX12_order ∈ TT := tt8 120 (by decide +kernel) rfl
theorem mw_L_167 : mwV RL 167 RX12 yX12_order cX12_order 4 (some .int) 3 := ⟨⟨ml_L_167, im_X12_order, se_X12_order, in_X12, cd_X12_order⟩, rfl, hd_X12_order⟩
theorem cd_X11_allowed : Cond.code yX11_allowed cX11_allowed 1 (some .int) ∈ TT := tt5 143 (by decide +kernel) rfl
theorem im_X11_allowed : Cond.instanceMethod yX11_allowed ∈ TT := tt5 141 (by decide +kernel) rfl
theorem se_X11_allowed : Cond.selects RX11 yX11_allowed yX11_allowed ∈ TT := tt5 142 (by decide +kernel) rfl
theorem hd_X11_allowed : yX11_allowed.cls ≠ "java/lang/invoke/MethodHandle" ∧ yX11_allowed.cls ≠ "java/lang/invoke/VarHandle" ∧ (parseMethodDescriptor yX11_allowed.desc).map (fun d => d.parameters.length) = some 0 := by decide +kernel
theorem ml_L_168 : Cond.methodLink RL 168 yX11_allowed ∈ TT := tt5 140 (by decide +kernel) rfl
theorem mw_L_168 : mwV RL 168 RX11 yX11_allowed cX11_allowed 1 (some .int) 0 := ⟨⟨ml_L_168, im_X11_allowed, se_X11_allowed, in_X11, cd_X11_allowed⟩, rfl, hd_X11_allowed⟩
theorem cd_X12_allowed : Cond.code yX12_allowed cX12_allowed 1 (some .int) ∈ TT := tt8 129 (by decide +kernel) rfl
theorem im_X12_allowed : Cond.instanceMethod yX12_allowed ∈ TT := tt8 127 (by decide +kernel) rfl
theorem se_X12_allowed : Cond.selects RX12 yX12_allowed yX12_allowed ∈ TT := tt8 128 (by decide +kernel) rfl
theorem hd_X12_allowed : yX12_allowed.cls ≠ "java/lang/invoke/MethodHandle" ∧ yX12_allowed.cls ≠ "java/lang/invoke/VarHandle" ∧ (parseMethodDescriptor yX12_allowed.desc).map (fun d => d.parameters.length) = some 0 := by decide +kernel
theorem ml_L_171 : Cond.methodLink RL 171 yX12_allowed ∈ TT := tt8 126 (by decide +kernel) rfl
theorem mw_L_171 : mwV RL 171 RX12 yX12_allowed cX12_allowed 1 (some .int) 0 := ⟨⟨ml_L_171, im_X12_allowed, se_X12_allowed, in_X12, cd_X12_allowed⟩, rfl, hd_X12_allowed⟩
theorem cd_X11_why : Cond.code yX11_why cX11_why 2 (some .int) ∈ TT := tt5 180 (by decide +kernel) rfl
theorem im_X11_why : Cond.instanceMethod yX11_why ∈ TT := tt5 178 (by decide +kernel) rfl
theorem se_X11_why : Cond.selects RX11 yX11_why yX11_why ∈ TT := tt5 179 (by decide +kernel) rfl
theorem hd_X11_why : yX11_why.cls ≠ "java/lang/invoke/MethodHandle" ∧ yX11_why.cls ≠ "java/lang/invoke/VarHandle" ∧ (parseMethodDescriptor yX11_why.desc).map (fun d => d.parameters.length) = some 1 := by decide +kernel
theorem ml_L_172 : Cond.methodLink RL 172 yX11_why ∈ TT := tt5 177 (by decide +kernel) rfl
theorem mw_L_172 : mwV RL 172 RX11 yX11_why cX11_why 2 (some .int) 1 := ⟨⟨ml_L_172, im_X11_why, se_X11_why, in_X11, cd_X11_why⟩, rfl, hd_X11_why⟩
theorem cd_X12_why : Cond.code yX12_why cX12_why 2 (some .int) ∈ TT := tt8 137 (by decide +kernel) rfl
theorem im_X12_why : Cond.instanceMethod yX12_why ∈ TT := tt8 135 (by decide +kernel) rfl
theorem se_X12_why : Cond.selects RX12 yX12_why yX12_why ∈ TT := tt8 136 (by decide +kernel) rfl
theorem hd_X12_why : yX12_why.cls ≠ "java/lang/invoke/MethodHandle" ∧ yX12_why.cls ≠ "java/lang/invoke/VarHandle" ∧ (parseMethodDescriptor yX12_why.desc).map (fun d => d.parameters.length) = some 1 := by decide +kernel
theorem ml_L_175 : Cond.methodLink RL 175 yX12_why ∈ TT := tt8 134 (by decide +kernel) rfl
theorem mw_L_175 : mwV RL 175 RX12 yX12_why cX12_why 2 (some .int) 1 := ⟨⟨ml_L_175, im_X12_why, se_X12_why, in_X12, cd_X12_why⟩, rfl, hd_X12_why⟩
theorem cd_X11_run : Cond.code yX11_run cX11_run 5 (some .int) ∈ TT := tt5 184 (by decide +kernel) rfl
theorem im_X11_run : Cond.instanceMethod yX11_run ∈ TT := tt5 182 (by decide +kernel) rfl
theorem se_X11_run : Cond.selects RX11 yX11_run yX11_run ∈ TT := tt5 183 (by decide +kernel) rfl
theorem hd_X11_run : yX11_run.cls ≠ "java/lang/invoke/MethodHandle" ∧ yX11_run.cls ≠ "java/lang/invoke/VarHandle" ∧ (parseMethodDescriptor yX11_run.desc).map (fun d => d.parameters.length) = some 1 := by decide +kernel
theorem ml_L_176 : Cond.methodLink RL 176 yX11_run ∈ TT := tt5 181 (by decide +kernel) rfl
theorem mw_L_176 : mwV RL 176 RX11 yX11_run cX11_run 5 (some .int) 1 := ⟨⟨ml_L_176, im_X11_run, se_X11_run, in_X11, cd_X11_run⟩, rfl, hd_X11_run⟩
theorem cd_X12_run : Cond.code yX12_run cX12_run 6 (some .int) ∈ TT := tt8 141 (by decide +kernel) rfl
theorem im_X12_run : Cond.instanceMethod yX12_run ∈ TT := tt8 139 (by decide +kernel) rfl
theorem se_X12_run : Cond.selects RX12 yX12_run yX12_run ∈ TT := tt8 140 (by decide +kernel) rfl
theorem hd_X12_run : yX12_run.cls ≠ "java/lang/invoke/MethodHandle" ∧ yX12_run.cls ≠ "java/lang/invoke/VarHandle" ∧ (parseMethodDescriptor yX12_run.desc).map (fun d => d.parameters.length) = some 1 := by decide +kernel
theorem ml_L_180 : Cond.methodLink RL 180 yX12_run ∈ TT := tt8 138 (by decide +kernel) rfl
theorem mw_L_180 : mwV RL 180 RX12 yX12_run cX12_run 6 (some .int) 1 := ⟨⟨ml_L_180, im_X12_run, se_X12_run, in_X12, cd_X12_run⟩, rfl, hd_X12_run⟩
theorem cd_X11_ended : Cond.code yX11_ended cX11_ended 2 (some .int) ∈ TT := tt5 210 (by decide +kernel) rfl
theorem im_X11_ended : Cond.instanceMethod yX11_ended ∈ TT := tt5 208 (by decide +kernel) rfl
theorem se_X11_ended : Cond.selects RX11 yX11_ended yX11_ended ∈ TT := tt5 209 (by decide +kernel) rfl
theorem hd_X11_ended : yX11_ended.cls ≠ "java/lang/invoke/MethodHandle" ∧ yX11_ended.cls ≠ "java/lang/invoke/VarHandle" ∧ (parseMethodDescriptor yX11_ended.desc).map (fun d => d.parameters.length) = some 1 := by decide +kernel
theorem ml_L_181 : Cond.methodLink RL 181 yX11_ended ∈ TT := tt5 207 (by decide +kernel) rfl
theorem mw_L_181 : mwV RL 181 RX11 yX11_ended cX11_ended 2 (some .int) 1 := ⟨⟨ml_L_181, im_X11_ended, se_X11_ended, in_X11, cd_X11_ended⟩, rfl, hd_X11_ended⟩
theorem cd_X12_ended : Cond.code yX12_ended cX12_ended 2 (some .int) ∈ TT := tt8 162 (by decide +kernel) rfl
theorem im_X12_ended : Cond.instanceMethod yX12_ended ∈ TT := tt8 160 (by decide +kernel) rfl
theorem se_X12_ended : Cond.selects RX12 yX12_ended yX12_ended ∈ TT := tt8 161 (by decide +kernel) rfl
theorem hd_X12_ended : yX12_ended.cls ≠ "java/lang/invoke/MethodHandle" ∧ yX12_ended.cls ≠ "java/lang/invoke/VarHandle" ∧ (parseMethodDescriptor yX12_ended.desc).map (fun d => d.parameters.length) = some 1 := by decide +kernel
theorem ml_L_184 : Cond.methodLink RL 184 yX12_ended ∈ TT := tt8 159 (by decide +kernel) rfl
theorem mw_L_184 : mwV RL 184 RX12 yX12_ended cX12_ended 2 (some .int) 1 := ⟨⟨ml_L_184, im_X12_ended, se_X12_ended, in_X12, cd_X12_ended⟩, rfl, hd_X12_ended⟩
theorem cd_X11_fetched : Cond.code yX11_fetched cX11_fetched 3 (some .int) ∈ TT := tt5 214 (by decide +kernel) rfl
theorem im_X11_fetched : Cond.instanceMethod yX11_fetched ∈ TT := tt5 212 (by decide +kernel) rfl
theorem se_X11_fetched : Cond.selects RX11 yX11_fetched yX11_fetched ∈ TT := tt5 213 (by decide +kernel) rfl
theorem hd_X11_fetched : yX11_fetched.cls ≠ "java/lang/invoke/MethodHandle" ∧ yX11_fetched.cls ≠ "java/lang/invoke/VarHandle" ∧ (parseMethodDescriptor yX11_fetched.desc).map (fun d => d.parameters.length) = some 2 := by decide +kernel
theorem ml_L_185 : Cond.methodLink RL 185 yX11_fetched ∈ TT := tt5 211 (by decide +kernel) rfl
theorem mw_L_185 : mwV RL 185 RX11 yX11_fetched cX11_fetched 3 (some .int) 2 := ⟨⟨ml_L_185, im_X11_fetched, se_X11_fetched, in_X11, cd_X11_fetched⟩, rfl, hd_X11_fetched⟩
theorem cd_X12_fetched : Cond.code yX12_fetched cX12_fetched 3 (some .int) ∈ TT := tt8 166 (by decide +kernel) rfl
theorem im_X12_fetched : Cond.instanceMethod yX12_fetched ∈ TT := tt8 164 (by decide +kernel) rfl
theorem se_X12_fetched : Cond.selects RX12 yX12_fetched yX12_fetched ∈ TT := tt8 165 (by decide +kernel) rfl
theorem hd_X12_fetched : yX12_fetched.cls ≠ "java/lang/invoke/MethodHandle" ∧ yX12_fetched.cls ≠ "java/lang/invoke/VarHandle" ∧ (parseMethodDescriptor yX12_fetched.desc).map (fun d => d.parameters.length) = some 2 := by decide +kernel
theorem ml_L_188 : Cond.methodLink RL 188 yX12_fetched ∈ TT := tt8 163 (by decide +kernel) rfl
theorem mw_L_188 : mwV RL 188 RX12 yX12_fetched cX12_fetched 3 (some .int) 2 := ⟨⟨ml_L_188, im_X12_fetched, se_X12_fetched, in_X12, cd_X12_fetched⟩, rfl, hd_X12_fetched⟩
theorem cd_X11_best : Cond.code yX11_best cX11_best 9 (some .int) ∈ TT := tt5 239 (by decide +kernel) rfl
theorem im_X11_best : Cond.instanceMethod yX11_best ∈ TT := tt5 237 (by decide +kernel) rfl
theorem se_X11_best : Cond.selects RX11 yX11_best yX11_best ∈ TT := tt5 238 (by decide +kernel) rfl
theorem hd_X11_best : yX11_best.cls ≠ "java/lang/invoke/MethodHandle" ∧ yX11_best.cls ≠ "java/lang/invoke/VarHandle" ∧ (parseMethodDescriptor yX11_best.desc).map (fun d => d.parameters.length) = some 3 := by decide +kernel
theorem ml_L_189 : Cond.methodLink RL 189 yX11_best ∈ TT := tt5 236 (by decide +kernel) rfl
theorem mw_L_189 : mwV RL 189 RX11 yX11_best cX11_best 9 (some .int) 3 := ⟨⟨ml_L_189, im_X11_best, se_X11_best, in_X11, cd_X11_best⟩, rfl, hd_X11_best⟩
theorem cd_X12_best : Cond.code yX12_best cX12_best 9 (some .int) ∈ TT := tt8 179 (by decide +kernel) rfl
theorem im_X12_best : Cond.instanceMethod yX12_best ∈ TT := tt8 177 (by decide +kernel) rfl
theorem se_X12_best : Cond.selects RX12 yX12_best yX12_best ∈ TT := tt8 178 (by decide +kernel) rfl
theorem hd_X12_best : yX12_best.cls ≠ "java/lang/invoke/MethodHandle" ∧ yX12_best.cls ≠ "java/lang/invoke/VarHandle" ∧ (parseMethodDescriptor yX12_best.desc).map (fun d => d.parameters.length) = some 3 := by decide +kernel
theorem ml_L_192 : Cond.methodLink RL 192 yX12_best ∈ TT := tt8 176 (by decide +kernel) rfl
theorem mw_L_192 : mwV RL 192 RX12 yX12_best cX12_best 9 (some .int) 3 := ⟨⟨ml_L_192, im_X12_best, se_X12_best, in_X12, cd_X12_best⟩, rfl, hd_X12_best⟩
theorem cd_X11_lines : Cond.code yX11_lines cX11_lines 1 (some .int) ∈ TT := tt6 23 (by decide +kernel) rfl
theorem im_X11_lines : Cond.instanceMethod yX11_lines ∈ TT := tt6 21 (by decide +kernel) rfl
theorem se_X11_lines : Cond.selects RX11 yX11_lines yX11_lines ∈ TT := tt6 22 (by decide +kernel) rfl
theorem hd_X11_lines : yX11_lines.cls ≠ "java/lang/invoke/MethodHandle" ∧ yX11_lines.cls ≠ "java/lang/invoke/VarHandle" ∧ (parseMethodDescriptor yX11_lines.desc).map (fun d => d.parameters.length) = some 0 := by decide +kernel
theorem ml_L_193 : Cond.methodLink RL 193 yX11_lines ∈ TT := tt6 20 (by decide +kernel) rfl
theorem mw_L_193 : mwV RL 193 RX11 yX11_lines cX11_lines 1 (some .int) 0 := ⟨⟨ml_L_193, im_X11_lines, se_X11_lines, in_X11, cd_X11_lines⟩, rfl, hd_X11_lines⟩
theorem cd_X12_lines : Cond.code yX12_lines cX12_lines 1 (some .int) ∈ TT := tt8 187 (by decide +kernel) rfl
theorem im_X12_lines : Cond.instanceMethod yX12_lines ∈ TT := tt8 185 (by decide +kernel) rfl
theorem se_X12_lines : Cond.selects RX12 yX12_lines yX12_lines ∈ TT := tt8 186 (by decide +kernel) rfl
theorem hd_X12_lines : yX12_lines.cls ≠ "java/lang/invoke/MethodHandle" ∧ yX12_lines.cls ≠ "java/lang/invoke/VarHandle" ∧ (parseMethodDescriptor yX12_lines.desc).map (fun d => d.parameters.length) = some 0 := by decide +kernel
theorem ml_L_196 : Cond.methodLink RL 196 yX12_lines ∈ TT := tt8 184 (by decide +kernel) rfl
theorem mw_L_196 : mwV RL 196 RX12 yX12_lines cX12_lines 1 (some .int) 0 := ⟨⟨ml_L_196, im_X12_lines, se_X12_lines, in_X12, cd_X12_lines⟩, rfl, hd_X12_lines⟩
theorem cd_X11_written : Cond.code yX11_written cX11_written 3 (some .int) ∈ TT := tt6 40 (by decide +kernel) rfl
theorem im_X11_written : Cond.instanceMethod yX11_written ∈ TT := tt6 38 (by decide +kernel) rfl
theorem se_X11_written : Cond.selects RX11 yX11_written yX11_written ∈ TT := tt6 39 (by decide +kernel) rfl
theorem hd_X11_written : yX11_written.cls ≠ "java/lang/invoke/MethodHandle" ∧ yX11_written.cls ≠ "java/lang/invoke/VarHandle" ∧ (parseMethodDescriptor yX11_written.desc).map (fun d => d.parameters.length) = some 2 := by decide +kernel
theorem ml_L_197 : Cond.methodLink RL 197 yX11_written ∈ TT := tt6 37 (by decide +kernel) rfl
theorem mw_L_197 : mwV RL 197 RX11 yX11_written cX11_written 3 (some .int) 2 := ⟨⟨ml_L_197, im_X11_written, se_X11_written, in_X11, cd_X11_written⟩, rfl, hd_X11_written⟩
theorem cd_X12_written : Cond.code yX12_written cX12_written 6 (some .int) ∈ TT := tt8 199 (by decide +kernel) rfl
theorem im_X12_written : Cond.instanceMethod yX12_written ∈ TT := tt8 197 (by decide +kernel) rfl
theorem se_X12_written : Cond.selects RX12 yX12_written yX12_written ∈ TT := tt8 198 (by decide +kernel) rfl
theorem hd_X12_written : yX12_written.cls ≠ "java/lang/invoke/MethodHandle" ∧ yX12_written.cls ≠ "java/lang/invoke/VarHandle" ∧ (parseMethodDescriptor yX12_written.desc).map (fun d => d.parameters.length) = some 2 := by decide +kernel
theorem ml_L_200 : Cond.methodLink RL 200 yX12_written ∈ TT := tt8 196 (by decide +kernel) rfl
theorem mw_L_200 : mwV RL 200 RX12 yX12_written cX12_written 6 (some .int) 2 := ⟨⟨ml_L_200, im_X12_written, se_X12_written, in_X12, cd_X12_written⟩, rfl, hd_X12_written⟩
theorem cd_X11_count : Cond.code yX11_count cX11_count 2 (some .int) ∈ TT := tt6 48 (by decide +kernel) rfl
theorem im_X11_count : Cond.instanceMethod yX11_count ∈ TT := tt6 46 (by decide +kernel) rfl
theorem se_X11_count : Cond.selects RX11 yX11_count yX11_count ∈ TT := tt6 47 (by decide +kernel) rfl
theorem hd_X11_count : yX11_count.cls ≠ "java/lang/invoke/MethodHandle" ∧ yX11_count.cls ≠ "java/lang/invoke/VarHandle" ∧ (parseMethodDescriptor yX11_count.desc).map (fun d => d.parameters.length) = some 1 := by decide +kernel
theorem ml_L_201 : Cond.methodLink RL 201 yX11_count ∈ TT := tt6 45 (by decide +kernel) rfl
theorem mw_L_201 : mwV RL 201 RX11 yX11_count cX11_count 2 (some .int) 1 := ⟨⟨ml_L_201, im_X11_count, se_X11_count, in_X11, cd_X11_count⟩, rfl, hd_X11_count⟩
theorem cd_X12_count : Cond.code yX12_count cX12_count 2 (some .int) ∈ TT := tt8 204 (by decide +kernel) rfl
theorem im_X12_count : Cond.instanceMethod yX12_count ∈ TT := tt8 202 (by decide +kernel) rfl
theorem se_X12_count : Cond.selects RX12 yX12_count yX12_count ∈ TT := tt8 203 (by decide +kernel) rfl
theorem hd_X12_count : yX12_count.cls ≠ "java/lang/invoke/MethodHandle" ∧ yX12_count.cls ≠ "java/lang/invoke/VarHandle" ∧ (parseMethodDescriptor yX12_count.desc).map (fun d => d.parameters.length) = some 1 := by decide +kernel
theorem ml_L_204 : Cond.methodLink RL 204 yX12_count ∈ TT := tt8 201 (by decide +kernel) rfl
theorem mw_L_204 : mwV RL 204 RX12 yX12_count cX12_count 2 (some .int) 1 := ⟨⟨ml_L_204, im_X12_count, se_X12_count, in_X12, cd_X12_count⟩, rfl, hd_X12_count⟩
theorem cd_X11_finding : Cond.code yX11_finding cX11_finding 1 (some .int) ∈ TT := tt6 52 (by decide +kernel) rfl
theorem im_X11_finding : Cond.instanceMethod yX11_finding ∈ TT := tt6 50 (by decide +kernel) rfl
theorem se_X11_finding : Cond.selects RX11 yX11_finding yX11_finding ∈ TT := tt6 51 (by decide +kernel) rfl
theorem hd_X11_finding : yX11_finding.cls ≠ "java/lang/invoke/MethodHandle" ∧ yX11_finding.cls ≠ "java/lang/invoke/VarHandle" ∧ (parseMethodDescriptor yX11_finding.desc).map (fun d => d.parameters.length) = some 0 := by decide +kernel
theorem ml_L_205 : Cond.methodLink RL 205 yX11_finding ∈ TT := tt6 49 (by decide +kernel) rfl
theorem mw_L_205 : mwV RL 205 RX11 yX11_finding cX11_finding 1 (some .int) 0 := ⟨⟨ml_L_205, im_X11_finding, se_X11_finding, in_X11, cd_X11_finding⟩, rfl, hd_X11_finding⟩
theorem cd_X12_finding : Cond.code yX12_finding cX12_finding 1 (some .int) ∈ TT := tt7 28 (by decide +kernel) rfl
theorem im_X12_finding : Cond.instanceMethod yX12_finding ∈ TT := tt7 26 (by decide +kernel) rfl
theorem se_X12_finding : Cond.selects RX12 yX12_finding yX12_finding ∈ TT := tt7 27 (by decide +kernel) rfl
theorem hd_X12_finding : yX12_finding.cls ≠ "java/lang/invoke/MethodHandle" ∧ yX12_finding.cls ≠ "java/lang/invoke/VarHandle" ∧ (parseMethodDescriptor yX12_finding.desc).map (fun d => d.parameters.length) = some 0 := by decide +kernel
theorem ml_L_208 : Cond.methodLink RL 208 yX12_finding ∈ TT := tt7 25 (by decide +kernel) rfl
theorem mw_L_208 : mwV RL 208 RX12 yX12_finding cX12_finding 1 (some .int) 0 := ⟨⟨ml_L_208, im_X12_finding, se_X12_finding, in_X12, cd_X12_finding⟩, rfl, hd_X12_finding⟩
theorem cd_X11_findings : Cond.code yX11_findings cX11_findings 2 (some .int) ∈ TT := tt6 56 (by decide +kernel) rfl
theorem im_X11_findings : Cond.instanceMethod yX11_findings ∈ TT := tt6 54 (by decide +kernel) rfl
theorem se_X11_findings : Cond.selects RX11 yX11_findings yX11_findings ∈ TT := tt6 55 (by decide +kernel) rfl
theorem hd_X11_findings : yX11_findings.cls ≠ "java/lang/invoke/MethodHandle" ∧ yX11_findings.cls ≠ "java/lang/invoke/VarHandle" ∧ (parseMethodDescriptor yX11_findings.desc).map (fun d => d.parameters.length) = some 1 := by decide +kernel
theorem ml_L_209 : Cond.methodLink RL 209 yX11_findings ∈ TT := tt6 53 (by decide +kernel) rfl
theorem mw_L_209 : mwV RL 209 RX11 yX11_findings cX11_findings 2 (some .int) 1 := ⟨⟨ml_L_209, im_X11_findings, se_X11_findings, in_X11, cd_X11_findings⟩, rfl, hd_X11_findings⟩
theorem cd_X12_findings : Cond.code yX12_findings cX12_findings 2 (some .int) ∈ TT := tt7 32 (by decide +kernel) rfl
theorem im_X12_findings : Cond.instanceMethod yX12_findings ∈ TT := tt7 30 (by decide +kernel) rfl
theorem se_X12_findings : Cond.selects RX12 yX12_findings yX12_findings ∈ TT := tt7 31 (by decide +kernel) rfl
theorem hd_X12_findings : yX12_findings.cls ≠ "java/lang/invoke/MethodHandle" ∧ yX12_findings.cls ≠ "java/lang/invoke/VarHandle" ∧ (parseMethodDescriptor yX12_findings.desc).map (fun d => d.parameters.length) = some 1 := by decide +kernel
theorem ml_L_212 : Cond.methodLink RL 212 yX12_findings ∈ TT := tt7 29 (by decide +kernel) rfl
theorem mw_L_212 : mwV RL 212 RX12 yX12_findings cX12_findings 2 (some .int) 1 := ⟨⟨ml_L_212, im_X12_findings, se_X12_findings, in_X12, cd_X12_findings⟩, rfl, hd_X12_findings⟩
theorem cd_X11_digest : Cond.code yX11_digest cX11_digest 5 (some .long) ∈ TT := tt6 60 (by decide +kernel) rfl
theorem im_X11_digest : Cond.instanceMethod yX11_digest ∈ TT := tt6 58 (by decide +kernel) rfl
theorem se_X11_digest : Cond.selects RX11 yX11_digest yX11_digest ∈ TT := tt6 59 (by decide +kernel) rfl
theorem hd_X11_digest : yX11_digest.cls ≠ "java/lang/invoke/MethodHandle" ∧ yX11_digest.cls ≠ "java/lang/invoke/VarHandle" ∧ (parseMethodDescriptor yX11_digest.desc).map (fun d => d.parameters.length) = some 0 := by decide +kernel
theorem ml_L_213 : Cond.methodLink RL 213 yX11_digest ∈ TT := tt6 57 (by decide +kernel) rfl
theorem mw_L_213 : mwV RL 213 RX11 yX11_digest cX11_digest 5 (some .long) 0 := ⟨⟨ml_L_213, im_X11_digest, se_X11_digest, in_X11, cd_X11_digest⟩, rfl, hd_X11_digest⟩
theorem cd_X12_digest : Cond.code yX12_digest cX12_digest 7 (some .long) ∈ TT := tt8 208 (by decide +kernel) rfl
theorem im_X12_digest : Cond.instanceMethod yX12_digest ∈ TT := tt8 206 (by decide +kernel) rfl
theorem se_X12_digest : Cond.selects RX12 yX12_digest yX12_digest ∈ TT := tt8 207 (by decide +kernel) rfl
theorem hd_X12_digest : yX12_digest.cls ≠ "java/lang/invoke/MethodHandle" ∧ yX12_digest.cls ≠ "java/lang/invoke/VarHandle" ∧ (parseMethodDescriptor yX12_digest.desc).map (fun d => d.parameters.length) = some 0 := by decide +kernel
theorem ml_L_216 : Cond.methodLink RL 216 yX12_digest ∈ TT := tt8 205 (by decide +kernel) rfl
theorem mw_L_216 : mwV RL 216 RX12 yX12_digest cX12_digest 7 (some .long) 0 := ⟨⟨ml_L_216, im_X12_digest, se_X12_digest, in_X12, cd_X12_digest⟩, rfl, hd_X12_digest⟩
theorem cd_X12_in : Cond.code yX12_in cX12_in 6 (some .boolean) ∈ TT := tt7 36 (by decide +kernel) rfl
theorem st_X12_in : Cond.static yX12_in ∈ TT := tt7 35 (by decide +kernel) rfl
theorem hd_X12_in : yX12_in.cls ≠ "java/lang/invoke/MethodHandle" ∧ yX12_in.cls ≠ "java/lang/invoke/VarHandle" ∧ (parseMethodDescriptor yX12_in.desc).map (fun d => d.parameters.length) = some 3 := by decide +kernel
theorem ml_X12_154 : Cond.methodLink RX12 154 yX12_in ∈ TT := tt7 34 (by decide +kernel) rfl
theorem mw_X12_154 : mwS RX12 154 yX12_in cX12_in 6 (some .boolean) 3 := ⟨⟨ml_X12_154, st_X12_in, in_X12, cd_X12_in⟩, hd_X12_in⟩
theorem cd_X12_isLoop : Cond.code yX12_isLoop cX12_isLoop 2 (some .boolean) ∈ TT := tt7 78 (by decide +kernel) rfl
theorem im_X12_isLoop : Cond.instanceMethod yX12_isLoop ∈ TT := tt7 77 (by decide +kernel) rfl
theorem se_X12_isLoop : Cond.selects RX12 yX12_isLoop yX12_isLoop ∈ TT := tt_s 53 (by decide +kernel) rfl
theorem hd_X12_isLoop : yX12_isLoop.cls ≠ "java/lang/invoke/MethodHandle" ∧ yX12_isLoop.cls ≠ "java/lang/invoke/VarHandle" ∧ (parseMethodDescriptor yX12_isLoop.desc).map (fun d => d.parameters.length) = some 1 := by decide +kernel
theorem ml_X12_173 : Cond.methodLink RX12 173 yX12_isLoop ∈ TT := tt7 75 (by decide +kernel) rfl
theorem mw_X12_173 : mwV RX12 173 RX12 yX12_isLoop cX12_isLoop 2 (some .boolean) 1 := ⟨⟨ml_X12_173, im_X12_isLoop, se_X12_isLoop, in_X12, cd_X12_isLoop⟩, rfl, hd_X12_isLoop⟩
theorem cd_X12_isNode : Cond.code yX12_isNode cX12_isNode 2 (some .boolean) ∈ TT := tt7 66 (by decide +kernel) rfl
theorem im_X12_isNode : Cond.instanceMethod yX12_isNode ∈ TT := tt7 65 (by decide +kernel) rfl
theorem se_X12_isNode : Cond.selects RX12 yX12_isNode yX12_isNode ∈ TT := tt_s 50 (by decide +kernel) rfl
theorem hd_X12_isNode : yX12_isNode.cls ≠ "java/lang/invoke/MethodHandle" ∧ yX12_isNode.cls ≠ "java/lang/invoke/VarHandle" ∧ (parseMethodDescriptor yX12_isNode.desc).map (fun d => d.parameters.length) = some 1 := by decide +kernel
theorem ml_X12_177 : Cond.methodLink RX12 177 yX12_isNode ∈ TT := tt7 63 (by decide +kernel) rfl
theorem mw_X12_177 : mwV RX12 177 RX12 yX12_isNode cX12_isNode 2 (some .boolean) 1 := ⟨⟨ml_X12_177, im_X12_isNode, se_X12_isNode, in_X12, cd_X12_isNode⟩, rfl, hd_X12_isNode⟩
theorem cd_X12_depthIn : Cond.code yX12_depthIn cX12_depthIn 2 (some .int) ∈ TT := tt7 74 (by decide +kernel) rfl
theorem im_X12_depthIn : Cond.instanceMethod yX12_depthIn ∈ TT := tt7 73 (by decide +kernel) rfl
theorem se_X12_depthIn : Cond.selects RX12 yX12_depthIn yX12_depthIn ∈ TT := tt_s 52 (by decide +kernel) rfl
theorem hd_X12_depthIn : yX12_depthIn.cls ≠ "java/lang/invoke/MethodHandle" ∧ yX12_depthIn.cls ≠ "java/lang/invoke/VarHandle" ∧ (parseMethodDescriptor yX12_depthIn.desc).map (fun d => d.parameters.length) = some 1 := by decide +kernel
theorem ml_X12_180 : Cond.methodLink RX12 180 yX12_depthIn ∈ TT := tt7 71 (by decide +kernel) rfl
theorem mw_X12_180 : mwV RX12 180 RX12 yX12_depthIn cX12_depthIn 2 (some .int) 1 := ⟨⟨ml_X12_180, im_X12_depthIn, se_X12_depthIn, in_X12, cd_X12_depthIn⟩, rfl, hd_X12_depthIn⟩
theorem cd_X12_firstOrders : Cond.code yX12_firstOrders cX12_firstOrders 4 none ∈ TT := tt7 90 (by decide +kernel) rfl
theorem im_X12_firstOrders : Cond.instanceMethod yX12_firstOrders ∈ TT := tt7 89 (by decide +kernel) rfl
theorem se_X12_firstOrders : Cond.selects RX12 yX12_firstOrders yX12_firstOrders ∈ TT := tt_s 56 (by decide +kernel) rfl
theorem hd_X12_firstOrders : yX12_firstOrders.cls ≠ "java/lang/invoke/MethodHandle" ∧ yX12_firstOrders.cls ≠ "java/lang/invoke/VarHandle" ∧ (parseMethodDescriptor yX12_firstOrders.desc).map (fun d => d.parameters.length) = some 0 := by decide +kernel
theorem ml_X12_184 : Cond.methodLink RX12 184 yX12_firstOrders ∈ TT := tt7 87 (by decide +kernel) rfl
theorem mw_X12_184 : mwV RX12 184 RX12 yX12_firstOrders cX12_firstOrders 4 none 0 := ⟨⟨ml_X12_184, im_X12_firstOrders, se_X12_firstOrders, in_X12, cd_X12_firstOrders⟩, rfl, hd_X12_firstOrders⟩
theorem cd_X12_mayHold : Cond.code yX12_mayHold cX12_mayHold 2 (some .boolean) ∈ TT := tt7 62 (by decide +kernel) rfl
theorem im_X12_mayHold : Cond.instanceMethod yX12_mayHold ∈ TT := tt7 61 (by decide +kernel) rfl
theorem se_X12_mayHold : Cond.selects RX12 yX12_mayHold yX12_mayHold ∈ TT := tt_s 49 (by decide +kernel) rfl
theorem hd_X12_mayHold : yX12_mayHold.cls ≠ "java/lang/invoke/MethodHandle" ∧ yX12_mayHold.cls ≠ "java/lang/invoke/VarHandle" ∧ (parseMethodDescriptor yX12_mayHold.desc).map (fun d => d.parameters.length) = some 1 := by decide +kernel
theorem ml_X12_187 : Cond.methodLink RX12 187 yX12_mayHold ∈ TT := tt7 59 (by decide +kernel) rfl
theorem mw_X12_187 : mwV RX12 187 RX12 yX12_mayHold cX12_mayHold 2 (some .boolean) 1 := ⟨⟨ml_X12_187, im_X12_mayHold, se_X12_mayHold, in_X12, cd_X12_mayHold⟩, rfl, hd_X12_mayHold⟩
theorem cd_X12_isSum : Cond.code yX12_isSum cX12_isSum 2 (some .boolean) ∈ TT := tt7 70 (by decide +kernel) rfl
theorem im_X12_isSum : Cond.instanceMethod yX12_isSum ∈ TT := tt7 69 (by decide +kernel) rfl
theorem se_X12_isSum : Cond.selects RX12 yX12_isSum yX12_isSum ∈ TT := tt_s 51 (by decide +kernel) rfl
theorem hd_X12_isSum : yX12_isSum.cls ≠ "java/lang/invoke/MethodHandle" ∧ yX12_isSum.cls ≠ "java/lang/invoke/VarHandle" ∧ (parseMethodDescriptor yX12_isSum.desc).map (fun d => d.parameters.length) = some 1 := by decide +kernel
theorem ml_X12_190 : Cond.methodLink RX12 190 yX12_isSum ∈ TT := tt7 67 (by decide +kernel) rfl
theorem mw_X12_190 : mwV RX12 190 RX12 yX12_isSum cX12_isSum 2 (some .boolean) 1 := ⟨⟨ml_X12_190, im_X12_isSum, se_X12_isSum, in_X12, cd_X12_isSum⟩, rfl, hd_X12_isSum⟩
theorem cd_X12_hasLetters : Cond.code yX12_hasLetters cX12_hasLetters 5 (some .boolean) ∈ TT := tt7 82 (by decide +kernel) rfl
theorem im_X12_hasLetters : Cond.instanceMethod yX12_hasLetters ∈ TT := tt7 81 (by decide +kernel) rfl
theorem se_X12_hasLetters : Cond.selects RX12 yX12_hasLetters yX12_hasLetters ∈ TT := tt_s 54 (by decide +kernel) rfl
theorem hd_X12_hasLetters : yX12_hasLetters.cls ≠ "java/lang/invoke/MethodHandle" ∧ yX12_hasLetters.cls ≠ "java/lang/invoke/VarHandle" ∧ (parseMethodDescriptor yX12_hasLetters.desc).map (fun d => d.parameters.length) = some 2 := by decide +kernel
theorem ml_X12_193 : Cond.methodLink RX12 193 yX12_hasLetters ∈ TT := tt7 79 (by decide +kernel) rfl
theorem mw_X12_193 : mwV RX12 193 RX12 yX12_hasLetters cX12_hasLetters 5 (some .boolean) 2 := ⟨⟨ml_X12_193, im_X12_hasLetters, se_X12_hasLetters, in_X12, cd_X12_hasLetters⟩, rfl, hd_X12_hasLetters⟩
theorem cd_X12_makeNode : Cond.code yX12_makeNode cX12_makeNode 6 (some .int) ∈ TT := tt7 86 (by decide +kernel) rfl
theorem im_X12_makeNode : Cond.instanceMethod yX12_makeNode ∈ TT := tt7 85 (by decide +kernel) rfl
theorem se_X12_makeNode : Cond.selects RX12 yX12_makeNode yX12_makeNode ∈ TT := tt_s 55 (by decide +kernel) rfl
theorem hd_X12_makeNode : yX12_makeNode.cls ≠ "java/lang/invoke/MethodHandle" ∧ yX12_makeNode.cls ≠ "java/lang/invoke/VarHandle" ∧ (parseMethodDescriptor yX12_makeNode.desc).map (fun d => d.parameters.length) = some 4 := by decide +kernel
theorem ml_X12_197 : Cond.methodLink RX12 197 yX12_makeNode ∈ TT := tt7 83 (by decide +kernel) rfl
theorem mw_X12_197 : mwV RX12 197 RX12 yX12_makeNode cX12_makeNode 6 (some .int) 4 := ⟨⟨ml_X12_197, im_X12_makeNode, se_X12_makeNode, in_X12, cd_X12_makeNode⟩, rfl, hd_X12_makeNode⟩
theorem cd_X12_meets : Cond.code yX12_meets cX12_meets 2 (some .int) ∈ TT := tt7 117 (by decide +kernel) rfl
theorem im_X12_meets : Cond.instanceMethod yX12_meets ∈ TT := tt7 116 (by decide +kernel) rfl
theorem se_X12_meets : Cond.selects RX12 yX12_meets yX12_meets ∈ TT := tt_s 59 (by decide +kernel) rfl
theorem hd_X12_meets : yX12_meets.cls ≠ "java/lang/invoke/MethodHandle" ∧ yX12_meets.cls ≠ "java/lang/invoke/VarHandle" ∧ (parseMethodDescriptor yX12_meets.desc).map (fun d => d.parameters.length) = some 1 := by decide +kernel
theorem ml_X12_207 : Cond.methodLink RX12 207 yX12_meets ∈ TT := tt7 114 (by decide +kernel) rfl
theorem mw_X12_207 : mwV RX12 207 RX12 yX12_meets cX12_meets 2 (some .int) 1 := ⟨⟨ml_X12_207, im_X12_meets, se_X12_meets, in_X12, cd_X12_meets⟩, rfl, hd_X12_meets⟩
theorem cd_X12_isArray : Cond.code yX12_isArray cX12_isArray 2 (some .boolean) ∈ TT := tt7 155 (by decide +kernel) rfl
theorem im_X12_isArray : Cond.instanceMethod yX12_isArray ∈ TT := tt7 154 (by decide +kernel) rfl
theorem se_X12_isArray : Cond.selects RX12 yX12_isArray yX12_isArray ∈ TT := tt_s 60 (by decide +kernel) rfl
theorem hd_X12_isArray : yX12_isArray.cls ≠ "java/lang/invoke/MethodHandle" ∧ yX12_isArray.cls ≠ "java/lang/invoke/VarHandle" ∧ (parseMethodDescriptor yX12_isArray.desc).map (fun d => d.parameters.length) = some 1 := by decide +kernel
theorem ml_X12_214 : Cond.methodLink RX12 214 yX12_isArray ∈ TT := tt7 152 (by decide +kernel) rfl
theorem mw_X12_214 : mwV RX12 214 RX12 yX12_isArray cX12_isArray 2 (some .boolean) 1 := ⟨⟨ml_X12_214, im_X12_isArray, se_X12_isArray, in_X12, cd_X12_isArray⟩, rfl, hd_X12_isArray⟩
theorem cd_X12_lacks : Cond.code yX12_lacks cX12_lacks 7 (some .int) ∈ TT := tt7 167 (by decide +kernel) rfl
theorem im_X12_lacks : Cond.instanceMethod yX12_lacks ∈ TT := tt7 166 (by decide +kernel) rfl
theorem se_X12_lacks : Cond.selects RX12 yX12_lacks yX12_lacks ∈ TT := tt_s 61 (by decide +kernel) rfl
theorem hd_X12_lacks : yX12_lacks.cls ≠ "java/lang/invoke/MethodHandle" ∧ yX12_lacks.cls ≠ "java/lang/invoke/VarHandle" ∧ (parseMethodDescriptor yX12_lacks.desc).map (fun d => d.parameters.length) = some 3 := by decide +kernel
theorem ml_X12_217 : Cond.methodLink RX12 217 yX12_lacks ∈ TT := tt7 164 (by decide +kernel) rfl
theorem mw_X12_217 : mwV RX12 217 RX12 yX12_lacks cX12_lacks 7 (some .int) 3 := ⟨⟨ml_X12_217, im_X12_lacks, se_X12_lacks, in_X12, cd_X12_lacks⟩, rfl, hd_X12_lacks⟩
theorem cd_X12_at : Cond.code yX12_at cX12_at 6 (some .int) ∈ TT := tt7 171 (by decide +kernel) rfl
theorem im_X12_at : Cond.instanceMethod yX12_at ∈ TT := tt7 170 (by decide +kernel) rfl
theorem se_X12_at : Cond.selects RX12 yX12_at yX12_at ∈ TT := tt_s 62 (by decide +kernel) rfl
theorem hd_X12_at : yX12_at.cls ≠ "java/lang/invoke/MethodHandle" ∧ yX12_at.cls ≠ "java/lang/invoke/VarHandle" ∧ (parseMethodDescriptor yX12_at.desc).map (fun d => d.parameters.length) = some 3 := by decide +kernel
theorem ml_X12_221 : Cond.methodLink RX12 221 yX12_at ∈ TT := tt7 168 (by decide +kernel) rfl
theorem mw_X12_221 : mwV RX12 221 RX12 yX12_at cX12_at 6 (some .int) 3 := ⟨⟨ml_X12_221, im_X12_at, se_X12_at, in_X12, cd_X12_at⟩, rfl, hd_X12_at⟩
theorem cd_X12_cut : Cond.code yX12_cut cX12_cut 3 (some .long) ∈ TT := tt7 174 (by decide +kernel) rfl
theorem st_X12_cut : Cond.static yX12_cut ∈ TT := tt7 173 (by decide +kernel) rfl
theorem hd_X12_cut : yX12_cut.cls ≠ "java/lang/invoke/MethodHandle" ∧ yX12_cut.cls ≠ "java/lang/invoke/VarHandle" ∧ (parseMethodDescriptor yX12_cut.desc).map (fun d => d.parameters.length) = some 2 := by decide +kernel
theorem ml_X12_224 : Cond.methodLink RX12 224 yX12_cut ∈ TT := tt7 172 (by decide +kernel) rfl
theorem mw_X12_224 : mwS RX12 224 yX12_cut cX12_cut 3 (some .long) 2 := ⟨⟨ml_X12_224, st_X12_cut, in_X12, cd_X12_cut⟩, hd_X12_cut⟩
theorem cd_X12_nextIn : Cond.code yX12_nextIn cX12_nextIn 4 (some .int) ∈ TT := tt7 194 (by decide +kernel) rfl
theorem im_X12_nextIn : Cond.instanceMethod yX12_nextIn ∈ TT := tt7 193 (by decide +kernel) rfl
theorem se_X12_nextIn : Cond.selects RX12 yX12_nextIn yX12_nextIn ∈ TT := tt_s 64 (by decide +kernel) rfl
theorem hd_X12_nextIn : yX12_nextIn.cls ≠ "java/lang/invoke/MethodHandle" ∧ yX12_nextIn.cls ≠ "java/lang/invoke/VarHandle" ∧ (parseMethodDescriptor yX12_nextIn.desc).map (fun d => d.parameters.length) = some 2 := by decide +kernel
theorem ml_X12_242 : Cond.methodLink RX12 242 yX12_nextIn ∈ TT := tt7 191 (by decide +kernel) rfl
theorem mw_X12_242 : mwV RX12 242 RX12 yX12_nextIn cX12_nextIn 4 (some .int) 2 := ⟨⟨ml_X12_242, im_X12_nextIn, se_X12_nextIn, in_X12, cd_X12_nextIn⟩, rfl, hd_X12_nextIn⟩
theorem cd_X12_see : Cond.code yX12_see cX12_see 3 none ∈ TT := tt7 198 (by decide +kernel) rfl
theorem im_X12_see : Cond.instanceMethod yX12_see ∈ TT := tt7 197 (by decide +kernel) rfl
theorem se_X12_see : Cond.selects RX12 yX12_see yX12_see ∈ TT := tt_s 65 (by decide +kernel) rfl
theorem hd_X12_see : yX12_see.cls ≠ "java/lang/invoke/MethodHandle" ∧ yX12_see.cls ≠ "java/lang/invoke/VarHandle" ∧ (parseMethodDescriptor yX12_see.desc).map (fun d => d.parameters.length) = some 1 := by decide +kernel
theorem ml_X12_246 : Cond.methodLink RX12 246 yX12_see ∈ TT := tt7 195 (by decide +kernel) rfl
theorem mw_X12_246 : mwV RX12 246 RX12 yX12_see cX12_see 3 none 1 := ⟨⟨ml_X12_246, im_X12_see, se_X12_see, in_X12, cd_X12_see⟩, rfl, hd_X12_see⟩
theorem cd_X12_valueOf : Cond.code yX12_valueOf cX12_valueOf 5 (some .long) ∈ TT := tt7 202 (by decide +kernel) rfl
theorem im_X12_valueOf : Cond.instanceMethod yX12_valueOf ∈ TT := tt7 201 (by decide +kernel) rfl
theorem se_X12_valueOf : Cond.selects RX12 yX12_valueOf yX12_valueOf ∈ TT := tt_s 66 (by decide +kernel) rfl
theorem hd_X12_valueOf : yX12_valueOf.cls ≠ "java/lang/invoke/MethodHandle" ∧ yX12_valueOf.cls ≠ "java/lang/invoke/VarHandle" ∧ (parseMethodDescriptor yX12_valueOf.desc).map (fun d => d.parameters.length) = some 1 := by decide +kernel
theorem ml_X12_250 : Cond.methodLink RX12 250 yX12_valueOf ∈ TT := tt7 199 (by decide +kernel) rfl
theorem mw_X12_250 : mwV RX12 250 RX12 yX12_valueOf cX12_valueOf 5 (some .long) 1 := ⟨⟨ml_X12_250, im_X12_valueOf, se_X12_valueOf, in_X12, cd_X12_valueOf⟩, rfl, hd_X12_valueOf⟩
theorem cd_X12_turns : Cond.code yX12_turns cX12_turns 3 (some .boolean) ∈ TT := tt7 206 (by decide +kernel) rfl
theorem im_X12_turns : Cond.instanceMethod yX12_turns ∈ TT := tt7 205 (by decide +kernel) rfl
theorem se_X12_turns : Cond.selects RX12 yX12_turns yX12_turns ∈ TT := tt_s 67 (by decide +kernel) rfl
theorem hd_X12_turns : yX12_turns.cls ≠ "java/lang/invoke/MethodHandle" ∧ yX12_turns.cls ≠ "java/lang/invoke/VarHandle" ∧ (parseMethodDescriptor yX12_turns.desc).map (fun d => d.parameters.length) = some 1 := by decide +kernel
theorem ml_X12_254 : Cond.methodLink RX12 254 yX12_turns ∈ TT := tt7 203 (by decide +kernel) rfl
theorem mw_X12_254 : mwV RX12 254 RX12 yX12_turns cX12_turns 3 (some .boolean) 1 := ⟨⟨ml_X12_254, im_X12_turns, se_X12_turns, in_X12, cd_X12_turns⟩, rfl, hd_X12_turns⟩
theorem cd_X12_closeLoop : Cond.code yX12_closeLoop cX12_closeLoop 2 none ∈ TT := tt7 210 (by decide +kernel) rfl
theorem im_X12_closeLoop : Cond.instanceMethod yX12_closeLoop ∈ TT := tt7 209 (by decide +kernel) rfl
theorem se_X12_closeLoop : Cond.selects RX12 yX12_closeLoop yX12_closeLoop ∈ TT := tt_s 68 (by decide +kernel) rfl
theorem hd_X12_closeLoop : yX12_closeLoop.cls ≠ "java/lang/invoke/MethodHandle" ∧ yX12_closeLoop.cls ≠ "java/lang/invoke/VarHandle" ∧ (parseMethodDescriptor yX12_closeLoop.desc).map (fun d => d.parameters.length) = some 1 := by decide +kernel
theorem ml_X12_257 : Cond.methodLink RX12 257 yX12_closeLoop ∈ TT := tt7 207 (by decide +kernel) rfl
theorem mw_X12_257 : mwV RX12 257 RX12 yX12_closeLoop cX12_closeLoop 2 none 1 := ⟨⟨ml_X12_257, im_X12_closeLoop, se_X12_closeLoop, in_X12, cd_X12_closeLoop⟩, rfl, hd_X12_closeLoop⟩
theorem cd_X12_lettersOf : Cond.code yX12_lettersOf cX12_lettersOf 3 none ∈ TT := tt8 6 (by decide +kernel) rfl
theorem im_X12_lettersOf : Cond.instanceMethod yX12_lettersOf ∈ TT := tt8 5 (by decide +kernel) rfl
theorem se_X12_lettersOf : Cond.selects RX12 yX12_lettersOf yX12_lettersOf ∈ TT := tt_s 72 (by decide +kernel) rfl
theorem hd_X12_lettersOf : yX12_lettersOf.cls ≠ "java/lang/invoke/MethodHandle" ∧ yX12_lettersOf.cls ≠ "java/lang/invoke/VarHandle" ∧ (parseMethodDescriptor yX12_lettersOf.desc).map (fun d => d.parameters.length) = some 1 := by decide +kernel
theorem ml_X12_260 : Cond.methodLink RX12 260 yX12_lettersOf ∈ TT := tt8 3 (by decide +kernel) rfl
theorem mw_X12_260 : mwV RX12 260 RX12 yX12_lettersOf cX12_lettersOf 3 none 1 := ⟨⟨ml_X12_260, im_X12_lettersOf, se_X12_lettersOf, in_X12, cd_X12_lettersOf⟩, rfl, hd_X12_lettersOf⟩
theorem cd_X12_hasAim : Cond.code yX12_hasAim cX12_hasAim 3 (some .boolean) ∈ TT := tt8 10 (by decide +kernel) rfl
theorem im_X12_hasAim : Cond.instanceMethod yX12_hasAim ∈ TT := tt8 9 (by decide +kernel) rfl
theorem se_X12_hasAim : Cond.selects RX12 yX12_hasAim yX12_hasAim ∈ TT := tt_s 73 (by decide +kernel) rfl
theorem hd_X12_hasAim : yX12_hasAim.cls ≠ "java/lang/invoke/MethodHandle" ∧ yX12_hasAim.cls ≠ "java/lang/invoke/VarHandle" ∧ (parseMethodDescriptor yX12_hasAim.desc).map (fun d => d.parameters.length) = some 2 := by decide +kernel
theorem ml_X12_263 : Cond.methodLink RX12 263 yX12_hasAim ∈ TT := tt8 7 (by decide +kernel) rfl
theorem mw_X12_263 : mwV RX12 263 RX12 yX12_hasAim cX12_hasAim 3 (some .boolean) 2 := ⟨⟨ml_X12_263, im_X12_hasAim, se_X12_hasAim, in_X12, cd_X12_hasAim⟩, rfl, hd_X12_hasAim⟩
theorem cd_X12_isOne : Cond.code yX12_isOne cX12_isOne 5 (some .boolean) ∈ TT := tt8 18 (by decide +kernel) rfl
theorem im_X12_isOne : Cond.instanceMethod yX12_isOne ∈ TT := tt8 17 (by decide +kernel) rfl
theorem se_X12_isOne : Cond.selects RX12 yX12_isOne yX12_isOne ∈ TT := tt_s 75 (by decide +kernel) rfl
theorem hd_X12_isOne : yX12_isOne.cls ≠ "java/lang/invoke/MethodHandle" ∧ yX12_isOne.cls ≠ "java/lang/invoke/VarHandle" ∧ (parseMethodDescriptor yX12_isOne.desc).map (fun d => d.parameters.length) = some 4 := by decide +kernel
theorem ml_X12_266 : Cond.methodLink RX12 266 yX12_isOne ∈ TT := tt8 15 (by decide +kernel) rfl
theorem mw_X12_266 : mwV RX12 266 RX12 yX12_isOne cX12_isOne 5 (some .boolean) 4 := ⟨⟨ml_X12_266, im_X12_isOne, se_X12_isOne, in_X12, cd_X12_isOne⟩, rfl, hd_X12_isOne⟩
theorem cd_X12_loopOf : Cond.code yX12_loopOf cX12_loopOf 4 (some .int) ∈ TT := tt8 30 (by decide +kernel) rfl
theorem im_X12_loopOf : Cond.instanceMethod yX12_loopOf ∈ TT := tt8 29 (by decide +kernel) rfl
theorem se_X12_loopOf : Cond.selects RX12 yX12_loopOf yX12_loopOf ∈ TT := tt_s 77 (by decide +kernel) rfl
theorem hd_X12_loopOf : yX12_loopOf.cls ≠ "java/lang/invoke/MethodHandle" ∧ yX12_loopOf.cls ≠ "java/lang/invoke/VarHandle" ∧ (parseMethodDescriptor yX12_loopOf.desc).map (fun d => d.parameters.length) = some 2 := by decide +kernel
theorem ml_X12_270 : Cond.methodLink RX12 270 yX12_loopOf ∈ TT := tt8 27 (by decide +kernel) rfl
theorem mw_X12_270 : mwV RX12 270 RX12 yX12_loopOf cX12_loopOf 4 (some .int) 2 := ⟨⟨ml_X12_270, im_X12_loopOf, se_X12_loopOf, in_X12, cd_X12_loopOf⟩, rfl, hd_X12_loopOf⟩
theorem cd_X12_walk : Cond.code yX12_walk cX12_walk 5 (some .boolean) ∈ TT := tt7 190 (by decide +kernel) rfl
theorem im_X12_walk : Cond.instanceMethod yX12_walk ∈ TT := tt7 189 (by decide +kernel) rfl
theorem se_X12_walk : Cond.selects RX12 yX12_walk yX12_walk ∈ TT := tt_s 63 (by decide +kernel) rfl
theorem hd_X12_walk : yX12_walk.cls ≠ "java/lang/invoke/MethodHandle" ∧ yX12_walk.cls ≠ "java/lang/invoke/VarHandle" ∧ (parseMethodDescriptor yX12_walk.desc).map (fun d => d.parameters.length) = some 0 := by decide +kernel
theorem ml_X12_273 : Cond.methodLink RX12 273 yX12_walk ∈ TT := tt7 187 (by decide +kernel) rfl
theorem mw_X12_273 : mwV RX12 273 RX12 yX12_walk cX12_walk 5 (some .boolean) 0 := ⟨⟨ml_X12_273, im_X12_walk, se_X12_walk, in_X12, cd_X12_walk⟩, rfl, hd_X12_walk⟩
theorem cd_X12_layOrder : Cond.code yX12_layOrder cX12_layOrder 8 none ∈ TT := tt7 218 (by decide +kernel) rfl
theorem im_X12_layOrder : Cond.instanceMethod yX12_layOrder ∈ TT := tt7 217 (by decide +kernel) rfl
theorem se_X12_layOrder : Cond.selects RX12 yX12_layOrder yX12_layOrder ∈ TT := tt_s 69 (by decide +kernel) rfl
theorem hd_X12_layOrder : yX12_layOrder.cls ≠ "java/lang/invoke/MethodHandle" ∧ yX12_layOrder.cls ≠ "java/lang/invoke/VarHandle" ∧ (parseMethodDescriptor yX12_layOrder.desc).map (fun d => d.parameters.length) = some 0 := by decide +kernel
theorem ml_X12_277 : Cond.methodLink RX12 277 yX12_layOrder ∈ TT := tt7 215 (by decide +kernel) rfl
theorem mw_X12_277 : mwV RX12 277 RX12 yX12_layOrder cX12_layOrder 8 none 0 := ⟨⟨ml_X12_277, im_X12_layOrder, se_X12_layOrder, in_X12, cd_X12_layOrder⟩, rfl, hd_X12_layOrder⟩
theorem cd_X12_touchAll : Cond.code yX12_touchAll cX12_touchAll 3 none ∈ TT := tt8 2 (by decide +kernel) rfl
theorem im_X12_touchAll : Cond.instanceMethod yX12_touchAll ∈ TT := tt8 1 (by decide +kernel) rfl
theorem se_X12_touchAll : Cond.selects RX12 yX12_touchAll yX12_touchAll ∈ TT := tt_s 71 (by decide +kernel) rfl
theorem hd_X12_touchAll : yX12_touchAll.cls ≠ "java/lang/invoke/MethodHandle" ∧ yX12_touchAll.cls ≠ "java/lang/invoke/VarHandle" ∧ (parseMethodDescriptor yX12_touchAll.desc).map (fun d => d.parameters.length) = some 0 := by decide +kernel
theorem ml_X12_282 : Cond.methodLink RX12 282 yX12_touchAll ∈ TT := tt7 239 (by decide +kernel) rfl
theorem mw_X12_282 : mwV RX12 282 RX12 yX12_touchAll cX12_touchAll 3 none 0 := ⟨⟨ml_X12_282, im_X12_touchAll, se_X12_touchAll, in_X12, cd_X12_touchAll⟩, rfl, hd_X12_touchAll⟩
theorem cd_X12_isNeed : Cond.code yX12_isNeed cX12_isNeed 4 (some .boolean) ∈ TT := tt8 14 (by decide +kernel) rfl
theorem im_X12_isNeed : Cond.instanceMethod yX12_isNeed ∈ TT := tt8 13 (by decide +kernel) rfl
theorem se_X12_isNeed : Cond.selects RX12 yX12_isNeed yX12_isNeed ∈ TT := tt_s 74 (by decide +kernel) rfl
theorem hd_X12_isNeed : yX12_isNeed.cls ≠ "java/lang/invoke/MethodHandle" ∧ yX12_isNeed.cls ≠ "java/lang/invoke/VarHandle" ∧ (parseMethodDescriptor yX12_isNeed.desc).map (fun d => d.parameters.length) = some 3 := by decide +kernel
theorem ml_X12_285 : Cond.methodLink RX12 285 yX12_isNeed ∈ TT := tt8 11 (by decide +kernel) rfl
theorem mw_X12_285 : mwV RX12 285 RX12 yX12_isNeed cX12_isNeed 4 (some .boolean) 3 := ⟨⟨ml_X12_285, im_X12_isNeed, se_X12_isNeed, in_X12, cd_X12_isNeed⟩, rfl, hd_X12_isNeed⟩
theorem cd_X12_carrier : Cond.code yX12_carrier cX12_carrier 5 (some .int) ∈ TT := tt8 26 (by decide +kernel) rfl
theorem im_X12_carrier : Cond.instanceMethod yX12_carrier ∈ TT := tt8 25 (by decide +kernel) rfl
theorem se_X12_carrier : Cond.selects RX12 yX12_carrier yX12_carrier ∈ TT := tt_s 76 (by decide +kernel) rfl
theorem hd_X12_carrier : yX12_carrier.cls ≠ "java/lang/invoke/MethodHandle" ∧ yX12_carrier.cls ≠ "java/lang/invoke/VarHandle" ∧ (parseMethodDescriptor yX12_carrier.desc).map (fun d => d.parameters.length) = some 2 := by decide +kernel
theorem ml_X12_289 : Cond.methodLink RX12 289 yX12_carrier ∈ TT := tt8 23 (by decide +kernel) rfl
theorem mw_X12_289 : mwV RX12 289 RX12 yX12_carrier cX12_carrier 5 (some .int) 2 := ⟨⟨ml_X12_289, im_X12_carrier, se_X12_carrier, in_X12, cd_X12_carrier⟩, rfl, hd_X12_carrier⟩
theorem cd_X12_isIn : Cond.code yX12_isIn cX12_isIn 4 (some .boolean) ∈ TT := tt8 42 (by decide +kernel) rfl
theorem im_X12_isIn : Cond.instanceMethod yX12_isIn ∈ TT := tt8 41 (by decide +kernel) rfl
theorem se_X12_isIn : Cond.selects RX12 yX12_isIn yX12_isIn ∈ TT := tt_s 78 (by decide +kernel) rfl
theorem hd_X12_isIn : yX12_isIn.cls ≠ "java/lang/invoke/MethodHandle" ∧ yX12_isIn.cls ≠ "java/lang/invoke/VarHandle" ∧ (parseMethodDescriptor yX12_isIn.desc).map (fun d => d.parameters.length) = some 2 := by decide +kernel
theorem ml_X12_292 : Cond.methodLink RX12 292 yX12_isIn ∈ TT := tt8 39 (by decide +kernel) rfl
theorem mw_X12_292 : mwV RX12 292 RX12 yX12_isIn cX12_isIn 4 (some .boolean) 2 := ⟨⟨ml_X12_292, im_X12_isIn, se_X12_isIn, in_X12, cd_X12_isIn⟩, rfl, hd_X12_isIn⟩
theorem cd_X12_rowAt : Cond.code yX12_rowAt cX12_rowAt 2 (some .int) ∈ TT := tt7 101 (by decide +kernel) rfl
theorem st_X12_rowAt : Cond.static yX12_rowAt ∈ TT := tt7 100 (by decide +kernel) rfl
theorem hd_X12_rowAt : yX12_rowAt.cls ≠ "java/lang/invoke/MethodHandle" ∧ yX12_rowAt.cls ≠ "java/lang/invoke/VarHandle" ∧ (parseMethodDescriptor yX12_rowAt.desc).map (fun d => d.parameters.length) = some 2 := by decide +kernel
theorem ml_X12_295 : Cond.methodLink RX12 295 yX12_rowAt ∈ TT := tt7 99 (by decide +kernel) rfl
theorem mw_X12_295 : mwS RX12 295 yX12_rowAt cX12_rowAt 2 (some .int) 2 := ⟨⟨ml_X12_295, st_X12_rowAt, in_X12, cd_X12_rowAt⟩, hd_X12_rowAt⟩
theorem cd_X12_placeOf : Cond.code yX12_placeOf cX12_placeOf 4 (some .int) ∈ TT := tt7 94 (by decide +kernel) rfl
theorem im_X12_placeOf : Cond.instanceMethod yX12_placeOf ∈ TT := tt7 93 (by decide +kernel) rfl
theorem se_X12_placeOf : Cond.selects RX12 yX12_placeOf yX12_placeOf ∈ TT := tt_s 57 (by decide +kernel) rfl
theorem hd_X12_placeOf : yX12_placeOf.cls ≠ "java/lang/invoke/MethodHandle" ∧ yX12_placeOf.cls ≠ "java/lang/invoke/VarHandle" ∧ (parseMethodDescriptor yX12_placeOf.desc).map (fun d => d.parameters.length) = some 2 := by decide +kernel
theorem ml_X12_301 : Cond.methodLink RX12 301 yX12_placeOf ∈ TT := tt7 91 (by decide +kernel) rfl
theorem mw_X12_301 : mwV RX12 301 RX12 yX12_placeOf cX12_placeOf 4 (some .int) 2 := ⟨⟨ml_X12_301, im_X12_placeOf, se_X12_placeOf, in_X12, cd_X12_placeOf⟩, rfl, hd_X12_placeOf⟩
theorem cd_X12_setRow : Cond.code yX12_setRow cX12_setRow 7 none ∈ TT := tt7 98 (by decide +kernel) rfl
theorem im_X12_setRow : Cond.instanceMethod yX12_setRow ∈ TT := tt7 97 (by decide +kernel) rfl
theorem se_X12_setRow : Cond.selects RX12 yX12_setRow yX12_setRow ∈ TT := tt_s 58 (by decide +kernel) rfl
theorem hd_X12_setRow : yX12_setRow.cls ≠ "java/lang/invoke/MethodHandle" ∧ yX12_setRow.cls ≠ "java/lang/invoke/VarHandle" ∧ (parseMethodDescriptor yX12_setRow.desc).map (fun d => d.parameters.length) = some 4 := by decide +kernel
theorem ml_X12_304 : Cond.methodLink RX12 304 yX12_setRow ∈ TT := tt7 95 (by decide +kernel) rfl
theorem mw_X12_304 : mwV RX12 304 RX12 yX12_setRow cX12_setRow 7 none 4 := ⟨⟨ml_X12_304, im_X12_setRow, se_X12_setRow, in_X12, cd_X12_setRow⟩, rfl, hd_X12_setRow⟩
theorem cd_X12_isActIn : Cond.code yX12_isActIn cX12_isActIn 3 (some .boolean) ∈ TT := tt8 58 (by decide +kernel) rfl
theorem im_X12_isActIn : Cond.instanceMethod yX12_isActIn ∈ TT := tt8 57 (by decide +kernel) rfl
theorem se_X12_isActIn : Cond.selects RX12 yX12_isActIn yX12_isActIn ∈ TT := tt_s 81 (by decide +kernel) rfl
theorem hd_X12_isActIn : yX12_isActIn.cls ≠ "java/lang/invoke/MethodHandle" ∧ yX12_isActIn.cls ≠ "java/lang/invoke/VarHandle" ∧ (parseMethodDescriptor yX12_isActIn.desc).map (fun d => d.parameters.length) = some 2 := by decide +kernel
theorem ml_X12_311 : Cond.methodLink RX12 311 yX12_isActIn ∈ TT := tt8 55 (by decide +kernel) rfl
theorem mw_X12_311 : mwV RX12 311 RX12 yX12_isActIn cX12_isActIn 3 (some .boolean) 2 := ⟨⟨ml_X12_311, im_X12_isActIn, se_X12_isActIn, in_X12, cd_X12_isActIn⟩, rfl, hd_X12_isActIn⟩
theorem cd_X12_loopRow : Cond.code yX12_loopRow cX12_loopRow 4 (some .int) ∈ TT := tt8 62 (by decide +kernel) rfl
theorem im_X12_loopRow : Cond.instanceMethod yX12_loopRow ∈ TT := tt8 61 (by decide +kernel) rfl
theorem se_X12_loopRow : Cond.selects RX12 yX12_loopRow yX12_loopRow ∈ TT := tt_s 82 (by decide +kernel) rfl
theorem hd_X12_loopRow : yX12_loopRow.cls ≠ "java/lang/invoke/MethodHandle" ∧ yX12_loopRow.cls ≠ "java/lang/invoke/VarHandle" ∧ (parseMethodDescriptor yX12_loopRow.desc).map (fun d => d.parameters.length) = some 2 := by decide +kernel
theorem ml_X12_314 : Cond.methodLink RX12 314 yX12_loopRow ∈ TT := tt8 59 (by decide +kernel) rfl
theorem mw_X12_314 : mwV RX12 314 RX12 yX12_loopRow cX12_loopRow 4 (some .int) 2 := ⟨⟨ml_X12_314, im_X12_loopRow, se_X12_loopRow, in_X12, cd_X12_loopRow⟩, rfl, hd_X12_loopRow⟩
theorem cd_X12_keepTried : Cond.code yX12_keepTried cX12_keepTried 2 none ∈ TT := tt8 50 (by decide +kernel) rfl
theorem im_X12_keepTried : Cond.instanceMethod yX12_keepTried ∈ TT := tt8 49 (by decide +kernel) rfl
theorem se_X12_keepTried : Cond.selects RX12 yX12_keepTried yX12_keepTried ∈ TT := tt_s 79 (by decide +kernel) rfl
theorem hd_X12_keepTried : yX12_keepTried.cls ≠ "java/lang/invoke/MethodHandle" ∧ yX12_keepTried.cls ≠ "java/lang/invoke/VarHandle" ∧ (parseMethodDescriptor yX12_keepTried.desc).map (fun d => d.parameters.length) = some 0 := by decide +kernel
theorem ml_X12_317 : Cond.methodLink RX12 317 yX12_keepTried ∈ TT := tt8 47 (by decide +kernel) rfl
theorem mw_X12_317 : mwV RX12 317 RX12 yX12_keepTried cX12_keepTried 2 none 0 := ⟨⟨ml_X12_317, im_X12_keepTried, se_X12_keepTried, in_X12, cd_X12_keepTried⟩, rfl, hd_X12_keepTried⟩
theorem cd_X12_swapRows : Cond.code yX12_swapRows cX12_swapRows 9 none ∈ TT := tt8 54 (by decide +kernel) rfl
theorem im_X12_swapRows : Cond.instanceMethod yX12_swapRows ∈ TT := tt8 53 (by decide +kernel) rfl
theorem se_X12_swapRows : Cond.selects RX12 yX12_swapRows yX12_swapRows ∈ TT := tt_s 80 (by decide +kernel) rfl
theorem hd_X12_swapRows : yX12_swapRows.cls ≠ "java/lang/invoke/MethodHandle" ∧ yX12_swapRows.cls ≠ "java/lang/invoke/VarHandle" ∧ (parseMethodDescriptor yX12_swapRows.desc).map (fun d => d.parameters.length) = some 2 := by decide +kernel
theorem ml_X12_320 : Cond.methodLink RX12 320 yX12_swapRows ∈ TT := tt8 51 (by decide +kernel) rfl
theorem mw_X12_320 : mwV RX12 320 RX12 yX12_swapRows cX12_swapRows 9 none 2 := ⟨⟨ml_X12_320, im_X12_swapRows, se_X12_swapRows, in_X12, cd_X12_swapRows⟩, rfl, hd_X12_swapRows⟩
theorem cd_X12_turned : Cond.code yX12_turned cX12_turned 2 (some .int) ∈ TT := tt8 66 (by decide +kernel) rfl
theorem im_X12_turned : Cond.instanceMethod yX12_turned ∈ TT := tt8 65 (by decide +kernel) rfl
theorem se_X12_turned : Cond.selects RX12 yX12_turned yX12_turned ∈ TT := tt_s 83 (by decide +kernel) rfl
theorem hd_X12_turned : yX12_turned.cls ≠ "java/lang/invoke/MethodHandle" ∧ yX12_turned.cls ≠ "java/lang/invoke/VarHandle" ∧ (parseMethodDescriptor yX12_turned.desc).map (fun d => d.parameters.length) = some 0 := by decide +kernel
theorem ml_X12_324 : Cond.methodLink RX12 324 yX12_turned ∈ TT := tt8 63 (by decide +kernel) rfl
theorem mw_X12_324 : mwV RX12 324 RX12 yX12_turned cX12_turned 2 (some .int) 0 := ⟨⟨ml_X12_324, im_X12_turned, se_X12_turned, in_X12, cd_X12_turned⟩, rfl, hd_X12_turned⟩
theorem cd_X12_fits : Cond.code yX12_fits cX12_fits 5 (some .boolean) ∈ TT := tt8 77 (by decide +kernel) rfl
theorem im_X12_fits : Cond.instanceMethod yX12_fits ∈ TT := tt8 76 (by decide +kernel) rfl
theorem se_X12_fits : Cond.selects RX12 yX12_fits yX12_fits ∈ TT := tt_s 84 (by decide +kernel) rfl
theorem hd_X12_fits : yX12_fits.cls ≠ "java/lang/invoke/MethodHandle" ∧ yX12_fits.cls ≠ "java/lang/invoke/VarHandle" ∧ (parseMethodDescriptor yX12_fits.desc).map (fun d => d.parameters.length) = some 2 := by decide +kernel
theorem ml_X12_332 : Cond.methodLink RX12 332 yX12_fits ∈ TT := tt8 74 (by decide +kernel) rfl
theorem mw_X12_332 : mwV RX12 332 RX12 yX12_fits cX12_fits 5 (some .boolean) 2 := ⟨⟨ml_X12_332, im_X12_fits, se_X12_fits, in_X12, cd_X12_fits⟩, rfl, hd_X12_fits⟩
theorem cd_X12_giveTried : Cond.code yX12_giveTried cX12_giveTried 2 none ∈ TT := tt8 82 (by decide +kernel) rfl
theorem im_X12_giveTried : Cond.instanceMethod yX12_giveTried ∈ TT := tt8 81 (by decide +kernel) rfl
theorem se_X12_giveTried : Cond.selects RX12 yX12_giveTried yX12_giveTried ∈ TT := tt_s 85 (by decide +kernel) rfl
theorem hd_X12_giveTried : yX12_giveTried.cls ≠ "java/lang/invoke/MethodHandle" ∧ yX12_giveTried.cls ≠ "java/lang/invoke/VarHandle" ∧ (parseMethodDescriptor yX12_giveTried.desc).map (fun d => d.parameters.length) = some 0 := by decide +kernel
theorem ml_X12_336 : Cond.methodLink RX12 336 yX12_giveTried ∈ TT := tt8 79 (by decide +kernel) rfl
theorem mw_X12_336 : mwV RX12 336 RX12 yX12_giveTried cX12_giveTried 2 none 0 := ⟨⟨ml_X12_336, im_X12_giveTried, se_X12_giveTried, in_X12, cd_X12_giveTried⟩, rfl, hd_X12_giveTried⟩
theorem cd_X12_turnBack : Cond.code yX12_turnBack cX12_turnBack 5 none ∈ TT := tt8 90 (by decide +kernel) rfl
theorem im_X12_turnBack : Cond.instanceMethod yX12_turnBack ∈ TT := tt8 89 (by decide +kernel) rfl
theorem se_X12_turnBack : Cond.selects RX12 yX12_turnBack yX12_turnBack ∈ TT := tt_s 86 (by decide +kernel) rfl
theorem hd_X12_turnBack : yX12_turnBack.cls ≠ "java/lang/invoke/MethodHandle" ∧ yX12_turnBack.cls ≠ "java/lang/invoke/VarHandle" ∧ (parseMethodDescriptor yX12_turnBack.desc).map (fun d => d.parameters.length) = some 1 := by decide +kernel
theorem ml_X12_339 : Cond.methodLink RX12 339 yX12_turnBack ∈ TT := tt8 87 (by decide +kernel) rfl
theorem mw_X12_339 : mwV RX12 339 RX12 yX12_turnBack cX12_turnBack 5 none 1 := ⟨⟨ml_X12_339, im_X12_turnBack, se_X12_turnBack, in_X12, cd_X12_turnBack⟩, rfl, hd_X12_turnBack⟩
theorem cd_X12_tiles : Cond.code yX12_tiles cX12_tiles 9 (some .boolean) ∈ TT := tt8 102 (by decide +kernel) rfl
theorem im_X12_tiles : Cond.instanceMethod yX12_tiles ∈ TT := tt8 101 (by decide +kernel) rfl
theorem se_X12_tiles : Cond.selects RX12 yX12_tiles yX12_tiles ∈ TT := tt_s 87 (by decide +kernel) rfl
theorem hd_X12_tiles : yX12_tiles.cls ≠ "java/lang/invoke/MethodHandle" ∧ yX12_tiles.cls ≠ "java/lang/invoke/VarHandle" ∧ (parseMethodDescriptor yX12_tiles.desc).map (fun d => d.parameters.length) = some 4 := by decide +kernel
theorem ml_X12_342 : Cond.methodLink RX12 342 yX12_tiles ∈ TT := tt8 99 (by decide +kernel) rfl
theorem mw_X12_342 : mwV RX12 342 RX12 yX12_tiles cX12_tiles 9 (some .boolean) 4 := ⟨⟨ml_X12_342, im_X12_tiles, se_X12_tiles, in_X12, cd_X12_tiles⟩, rfl, hd_X12_tiles⟩
theorem cd_X12_firstActIn : Cond.code yX12_firstActIn cX12_firstActIn 3 (some .int) ∈ TT := tt8 115 (by decide +kernel) rfl
theorem im_X12_firstActIn : Cond.instanceMethod yX12_firstActIn ∈ TT := tt8 114 (by decide +kernel) rfl
theorem se_X12_firstActIn : Cond.selects RX12 yX12_firstActIn yX12_firstActIn ∈ TT := tt_s 88 (by decide +kernel) rfl
theorem hd_X12_firstActIn : yX12_firstActIn.cls ≠ "java/lang/invoke/MethodHandle" ∧ yX12_firstActIn.cls ≠ "java/lang/invoke/VarHandle" ∧ (parseMethodDescriptor yX12_firstActIn.desc).map (fun d => d.parameters.length) = some 1 := by decide +kernel
theorem ml_X12_347 : Cond.methodLink RX12 347 yX12_firstActIn ∈ TT := tt8 112 (by decide +kernel) rfl
theorem mw_X12_347 : mwV RX12 347 RX12 yX12_firstActIn cX12_firstActIn 3 (some .int) 1 := ⟨⟨ml_X12_347, im_X12_firstActIn, se_X12_firstActIn, in_X12, cd_X12_firstActIn⟩, rfl, hd_X12_firstActIn⟩
theorem cd_X12_cutDown : Cond.code yX12_cutDown cX12_cutDown 5 (some .long) ∈ TT := tt7 221 (by decide +kernel) rfl
theorem st_X12_cutDown : Cond.static yX12_cutDown ∈ TT := tt7 220 (by decide +kernel) rfl
theorem hd_X12_cutDown : yX12_cutDown.cls ≠ "java/lang/invoke/MethodHandle" ∧ yX12_cutDown.cls ≠ "java/lang/invoke/VarHandle" ∧ (parseMethodDescriptor yX12_cutDown.desc).map (fun d => d.parameters.length) = some 2 := by decide +kernel
theorem ml_X12_353 : Cond.methodLink RX12 353 yX12_cutDown ∈ TT := tt7 219 (by decide +kernel) rfl
theorem mw_X12_353 : mwS RX12 353 yX12_cutDown cX12_cutDown 5 (some .long) 2 := ⟨⟨ml_X12_353, st_X12_cutDown, in_X12, cd_X12_cutDown⟩, hd_X12_cutDown⟩
theorem cd_X12_isAhead : Cond.code yX12_isAhead cX12_isAhead 6 (some .boolean) ∈ TT := tt7 225 (by decide +kernel) rfl
theorem im_X12_isAhead : Cond.instanceMethod yX12_isAhead ∈ TT := tt7 224 (by decide +kernel) rfl
theorem se_X12_isAhead : Cond.selects RX12 yX12_isAhead yX12_isAhead ∈ TT := tt_s 70 (by decide +kernel) rfl
theorem hd_X12_isAhead : yX12_isAhead.cls ≠ "java/lang/invoke/MethodHandle" ∧ yX12_isAhead.cls ≠ "java/lang/invoke/VarHandle" ∧ (parseMethodDescriptor yX12_isAhead.desc).map (fun d => d.parameters.length) = some 2 := by decide +kernel
theorem ml_X12_357 : Cond.methodLink RX12 357 yX12_isAhead ∈ TT := tt7 222 (by decide +kernel) rfl
theorem mw_X12_357 : mwV RX12 357 RX12 yX12_isAhead cX12_isAhead 6 (some .boolean) 2 := ⟨⟨ml_X12_357, im_X12_isAhead, se_X12_isAhead, in_X12, cd_X12_isAhead⟩, rfl, hd_X12_isAhead⟩
theorem cd_X12_isAllowed : Cond.code yX12_isAllowed cX12_isAllowed 4 (some .boolean) ∈ TT := tt8 133 (by decide +kernel) rfl
theorem im_X12_isAllowed : Cond.instanceMethod yX12_isAllowed ∈ TT := tt8 132 (by decide +kernel) rfl
theorem se_X12_isAllowed : Cond.selects RX12 yX12_isAllowed yX12_isAllowed ∈ TT := tt_s 89 (by decide +kernel) rfl
theorem hd_X12_isAllowed : yX12_isAllowed.cls ≠ "java/lang/invoke/MethodHandle" ∧ yX12_isAllowed.cls ≠ "java/lang/invoke/VarHandle" ∧ (parseMethodDescriptor yX12_isAllowed.desc).map (fun d => d.parameters.length) = some 0 := by decide +kernel
theorem ml_X12_369 : Cond.methodLink RX12 369 yX12_isAllowed ∈ TT := tt8 130 (by decide +kernel) rfl
theorem mw_X12_369 : mwV RX12 369 RX12 yX12_isAllowed cX12_isAllowed 4 (some .boolean) 0 := ⟨⟨ml_X12_369, im_X12_isAllowed, se_X12_isAllowed, in_X12, cd_X12_isAllowed⟩, rfl, hd_X12_isAllowed⟩
theorem cd_X12_meetsAt : Cond.code yX12_meetsAt cX12_meetsAt 4 (some .int) ∈ TT := tt8 149 (by decide +kernel) rfl
theorem im_X12_meetsAt : Cond.instanceMethod yX12_meetsAt ∈ TT := tt8 148 (by decide +kernel) rfl
theorem se_X12_meetsAt : Cond.selects RX12 yX12_meetsAt yX12_meetsAt ∈ TT := tt_s 91 (by decide +kernel) rfl
theorem hd_X12_meetsAt : yX12_meetsAt.cls ≠ "java/lang/invoke/MethodHandle" ∧ yX12_meetsAt.cls ≠ "java/lang/invoke/VarHandle" ∧ (parseMethodDescriptor yX12_meetsAt.desc).map (fun d => d.parameters.length) = some 2 := by decide +kernel
theorem ml_X12_378 : Cond.methodLink RX12 378 yX12_meetsAt ∈ TT := tt8 146 (by decide +kernel) rfl
theorem mw_X12_378 : mwV RX12 378 RX12 yX12_meetsAt cX12_meetsAt 4 (some .int) 2 := ⟨⟨ml_X12_378, im_X12_meetsAt, se_X12_meetsAt, in_X12, cd_X12_meetsAt⟩, rfl, hd_X12_meetsAt⟩
theorem cd_X12_placeAt : Cond.code yX12_placeAt cX12_placeAt 4 (some .int) ∈ TT := tt8 153 (by decide +kernel) rfl
theorem im_X12_placeAt : Cond.instanceMethod yX12_placeAt ∈ TT := tt8 152 (by decide +kernel) rfl
theorem se_X12_placeAt : Cond.selects RX12 yX12_placeAt yX12_placeAt ∈ TT := tt_s 92 (by decide +kernel) rfl
theorem hd_X12_placeAt : yX12_placeAt.cls ≠ "java/lang/invoke/MethodHandle" ∧ yX12_placeAt.cls ≠ "java/lang/invoke/VarHandle" ∧ (parseMethodDescriptor yX12_placeAt.desc).map (fun d => d.parameters.length) = some 2 := by decide +kernel
theorem ml_X12_381 : Cond.methodLink RX12 381 yX12_placeAt ∈ TT := tt8 150 (by decide +kernel) rfl
theorem mw_X12_381 : mwV RX12 381 RX12 yX12_placeAt cX12_placeAt 4 (some .int) 2 := ⟨⟨ml_X12_381, im_X12_placeAt, se_X12_placeAt, in_X12, cd_X12_placeAt⟩, rfl, hd_X12_placeAt⟩
theorem cd_X12_workedOut : Cond.code yX12_workedOut cX12_workedOut 3 (some .long) ∈ TT := tt8 157 (by decide +kernel) rfl
theorem im_X12_workedOut : Cond.instanceMethod yX12_workedOut ∈ TT := tt8 156 (by decide +kernel) rfl
theorem se_X12_workedOut : Cond.selects RX12 yX12_workedOut yX12_workedOut ∈ TT := tt_s 93 (by decide +kernel) rfl
theorem hd_X12_workedOut : yX12_workedOut.cls ≠ "java/lang/invoke/MethodHandle" ∧ yX12_workedOut.cls ≠ "java/lang/invoke/VarHandle" ∧ (parseMethodDescriptor yX12_workedOut.desc).map (fun d => d.parameters.length) = some 2 := by decide +kernel
theorem ml_X12_384 : Cond.methodLink RX12 384 yX12_workedOut ∈ TT := tt8 154 (by decide +kernel) rfl
theorem mw_X12_384 : mwV RX12 384 RX12 yX12_workedOut cX12_workedOut 3 (some .long) 2 := ⟨⟨ml_X12_384, im_X12_workedOut, se_X12_workedOut, in_X12, cd_X12_workedOut⟩, rfl, hd_X12_workedOut⟩
theorem cd_X12_doVisit : Cond.code yX12_doVisit cX12_doVisit 7 (some .int) ∈ TT := tt8 145 (by decide +kernel) rfl
theorem im_X12_doVisit : Cond.instanceMethod yX12_doVisit ∈ TT := tt8 144 (by decide +kernel) rfl
theorem se_X12_doVisit : Cond.selects RX12 yX12_doVisit yX12_doVisit ∈ TT := tt_s 90 (by decide +kernel) rfl
theorem hd_X12_doVisit : yX12_doVisit.cls ≠ "java/lang/invoke/MethodHandle" ∧ yX12_doVisit.cls ≠ "java/lang/invoke/VarHandle" ∧ (parseMethodDescriptor yX12_doVisit.desc).map (fun d => d.parameters.length) = some 1 := by decide +kernel
theorem ml_X12_390 : Cond.methodLink RX12 390 yX12_doVisit ∈ TT := tt8 142 (by decide +kernel) rfl
theorem mw_X12_390 : mwV RX12 390 RX12 yX12_doVisit cX12_doVisit 7 (some .int) 1 := ⟨⟨ml_X12_390, im_X12_doVisit, se_X12_doVisit, in_X12, cd_X12_doVisit⟩, rfl, hd_X12_doVisit⟩
theorem cd_X12_fetches : Cond.code yX12_fetches cX12_fetches 10 (some .boolean) ∈ TT := tt8 175 (by decide +kernel) rfl
theorem im_X12_fetches : Cond.instanceMethod yX12_fetches ∈ TT := tt8 174 (by decide +kernel) rfl
theorem se_X12_fetches : Cond.selects RX12 yX12_fetches yX12_fetches ∈ TT := tt_s 95 (by decide +kernel) rfl
theorem hd_X12_fetches : yX12_fetches.cls ≠ "java/lang/invoke/MethodHandle" ∧ yX12_fetches.cls ≠ "java/lang/invoke/VarHandle" ∧ (parseMethodDescriptor yX12_fetches.desc).map (fun d => d.parameters.length) = some 4 := by decide +kernel
theorem ml_X12_396 : Cond.methodLink RX12 396 yX12_fetches ∈ TT := tt8 172 (by decide +kernel) rfl
theorem mw_X12_396 : mwV RX12 396 RX12 yX12_fetches cX12_fetches 10 (some .boolean) 4 := ⟨⟨ml_X12_396, im_X12_fetches, se_X12_fetches, in_X12, cd_X12_fetches⟩, rfl, hd_X12_fetches⟩
theorem cd_X12_fetchedMany : Cond.code yX12_fetchedMany cX12_fetchedMany 9 (some .int) ∈ TT := tt8 171 (by decide +kernel) rfl
theorem im_X12_fetchedMany : Cond.instanceMethod yX12_fetchedMany ∈ TT := tt8 170 (by decide +kernel) rfl
theorem se_X12_fetchedMany : Cond.selects RX12 yX12_fetchedMany yX12_fetchedMany ∈ TT := tt_s 94 (by decide +kernel) rfl
theorem hd_X12_fetchedMany : yX12_fetchedMany.cls ≠ "java/lang/invoke/MethodHandle" ∧ yX12_fetchedMany.cls ≠ "java/lang/invoke/VarHandle" ∧ (parseMethodDescriptor yX12_fetchedMany.desc).map (fun d => d.parameters.length) = some 2 := by decide +kernel
theorem ml_X12_402 : Cond.methodLink RX12 402 yX12_fetchedMany ∈ TT := tt8 168 (by decide +kernel) rfl
theorem mw_X12_402 : mwV RX12 402 RX12 yX12_fetchedMany cX12_fetchedMany 9 (some .int) 2 := ⟨⟨ml_X12_402, im_X12_fetchedMany, se_X12_fetchedMany, in_X12, cd_X12_fetchedMany⟩, rfl, hd_X12_fetchedMany⟩
theorem cd_X12_make : Cond.code yX12_make cX12_make 3 none ∈ TT := tt8 183 (by decide +kernel) rfl
theorem im_X12_make : Cond.instanceMethod yX12_make ∈ TT := tt8 182 (by decide +kernel) rfl
theorem se_X12_make : Cond.selects RX12 yX12_make yX12_make ∈ TT := tt_s 96 (by decide +kernel) rfl
theorem hd_X12_make : yX12_make.cls ≠ "java/lang/invoke/MethodHandle" ∧ yX12_make.cls ≠ "java/lang/invoke/VarHandle" ∧ (parseMethodDescriptor yX12_make.desc).map (fun d => d.parameters.length) = some 2 := by decide +kernel
theorem ml_X12_405 : Cond.methodLink RX12 405 yX12_make ∈ TT := tt8 180 (by decide +kernel) rfl
theorem mw_X12_405 : mwV RX12 405 RX12 yX12_make cX12_make 3 none 2 := ⟨⟨ml_X12_405, im_X12_make, se_X12_make, in_X12, cd_X12_make⟩, rfl, hd_X12_make⟩
theorem cd_X12_goesOnWith : Cond.code yX12_goesOnWith cX12_goesOnWith 9 (some .boolean) ∈ TT := tt8 195 (by decide +kernel) rfl
theorem im_X12_goesOnWith : Cond.instanceMethod yX12_goesOnWith ∈ TT := tt8 194 (by decide +kernel) rfl
theorem se_X12_goesOnWith : Cond.selects RX12 yX12_goesOnWith yX12_goesOnWith ∈ TT := tt_s 98 (by decide +kernel) rfl
theorem hd_X12_goesOnWith : yX12_goesOnWith.cls ≠ "java/lang/invoke/MethodHandle" ∧ yX12_goesOnWith.cls ≠ "java/lang/invoke/VarHandle" ∧ (parseMethodDescriptor yX12_goesOnWith.desc).map (fun d => d.parameters.length) = some 2 := by decide +kernel
theorem ml_X12_411 : Cond.methodLink RX12 411 yX12_goesOnWith ∈ TT := tt8 192 (by decide +kernel) rfl
theorem mw_X12_411 : mwV RX12 411 RX12 yX12_goesOnWith cX12_goesOnWith 9 (some .boolean) 2 := ⟨⟨ml_X12_411, im_X12_goesOnWith, se_X12_goesOnWith, in_X12, cd_X12_goesOnWith⟩, rfl, hd_X12_goesOnWith⟩
theorem cd_X12_layLines : Cond.code yX12_layLines cX12_layLines 3 none ∈ TT := tt8 191 (by decide +kernel) rfl
theorem im_X12_layLines : Cond.instanceMethod yX12_layLines ∈ TT := tt8 190 (by decide +kernel) rfl
theorem se_X12_layLines : Cond.selects RX12 yX12_layLines yX12_layLines ∈ TT := tt_s 97 (by decide +kernel) rfl
theorem hd_X12_layLines : yX12_layLines.cls ≠ "java/lang/invoke/MethodHandle" ∧ yX12_layLines.cls ≠ "java/lang/invoke/VarHandle" ∧ (parseMethodDescriptor yX12_layLines.desc).map (fun d => d.parameters.length) = some 0 := by decide +kernel
theorem ml_X12_414 : Cond.methodLink RX12 414 yX12_layLines ∈ TT := tt8 188 (by decide +kernel) rfl
theorem mw_X12_414 : mwV RX12 414 RX12 yX12_layLines cX12_layLines 3 none 0 := ⟨⟨ml_X12_414, im_X12_layLines, se_X12_layLines, in_X12, cd_X12_layLines⟩, rfl, hd_X12_layLines⟩
theorem ml_X12_423 : Cond.methodLink RX12 423 yX12_node ∈ TT := tt8 211 (by decide +kernel) rfl
theorem mw_X12_423 : mwV RX12 423 RX12 yX12_node cX12_node 3 (some .int) 2 := ⟨⟨ml_X12_423, im_X12_node, se_X12_node, in_X12, cd_X12_node⟩, rfl, hd_X12_node⟩
theorem cd_J7_rangeCheck_23922 : Cond.code yJ7_rangeCheck_23922 cJ7_rangeCheck_23922 3 none ∈ TT := tt3 113 (by decide +kernel) rfl
theorem st_J7_rangeCheck_23922 : Cond.static yJ7_rangeCheck_23922 ∈ TT := tt3 112 (by decide +kernel) rfl
theorem hd_J7_rangeCheck_23922 : yJ7_rangeCheck_23922.cls ≠ "java/lang/invoke/MethodHandle" ∧ yJ7_rangeCheck_23922.cls ≠ "java/lang/invoke/VarHandle" ∧ (parseMethodDescriptor yJ7_rangeCheck_23922.desc).map (fun d => d.parameters.length) = some 3 := by decide +kernel
theorem ml_J7_13 : Cond.methodLink RJ7 13 yJ7_rangeCheck_23922 ∈ TT := tt3 111 (by decide +kernel) rfl
theorem mw_J7_13 : mwS RJ7 13 yJ7_rangeCheck_23922 cJ7_rangeCheck_23922 3 none 3 := ⟨⟨ml_J7_13, st_J7_rangeCheck_23922, in_J7, cd_J7_rangeCheck_23922⟩, hd_J7_rangeCheck_23922⟩
