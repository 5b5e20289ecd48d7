theorem g_sat_pt {α : Type} {c : Prop} [Decidable c] {a b : α} {P : α → Prop} (h : g_sat (some (if c then a else b)) P) (hc : c) : g_sat (some a) P := by rwa [if_pos hc] at h
theorem g_sat_pf {α : Type} {c : Prop} [Decidable c] {a b : α} {P : α → Prop} (h : g_sat (some (if c then a else b)) P) (hc : ¬ c) : g_sat (some b) P := by rwa [if_neg hc] at h
theorem g_tb1 (k : Nat) {w : Cond} (hk : tables_1_1[k]? = some w) (hg : goodWord w = true) : w ∈ g_T := by
  have h := List.mem_of_getElem? hk
  have h2 : w ∈ tables_1 := List.mem_append_left _ h
  exact List.mem_filter.mpr ⟨List.mem_append_right _ h2, hg⟩
theorem g_tb2 (k : Nat) {w : Cond} (hk : tables_1_2[k]? = some w) (hg : goodWord w = true) : w ∈ g_T := by
  have h := List.mem_of_getElem? hk
  have h2 : w ∈ tables_1 := List.mem_append_right _ (List.mem_append_left _ h)
  exact List.mem_filter.mpr ⟨List.mem_append_right _ h2, hg⟩
theorem g_tb3 (k : Nat) {w : Cond} (hk : tables_1_3[k]? = some w) (hg : goodWord w = true) : w ∈ g_T := by
  have h := List.mem_of_getElem? hk
  have h2 : w ∈ tables_1 := List.mem_append_right _ (List.mem_append_right _ (List.mem_append_left _ h))
  exact List.mem_filter.mpr ⟨List.mem_append_right _ h2, hg⟩
theorem g_tb4 (k : Nat) {w : Cond} (hk : tables_1_4[k]? = some w) (hg : goodWord w = true) : w ∈ g_T := by
  have h := List.mem_of_getElem? hk
  have h2 : w ∈ tables_1 := List.mem_append_right _ (List.mem_append_right _ (List.mem_append_right _ (List.mem_append_left _ h)))
  exact List.mem_filter.mpr ⟨List.mem_append_right _ h2, hg⟩
theorem g_tb5 (k : Nat) {w : Cond} (hk : tables_1_5[k]? = some w) (hg : goodWord w = true) : w ∈ g_T := by
  have h := List.mem_of_getElem? hk
  have h2 : w ∈ tables_1 := List.mem_append_right _ (List.mem_append_right _ (List.mem_append_right _ (List.mem_append_right _ h)))
  exact List.mem_filter.mpr ⟨List.mem_append_right _ h2, hg⟩
set_option maxRecDepth 100000 in
theorem lk_6_67 : g_W 6 67 y_R_read c_R_read 6 (some .int) true 3 := ⟨⟨(g_tb1 4 rfl rfl), ⟨by decide +kernel, by decide +kernel⟩, Or.inl ⟨rfl, (g_tb2 59 rfl rfl), (g_tb2 60 rfl rfl), (g_tb2 61 rfl rfl)⟩⟩, (g_tb2 62 rfl rfl), by decide +kernel⟩
set_option maxRecDepth 100000 in
theorem lk_6_71 : g_W 6 71 y_L_remember c_L_remember 3 none true 0 := ⟨⟨(g_tb1 1 rfl rfl), ⟨by decide +kernel, by decide +kernel⟩, Or.inl ⟨rfl, (g_tb2 115 rfl rfl), (g_tb2 117 rfl rfl), (g_w 7 rfl rfl)⟩⟩, (g_tb2 118 rfl rfl), by decide +kernel⟩
set_option maxRecDepth 100000 in
theorem lk_6_74 : g_W 6 74 y_W_copySystem c_W_copySystem 2 none true 1 := ⟨⟨(g_tb1 2 rfl rfl), ⟨by decide +kernel, by decide +kernel⟩, Or.inl ⟨rfl, (g_tb2 133 rfl rfl), (g_tb2 124 rfl rfl), (g_tb2 125 rfl rfl)⟩⟩, (g_tb2 126 rfl rfl), by decide +kernel⟩
set_option maxRecDepth 100000 in
theorem lk_6_88 : g_W 6 88 y_L_readFormula c_L_readFormula 7 (some .int) false 3 := ⟨⟨(g_tb1 1 rfl rfl), ⟨by decide +kernel, by decide +kernel⟩, Or.inr ⟨rfl, (g_tb2 139 rfl rfl), Or.inl (g_tb2 138 rfl rfl)⟩⟩, (g_tb2 140 rfl rfl), by decide +kernel⟩
set_option maxRecDepth 100000 in
theorem lk_6_92 : g_W 6 92 y_F_copy c_F_copy 2 none true 1 := ⟨⟨(g_tb1 3 rfl rfl), ⟨by decide +kernel, by decide +kernel⟩, Or.inl ⟨rfl, (g_tb2 156 rfl rfl), (g_tb2 129 rfl rfl), (g_tb2 130 rfl rfl)⟩⟩, (g_tb2 131 rfl rfl), by decide +kernel⟩
set_option maxRecDepth 100000 in
theorem lk_6_101 : g_W 6 101 y_W_hasState c_W_hasState 2 (some .boolean) true 1 := ⟨⟨(g_tb1 2 rfl rfl), ⟨by decide +kernel, by decide +kernel⟩, Or.inl ⟨rfl, (g_tb2 161 rfl rfl), (g_tb2 162 rfl rfl), (g_tb2 163 rfl rfl)⟩⟩, (g_tb2 164 rfl rfl), by decide +kernel⟩
set_option maxRecDepth 100000 in
theorem lk_6_105 : g_W 6 105 y_L_isLabel c_L_isLabel 1 (some .boolean) false 1 := ⟨⟨(g_tb1 1 rfl rfl), ⟨by decide +kernel, by decide +kernel⟩, Or.inr ⟨rfl, (g_tb2 166 rfl rfl), Or.inl (g_tb2 165 rfl rfl)⟩⟩, (g_tb2 167 rfl rfl), by decide +kernel⟩
set_option maxRecDepth 100000 in
theorem lk_6_111 : g_W 6 111 y_W_addMove c_W_addMove 4 none true 3 := ⟨⟨(g_tb1 2 rfl rfl), ⟨by decide +kernel, by decide +kernel⟩, Or.inl ⟨rfl, (g_tb2 172 rfl rfl), (g_tb2 112 rfl rfl), (g_tb2 113 rfl rfl)⟩⟩, (g_tb2 114 rfl rfl), by decide +kernel⟩
set_option maxRecDepth 100000 in
theorem lk_6_115 : g_W 6 115 y_W_hasMove c_W_hasMove 2 (some .boolean) true 1 := ⟨⟨(g_tb1 2 rfl rfl), ⟨by decide +kernel, by decide +kernel⟩, Or.inl ⟨rfl, (g_tb2 177 rfl rfl), (g_tb2 178 rfl rfl), (g_tb2 179 rfl rfl)⟩⟩, (g_tb2 180 rfl rfl), by decide +kernel⟩
set_option maxRecDepth 100000 in
theorem lk_6_118 : g_W 6 118 y_W_removeMove c_W_removeMove 3 none true 1 := ⟨⟨(g_tb1 2 rfl rfl), ⟨by decide +kernel, by decide +kernel⟩, Or.inl ⟨rfl, (g_tb2 181 rfl rfl), (g_tb2 182 rfl rfl), (g_tb2 183 rfl rfl)⟩⟩, (g_tb2 184 rfl rfl), by decide +kernel⟩
set_option maxRecDepth 100000 in
theorem lk_6_122 : g_W 6 122 y_L_isSlot c_L_isSlot 1 (some .boolean) false 1 := ⟨⟨(g_tb1 1 rfl rfl), ⟨by decide +kernel, by decide +kernel⟩, Or.inr ⟨rfl, (g_tb2 191 rfl rfl), Or.inl (g_tb2 190 rfl rfl)⟩⟩, (g_tb2 192 rfl rfl), by decide +kernel⟩
set_option maxRecDepth 100000 in
theorem lk_6_132 : g_W 6 132 y_W_copy c_W_copy 3 none true 1 := ⟨⟨(g_tb1 2 rfl rfl), ⟨by decide +kernel, by decide +kernel⟩, Or.inl ⟨rfl, (g_tb2 119 rfl rfl), (g_tb2 120 rfl rfl), (g_tb2 121 rfl rfl)⟩⟩, (g_tb2 122 rfl rfl), by decide +kernel⟩
set_option maxRecDepth 100000 in
theorem lk_6_143 : g_W 6 143 y_F_letterOf c_F_letterOf 2 (some .int) true 1 := ⟨⟨(g_tb1 3 rfl rfl), ⟨by decide +kernel, by decide +kernel⟩, Or.inl ⟨rfl, (g_tb2 213 rfl rfl), (g_tb2 214 rfl rfl), (g_tb2 215 rfl rfl)⟩⟩, (g_tb2 216 rfl rfl), by decide +kernel⟩
set_option maxRecDepth 100000 in
theorem lk_6_147 : g_W 6 147 y_F_spanOf c_F_spanOf 4 (some .int) true 1 := ⟨⟨(g_tb1 3 rfl rfl), ⟨by decide +kernel, by decide +kernel⟩, Or.inl ⟨rfl, (g_tb2 217 rfl rfl), (g_tb2 218 rfl rfl), (g_tb2 219 rfl rfl)⟩⟩, (g_tb2 220 rfl rfl), by decide +kernel⟩
set_option maxRecDepth 100000 in
theorem lk_6_150 : g_W 6 150 y_F_outerOf c_F_outerOf 3 (some .int) true 1 := ⟨⟨(g_tb1 3 rfl rfl), ⟨by decide +kernel, by decide +kernel⟩, Or.inl ⟨rfl, (g_tb2 223 rfl rfl), (g_tb2 224 rfl rfl), (g_tb2 225 rfl rfl)⟩⟩, (g_tb2 226 rfl rfl), by decide +kernel⟩
set_option maxRecDepth 100000 in
theorem lk_6_153 : g_W 6 153 y_L_isLater c_L_isLater 1 (some .boolean) false 1 := ⟨⟨(g_tb1 1 rfl rfl), ⟨by decide +kernel, by decide +kernel⟩, Or.inr ⟨rfl, (g_tb2 149 rfl rfl), Or.inl (g_tb2 148 rfl rfl)⟩⟩, (g_tb2 150 rfl rfl), by decide +kernel⟩
set_option maxRecDepth 100000 in
theorem lk_6_156 : g_W 6 156 y_L_bit c_L_bit 1 (some .int) false 1 := ⟨⟨(g_tb1 1 rfl rfl), ⟨by decide +kernel, by decide +kernel⟩, Or.inr ⟨rfl, (g_tb2 229 rfl rfl), Or.inl (g_tb2 228 rfl rfl)⟩⟩, (g_tb2 230 rfl rfl), by decide +kernel⟩
set_option maxRecDepth 100000 in
theorem lk_6_160 : g_W 6 160 y_L_isFlag c_L_isFlag 1 (some .boolean) false 1 := ⟨⟨(g_tb1 1 rfl rfl), ⟨by decide +kernel, by decide +kernel⟩, Or.inr ⟨rfl, (g_tb2 236 rfl rfl), Or.inl (g_tb2 235 rfl rfl)⟩⟩, (g_tb2 237 rfl rfl), by decide +kernel⟩
set_option maxRecDepth 100000 in
theorem lk_6_163 : g_W 6 163 y_L_wrongStarts c_L_wrongStarts 4 (some .long) true 1 := ⟨⟨(g_tb1 1 rfl rfl), ⟨by decide +kernel, by decide +kernel⟩, Or.inl ⟨rfl, (g_tb2 238 rfl rfl), (g_tb3 0 rfl rfl), (g_w 8 rfl rfl)⟩⟩, (g_tb3 1 rfl rfl), by decide +kernel⟩
set_option maxRecDepth 100000 in
theorem lk_6_167 : g_W 6 167 y_T_nodesOf c_T_nodesOf 2 (some .long) true 1 := ⟨⟨(g_tb1 6 rfl rfl), ⟨by decide +kernel, by decide +kernel⟩, Or.inl ⟨rfl, (g_tb3 109 rfl rfl), (g_tb3 46 rfl rfl), (g_tb3 47 rfl rfl)⟩⟩, (g_tb3 48 rfl rfl), by decide +kernel⟩
set_option maxRecDepth 100000 in
theorem lk_6_170 : g_W 6 170 y_G_takeSystem c_G_takeSystem 3 none true 1 := ⟨⟨(g_tb1 7 rfl rfl), ⟨by decide +kernel, by decide +kernel⟩, Or.inl ⟨rfl, (g_tb3 2 rfl rfl), (g_tb3 3 rfl rfl), (g_tb3 4 rfl rfl)⟩⟩, (g_tb3 5 rfl rfl), by decide +kernel⟩
set_option maxRecDepth 100000 in
theorem lk_6_175 : g_W 6 175 y_L_judgeGround c_L_judgeGround 4 (some .long) true 1 := ⟨⟨(g_tb1 1 rfl rfl), ⟨by decide +kernel, by decide +kernel⟩, Or.inl ⟨rfl, (g_tb3 16 rfl rfl), (g_tb3 18 rfl rfl), (g_w 11 rfl rfl)⟩⟩, (g_tb3 19 rfl rfl), by decide +kernel⟩
set_option maxRecDepth 100000 in
theorem lk_6_183 : g_W 6 183 y_S_run c_S_run 8 none true 1 := ⟨⟨(g_tb1 5 rfl rfl), ⟨by decide +kernel, by decide +kernel⟩, Or.inl ⟨rfl, (g_tb3 122 rfl rfl), (g_tb3 123 rfl rfl), (g_tb3 124 rfl rfl)⟩⟩, (g_tb3 125 rfl rfl), by decide +kernel⟩
set_option maxRecDepth 100000 in
theorem lk_6_199 : g_W 6 199 y_G_takeAllRows c_G_takeAllRows 3 none true 0 := ⟨⟨(g_tb1 7 rfl rfl), ⟨by decide +kernel, by decide +kernel⟩, Or.inl ⟨rfl, (g_tb3 162 rfl rfl), (g_tb3 163 rfl rfl), (g_tb3 164 rfl rfl)⟩⟩, (g_tb3 165 rfl rfl), by decide +kernel⟩
set_option maxRecDepth 100000 in
theorem lk_6_202 : g_W 6 202 y_T_open c_T_open 2 none true 1 := ⟨⟨(g_tb1 6 rfl rfl), ⟨by decide +kernel, by decide +kernel⟩, Or.inl ⟨rfl, (g_tb3 20 rfl rfl), (g_tb3 21 rfl rfl), (g_tb3 22 rfl rfl)⟩⟩, (g_tb3 23 rfl rfl), by decide +kernel⟩
set_option maxRecDepth 100000 in
theorem lk_6_205 : g_W 6 205 y_T_tell c_T_tell 3 (some .long) true 1 := ⟨⟨(g_tb1 6 rfl rfl), ⟨by decide +kernel, by decide +kernel⟩, Or.inl ⟨rfl, (g_tb3 30 rfl rfl), (g_tb3 31 rfl rfl), (g_tb3 32 rfl rfl)⟩⟩, (g_tb3 33 rfl rfl), by decide +kernel⟩
set_option maxRecDepth 100000 in
theorem lk_6_209 : g_W 6 209 y_T_finish c_T_finish 2 none true 1 := ⟨⟨(g_tb1 6 rfl rfl), ⟨by decide +kernel, by decide +kernel⟩, Or.inl ⟨rfl, (g_tb3 53 rfl rfl), (g_tb3 54 rfl rfl), (g_tb3 55 rfl rfl)⟩⟩, (g_tb3 56 rfl rfl), by decide +kernel⟩
set_option maxRecDepth 100000 in
theorem lk_6_218 : g_W 6 218 y_G_takeRow c_G_takeRow 5 none true 3 := ⟨⟨(g_tb1 7 rfl rfl), ⟨by decide +kernel, by decide +kernel⟩, Or.inl ⟨rfl, (g_tb3 178 rfl rfl), (g_tb3 179 rfl rfl), (g_tb3 180 rfl rfl)⟩⟩, (g_tb3 181 rfl rfl), by decide +kernel⟩
set_option maxRecDepth 100000 in
theorem lk_6_222 : g_W 6 222 y_L_isImage c_L_isImage 1 (some .boolean) false 1 := ⟨⟨(g_tb1 1 rfl rfl), ⟨by decide +kernel, by decide +kernel⟩, Or.inr ⟨rfl, (g_tb3 187 rfl rfl), Or.inl (g_tb3 186 rfl rfl)⟩⟩, (g_tb3 188 rfl rfl), by decide +kernel⟩
set_option maxRecDepth 100000 in
theorem lk_6_225 : g_W 6 225 y_F_empty c_F_empty 1 none true 0 := ⟨⟨(g_tb1 3 rfl rfl), ⟨by decide +kernel, by decide +kernel⟩, Or.inl ⟨rfl, (g_tb2 141 rfl rfl), (g_tb2 142 rfl rfl), (g_tb2 143 rfl rfl)⟩⟩, (g_tb2 144 rfl rfl), by decide +kernel⟩
set_option maxRecDepth 100000 in
theorem lk_6_228 : g_W 6 228 y_L_innerCount c_L_innerCount 1 (some .int) false 1 := ⟨⟨(g_tb1 1 rfl rfl), ⟨by decide +kernel, by decide +kernel⟩, Or.inr ⟨rfl, (g_tb2 146 rfl rfl), Or.inl (g_tb2 145 rfl rfl)⟩⟩, (g_tb2 147 rfl rfl), by decide +kernel⟩
set_option maxRecDepth 100000 in
theorem lk_6_231 : g_W 6 231 y_F_add c_F_add 2 none true 1 := ⟨⟨(g_tb1 3 rfl rfl), ⟨by decide +kernel, by decide +kernel⟩, Or.inl ⟨rfl, (g_tb2 151 rfl rfl), (g_tb2 152 rfl rfl), (g_tb2 153 rfl rfl)⟩⟩, (g_tb2 154 rfl rfl), by decide +kernel⟩
set_option maxRecDepth 100000 in
theorem lk_0_22 : g_W 0 22 y_L_isLater c_L_isLater 1 (some .boolean) false 1 := ⟨⟨(g_tb1 1 rfl rfl), ⟨by decide +kernel, by decide +kernel⟩, Or.inr ⟨rfl, (g_tb2 149 rfl rfl), Or.inr (by decide +kernel)⟩⟩, (g_tb2 150 rfl rfl), by decide +kernel⟩
set_option maxRecDepth 100000 in
theorem lk_0_32 : g_W 0 32 y_F_letterOf c_F_letterOf 2 (some .int) true 1 := ⟨⟨(g_tb1 3 rfl rfl), ⟨by decide +kernel, by decide +kernel⟩, Or.inl ⟨rfl, (g_tb2 221 rfl rfl), (g_tb2 214 rfl rfl), (g_tb2 215 rfl rfl)⟩⟩, (g_tb2 216 rfl rfl), by decide +kernel⟩
set_option maxRecDepth 100000 in
theorem lk_0_36 : g_W 0 36 y_L_innerCount c_L_innerCount 1 (some .int) false 1 := ⟨⟨(g_tb1 1 rfl rfl), ⟨by decide +kernel, by decide +kernel⟩, Or.inr ⟨rfl, (g_tb2 146 rfl rfl), Or.inr (by decide +kernel)⟩⟩, (g_tb2 147 rfl rfl), by decide +kernel⟩
set_option maxRecDepth 100000 in
theorem lk_0_39 : g_W 0 39 y_F_spanOf c_F_spanOf 4 (some .int) true 1 := ⟨⟨(g_tb1 3 rfl rfl), ⟨by decide +kernel, by decide +kernel⟩, Or.inl ⟨rfl, (g_tb2 227 rfl rfl), (g_tb2 218 rfl rfl), (g_tb2 219 rfl rfl)⟩⟩, (g_tb2 220 rfl rfl), by decide +kernel⟩
set_option maxRecDepth 100000 in
theorem lk_1_26 : g_W 1 26 y_G_open c_G_open 4 none true 1 := ⟨⟨(g_tb1 7 rfl rfl), ⟨by decide +kernel, by decide +kernel⟩, Or.inl ⟨rfl, (g_tb3 6 rfl rfl), (g_tb3 8 rfl rfl), (g_w 9 rfl rfl)⟩⟩, (g_tb3 9 rfl rfl), by decide +kernel⟩
set_option maxRecDepth 100000 in
theorem lk_1_48 : g_W 1 48 y_G_join c_G_join 4 none true 3 := ⟨⟨(g_tb1 7 rfl rfl), ⟨by decide +kernel, by decide +kernel⟩, Or.inl ⟨rfl, (g_tb3 12 rfl rfl), (g_tb3 14 rfl rfl), (g_w 10 rfl rfl)⟩⟩, (g_tb3 15 rfl rfl), by decide +kernel⟩
set_option maxRecDepth 100000 in
theorem lk_2_32 : g_W 2 32 y_S_isShorter c_S_isShorter 2 (some .boolean) true 1 := ⟨⟨(g_tb1 5 rfl rfl), ⟨by decide +kernel, by decide +kernel⟩, Or.inl ⟨rfl, (g_tb3 126 rfl rfl), (g_tb3 128 rfl rfl), (g_w 26 rfl rfl)⟩⟩, (g_tb3 129 rfl rfl), by decide +kernel⟩
set_option maxRecDepth 100000 in
theorem lk_2_40 : g_W 2 40 y_S_tryEntries c_S_tryEntries 7 none true 2 := ⟨⟨(g_tb1 5 rfl rfl), ⟨by decide +kernel, by decide +kernel⟩, Or.inl ⟨rfl, (g_tb3 130 rfl rfl), (g_tb3 132 rfl rfl), (g_w 27 rfl rfl)⟩⟩, (g_tb3 133 rfl rfl), by decide +kernel⟩
set_option maxRecDepth 100000 in
theorem lk_2_44 : g_W 2 44 y_S_nextLayer c_S_nextLayer 6 (some .long) true 1 := ⟨⟨(g_tb1 5 rfl rfl), ⟨by decide +kernel, by decide +kernel⟩, Or.inl ⟨rfl, (g_tb3 153 rfl rfl), (g_tb3 155 rfl rfl), (g_w 32 rfl rfl)⟩⟩, (g_tb3 156 rfl rfl), by decide +kernel⟩
set_option maxRecDepth 100000 in
theorem lk_2_53 : g_W 2 53 y_T_has c_T_has 3 (some .boolean) false 2 := ⟨⟨(g_tb1 6 rfl rfl), ⟨by decide +kernel, by decide +kernel⟩, Or.inr ⟨rfl, (g_tb3 66 rfl rfl), Or.inr (by decide +kernel)⟩⟩, (g_tb3 67 rfl rfl), by decide +kernel⟩
set_option maxRecDepth 100000 in
theorem lk_2_57 : g_W 2 57 y_S_loopThrough c_S_loopThrough 5 (some .int) true 2 := ⟨⟨(g_tb1 5 rfl rfl), ⟨by decide +kernel, by decide +kernel⟩, Or.inl ⟨rfl, (g_tb3 135 rfl rfl), (g_tb3 137 rfl rfl), (g_w 28 rfl rfl)⟩⟩, (g_tb3 138 rfl rfl), by decide +kernel⟩
set_option maxRecDepth 100000 in
theorem lk_2_70 : g_W 2 70 y_T_behind c_T_behind 2 (some .long) true 1 := ⟨⟨(g_tb1 6 rfl rfl), ⟨by decide +kernel, by decide +kernel⟩, Or.inl ⟨rfl, (g_tb3 157 rfl rfl), (g_tb3 89 rfl rfl), (g_tb3 90 rfl rfl)⟩⟩, (g_tb3 91 rfl rfl), by decide +kernel⟩
set_option maxRecDepth 100000 in
theorem lk_2_85 : g_W 2 85 y_S_goOneStep c_S_goOneStep 8 none true 2 := ⟨⟨(g_tb1 5 rfl rfl), ⟨by decide +kernel, by decide +kernel⟩, Or.inl ⟨rfl, (g_tb3 140 rfl rfl), (g_tb3 142 rfl rfl), (g_w 29 rfl rfl)⟩⟩, (g_tb3 143 rfl rfl), by decide +kernel⟩
set_option maxRecDepth 100000 in
theorem lk_2_89 : g_W 2 89 y_S_takeNext c_S_takeNext 4 (some .boolean) true 1 := ⟨⟨(g_tb1 5 rfl rfl), ⟨by decide +kernel, by decide +kernel⟩, Or.inl ⟨rfl, (g_tb3 148 rfl rfl), (g_tb3 150 rfl rfl), (g_w 31 rfl rfl)⟩⟩, (g_tb3 151 rfl rfl), by decide +kernel⟩
set_option maxRecDepth 100000 in
theorem lk_2_96 : g_W 2 96 y_S_leave c_S_leave 8 none true 4 := ⟨⟨(g_tb1 5 rfl rfl), ⟨by decide +kernel, by decide +kernel⟩, Or.inl ⟨rfl, (g_tb3 144 rfl rfl), (g_tb3 146 rfl rfl), (g_w 30 rfl rfl)⟩⟩, (g_tb3 147 rfl rfl), by decide +kernel⟩
set_option maxRecDepth 100000 in
theorem lk_3_37 : g_W 3 37 y_W_emptySystem c_W_emptySystem 1 none true 0 := ⟨⟨(g_tb1 2 rfl rfl), ⟨by decide +kernel, by decide +kernel⟩, Or.inl ⟨rfl, (g_tb2 72 rfl rfl), (g_tb2 73 rfl rfl), (g_tb2 74 rfl rfl)⟩⟩, (g_tb2 75 rfl rfl), by decide +kernel⟩
set_option maxRecDepth 100000 in
theorem lk_3_42 : g_W 3 42 y_R_advance c_R_advance 2 none true 0 := ⟨⟨(g_tb1 4 rfl rfl), ⟨by decide +kernel, by decide +kernel⟩, Or.inl ⟨rfl, (g_tb2 76 rfl rfl), (g_tb2 78 rfl rfl), (g_w 0 rfl rfl)⟩⟩, (g_tb2 79 rfl rfl), by decide +kernel⟩
set_option maxRecDepth 100000 in
theorem lk_3_48 : g_W 3 48 y_R_readItem c_R_readItem 2 (some .int) true 1 := ⟨⟨(g_tb1 4 rfl rfl), ⟨by decide +kernel, by decide +kernel⟩, Or.inl ⟨rfl, (g_tb2 87 rfl rfl), (g_tb2 89 rfl rfl), (g_w 2 rfl rfl)⟩⟩, (g_tb2 90 rfl rfl), by decide +kernel⟩
set_option maxRecDepth 100000 in
theorem lk_3_55 : g_W 3 55 y_R_readState c_R_readState 2 (some .int) true 1 := ⟨⟨(g_tb1 4 rfl rfl), ⟨by decide +kernel, by decide +kernel⟩, Or.inl ⟨rfl, (g_tb2 91 rfl rfl), (g_tb2 93 rfl rfl), (g_w 3 rfl rfl)⟩⟩, (g_tb2 94 rfl rfl), by decide +kernel⟩
set_option maxRecDepth 100000 in
theorem lk_3_61 : g_W 3 61 y_R_readMove c_R_readMove 4 (some .int) true 1 := ⟨⟨(g_tb1 4 rfl rfl), ⟨by decide +kernel, by decide +kernel⟩, Or.inl ⟨rfl, (g_tb2 107 rfl rfl), (g_tb2 109 rfl rfl), (g_w 6 rfl rfl)⟩⟩, (g_tb2 110 rfl rfl), by decide +kernel⟩
set_option maxRecDepth 100000 in
theorem lk_3_67 : g_W 3 67 y_R_advanceToNumber c_R_advanceToNumber 2 (some .boolean) true 1 := ⟨⟨(g_tb1 4 rfl rfl), ⟨by decide +kernel, by decide +kernel⟩, Or.inl ⟨rfl, (g_tb2 95 rfl rfl), (g_tb2 97 rfl rfl), (g_w 4 rfl rfl)⟩⟩, (g_tb2 98 rfl rfl), by decide +kernel⟩
set_option maxRecDepth 100000 in
theorem lk_3_74 : g_W 3 74 y_W_addState c_W_addState 2 none true 1 := ⟨⟨(g_tb1 2 rfl rfl), ⟨by decide +kernel, by decide +kernel⟩, Or.inl ⟨rfl, (g_tb2 99 rfl rfl), (g_tb2 100 rfl rfl), (g_tb2 101 rfl rfl)⟩⟩, (g_tb2 102 rfl rfl), by decide +kernel⟩
set_option maxRecDepth 100000 in
theorem lk_3_78 : g_W 3 78 y_R_readItemEnd c_R_readItemEnd 1 (some .int) true 0 := ⟨⟨(g_tb1 4 rfl rfl), ⟨by decide +kernel, by decide +kernel⟩, Or.inl ⟨rfl, (g_tb2 103 rfl rfl), (g_tb2 105 rfl rfl), (g_w 5 rfl rfl)⟩⟩, (g_tb2 106 rfl rfl), by decide +kernel⟩
set_option maxRecDepth 100000 in
theorem lk_3_82 : g_W 3 82 y_W_addMove c_W_addMove 4 none true 3 := ⟨⟨(g_tb1 2 rfl rfl), ⟨by decide +kernel, by decide +kernel⟩, Or.inl ⟨rfl, (g_tb2 111 rfl rfl), (g_tb2 112 rfl rfl), (g_tb2 113 rfl rfl)⟩⟩, (g_tb2 114 rfl rfl), by decide +kernel⟩
set_option maxRecDepth 100000 in
theorem lk_3_86 : g_W 3 86 y_R_isFigure c_R_isFigure 1 (some .boolean) false 1 := ⟨⟨(g_tb1 4 rfl rfl), ⟨by decide +kernel, by decide +kernel⟩, Or.inr ⟨rfl, (g_tb2 81 rfl rfl), Or.inl (g_tb2 80 rfl rfl)⟩⟩, (g_tb2 82 rfl rfl), by decide +kernel⟩
set_option maxRecDepth 100000 in
theorem lk_3_89 : g_W 3 89 y_R_advanceOverNumber c_R_advanceOverNumber 2 none true 0 := ⟨⟨(g_tb1 4 rfl rfl), ⟨by decide +kernel, by decide +kernel⟩, Or.inl ⟨rfl, (g_tb2 83 rfl rfl), (g_tb2 85 rfl rfl), (g_w 1 rfl rfl)⟩⟩, (g_tb2 86 rfl rfl), by decide +kernel⟩
set_option maxRecDepth 100000 in
theorem lk_4_72 : g_W 4 72 y_T_firstNodes c_T_firstNodes 1 (some .long) false 1 := ⟨⟨(g_tb1 6 rfl rfl), ⟨by decide +kernel, by decide +kernel⟩, Or.inr ⟨rfl, (g_tb3 27 rfl rfl), Or.inl (g_tb3 26 rfl rfl)⟩⟩, (g_tb3 28 rfl rfl), by decide +kernel⟩
set_option maxRecDepth 100000 in
theorem lk_4_91 : g_W 4 91 y_T_nodesWhere c_T_nodesWhere 11 (some .long) true 2 := ⟨⟨(g_tb1 6 rfl rfl), ⟨by decide +kernel, by decide +kernel⟩, Or.inl ⟨rfl, (g_tb3 34 rfl rfl), (g_tb3 36 rfl rfl), (g_w 12 rfl rfl)⟩⟩, (g_tb3 37 rfl rfl), by decide +kernel⟩
set_option maxRecDepth 100000 in
theorem lk_4_95 : g_W 4 95 y_T_makeSteps c_T_makeSteps 5 none true 0 := ⟨⟨(g_tb1 6 rfl rfl), ⟨by decide +kernel, by decide +kernel⟩, Or.inl ⟨rfl, (g_tb3 57 rfl rfl), (g_tb3 59 rfl rfl), (g_w 15 rfl rfl)⟩⟩, (g_tb3 60 rfl rfl), by decide +kernel⟩
set_option maxRecDepth 100000 in
theorem lk_4_98 : g_W 4 98 y_T_makeDue c_T_makeDue 3 none true 1 := ⟨⟨(g_tb1 6 rfl rfl), ⟨by decide +kernel, by decide +kernel⟩, Or.inl ⟨rfl, (g_tb3 72 rfl rfl), (g_tb3 74 rfl rfl), (g_w 18 rfl rfl)⟩⟩, (g_tb3 75 rfl rfl), by decide +kernel⟩
set_option maxRecDepth 100000 in
theorem lk_4_102 : g_W 4 102 y_T_makeReach c_T_makeReach 7 none true 0 := ⟨⟨(g_tb1 6 rfl rfl), ⟨by decide +kernel, by decide +kernel⟩, Or.inl ⟨rfl, (g_tb3 84 rfl rfl), (g_tb3 86 rfl rfl), (g_w 21 rfl rfl)⟩⟩, (g_tb3 87 rfl rfl), by decide +kernel⟩
set_option maxRecDepth 100000 in
theorem lk_4_105 : g_W 4 105 y_T_makeRings c_T_makeRings 6 none true 0 := ⟨⟨(g_tb1 6 rfl rfl), ⟨by decide +kernel, by decide +kernel⟩, Or.inl ⟨rfl, (g_tb3 92 rfl rfl), (g_tb3 94 rfl rfl), (g_w 22 rfl rfl)⟩⟩, (g_tb3 95 rfl rfl), by decide +kernel⟩
set_option maxRecDepth 100000 in
theorem lk_4_108 : g_W 4 108 y_T_makeLive c_T_makeLive 2 none true 0 := ⟨⟨(g_tb1 6 rfl rfl), ⟨by decide +kernel, by decide +kernel⟩, Or.inl ⟨rfl, (g_tb3 104 rfl rfl), (g_tb3 106 rfl rfl), (g_w 25 rfl rfl)⟩⟩, (g_tb3 107 rfl rfl), by decide +kernel⟩
set_option maxRecDepth 100000 in
theorem lk_4_113 : g_W 4 113 y_F_letterOf c_F_letterOf 2 (some .int) true 1 := ⟨⟨(g_tb1 3 rfl rfl), ⟨by decide +kernel, by decide +kernel⟩, Or.inl ⟨rfl, (g_tb3 38 rfl rfl), (g_tb2 214 rfl rfl), (g_tb2 215 rfl rfl)⟩⟩, (g_tb2 216 rfl rfl), by decide +kernel⟩
set_option maxRecDepth 100000 in
theorem lk_4_117 : g_W 4 117 y_L_innerCount c_L_innerCount 1 (some .int) false 1 := ⟨⟨(g_tb1 1 rfl rfl), ⟨by decide +kernel, by decide +kernel⟩, Or.inr ⟨rfl, (g_tb2 146 rfl rfl), Or.inr (by decide +kernel)⟩⟩, (g_tb2 147 rfl rfl), by decide +kernel⟩
set_option maxRecDepth 100000 in
theorem lk_4_120 : g_W 4 120 y_F_spanOf c_F_spanOf 4 (some .int) true 1 := ⟨⟨(g_tb1 3 rfl rfl), ⟨by decide +kernel, by decide +kernel⟩, Or.inl ⟨rfl, (g_tb3 40 rfl rfl), (g_tb2 218 rfl rfl), (g_tb2 219 rfl rfl)⟩⟩, (g_tb2 220 rfl rfl), by decide +kernel⟩
set_option maxRecDepth 100000 in
theorem lk_4_123 : g_W 4 123 y_T_labelled c_T_labelled 5 (some .long) true 1 := ⟨⟨(g_tb1 6 rfl rfl), ⟨by decide +kernel, by decide +kernel⟩, Or.inl ⟨rfl, (g_tb3 41 rfl rfl), (g_tb3 43 rfl rfl), (g_w 13 rfl rfl)⟩⟩, (g_tb3 44 rfl rfl), by decide +kernel⟩
set_option maxRecDepth 100000 in
theorem lk_4_126 : g_W 4 126 y_T_addLater c_T_addLater 10 (some .long) true 4 := ⟨⟨(g_tb1 6 rfl rfl), ⟨by decide +kernel, by decide +kernel⟩, Or.inl ⟨rfl, (g_tb3 49 rfl rfl), (g_tb3 51 rfl rfl), (g_w 14 rfl rfl)⟩⟩, (g_tb3 52 rfl rfl), by decide +kernel⟩
set_option maxRecDepth 100000 in
theorem lk_4_133 : g_W 4 133 y_T_nodesOf c_T_nodesOf 2 (some .long) true 1 := ⟨⟨(g_tb1 6 rfl rfl), ⟨by decide +kernel, by decide +kernel⟩, Or.inl ⟨rfl, (g_tb3 45 rfl rfl), (g_tb3 46 rfl rfl), (g_tb3 47 rfl rfl)⟩⟩, (g_tb3 48 rfl rfl), by decide +kernel⟩
set_option maxRecDepth 100000 in
theorem lk_4_136 : g_W 4 136 y_T_allowedBehind c_T_allowedBehind 6 (some .long) true 1 := ⟨⟨(g_tb1 6 rfl rfl), ⟨by decide +kernel, by decide +kernel⟩, Or.inl ⟨rfl, (g_tb3 61 rfl rfl), (g_tb3 63 rfl rfl), (g_w 16 rfl rfl)⟩⟩, (g_tb3 64 rfl rfl), by decide +kernel⟩
set_option maxRecDepth 100000 in
theorem lk_4_139 : g_W 4 139 y_T_nodesAimedAt c_T_nodesAimedAt 7 (some .long) true 2 := ⟨⟨(g_tb1 6 rfl rfl), ⟨by decide +kernel, by decide +kernel⟩, Or.inl ⟨rfl, (g_tb3 68 rfl rfl), (g_tb3 70 rfl rfl), (g_w 17 rfl rfl)⟩⟩, (g_tb3 71 rfl rfl), by decide +kernel⟩
set_option maxRecDepth 100000 in
theorem lk_4_147 : g_W 4 147 y_T_has c_T_has 3 (some .boolean) false 2 := ⟨⟨(g_tb1 6 rfl rfl), ⟨by decide +kernel, by decide +kernel⟩, Or.inr ⟨rfl, (g_tb3 66 rfl rfl), Or.inl (g_tb3 65 rfl rfl)⟩⟩, (g_tb3 67 rfl rfl), by decide +kernel⟩
set_option maxRecDepth 100000 in
theorem lk_4_154 : g_W 4 154 y_T_addDue c_T_addDue 5 (some .int) true 1 := ⟨⟨(g_tb1 6 rfl rfl), ⟨by decide +kernel, by decide +kernel⟩, Or.inl ⟨rfl, (g_tb3 76 rfl rfl), (g_tb3 78 rfl rfl), (g_w 19 rfl rfl)⟩⟩, (g_tb3 79 rfl rfl), by decide +kernel⟩
set_option maxRecDepth 100000 in
theorem lk_4_158 : g_W 4 158 y_T_nodesWithoutMoves c_T_nodesWithoutMoves 5 (some .long) true 1 := ⟨⟨(g_tb1 6 rfl rfl), ⟨by decide +kernel, by decide +kernel⟩, Or.inl ⟨rfl, (g_tb3 80 rfl rfl), (g_tb3 82 rfl rfl), (g_w 20 rfl rfl)⟩⟩, (g_tb3 83 rfl rfl), by decide +kernel⟩
set_option maxRecDepth 100000 in
theorem lk_4_161 : g_W 4 161 y_T_behind c_T_behind 2 (some .long) true 1 := ⟨⟨(g_tb1 6 rfl rfl), ⟨by decide +kernel, by decide +kernel⟩, Or.inl ⟨rfl, (g_tb3 88 rfl rfl), (g_tb3 89 rfl rfl), (g_tb3 90 rfl rfl)⟩⟩, (g_tb3 91 rfl rfl), by decide +kernel⟩
set_option maxRecDepth 100000 in
theorem lk_4_167 : g_W 4 167 y_T_ringOf c_T_ringOf 5 (some .long) true 1 := ⟨⟨(g_tb1 6 rfl rfl), ⟨by decide +kernel, by decide +kernel⟩, Or.inl ⟨rfl, (g_tb3 96 rfl rfl), (g_tb3 98 rfl rfl), (g_w 23 rfl rfl)⟩⟩, (g_tb3 99 rfl rfl), by decide +kernel⟩
set_option maxRecDepth 100000 in
theorem lk_4_170 : g_W 4 170 y_T_metIn c_T_metIn 6 (some .int) true 1 := ⟨⟨(g_tb1 6 rfl rfl), ⟨by decide +kernel, by decide +kernel⟩, Or.inl ⟨rfl, (g_tb3 100 rfl rfl), (g_tb3 102 rfl rfl), (g_w 24 rfl rfl)⟩⟩, (g_tb3 103 rfl rfl), by decide +kernel⟩
set_option maxRecDepth 100000 in
theorem lk_5_35 : g_W 5 35 y_W_copySystem c_W_copySystem 2 none true 1 := ⟨⟨(g_tb1 2 rfl rfl), ⟨by decide +kernel, by decide +kernel⟩, Or.inl ⟨rfl, (g_tb2 123 rfl rfl), (g_tb2 124 rfl rfl), (g_tb2 125 rfl rfl)⟩⟩, (g_tb2 126 rfl rfl), by decide +kernel⟩
set_option maxRecDepth 100000 in
theorem lk_5_39 : g_W 5 39 y_F_copy c_F_copy 2 none true 1 := ⟨⟨(g_tb1 3 rfl rfl), ⟨by decide +kernel, by decide +kernel⟩, Or.inl ⟨rfl, (g_tb2 128 rfl rfl), (g_tb2 129 rfl rfl), (g_tb2 130 rfl rfl)⟩⟩, (g_tb2 131 rfl rfl), by decide +kernel⟩
set_option maxRecDepth 100000 in
theorem lk_5_56 : g_W 5 56 y_W_hasMove c_W_hasMove 2 (some .boolean) true 1 := ⟨⟨(g_tb1 2 rfl rfl), ⟨by decide +kernel, by decide +kernel⟩, Or.inl ⟨rfl, (g_tb2 185 rfl rfl), (g_tb2 178 rfl rfl), (g_tb2 179 rfl rfl)⟩⟩, (g_tb2 180 rfl rfl), by decide +kernel⟩
set_option maxRecDepth 100000 in
theorem lk_8_13 : g_W 8 13 y_L_type c_L_type 2 (some .int) true 1 := ⟨⟨(g_tb1 1 rfl rfl), ⟨by decide +kernel, by decide +kernel⟩, Or.inl ⟨rfl, (g_tb2 47 rfl rfl), (g_tb2 48 rfl rfl), (g_tb2 49 rfl rfl)⟩⟩, (g_tb2 50 rfl rfl), by decide +kernel⟩
set_option maxRecDepth 100000 in
theorem lk_8_17 : g_W 8 17 y_M_type c_M_type 2 (some .int) true 1 := ⟨⟨(g_tb1 8 rfl rfl), ⟨by decide +kernel, by decide +kernel⟩, Or.inl ⟨rfl, (g_tb4 67 rfl rfl), (g_tb4 68 rfl rfl), (g_tb4 69 rfl rfl)⟩⟩, (g_tb4 70 rfl rfl), by decide +kernel⟩
set_option maxRecDepth 100000 in
theorem lk_8_18 : g_W 8 18 y_L_clear c_L_clear 2 (some .int) true 0 := ⟨⟨(g_tb1 1 rfl rfl), ⟨by decide +kernel, by decide +kernel⟩, Or.inl ⟨rfl, (g_tb2 51 rfl rfl), (g_tb2 52 rfl rfl), (g_tb2 53 rfl rfl)⟩⟩, (g_tb2 54 rfl rfl), by decide +kernel⟩
set_option maxRecDepth 100000 in
theorem lk_8_22 : g_W 8 22 y_M_clear c_M_clear 2 (some .int) true 0 := ⟨⟨(g_tb1 8 rfl rfl), ⟨by decide +kernel, by decide +kernel⟩, Or.inl ⟨rfl, (g_tb4 74 rfl rfl), (g_tb4 75 rfl rfl), (g_tb4 76 rfl rfl)⟩⟩, (g_tb4 77 rfl rfl), by decide +kernel⟩
set_option maxRecDepth 100000 in
theorem lk_8_23 : g_W 8 23 y_L_system c_L_system 2 (some .int) true 0 := ⟨⟨(g_tb1 1 rfl rfl), ⟨by decide +kernel, by decide +kernel⟩, Or.inl ⟨rfl, (g_tb2 55 rfl rfl), (g_tb2 56 rfl rfl), (g_tb2 57 rfl rfl)⟩⟩, (g_tb2 58 rfl rfl), by decide +kernel⟩
set_option maxRecDepth 100000 in
theorem lk_8_26 : g_W 8 26 y_M_system c_M_system 3 (some .int) true 0 := ⟨⟨(g_tb1 8 rfl rfl), ⟨by decide +kernel, by decide +kernel⟩, Or.inl ⟨rfl, (g_tb4 78 rfl rfl), (g_tb4 79 rfl rfl), (g_tb4 80 rfl rfl)⟩⟩, (g_tb4 81 rfl rfl), by decide +kernel⟩
set_option maxRecDepth 100000 in
theorem lk_8_27 : g_W 8 27 y_L_formula c_L_formula 2 (some .int) true 0 := ⟨⟨(g_tb1 1 rfl rfl), ⟨by decide +kernel, by decide +kernel⟩, Or.inl ⟨rfl, (g_tb2 134 rfl rfl), (g_tb2 135 rfl rfl), (g_tb2 136 rfl rfl)⟩⟩, (g_tb2 137 rfl rfl), by decide +kernel⟩
set_option maxRecDepth 100000 in
theorem lk_8_30 : g_W 8 30 y_M_formula c_M_formula 3 (some .int) true 0 := ⟨⟨(g_tb1 8 rfl rfl), ⟨by decide +kernel, by decide +kernel⟩, Or.inl ⟨rfl, (g_tb4 118 rfl rfl), (g_tb4 119 rfl rfl), (g_tb4 120 rfl rfl)⟩⟩, (g_tb4 121 rfl rfl), by decide +kernel⟩
set_option maxRecDepth 100000 in
theorem lk_8_31 : g_W 8 31 y_L_labels c_L_labels 4 (some .int) true 2 := ⟨⟨(g_tb1 1 rfl rfl), ⟨by decide +kernel, by decide +kernel⟩, Or.inl ⟨rfl, (g_tb2 157 rfl rfl), (g_tb2 158 rfl rfl), (g_tb2 159 rfl rfl)⟩⟩, (g_tb2 160 rfl rfl), by decide +kernel⟩
set_option maxRecDepth 100000 in
theorem lk_8_35 : g_W 8 35 y_M_labels c_M_labels 4 (some .int) true 2 := ⟨⟨(g_tb1 8 rfl rfl), ⟨by decide +kernel, by decide +kernel⟩, Or.inl ⟨rfl, (g_tb4 132 rfl rfl), (g_tb4 133 rfl rfl), (g_tb4 134 rfl rfl)⟩⟩, (g_tb4 135 rfl rfl), by decide +kernel⟩
set_option maxRecDepth 100000 in
theorem lk_8_36 : g_W 8 36 y_L_moves c_L_moves 4 (some .int) true 3 := ⟨⟨(g_tb1 1 rfl rfl), ⟨by decide +kernel, by decide +kernel⟩, Or.inl ⟨rfl, (g_tb2 168 rfl rfl), (g_tb2 169 rfl rfl), (g_tb2 170 rfl rfl)⟩⟩, (g_tb2 171 rfl rfl), by decide +kernel⟩
set_option maxRecDepth 100000 in
theorem lk_8_40 : g_W 8 40 y_M_moves c_M_moves 5 (some .int) true 3 := ⟨⟨(g_tb1 8 rfl rfl), ⟨by decide +kernel, by decide +kernel⟩, Or.inl ⟨rfl, (g_tb4 140 rfl rfl), (g_tb4 141 rfl rfl), (g_tb4 142 rfl rfl)⟩⟩, (g_tb4 143 rfl rfl), by decide +kernel⟩
set_option maxRecDepth 100000 in
theorem lk_8_41 : g_W 8 41 y_L_takes c_L_takes 2 (some .int) true 1 := ⟨⟨(g_tb1 1 rfl rfl), ⟨by decide +kernel, by decide +kernel⟩, Or.inl ⟨rfl, (g_tb2 173 rfl rfl), (g_tb2 174 rfl rfl), (g_tb2 175 rfl rfl)⟩⟩, (g_tb2 176 rfl rfl), by decide +kernel⟩
set_option maxRecDepth 100000 in
theorem lk_8_44 : g_W 8 44 y_M_takes c_M_takes 3 (some .int) true 1 := ⟨⟨(g_tb1 8 rfl rfl), ⟨by decide +kernel, by decide +kernel⟩, Or.inl ⟨rfl, (g_tb4 144 rfl rfl), (g_tb4 145 rfl rfl), (g_tb4 146 rfl rfl)⟩⟩, (g_tb4 147 rfl rfl), by decide +kernel⟩
set_option maxRecDepth 100000 in
theorem lk_8_45 : g_W 8 45 y_L_stores c_L_stores 2 (some .int) true 1 := ⟨⟨(g_tb1 1 rfl rfl), ⟨by decide +kernel, by decide +kernel⟩, Or.inl ⟨rfl, (g_tb2 186 rfl rfl), (g_tb2 187 rfl rfl), (g_tb2 188 rfl rfl)⟩⟩, (g_tb2 189 rfl rfl), by decide +kernel⟩
set_option maxRecDepth 100000 in
theorem lk_8_48 : g_W 8 48 y_M_stores c_M_stores 2 (some .int) true 1 := ⟨⟨(g_tb1 8 rfl rfl), ⟨by decide +kernel, by decide +kernel⟩, Or.inl ⟨rfl, (g_tb4 152 rfl rfl), (g_tb4 153 rfl rfl), (g_tb4 154 rfl rfl)⟩⟩, (g_tb4 155 rfl rfl), by decide +kernel⟩
set_option maxRecDepth 100000 in
theorem lk_8_49 : g_W 8 49 y_L_fetches c_L_fetches 2 (some .int) true 1 := ⟨⟨(g_tb1 1 rfl rfl), ⟨by decide +kernel, by decide +kernel⟩, Or.inl ⟨rfl, (g_tb2 193 rfl rfl), (g_tb2 194 rfl rfl), (g_tb2 195 rfl rfl)⟩⟩, (g_tb2 196 rfl rfl), by decide +kernel⟩
set_option maxRecDepth 100000 in
theorem lk_8_52 : g_W 8 52 y_M_fetches c_M_fetches 2 (some .int) true 1 := ⟨⟨(g_tb1 8 rfl rfl), ⟨by decide +kernel, by decide +kernel⟩, Or.inl ⟨rfl, (g_tb4 163 rfl rfl), (g_tb4 164 rfl rfl), (g_tb4 165 rfl rfl)⟩⟩, (g_tb4 166 rfl rfl), by decide +kernel⟩
set_option maxRecDepth 100000 in
theorem lk_8_53 : g_W 8 53 y_L_undo c_L_undo 1 (some .int) true 0 := ⟨⟨(g_tb1 1 rfl rfl), ⟨by decide +kernel, by decide +kernel⟩, Or.inl ⟨rfl, (g_tb2 197 rfl rfl), (g_tb2 198 rfl rfl), (g_tb2 199 rfl rfl)⟩⟩, (g_tb2 200 rfl rfl), by decide +kernel⟩
set_option maxRecDepth 100000 in
theorem lk_8_56 : g_W 8 56 y_M_undo c_M_undo 2 (some .int) true 0 := ⟨⟨(g_tb1 8 rfl rfl), ⟨by decide +kernel, by decide +kernel⟩, Or.inl ⟨rfl, (g_tb4 63 rfl rfl), (g_tb4 64 rfl rfl), (g_tb4 65 rfl rfl)⟩⟩, (g_tb4 66 rfl rfl), by decide +kernel⟩
set_option maxRecDepth 100000 in
theorem lk_8_57 : g_W 8 57 y_L_label c_L_label 2 (some .int) true 1 := ⟨⟨(g_tb1 1 rfl rfl), ⟨by decide +kernel, by decide +kernel⟩, Or.inl ⟨rfl, (g_tb2 201 rfl rfl), (g_tb2 202 rfl rfl), (g_tb2 203 rfl rfl)⟩⟩, (g_tb2 204 rfl rfl), by decide +kernel⟩
set_option maxRecDepth 100000 in
theorem lk_8_60 : g_W 8 60 y_M_label c_M_label 2 (some .int) true 1 := ⟨⟨(g_tb1 8 rfl rfl), ⟨by decide +kernel, by decide +kernel⟩, Or.inl ⟨rfl, (g_tb4 167 rfl rfl), (g_tb4 168 rfl rfl), (g_tb4 169 rfl rfl)⟩⟩, (g_tb4 170 rfl rfl), by decide +kernel⟩
set_option maxRecDepth 100000 in
theorem lk_8_61 : g_W 8 61 y_L_move c_L_move 3 (some .int) true 2 := ⟨⟨(g_tb1 1 rfl rfl), ⟨by decide +kernel, by decide +kernel⟩, Or.inl ⟨rfl, (g_tb2 205 rfl rfl), (g_tb2 206 rfl rfl), (g_tb2 207 rfl rfl)⟩⟩, (g_tb2 208 rfl rfl), by decide +kernel⟩
set_option maxRecDepth 100000 in
theorem lk_8_64 : g_W 8 64 y_M_move c_M_move 3 (some .int) true 2 := ⟨⟨(g_tb1 8 rfl rfl), ⟨by decide +kernel, by decide +kernel⟩, Or.inl ⟨rfl, (g_tb4 171 rfl rfl), (g_tb4 172 rfl rfl), (g_tb4 173 rfl rfl)⟩⟩, (g_tb4 174 rfl rfl), by decide +kernel⟩
set_option maxRecDepth 100000 in
theorem lk_8_65 : g_W 8 65 y_L_part c_L_part 3 (some .int) true 2 := ⟨⟨(g_tb1 1 rfl rfl), ⟨by decide +kernel, by decide +kernel⟩, Or.inl ⟨rfl, (g_tb2 209 rfl rfl), (g_tb2 210 rfl rfl), (g_tb2 211 rfl rfl)⟩⟩, (g_tb2 212 rfl rfl), by decide +kernel⟩
set_option maxRecDepth 100000 in
theorem lk_8_68 : g_W 8 68 y_M_part c_M_part 3 (some .int) true 2 := ⟨⟨(g_tb1 8 rfl rfl), ⟨by decide +kernel, by decide +kernel⟩, Or.inl ⟨rfl, (g_tb4 175 rfl rfl), (g_tb4 176 rfl rfl), (g_tb4 177 rfl rfl)⟩⟩, (g_tb4 178 rfl rfl), by decide +kernel⟩
set_option maxRecDepth 100000 in
theorem lk_8_69 : g_W 8 69 y_L_holds c_L_holds 3 (some .int) true 2 := ⟨⟨(g_tb1 1 rfl rfl), ⟨by decide +kernel, by decide +kernel⟩, Or.inl ⟨rfl, (g_tb2 231 rfl rfl), (g_tb2 232 rfl rfl), (g_tb2 233 rfl rfl)⟩⟩, (g_tb2 234 rfl rfl), by decide +kernel⟩
set_option maxRecDepth 100000 in
theorem lk_8_72 : g_W 8 72 y_M_holds c_M_holds 3 (some .int) true 2 := ⟨⟨(g_tb1 8 rfl rfl), ⟨by decide +kernel, by decide +kernel⟩, Or.inl ⟨rfl, (g_tb4 191 rfl rfl), (g_tb4 192 rfl rfl), (g_tb4 193 rfl rfl)⟩⟩, (g_tb4 194 rfl rfl), by decide +kernel⟩
set_option maxRecDepth 100000 in
theorem lk_8_73 : g_W 8 73 y_L_where c_L_where 6 (some .int) true 1 := ⟨⟨(g_tb1 1 rfl rfl), ⟨by decide +kernel, by decide +kernel⟩, Or.inl ⟨rfl, (g_tb3 110 rfl rfl), (g_tb3 111 rfl rfl), (g_tb3 112 rfl rfl)⟩⟩, (g_tb3 113 rfl rfl), by decide +kernel⟩
set_option maxRecDepth 100000 in
theorem lk_8_76 : g_W 8 76 y_M_where c_M_where 2 (some .int) true 1 := ⟨⟨(g_tb1 8 rfl rfl), ⟨by decide +kernel, by decide +kernel⟩, Or.inl ⟨rfl, (g_tb5 20 rfl rfl), (g_tb5 21 rfl rfl), (g_tb5 22 rfl rfl)⟩⟩, (g_tb5 23 rfl rfl), by decide +kernel⟩
set_option maxRecDepth 100000 in
theorem lk_8_77 : g_W 8 77 y_L_some c_L_some 4 (some .int) true 1 := ⟨⟨(g_tb1 1 rfl rfl), ⟨by decide +kernel, by decide +kernel⟩, Or.inl ⟨rfl, (g_tb3 114 rfl rfl), (g_tb3 115 rfl rfl), (g_tb3 116 rfl rfl)⟩⟩, (g_tb3 117 rfl rfl), by decide +kernel⟩
set_option maxRecDepth 100000 in
theorem lk_8_80 : g_W 8 80 y_M_some c_M_some 2 (some .int) true 1 := ⟨⟨(g_tb1 8 rfl rfl), ⟨by decide +kernel, by decide +kernel⟩, Or.inl ⟨rfl, (g_tb5 24 rfl rfl), (g_tb5 25 rfl rfl), (g_tb5 26 rfl rfl)⟩⟩, (g_tb5 27 rfl rfl), by decide +kernel⟩
set_option maxRecDepth 100000 in
theorem lk_8_81 : g_W 8 81 y_L_breaks c_L_breaks 3 (some .int) true 2 := ⟨⟨(g_tb1 1 rfl rfl), ⟨by decide +kernel, by decide +kernel⟩, Or.inl ⟨rfl, (g_tb3 118 rfl rfl), (g_tb3 119 rfl rfl), (g_tb3 120 rfl rfl)⟩⟩, (g_tb3 121 rfl rfl), by decide +kernel⟩
set_option maxRecDepth 100000 in
theorem lk_8_84 : g_W 8 84 y_M_breaks c_M_breaks 3 (some .int) true 2 := ⟨⟨(g_tb1 8 rfl rfl), ⟨by decide +kernel, by decide +kernel⟩, Or.inl ⟨rfl, (g_tb5 28 rfl rfl), (g_tb5 29 rfl rfl), (g_tb5 30 rfl rfl)⟩⟩, (g_tb5 31 rfl rfl), by decide +kernel⟩
set_option maxRecDepth 100000 in
theorem lk_8_85 : g_W 8 85 y_L_against c_L_against 8 (some .int) true 2 := ⟨⟨(g_tb1 1 rfl rfl), ⟨by decide +kernel, by decide +kernel⟩, Or.inl ⟨rfl, (g_tb3 158 rfl rfl), (g_tb3 159 rfl rfl), (g_tb3 160 rfl rfl)⟩⟩, (g_tb3 161 rfl rfl), by decide +kernel⟩
set_option maxRecDepth 100000 in
theorem lk_8_88 : g_W 8 88 y_M_against c_M_against 3 (some .int) true 2 := ⟨⟨(g_tb1 8 rfl rfl), ⟨by decide +kernel, by decide +kernel⟩, Or.inl ⟨rfl, (g_tb5 44 rfl rfl), (g_tb5 45 rfl rfl), (g_tb5 46 rfl rfl)⟩⟩, (g_tb5 47 rfl rfl), by decide +kernel⟩
set_option maxRecDepth 100000 in
theorem lk_8_89 : g_W 8 89 y_L_shows c_L_shows 2 (some .int) true 1 := ⟨⟨(g_tb1 1 rfl rfl), ⟨by decide +kernel, by decide +kernel⟩, Or.inl ⟨rfl, (g_tb3 166 rfl rfl), (g_tb3 167 rfl rfl), (g_tb3 168 rfl rfl)⟩⟩, (g_tb3 169 rfl rfl), by decide +kernel⟩
set_option maxRecDepth 100000 in
theorem lk_8_92 : g_W 8 92 y_M_shows c_M_shows 2 (some .int) true 1 := ⟨⟨(g_tb1 8 rfl rfl), ⟨by decide +kernel, by decide +kernel⟩, Or.inl ⟨rfl, (g_tb5 56 rfl rfl), (g_tb5 57 rfl rfl), (g_tb5 58 rfl rfl)⟩⟩, (g_tb5 59 rfl rfl), by decide +kernel⟩
set_option maxRecDepth 100000 in
theorem lk_8_93 : g_W 8 93 y_L_hides c_L_hides 2 (some .int) true 0 := ⟨⟨(g_tb1 1 rfl rfl), ⟨by decide +kernel, by decide +kernel⟩, Or.inl ⟨rfl, (g_tb3 170 rfl rfl), (g_tb3 171 rfl rfl), (g_tb3 172 rfl rfl)⟩⟩, (g_tb3 173 rfl rfl), by decide +kernel⟩
set_option maxRecDepth 100000 in
theorem lk_8_96 : g_W 8 96 y_M_hides c_M_hides 2 (some .int) true 0 := ⟨⟨(g_tb1 8 rfl rfl), ⟨by decide +kernel, by decide +kernel⟩, Or.inl ⟨rfl, (g_tb5 60 rfl rfl), (g_tb5 61 rfl rfl), (g_tb5 62 rfl rfl)⟩⟩, (g_tb5 63 rfl rfl), by decide +kernel⟩
set_option maxRecDepth 100000 in
theorem lk_8_97 : g_W 8 97 y_L_judged c_L_judged 4 (some .int) true 1 := ⟨⟨(g_tb1 1 rfl rfl), ⟨by decide +kernel, by decide +kernel⟩, Or.inl ⟨rfl, (g_tb3 174 rfl rfl), (g_tb3 175 rfl rfl), (g_tb3 176 rfl rfl)⟩⟩, (g_tb3 177 rfl rfl), by decide +kernel⟩
set_option maxRecDepth 100000 in
theorem lk_8_100 : g_W 8 100 y_M_judged c_M_judged 2 (some .int) true 1 := ⟨⟨(g_tb1 8 rfl rfl), ⟨by decide +kernel, by decide +kernel⟩, Or.inl ⟨rfl, (g_tb5 64 rfl rfl), (g_tb5 65 rfl rfl), (g_tb5 66 rfl rfl)⟩⟩, (g_tb5 67 rfl rfl), by decide +kernel⟩
set_option maxRecDepth 100000 in
theorem lk_8_101 : g_W 8 101 y_L_keep c_L_keep 2 (some .int) true 1 := ⟨⟨(g_tb1 1 rfl rfl), ⟨by decide +kernel, by decide +kernel⟩, Or.inl ⟨rfl, (g_tb3 182 rfl rfl), (g_tb3 183 rfl rfl), (g_tb3 184 rfl rfl)⟩⟩, (g_tb3 185 rfl rfl), by decide +kernel⟩
set_option maxRecDepth 100000 in
theorem lk_8_104 : g_W 8 104 y_M_keep c_M_keep 3 (some .int) true 1 := ⟨⟨(g_tb1 8 rfl rfl), ⟨by decide +kernel, by decide +kernel⟩, Or.inl ⟨rfl, (g_tb5 76 rfl rfl), (g_tb5 77 rfl rfl), (g_tb5 78 rfl rfl)⟩⟩, (g_tb5 79 rfl rfl), by decide +kernel⟩
set_option maxRecDepth 100000 in
theorem lk_8_105 : g_W 8 105 y_L_back c_L_back 2 (some .int) true 1 := ⟨⟨(g_tb1 1 rfl rfl), ⟨by decide +kernel, by decide +kernel⟩, Or.inl ⟨rfl, (g_tb3 189 rfl rfl), (g_tb3 190 rfl rfl), (g_tb3 191 rfl rfl)⟩⟩, (g_tb3 192 rfl rfl), by decide +kernel⟩
set_option maxRecDepth 100000 in
theorem lk_8_108 : g_W 8 108 y_M_back c_M_back 3 (some .int) true 1 := ⟨⟨(g_tb1 8 rfl rfl), ⟨by decide +kernel, by decide +kernel⟩, Or.inl ⟨rfl, (g_tb5 83 rfl rfl), (g_tb5 84 rfl rfl), (g_tb5 85 rfl rfl)⟩⟩, (g_tb5 86 rfl rfl), by decide +kernel⟩
set_option maxRecDepth 100000 in
theorem lk_8_109 : g_W 8 109 y_L_count c_L_count 2 (some .int) true 1 := ⟨⟨(g_tb1 1 rfl rfl), ⟨by decide +kernel, by decide +kernel⟩, Or.inl ⟨rfl, (g_tb3 193 rfl rfl), (g_tb3 194 rfl rfl), (g_tb3 195 rfl rfl)⟩⟩, (g_tb3 196 rfl rfl), by decide +kernel⟩
set_option maxRecDepth 100000 in
theorem lk_8_112 : g_W 8 112 y_M_count c_M_count 2 (some .int) true 1 := ⟨⟨(g_tb1 8 rfl rfl), ⟨by decide +kernel, by decide +kernel⟩, Or.inl ⟨rfl, (g_tb5 87 rfl rfl), (g_tb5 88 rfl rfl), (g_tb5 89 rfl rfl)⟩⟩, (g_tb5 90 rfl rfl), by decide +kernel⟩
set_option maxRecDepth 100000 in
theorem lk_7_85 : g_W 7 85 y_M_in c_M_in 3 (some .boolean) false 3 := ⟨⟨(g_tb1 8 rfl rfl), ⟨by decide +kernel, by decide +kernel⟩, Or.inr ⟨rfl, (g_tb4 72 rfl rfl), Or.inl (g_tb4 71 rfl rfl)⟩⟩, (g_tb4 73 rfl rfl), by decide +kernel⟩
set_option maxRecDepth 100000 in
theorem lk_7_98 : g_W 7 98 y_M_blanks c_M_blanks 1 none true 0 := ⟨⟨(g_tb1 8 rfl rfl), ⟨by decide +kernel, by decide +kernel⟩, Or.inl ⟨rfl, (g_tb4 86 rfl rfl), (g_tb4 88 rfl rfl), (g_w 34 rfl rfl)⟩⟩, (g_tb4 89 rfl rfl), by decide +kernel⟩
set_option maxRecDepth 100000 in
theorem lk_7_101 : g_W 7 101 y_M_isAt c_M_isAt 2 (some .boolean) true 1 := ⟨⟨(g_tb1 8 rfl rfl), ⟨by decide +kernel, by decide +kernel⟩, Or.inl ⟨rfl, (g_tb4 90 rfl rfl), (g_tb4 92 rfl rfl), (g_w 35 rfl rfl)⟩⟩, (g_tb4 93 rfl rfl), by decide +kernel⟩
set_option maxRecDepth 100000 in
theorem lk_7_108 : g_W 7 108 y_M_isFigure c_M_isFigure 1 (some .boolean) true 0 := ⟨⟨(g_tb1 8 rfl rfl), ⟨by decide +kernel, by decide +kernel⟩, Or.inl ⟨rfl, (g_tb4 102 rfl rfl), (g_tb4 104 rfl rfl), (g_w 38 rfl rfl)⟩⟩, (g_tb4 105 rfl rfl), by decide +kernel⟩
set_option maxRecDepth 100000 in
theorem lk_7_112 : g_W 7 112 y_M_takesNumber c_M_takesNumber 3 (some .boolean) true 1 := ⟨⟨(g_tb1 8 rfl rfl), ⟨by decide +kernel, by decide +kernel⟩, Or.inl ⟨rfl, (g_tb4 98 rfl rfl), (g_tb4 100 rfl rfl), (g_w 37 rfl rfl)⟩⟩, (g_tb4 101 rfl rfl), by decide +kernel⟩
set_option maxRecDepth 100000 in
theorem lk_7_115 : g_W 7 115 y_M_takesSign c_M_takesSign 3 (some .boolean) true 1 := ⟨⟨(g_tb1 8 rfl rfl), ⟨by decide +kernel, by decide +kernel⟩, Or.inl ⟨rfl, (g_tb4 106 rfl rfl), (g_tb4 108 rfl rfl), (g_w 39 rfl rfl)⟩⟩, (g_tb4 109 rfl rfl), by decide +kernel⟩
set_option maxRecDepth 100000 in
theorem lk_7_118 : g_W 7 118 y_M_takesState c_M_takesState 1 (some .boolean) true 0 := ⟨⟨(g_tb1 8 rfl rfl), ⟨by decide +kernel, by decide +kernel⟩, Or.inl ⟨rfl, (g_tb4 94 rfl rfl), (g_tb4 96 rfl rfl), (g_w 36 rfl rfl)⟩⟩, (g_tb4 97 rfl rfl), by decide +kernel⟩
set_option maxRecDepth 100000 in
theorem lk_7_121 : g_W 7 121 y_M_takesMove c_M_takesMove 2 (some .boolean) true 0 := ⟨⟨(g_tb1 8 rfl rfl), ⟨by decide +kernel, by decide +kernel⟩, Or.inl ⟨rfl, (g_tb4 110 rfl rfl), (g_tb4 112 rfl rfl), (g_w 40 rfl rfl)⟩⟩, (g_tb4 113 rfl rfl), by decide +kernel⟩
set_option maxRecDepth 100000 in
theorem lk_7_124 : g_W 7 124 y_M_readsSystem c_M_readsSystem 3 (some .int) true 0 := ⟨⟨(g_tb1 8 rfl rfl), ⟨by decide +kernel, by decide +kernel⟩, Or.inl ⟨rfl, (g_tb4 82 rfl rfl), (g_tb4 84 rfl rfl), (g_w 33 rfl rfl)⟩⟩, (g_tb4 85 rfl rfl), by decide +kernel⟩
set_option maxRecDepth 100000 in
theorem lk_7_128 : g_W 7 128 y_M_remembers c_M_remembers 2 none true 0 := ⟨⟨(g_tb1 8 rfl rfl), ⟨by decide +kernel, by decide +kernel⟩, Or.inl ⟨rfl, (g_tb4 114 rfl rfl), (g_tb4 116 rfl rfl), (g_w 41 rfl rfl)⟩⟩, (g_tb4 117 rfl rfl), by decide +kernel⟩
set_option maxRecDepth 100000 in
theorem lk_7_131 : g_W 7 131 y_M_isLater c_M_isLater 1 (some .boolean) false 1 := ⟨⟨(g_tb1 8 rfl rfl), ⟨by decide +kernel, by decide +kernel⟩, Or.inr ⟨rfl, (g_tb4 127 rfl rfl), Or.inl (g_tb4 126 rfl rfl)⟩⟩, (g_tb4 128 rfl rfl), by decide +kernel⟩
set_option maxRecDepth 100000 in
theorem lk_7_134 : g_W 7 134 y_M_insideOf c_M_insideOf 1 (some .int) false 1 := ⟨⟨(g_tb1 8 rfl rfl), ⟨by decide +kernel, by decide +kernel⟩, Or.inr ⟨rfl, (g_tb4 130 rfl rfl), Or.inl (g_tb4 129 rfl rfl)⟩⟩, (g_tb4 131 rfl rfl), by decide +kernel⟩
set_option maxRecDepth 100000 in
theorem lk_7_138 : g_W 7 138 y_M_readsFormula c_M_readsFormula 5 (some .int) true 0 := ⟨⟨(g_tb1 8 rfl rfl), ⟨by decide +kernel, by decide +kernel⟩, Or.inl ⟨rfl, (g_tb4 122 rfl rfl), (g_tb4 124 rfl rfl), (g_w 42 rfl rfl)⟩⟩, (g_tb4 125 rfl rfl), by decide +kernel⟩
set_option maxRecDepth 100000 in
theorem lk_7_141 : g_W 7 141 y_M_isState c_M_isState 2 (some .boolean) true 1 := ⟨⟨(g_tb1 8 rfl rfl), ⟨by decide +kernel, by decide +kernel⟩, Or.inl ⟨rfl, (g_tb4 136 rfl rfl), (g_tb4 138 rfl rfl), (g_w 43 rfl rfl)⟩⟩, (g_tb4 139 rfl rfl), by decide +kernel⟩
set_option maxRecDepth 100000 in
theorem lk_7_144 : g_W 7 144 y_M_isMove c_M_isMove 2 (some .boolean) true 1 := ⟨⟨(g_tb1 8 rfl rfl), ⟨by decide +kernel, by decide +kernel⟩, Or.inl ⟨rfl, (g_tb4 148 rfl rfl), (g_tb4 150 rfl rfl), (g_w 44 rfl rfl)⟩⟩, (g_tb4 151 rfl rfl), by decide +kernel⟩
set_option maxRecDepth 100000 in
theorem lk_7_147 : g_W 7 147 y_M_isSlot c_M_isSlot 1 (some .boolean) false 1 := ⟨⟨(g_tb1 8 rfl rfl), ⟨by decide +kernel, by decide +kernel⟩, Or.inr ⟨rfl, (g_tb4 157 rfl rfl), Or.inl (g_tb4 156 rfl rfl)⟩⟩, (g_tb4 158 rfl rfl), by decide +kernel⟩
set_option maxRecDepth 100000 in
theorem lk_7_150 : g_W 7 150 y_M_copies c_M_copies 4 (some .int) true 2 := ⟨⟨(g_tb1 8 rfl rfl), ⟨by decide +kernel, by decide +kernel⟩, Or.inl ⟨rfl, (g_tb4 159 rfl rfl), (g_tb4 161 rfl rfl), (g_w 45 rfl rfl)⟩⟩, (g_tb4 162 rfl rfl), by decide +kernel⟩
set_option maxRecDepth 100000 in
theorem lk_7_157 : g_W 7 157 y_M_laysFormula c_M_laysFormula 9 none true 2 := ⟨⟨(g_tb1 8 rfl rfl), ⟨by decide +kernel, by decide +kernel⟩, Or.inl ⟨rfl, (g_tb4 183 rfl rfl), (g_tb4 185 rfl rfl), (g_w 47 rfl rfl)⟩⟩, (g_tb4 186 rfl rfl), by decide +kernel⟩
set_option maxRecDepth 100000 in
theorem lk_7_161 : g_W 7 161 y_M_laysOne c_M_laysOne 1 none true 0 := ⟨⟨(g_tb1 8 rfl rfl), ⟨by decide +kernel, by decide +kernel⟩, Or.inl ⟨rfl, (g_tb4 179 rfl rfl), (g_tb4 181 rfl rfl), (g_w 46 rfl rfl)⟩⟩, (g_tb4 182 rfl rfl), by decide +kernel⟩
set_option maxRecDepth 100000 in
theorem lk_7_164 : g_W 7 164 y_M_outerOf c_M_outerOf 6 (some .int) true 1 := ⟨⟨(g_tb1 8 rfl rfl), ⟨by decide +kernel, by decide +kernel⟩, Or.inl ⟨rfl, (g_tb4 187 rfl rfl), (g_tb4 189 rfl rfl), (g_w 48 rfl rfl)⟩⟩, (g_tb4 190 rfl rfl), by decide +kernel⟩
set_option maxRecDepth 100000 in
theorem lk_7_167 : g_W 7 167 y_M_has c_M_has 2 (some .boolean) false 2 := ⟨⟨(g_tb1 8 rfl rfl), ⟨by decide +kernel, by decide +kernel⟩, Or.inr ⟨rfl, (g_tb4 215 rfl rfl), Or.inl (g_tb4 214 rfl rfl)⟩⟩, (g_tb4 216 rfl rfl), by decide +kernel⟩
set_option maxRecDepth 100000 in
theorem lk_7_171 : g_W 7 171 y_M_isSoBy c_M_isSoBy 7 (some .boolean) true 5 := ⟨⟨(g_tb1 8 rfl rfl), ⟨by decide +kernel, by decide +kernel⟩, Or.inl ⟨rfl, (g_tb4 217 rfl rfl), (g_tb4 219 rfl rfl), (g_w 53 rfl rfl)⟩⟩, (g_tb4 220 rfl rfl), by decide +kernel⟩
set_option maxRecDepth 100000 in
theorem lk_7_175 : g_W 7 175 y_M_goesWith c_M_goesWith 10 (some .boolean) true 4 := ⟨⟨(g_tb1 8 rfl rfl), ⟨by decide +kernel, by decide +kernel⟩, Or.inl ⟨rfl, (g_tb4 237 rfl rfl), (g_tb4 239 rfl rfl), (g_w 58 rfl rfl)⟩⟩, (g_tb5 0 rfl rfl), by decide +kernel⟩
set_option maxRecDepth 100000 in
theorem lk_7_185 : g_W 7 185 y_M_partsAt c_M_partsAt 9 (some .int) true 3 := ⟨⟨(g_tb1 8 rfl rfl), ⟨by decide +kernel, by decide +kernel⟩, Or.inl ⟨rfl, (g_tb4 210 rfl rfl), (g_tb4 212 rfl rfl), (g_w 52 rfl rfl)⟩⟩, (g_tb4 213 rfl rfl), by decide +kernel⟩
set_option maxRecDepth 100000 in
theorem lk_7_189 : g_W 7 189 y_M_isCalm c_M_isCalm 7 (some .boolean) true 3 := ⟨⟨(g_tb1 8 rfl rfl), ⟨by decide +kernel, by decide +kernel⟩, Or.inl ⟨rfl, (g_tb4 221 rfl rfl), (g_tb4 223 rfl rfl), (g_w 54 rfl rfl)⟩⟩, (g_tb4 224 rfl rfl), by decide +kernel⟩
set_option maxRecDepth 100000 in
theorem lk_7_195 : g_W 7 195 y_M_areNext c_M_areNext 6 (some .boolean) true 2 := ⟨⟨(g_tb1 8 rfl rfl), ⟨by decide +kernel, by decide +kernel⟩, Or.inl ⟨rfl, (g_tb4 233 rfl rfl), (g_tb4 235 rfl rfl), (g_w 57 rfl rfl)⟩⟩, (g_tb4 236 rfl rfl), by decide +kernel⟩
set_option maxRecDepth 100000 in
theorem lk_7_198 : g_W 7 198 y_M_laysNodes c_M_laysNodes 5 none true 0 := ⟨⟨(g_tb1 8 rfl rfl), ⟨by decide +kernel, by decide +kernel⟩, Or.inl ⟨rfl, (g_tb4 206 rfl rfl), (g_tb4 208 rfl rfl), (g_w 51 rfl rfl)⟩⟩, (g_tb4 209 rfl rfl), by decide +kernel⟩
set_option maxRecDepth 100000 in
theorem lk_7_201 : g_W 7 201 y_M_hasMove c_M_hasMove 5 (some .boolean) true 2 := ⟨⟨(g_tb1 8 rfl rfl), ⟨by decide +kernel, by decide +kernel⟩, Or.inl ⟨rfl, (g_tb4 225 rfl rfl), (g_tb4 227 rfl rfl), (g_w 55 rfl rfl)⟩⟩, (g_tb4 228 rfl rfl), by decide +kernel⟩
set_option maxRecDepth 100000 in
theorem lk_7_204 : g_W 7 204 y_M_laysWays c_M_laysWays 8 none true 3 := ⟨⟨(g_tb1 8 rfl rfl), ⟨by decide +kernel, by decide +kernel⟩, Or.inl ⟨rfl, (g_tb4 229 rfl rfl), (g_tb4 231 rfl rfl), (g_w 56 rfl rfl)⟩⟩, (g_tb4 232 rfl rfl), by decide +kernel⟩
set_option maxRecDepth 100000 in
theorem lk_7_208 : g_W 7 208 y_M_isIn c_M_isIn 3 (some .boolean) false 2 := ⟨⟨(g_tb1 8 rfl rfl), ⟨by decide +kernel, by decide +kernel⟩, Or.inr ⟨rfl, (g_tb5 10 rfl rfl), Or.inl (g_tb5 9 rfl rfl)⟩⟩, (g_tb5 11 rfl rfl), by decide +kernel⟩
set_option maxRecDepth 100000 in
theorem lk_7_212 : g_W 7 212 y_M_closes c_M_closes 4 none true 1 := ⟨⟨(g_tb1 8 rfl rfl), ⟨by decide +kernel, by decide +kernel⟩, Or.inl ⟨rfl, (g_tb5 5 rfl rfl), (g_tb5 7 rfl rfl), (g_w 60 rfl rfl)⟩⟩, (g_tb5 8 rfl rfl), by decide +kernel⟩
set_option maxRecDepth 100000 in
theorem lk_7_216 : g_W 7 216 y_M_metBy c_M_metBy 7 (some .int) true 1 := ⟨⟨(g_tb1 8 rfl rfl), ⟨by decide +kernel, by decide +kernel⟩, Or.inl ⟨rfl, (g_tb5 12 rfl rfl), (g_tb5 14 rfl rfl), (g_w 61 rfl rfl)⟩⟩, (g_tb5 15 rfl rfl), by decide +kernel⟩
set_option maxRecDepth 100000 in
theorem lk_7_219 : g_W 7 219 y_M_laysSystem c_M_laysSystem 7 none true 1 := ⟨⟨(g_tb1 8 rfl rfl), ⟨by decide +kernel, by decide +kernel⟩, Or.inl ⟨rfl, (g_tb4 202 rfl rfl), (g_tb4 204 rfl rfl), (g_w 50 rfl rfl)⟩⟩, (g_tb4 205 rfl rfl), by decide +kernel⟩
set_option maxRecDepth 100000 in
theorem lk_7_222 : g_W 7 222 y_M_findsOn c_M_findsOn 5 none true 0 := ⟨⟨(g_tb1 8 rfl rfl), ⟨by decide +kernel, by decide +kernel⟩, Or.inl ⟨rfl, (g_tb5 1 rfl rfl), (g_tb5 3 rfl rfl), (g_w 59 rfl rfl)⟩⟩, (g_tb5 4 rfl rfl), by decide +kernel⟩
set_option maxRecDepth 100000 in
theorem lk_7_225 : g_W 7 225 y_M_isThere c_M_isThere 6 (some .boolean) true 2 := ⟨⟨(g_tb1 8 rfl rfl), ⟨by decide +kernel, by decide +kernel⟩, Or.inl ⟨rfl, (g_tb5 16 rfl rfl), (g_tb5 18 rfl rfl), (g_w 62 rfl rfl)⟩⟩, (g_tb5 19 rfl rfl), by decide +kernel⟩
set_option maxRecDepth 100000 in
theorem lk_7_229 : g_W 7 229 y_M_isFair c_M_isFair 1 (some .boolean) false 1 := ⟨⟨(g_tb1 8 rfl rfl), ⟨by decide +kernel, by decide +kernel⟩, Or.inr ⟨rfl, (g_tb4 196 rfl rfl), Or.inl (g_tb4 195 rfl rfl)⟩⟩, (g_tb4 197 rfl rfl), by decide +kernel⟩
set_option maxRecDepth 100000 in
theorem lk_7_232 : g_W 7 232 y_M_whereOf c_M_whereOf 4 (some .int) true 1 := ⟨⟨(g_tb1 8 rfl rfl), ⟨by decide +kernel, by decide +kernel⟩, Or.inl ⟨rfl, (g_tb4 198 rfl rfl), (g_tb4 200 rfl rfl), (g_w 49 rfl rfl)⟩⟩, (g_tb4 201 rfl rfl), by decide +kernel⟩
set_option maxRecDepth 100000 in
theorem lk_7_235 : g_W 7 235 y_M_findsFar c_M_findsFar 5 none true 0 := ⟨⟨(g_tb1 8 rfl rfl), ⟨by decide +kernel, by decide +kernel⟩, Or.inl ⟨rfl, (g_tb5 36 rfl rfl), (g_tb5 38 rfl rfl), (g_w 64 rfl rfl)⟩⟩, (g_tb5 39 rfl rfl), by decide +kernel⟩
set_option maxRecDepth 100000 in
theorem lk_7_238 : g_W 7 238 y_M_roundOf c_M_roundOf 8 (some .int) true 1 := ⟨⟨(g_tb1 8 rfl rfl), ⟨by decide +kernel, by decide +kernel⟩, Or.inl ⟨rfl, (g_tb5 40 rfl rfl), (g_tb5 42 rfl rfl), (g_w 65 rfl rfl)⟩⟩, (g_tb5 43 rfl rfl), by decide +kernel⟩
set_option maxRecDepth 100000 in
theorem lk_7_241 : g_W 7 241 y_M_breaksOf c_M_breaksOf 10 (some .int) true 2 := ⟨⟨(g_tb1 8 rfl rfl), ⟨by decide +kernel, by decide +kernel⟩, Or.inl ⟨rfl, (g_tb5 32 rfl rfl), (g_tb5 34 rfl rfl), (g_w 63 rfl rfl)⟩⟩, (g_tb5 35 rfl rfl), by decide +kernel⟩
set_option maxRecDepth 100000 in
theorem lk_7_244 : g_W 7 244 y_M_togetherOf c_M_togetherOf 7 (some .int) true 0 := ⟨⟨(g_tb1 8 rfl rfl), ⟨by decide +kernel, by decide +kernel⟩, Or.inl ⟨rfl, (g_tb5 52 rfl rfl), (g_tb5 54 rfl rfl), (g_w 67 rfl rfl)⟩⟩, (g_tb5 55 rfl rfl), by decide +kernel⟩
set_option maxRecDepth 100000 in
theorem lk_7_247 : g_W 7 247 y_M_againstOf c_M_againstOf 6 (some .int) true 1 := ⟨⟨(g_tb1 8 rfl rfl), ⟨by decide +kernel, by decide +kernel⟩, Or.inl ⟨rfl, (g_tb5 48 rfl rfl), (g_tb5 50 rfl rfl), (g_w 66 rfl rfl)⟩⟩, (g_tb5 51 rfl rfl), by decide +kernel⟩
set_option maxRecDepth 100000 in
theorem lk_7_253 : g_W 7 253 y_M_tellsLater c_M_tellsLater 14 none true 2 := ⟨⟨(g_tb1 8 rfl rfl), ⟨by decide +kernel, by decide +kernel⟩, Or.inl ⟨rfl, (g_tb5 72 rfl rfl), (g_tb5 74 rfl rfl), (g_w 69 rfl rfl)⟩⟩, (g_tb5 75 rfl rfl), by decide +kernel⟩
set_option maxRecDepth 100000 in
theorem lk_7_256 : g_W 7 256 y_M_judgedAt c_M_judgedAt 3 (some .int) true 1 := ⟨⟨(g_tb1 8 rfl rfl), ⟨by decide +kernel, by decide +kernel⟩, Or.inl ⟨rfl, (g_tb5 68 rfl rfl), (g_tb5 70 rfl rfl), (g_w 68 rfl rfl)⟩⟩, (g_tb5 71 rfl rfl), by decide +kernel⟩
set_option maxRecDepth 100000 in
theorem lk_7_259 : g_W 7 259 y_M_isImage c_M_isImage 1 (some .boolean) false 1 := ⟨⟨(g_tb1 8 rfl rfl), ⟨by decide +kernel, by decide +kernel⟩, Or.inr ⟨rfl, (g_tb5 81 rfl rfl), Or.inl (g_tb5 80 rfl rfl)⟩⟩, (g_tb5 82 rfl rfl), by decide +kernel⟩
set_option maxRecDepth 100000 in
theorem lk_7_262 : g_W 7 262 y_M_latersNow c_M_latersNow 1 (some .int) true 0 := ⟨⟨(g_tb1 8 rfl rfl), ⟨by decide +kernel, by decide +kernel⟩, Or.inl ⟨rfl, (g_tb5 91 rfl rfl), (g_tb5 93 rfl rfl), (g_w 70 rfl rfl)⟩⟩, (g_tb5 94 rfl rfl), by decide +kernel⟩
abbrev HM (f_undone : Int32) (f_letters : Int32) (f_showing : Int32) (f_spot : Int32) (f_tokenAt : Int32) (f_value : Int32) (f_laters : Int32) (f_places : Int32) (f_guesses : Int32) (f_ways : Int32) (f_now : Nat → Int32) (f_past : Nat → Int32) (f_images : Nat → Int32) (f_isKept : Nat → Int32) (f_text : Nat → Int32) (f_shown : Nat → Int32) (f_read : Nat → Int32) (f_letter : Nat → Int32) (f_sizes : Nat → Int32) (f_laterNumber : Nat → Int32) (f_many : Nat → Int32) (f_labelAt : Nat → Int32) (f_soAt : Nat → Int32) (f_meets : Nat → Int32) (f_wayFrom : Nat → Int32) (f_wayTo : Nat → Int32) (f_wayBy : Nat → Int32) (f_reach : Nat → Int64) (f_goesOn : Nat → Int32) (f_far : Nat → Int32) (f_round : Nat → Int32) (f_line : Nat → Int32) (f_guessAt : Nat → Int32) : List g_E := [.inr (7, [.ref 1, .ref 2, .int f_undone, .ref 3, .ref 4, .ref 5, .int f_letters, .ref 6, .int f_showing, .ref 7, .int f_spot, .int f_tokenAt, .int f_value, .ref 8, .ref 9, .ref 10, .ref 11, .int f_laters, .int f_places, .int f_guesses, .ref 12, .ref 13, .ref 14, .ref 15, .ref 16, .ref 17, .int f_ways, .ref 18, .ref 19, .ref 20, .ref 21, .ref 22, .ref 23]), .inl (.int, 105, .inl f_now), .inl (.int, 630, .inl f_past), .inl (.int, 210, .inl f_images), .inl (.boolean, 2, .inl f_isKept), .inl (.int, 120, .inl f_text), .inl (.int, 8, .inl f_shown), .inl (.int, 105, .inl f_read), .inl (.int, 32, .inl f_letter), .inl (.int, 32, .inl f_sizes), .inl (.int, 32, .inl f_laterNumber), .inl (.int, 2, .inl f_many), .inl (.int, 8, .inl f_labelAt), .inl (.int, 128, .inl f_soAt), .inl (.int, 64, .inl f_meets), .inl (.int, 640, .inl f_wayFrom), .inl (.int, 640, .inl f_wayTo), .inl (.int, 640, .inl f_wayBy), .inl (.long, 64, .inr (.inl f_reach)), .inl (.boolean, 64, .inl f_goesOn), .inl (.int, 64, .inl f_far), .inl (.int, 2048, .inl f_round), .inl (.int, 2048, .inl f_line), .inl (.int, 8, .inl f_guessAt)]
