set_option maxRecDepth 100000 in
theorem kX12_level : z_okM z_MT 198 := ⟨⟨rfl, z_at7 225 rfl rfl, z_ini13, ⟨z_at7 223 rfl rfl, z_at7 224 rfl rfl, rfl, by decide, by decide, rfl⟩, by decide +kernel, by decide +kernel, by decide +kernel, by decide +kernel, by decide⟩, by decide +kernel, by decide +kernel, by decide +kernel, by decide +kernel, Or.inl rfl⟩
set_option maxRecDepth 100000 in
theorem kX12_levelByPools : z_okM z_MT 199 := ⟨⟨rfl, z_at7 229 rfl rfl, z_ini13, ⟨z_at7 227 rfl rfl, z_at7 228 rfl rfl, rfl, by decide, by decide, rfl⟩, by decide +kernel, by decide +kernel, by decide +kernel, by decide +kernel, by decide⟩, by decide +kernel, by decide +kernel, by decide +kernel, by decide +kernel, Or.inl rfl⟩
set_option maxRecDepth 100000 in
theorem kX12_worth : z_okM z_MT 200 := ⟨⟨rfl, z_at8 21 rfl rfl, z_ini13, ⟨z_at8 20 rfl rfl, z_atP 76 rfl rfl, rfl, by decide, by decide, rfl⟩, by decide +kernel, by decide +kernel, by decide +kernel, by decide +kernel, by decide⟩, by decide +kernel, by decide +kernel, by decide +kernel, by decide +kernel, Or.inl rfl⟩
set_option maxRecDepth 100000 in
theorem kX12_goesBy : z_okM z_MT 201 := ⟨⟨rfl, z_at8 17 rfl rfl, z_ini13, ⟨z_at8 16 rfl rfl, z_atP 75 rfl rfl, rfl, by decide, by decide, rfl⟩, by decide +kernel, by decide +kernel, by decide +kernel, by decide +kernel, by decide⟩, by decide +kernel, by decide +kernel, by decide +kernel, by decide +kernel, Or.inl rfl⟩
set_option maxRecDepth 100000 in
theorem kX12_bestWay : z_okM z_MT 202 := ⟨⟨rfl, z_at8 13 rfl rfl, z_ini13, ⟨z_at8 12 rfl rfl, z_atP 74 rfl rfl, rfl, by decide, by decide, rfl⟩, by decide +kernel, by decide +kernel, by decide +kernel, by decide +kernel, by decide⟩, by decide +kernel, by decide +kernel, by decide +kernel, by decide +kernel, Or.inl rfl⟩
set_option maxRecDepth 100000 in
theorem kX12_isLake : z_okM z_MT 203 := ⟨⟨rfl, z_at7 237 rfl rfl, z_ini13, ⟨z_at7 236 rfl rfl, z_atP 70 rfl rfl, rfl, by decide, by decide, rfl⟩, by decide +kernel, by decide +kernel, by decide +kernel, by decide +kernel, by decide⟩, by decide +kernel, by decide +kernel, by decide +kernel, by decide +kernel, Or.inl rfl⟩
set_option maxRecDepth 100000 in
theorem kX12_lowest : z_okM z_MT 204 := ⟨⟨rfl, z_at8 1 rfl rfl, z_ini13, ⟨z_at8 0 rfl rfl, z_atP 71 rfl rfl, rfl, by decide, by decide, rfl⟩, by decide +kernel, by decide +kernel, by decide +kernel, by decide +kernel, by decide⟩, by decide +kernel, by decide +kernel, by decide +kernel, by decide +kernel, Or.inl rfl⟩
set_option maxRecDepth 100000 in
theorem kX12_bottom : z_okM z_MT 205 := ⟨⟨rfl, z_at8 9 rfl rfl, z_ini13, ⟨z_at8 8 rfl rfl, z_atP 73 rfl rfl, rfl, by decide, by decide, rfl⟩, by decide +kernel, by decide +kernel, by decide +kernel, by decide +kernel, by decide⟩, by decide +kernel, by decide +kernel, by decide +kernel, by decide +kernel, Or.inl rfl⟩
set_option maxRecDepth 100000 in
theorem kX12_volume : z_okM z_MT 206 := ⟨⟨rfl, z_at8 5 rfl rfl, z_ini13, ⟨z_at8 4 rfl rfl, z_atP 72 rfl rfl, rfl, by decide, by decide, rfl⟩, by decide +kernel, by decide +kernel, by decide +kernel, by decide +kernel, by decide⟩, by decide +kernel, by decide +kernel, by decide +kernel, by decide +kernel, Or.inl rfl⟩
set_option maxRecDepth 100000 in
theorem kX12_lake : z_okM z_MT 207 := ⟨⟨rfl, z_at7 233 rfl rfl, z_ini13, ⟨z_at7 231 rfl rfl, z_at7 232 rfl rfl, rfl, by decide, by decide, rfl⟩, by decide +kernel, by decide +kernel, by decide +kernel, by decide +kernel, by decide⟩, by decide +kernel, by decide +kernel, by decide +kernel, by decide +kernel, Or.inl rfl⟩
set_option maxRecDepth 100000 in
theorem kX12_lakeOf : z_okM z_MT 208 := ⟨⟨rfl, z_at8 25 rfl rfl, z_ini13, ⟨z_at8 23 rfl rfl, z_at8 24 rfl rfl, rfl, by decide, by decide, rfl⟩, by decide +kernel, by decide +kernel, by decide +kernel, by decide +kernel, by decide⟩, by decide +kernel, by decide +kernel, by decide +kernel, by decide +kernel, Or.inl rfl⟩
set_option maxRecDepth 100000 in
theorem kX12_remedy : z_okM z_MT 209 := ⟨⟨rfl, z_at8 29 rfl rfl, z_ini13, ⟨z_at8 27 rfl rfl, z_at8 28 rfl rfl, rfl, by decide, by decide, rfl⟩, by decide +kernel, by decide +kernel, by decide +kernel, by decide +kernel, by decide⟩, by decide +kernel, by decide +kernel, by decide +kernel, by decide +kernel, Or.inl rfl⟩
set_option maxRecDepth 100000 in
theorem kX12_fillLake : z_okM z_MT 210 := ⟨⟨rfl, z_at8 33 rfl rfl, z_ini13, ⟨z_at8 31 rfl rfl, z_at8 32 rfl rfl, rfl, by decide, by decide, rfl⟩, by decide +kernel, by decide +kernel, by decide +kernel, by decide +kernel, by decide⟩, by decide +kernel, by decide +kernel, by decide +kernel, by decide +kernel, Or.inl rfl⟩
set_option maxRecDepth 100000 in
theorem kX12_carveLake : z_okM z_MT 211 := ⟨⟨rfl, z_at8 37 rfl rfl, z_ini13, ⟨z_at8 35 rfl rfl, z_at8 36 rfl rfl, rfl, by decide, by decide, rfl⟩, by decide +kernel, by decide +kernel, by decide +kernel, by decide +kernel, by decide⟩, by decide +kernel, by decide +kernel, by decide +kernel, by decide +kernel, Or.inl rfl⟩
set_option maxRecDepth 100000 in
theorem kX12_carveWay : z_okM z_MT 212 := ⟨⟨rfl, z_at8 41 rfl rfl, z_ini13, ⟨z_at8 39 rfl rfl, z_at8 40 rfl rfl, rfl, by decide, by decide, rfl⟩, by decide +kernel, by decide +kernel, by decide +kernel, by decide +kernel, by decide⟩, by decide +kernel, by decide +kernel, by decide +kernel, by decide +kernel, Or.inl rfl⟩
set_option maxRecDepth 100000 in
theorem kX12_meanDepth : z_okM z_MT 213 := ⟨⟨rfl, z_at8 45 rfl rfl, z_ini13, ⟨z_at8 43 rfl rfl, z_at8 44 rfl rfl, rfl, by decide, by decide, rfl⟩, by decide +kernel, by decide +kernel, by decide +kernel, by decide +kernel, by decide⟩, by decide +kernel, by decide +kernel, by decide +kernel, by decide +kernel, Or.inl rfl⟩
set_option maxRecDepth 100000 in
theorem kX12_flow : z_okM z_MT 214 := ⟨⟨rfl, z_at8 49 rfl rfl, z_ini13, ⟨z_at8 47 rfl rfl, z_at8 48 rfl rfl, rfl, by decide, by decide, rfl⟩, by decide +kernel, by decide +kernel, by decide +kernel, by decide +kernel, by decide⟩, by decide +kernel, by decide +kernel, by decide +kernel, by decide +kernel, Or.inl rfl⟩
set_option maxRecDepth 100000 in
theorem kX12_why : z_okM z_MT 215 := ⟨⟨rfl, z_at8 53 rfl rfl, z_ini13, ⟨z_at8 51 rfl rfl, z_at8 52 rfl rfl, rfl, by decide, by decide, rfl⟩, by decide +kernel, by decide +kernel, by decide +kernel, by decide +kernel, by decide⟩, by decide +kernel, by decide +kernel, by decide +kernel, by decide +kernel, Or.inl rfl⟩
set_option maxRecDepth 100000 in
theorem kX12_route : z_okM z_MT 216 := ⟨⟨rfl, z_at8 57 rfl rfl, z_ini13, ⟨z_at8 55 rfl rfl, z_at8 56 rfl rfl, rfl, by decide, by decide, rfl⟩, by decide +kernel, by decide +kernel, by decide +kernel, by decide +kernel, by decide⟩, by decide +kernel, by decide +kernel, by decide +kernel, by decide +kernel, Or.inl rfl⟩
set_option maxRecDepth 100000 in
theorem kX12_leadsTo : z_okM z_MT 217 := ⟨⟨rfl, z_at8 69 rfl rfl, z_ini13, ⟨z_at8 68 rfl rfl, z_atP 78 rfl rfl, rfl, by decide, by decide, rfl⟩, by decide +kernel, by decide +kernel, by decide +kernel, by decide +kernel, by decide⟩, by decide +kernel, by decide +kernel, by decide +kernel, by decide +kernel, Or.inl rfl⟩
set_option maxRecDepth 100000 in
theorem kX12_upstream : z_okM z_MT 218 := ⟨⟨rfl, z_at8 65 rfl rfl, z_ini13, ⟨z_at8 63 rfl rfl, z_at8 64 rfl rfl, rfl, by decide, by decide, rfl⟩, by decide +kernel, by decide +kernel, by decide +kernel, by decide +kernel, by decide⟩, by decide +kernel, by decide +kernel, by decide +kernel, by decide +kernel, Or.inl rfl⟩
set_option maxRecDepth 100000 in
theorem kX12_water : z_okM z_MT 219 := ⟨⟨rfl, z_at8 73 rfl rfl, z_ini13, ⟨z_at8 71 rfl rfl, z_at8 72 rfl rfl, rfl, by decide, by decide, rfl⟩, by decide +kernel, by decide +kernel, by decide +kernel, by decide +kernel, by decide⟩, by decide +kernel, by decide +kernel, by decide +kernel, by decide +kernel, Or.inl rfl⟩
set_option maxRecDepth 100000 in
theorem kX12_leaves : z_okM z_MT 220 := ⟨⟨rfl, z_at8 82 rfl rfl, z_ini13, ⟨z_at8 81 rfl rfl, z_atP 79 rfl rfl, rfl, by decide, by decide, rfl⟩, by decide +kernel, by decide +kernel, by decide +kernel, by decide +kernel, by decide⟩, by decide +kernel, by decide +kernel, by decide +kernel, by decide +kernel, Or.inl rfl⟩
set_option maxRecDepth 100000 in
theorem kX12_depths : z_okM z_MT 221 := ⟨⟨rfl, z_at8 86 rfl rfl, z_ini13, ⟨z_at8 85 rfl rfl, z_atP 80 rfl rfl, rfl, by decide, by decide, rfl⟩, by decide +kernel, by decide +kernel, by decide +kernel, by decide +kernel, by decide⟩, by decide +kernel, by decide +kernel, by decide +kernel, by decide +kernel, Or.inl rfl⟩
set_option maxRecDepth 100000 in
theorem kX12_account : z_okM z_MT 222 := ⟨⟨rfl, z_at8 77 rfl rfl, z_ini13, ⟨z_at8 75 rfl rfl, z_at8 76 rfl rfl, rfl, by decide, by decide, rfl⟩, by decide +kernel, by decide +kernel, by decide +kernel, by decide +kernel, by decide⟩, by decide +kernel, by decide +kernel, by decide +kernel, by decide +kernel, Or.inl rfl⟩
set_option maxRecDepth 100000 in
theorem kX12_order : z_okM z_MT 223 := ⟨⟨rfl, z_at8 90 rfl rfl, z_ini13, ⟨z_at8 88 rfl rfl, z_at8 89 rfl rfl, rfl, by decide, by decide, rfl⟩, by decide +kernel, by decide +kernel, by decide +kernel, by decide +kernel, by decide⟩, by decide +kernel, by decide +kernel, by decide +kernel, by decide +kernel, Or.inl rfl⟩
set_option maxRecDepth 100000 in
theorem kX12_head : z_okM z_MT 224 := ⟨⟨rfl, z_at8 98 rfl rfl, z_ini13, ⟨z_at8 97 rfl rfl, z_atP 81 rfl rfl, rfl, by decide, by decide, rfl⟩, by decide +kernel, by decide +kernel, by decide +kernel, by decide +kernel, by decide⟩, by decide +kernel, by decide +kernel, by decide +kernel, by decide +kernel, Or.inl rfl⟩
set_option maxRecDepth 100000 in
theorem kX12_tail : z_okM z_MT 225 := ⟨⟨rfl, z_at8 102 rfl rfl, z_ini13, ⟨z_at8 101 rfl rfl, z_atP 82 rfl rfl, rfl, by decide, by decide, rfl⟩, by decide +kernel, by decide +kernel, by decide +kernel, by decide +kernel, by decide⟩, by decide +kernel, by decide +kernel, by decide +kernel, by decide +kernel, Or.inl rfl⟩
set_option maxRecDepth 100000 in
theorem kX12_reach : z_okM z_MT 226 := ⟨⟨rfl, z_at8 94 rfl rfl, z_ini13, ⟨z_at8 92 rfl rfl, z_at8 93 rfl rfl, rfl, by decide, by decide, rfl⟩, by decide +kernel, by decide +kernel, by decide +kernel, by decide +kernel, by decide⟩, by decide +kernel, by decide +kernel, by decide +kernel, by decide +kernel, Or.inl rfl⟩
set_option maxRecDepth 100000 in
theorem kX12_reachOf : z_okM z_MT 227 := ⟨⟨rfl, z_at8 106 rfl rfl, z_ini13, ⟨z_at8 104 rfl rfl, z_at8 105 rfl rfl, rfl, by decide, by decide, rfl⟩, by decide +kernel, by decide +kernel, by decide +kernel, by decide +kernel, by decide⟩, by decide +kernel, by decide +kernel, by decide +kernel, by decide +kernel, Or.inl rfl⟩
set_option maxRecDepth 100000 in
theorem kX12_basin : z_okM z_MT 228 := ⟨⟨rfl, z_at8 110 rfl rfl, z_ini13, ⟨z_at8 108 rfl rfl, z_at8 109 rfl rfl, rfl, by decide, by decide, rfl⟩, by decide +kernel, by decide +kernel, by decide +kernel, by decide +kernel, by decide⟩, by decide +kernel, by decide +kernel, by decide +kernel, by decide +kernel, Or.inl rfl⟩
set_option maxRecDepth 100000 in
theorem kX12_divides : z_okM z_MT 229 := ⟨⟨rfl, z_at8 114 rfl rfl, z_ini13, ⟨z_at8 112 rfl rfl, z_at8 113 rfl rfl, rfl, by decide, by decide, rfl⟩, by decide +kernel, by decide +kernel, by decide +kernel, by decide +kernel, by decide⟩, by decide +kernel, by decide +kernel, by decide +kernel, by decide +kernel, Or.inl rfl⟩
set_option maxRecDepth 100000 in
theorem kX12_children : z_okM z_MT 230 := ⟨⟨rfl, z_at8 130 rfl rfl, z_ini13, ⟨z_at8 129 rfl rfl, z_atP 83 rfl rfl, rfl, by decide, by decide, rfl⟩, by decide +kernel, by decide +kernel, by decide +kernel, by decide +kernel, by decide⟩, by decide +kernel, by decide +kernel, by decide +kernel, by decide +kernel, Or.inl rfl⟩
set_option maxRecDepth 100000 in
theorem kX12_depression : z_okM z_MT 231 := ⟨⟨rfl, z_at8 118 rfl rfl, z_ini13, ⟨z_at8 116 rfl rfl, z_at8 117 rfl rfl, rfl, by decide, by decide, rfl⟩, by decide +kernel, by decide +kernel, by decide +kernel, by decide +kernel, by decide⟩, by decide +kernel, by decide +kernel, by decide +kernel, by decide +kernel, Or.inl rfl⟩
set_option maxRecDepth 100000 in
theorem kX12_depressionAt : z_okM z_MT 232 := ⟨⟨rfl, z_at8 134 rfl rfl, z_ini13, ⟨z_at8 132 rfl rfl, z_at8 133 rfl rfl, rfl, by decide, by decide, rfl⟩, by decide +kernel, by decide +kernel, by decide +kernel, by decide +kernel, by decide⟩, by decide +kernel, by decide +kernel, by decide +kernel, by decide +kernel, Or.inl rfl⟩
set_option maxRecDepth 100000 in
theorem kX12_pools : z_okM z_MT 233 := ⟨⟨rfl, z_at8 138 rfl rfl, z_ini13, ⟨z_at8 136 rfl rfl, z_at8 137 rfl rfl, rfl, by decide, by decide, rfl⟩, by decide +kernel, by decide +kernel, by decide +kernel, by decide +kernel, by decide⟩, by decide +kernel, by decide +kernel, by decide +kernel, by decide +kernel, Or.inl rfl⟩
set_option maxRecDepth 100000 in
theorem kX12_isAtEdge : z_okM z_MT 234 := ⟨⟨rfl, z_at8 146 rfl rfl, z_ini13, ⟨z_at8 145 rfl rfl, z_atP 84 rfl rfl, rfl, by decide, by decide, rfl⟩, by decide +kernel, by decide +kernel, by decide +kernel, by decide +kernel, by decide⟩, by decide +kernel, by decide +kernel, by decide +kernel, by decide +kernel, Or.inl rfl⟩
set_option maxRecDepth 100000 in
theorem kX12_contour : z_okM z_MT 235 := ⟨⟨rfl, z_at8 142 rfl rfl, z_ini13, ⟨z_at8 140 rfl rfl, z_at8 141 rfl rfl, rfl, by decide, by decide, rfl⟩, by decide +kernel, by decide +kernel, by decide +kernel, by decide +kernel, by decide⟩, by decide +kernel, by decide +kernel, by decide +kernel, by decide +kernel, Or.inl rfl⟩
set_option maxRecDepth 100000 in
theorem kX12_far : z_okM z_MT 236 := ⟨⟨rfl, z_at8 154 rfl rfl, z_ini13, ⟨z_at8 153 rfl rfl, z_atP 85 rfl rfl, rfl, by decide, by decide, rfl⟩, by decide +kernel, by decide +kernel, by decide +kernel, by decide +kernel, by decide⟩, by decide +kernel, by decide +kernel, by decide +kernel, by decide +kernel, Or.inl rfl⟩
set_option maxRecDepth 100000 in
theorem kX12_along : z_okM z_MT 237 := ⟨⟨rfl, z_at8 159 rfl rfl, z_ini13, ⟨z_at8 158 rfl rfl, z_atP 86 rfl rfl, rfl, by decide, by decide, rfl⟩, by decide +kernel, by decide +kernel, by decide +kernel, by decide +kernel, by decide⟩, by decide +kernel, by decide +kernel, by decide +kernel, by decide +kernel, Or.inl rfl⟩
set_option maxRecDepth 100000 in
theorem kX12_section : z_okM z_MT 238 := ⟨⟨rfl, z_at8 150 rfl rfl, z_ini13, ⟨z_at8 148 rfl rfl, z_at8 149 rfl rfl, rfl, by decide, by decide, rfl⟩, by decide +kernel, by decide +kernel, by decide +kernel, by decide +kernel, by decide⟩, by decide +kernel, by decide +kernel, by decide +kernel, by decide +kernel, Or.inl rfl⟩
set_option maxRecDepth 100000 in
theorem kX12_sectionCell : z_okM z_MT 239 := ⟨⟨rfl, z_at8 164 rfl rfl, z_ini13, ⟨z_at8 162 rfl rfl, z_at8 163 rfl rfl, rfl, by decide, by decide, rfl⟩, by decide +kernel, by decide +kernel, by decide +kernel, by decide +kernel, by decide⟩, by decide +kernel, by decide +kernel, by decide +kernel, by decide +kernel, Or.inl rfl⟩
set_option maxRecDepth 100000 in
theorem kX12_isSeen : z_okM z_MT 240 := ⟨⟨rfl, z_at8 172 rfl rfl, z_ini13, ⟨z_at8 171 rfl rfl, z_atP 87 rfl rfl, rfl, by decide, by decide, rfl⟩, by decide +kernel, by decide +kernel, by decide +kernel, by decide +kernel, by decide⟩, by decide +kernel, by decide +kernel, by decide +kernel, by decide +kernel, Or.inl rfl⟩
set_option maxRecDepth 100000 in
theorem kX12_sees : z_okM z_MT 241 := ⟨⟨rfl, z_at8 168 rfl rfl, z_ini13, ⟨z_at8 166 rfl rfl, z_at8 167 rfl rfl, rfl, by decide, by decide, rfl⟩, by decide +kernel, by decide +kernel, by decide +kernel, by decide +kernel, by decide⟩, by decide +kernel, by decide +kernel, by decide +kernel, by decide +kernel, Or.inl rfl⟩
set_option maxRecDepth 100000 in
theorem kX12_viewshed : z_okM z_MT 242 := ⟨⟨rfl, z_at8 176 rfl rfl, z_ini13, ⟨z_at8 174 rfl rfl, z_at8 175 rfl rfl, rfl, by decide, by decide, rfl⟩, by decide +kernel, by decide +kernel, by decide +kernel, by decide +kernel, by decide⟩, by decide +kernel, by decide +kernel, by decide +kernel, by decide +kernel, Or.inl rfl⟩
set_option maxRecDepth 100000 in
theorem kX12_depthsIf : z_okM z_MT 243 := ⟨⟨rfl, z_at8 180 rfl rfl, z_ini13, ⟨z_at8 178 rfl rfl, z_at8 179 rfl rfl, rfl, by decide, by decide, rfl⟩, by decide +kernel, by decide +kernel, by decide +kernel, by decide +kernel, by decide⟩, by decide +kernel, by decide +kernel, by decide +kernel, by decide +kernel, Or.inl rfl⟩
set_option maxRecDepth 100000 in
theorem kX12_leavingIf : z_okM z_MT 244 := ⟨⟨rfl, z_at8 184 rfl rfl, z_ini13, ⟨z_at8 182 rfl rfl, z_at8 183 rfl rfl, rfl, by decide, by decide, rfl⟩, by decide +kernel, by decide +kernel, by decide +kernel, by decide +kernel, by decide⟩, by decide +kernel, by decide +kernel, by decide +kernel, by decide +kernel, Or.inl rfl⟩
set_option maxRecDepth 100000 in
theorem kX12_mouthIf : z_okM z_MT 245 := ⟨⟨rfl, z_at8 189 rfl rfl, z_ini13, ⟨z_at8 187 rfl rfl, z_at8 188 rfl rfl, rfl, by decide, by decide, rfl⟩, by decide +kernel, by decide +kernel, by decide +kernel, by decide +kernel, by decide⟩, by decide +kernel, by decide +kernel, by decide +kernel, by decide +kernel, Or.inl rfl⟩
set_option maxRecDepth 100000 in
theorem kX12_append : z_okM z_MT 246 := ⟨⟨rfl, z_at8 193 rfl rfl, z_ini13, ⟨z_at8 191 rfl rfl, z_at8 192 rfl rfl, rfl, by decide, by decide, rfl⟩, by decide +kernel, by decide +kernel, by decide +kernel, by decide +kernel, by decide⟩, by decide +kernel, by decide +kernel, by decide +kernel, by decide +kernel, Or.inl rfl⟩
set_option maxRecDepth 100000 in
theorem kX12_here : z_okM z_MT 247 := ⟨⟨rfl, z_at8 207 rfl rfl, z_ini13, ⟨z_at8 206 rfl rfl, z_atP 89 rfl rfl, rfl, by decide, by decide, rfl⟩, by decide +kernel, by decide +kernel, by decide +kernel, by decide +kernel, by decide⟩, by decide +kernel, by decide +kernel, by decide +kernel, by decide +kernel, Or.inl rfl⟩
set_option maxRecDepth 100000 in
theorem kX12_takes : z_okM z_MT 248 := ⟨⟨rfl, z_at8 217 rfl rfl, z_ini13, ⟨z_at8 216 rfl rfl, z_atP 91 rfl rfl, rfl, by decide, by decide, rfl⟩, by decide +kernel, by decide +kernel, by decide +kernel, by decide +kernel, by decide⟩, by decide +kernel, by decide +kernel, by decide +kernel, by decide +kernel, Or.inl rfl⟩
set_option maxRecDepth 100000 in
theorem kX12_number : z_okM z_MT 249 := ⟨⟨rfl, z_at8 211 rfl rfl, z_ini13, ⟨z_at8 210 rfl rfl, z_atP 90 rfl rfl, rfl, by decide, by decide, rfl⟩, by decide +kernel, by decide +kernel, by decide +kernel, by decide +kernel, by decide⟩, by decide +kernel, by decide +kernel, by decide +kernel, by decide +kernel, Or.inl rfl⟩
set_option maxRecDepth 100000 in
theorem kX12_command : z_okM z_MT 250 := ⟨⟨rfl, z_at8 203 rfl rfl, z_ini13, ⟨z_at8 202 rfl rfl, z_atP 88 rfl rfl, rfl, by decide, by decide, rfl⟩, by decide +kernel, by decide +kernel, by decide +kernel, by decide +kernel, by decide⟩, by decide +kernel, by decide +kernel, by decide +kernel, by decide +kernel, Or.inl rfl⟩
set_option maxRecDepth 100000 in
theorem kX12_execute : z_okM z_MT 251 := ⟨⟨rfl, z_at8 199 rfl rfl, z_ini13, ⟨z_at8 197 rfl rfl, z_at8 198 rfl rfl, rfl, by decide, by decide, rfl⟩, by decide +kernel, by decide +kernel, by decide +kernel, by decide +kernel, by decide⟩, by decide +kernel, by decide +kernel, by decide +kernel, by decide +kernel, Or.inl rfl⟩
