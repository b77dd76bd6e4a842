set_option maxRecDepth 100000 in
theorem kX12_faults : z_okM z_MT 252 := ⟨⟨rfl, z_at8 221 rfl rfl, z_ini13, ⟨z_at8 220 rfl rfl, z_atP 92 rfl rfl, rfl, by decide, by decide, rfl⟩, by decide +kernel, by decide +kernel, by decide +kernel, by decide +kernel, by decide⟩, by decide +kernel, by decide +kernel, by decide +kernel, by decide +kernel, Or.inl rfl⟩
set_option maxRecDepth 100000 in
theorem kX12_errorPosition : z_okM z_MT 253 := ⟨⟨rfl, z_at8 225 rfl rfl, z_ini13, ⟨z_at8 223 rfl rfl, z_at8 224 rfl rfl, rfl, by decide, by decide, rfl⟩, by decide +kernel, by decide +kernel, by decide +kernel, by decide +kernel, by decide⟩, by decide +kernel, by decide +kernel, by decide +kernel, by decide +kernel, Or.inl rfl⟩
set_option maxRecDepth 100000 in
theorem kX12_map : z_okM z_MT 254 := ⟨⟨rfl, z_at8 229 rfl rfl, z_ini13, ⟨z_at8 227 rfl rfl, z_at8 228 rfl rfl, rfl, by decide, by decide, rfl⟩, by decide +kernel, by decide +kernel, by decide +kernel, by decide +kernel, by decide⟩, by decide +kernel, by decide +kernel, by decide +kernel, by decide +kernel, Or.inl rfl⟩
set_option maxRecDepth 100000 in
theorem kX12_undo : z_okM z_MT 255 := ⟨⟨rfl, z_at8 233 rfl rfl, z_ini13, ⟨z_at8 231 rfl rfl, z_at8 232 rfl rfl, rfl, by decide, by decide, rfl⟩, by decide +kernel, by decide +kernel, by decide +kernel, by decide +kernel, by decide⟩, by decide +kernel, by decide +kernel, by decide +kernel, by decide +kernel, Or.inl rfl⟩
set_option maxRecDepth 100000 in
theorem kX12_save : z_okM z_MT 256 := ⟨⟨rfl, z_at8 237 rfl rfl, z_ini13, ⟨z_at8 235 rfl rfl, z_at8 236 rfl rfl, rfl, by decide, by decide, rfl⟩, by decide +kernel, by decide +kernel, by decide +kernel, by decide +kernel, by decide⟩, by decide +kernel, by decide +kernel, by decide +kernel, by decide +kernel, Or.inl rfl⟩
set_option maxRecDepth 100000 in
theorem kX12_restore : z_okM z_MT 257 := ⟨⟨rfl, z_at9 1 rfl rfl, z_ini13, ⟨z_at8 239 rfl rfl, z_at9 0 rfl rfl, rfl, by decide, by decide, rfl⟩, by decide +kernel, by decide +kernel, by decide +kernel, by decide +kernel, by decide⟩, by decide +kernel, by decide +kernel, by decide +kernel, by decide +kernel, Or.inl rfl⟩
set_option maxRecDepth 100000 in
theorem kL_resize : z_okM z_MT 258 := ⟨⟨rfl, z_at3 67 rfl rfl, z_ini12, z_at3 66 rfl rfl, by decide +kernel, by decide +kernel, by decide +kernel, by decide +kernel, by decide⟩, by decide +kernel, by decide +kernel, by decide +kernel, by decide +kernel, Or.inr (by decide +kernel)⟩
set_option maxRecDepth 100000 in
theorem kL_scatter : z_okM z_MT 259 := ⟨⟨rfl, z_at3 160 rfl rfl, z_ini12, z_at3 159 rfl rfl, by decide +kernel, by decide +kernel, by decide +kernel, by decide +kernel, by decide⟩, by decide +kernel, by decide +kernel, by decide +kernel, by decide +kernel, Or.inr (by decide +kernel)⟩
set_option maxRecDepth 100000 in
theorem kL_setHeight : z_okM z_MT 260 := ⟨⟨rfl, z_at3 178 rfl rfl, z_ini12, z_at3 177 rfl rfl, by decide +kernel, by decide +kernel, by decide +kernel, by decide +kernel, by decide⟩, by decide +kernel, by decide +kernel, by decide +kernel, by decide +kernel, Or.inr (by decide +kernel)⟩
set_option maxRecDepth 100000 in
theorem kL_raise : z_okM z_MT 261 := ⟨⟨rfl, z_at3 226 rfl rfl, z_ini12, z_at3 225 rfl rfl, by decide +kernel, by decide +kernel, by decide +kernel, by decide +kernel, by decide⟩, by decide +kernel, by decide +kernel, by decide +kernel, by decide +kernel, Or.inr (by decide +kernel)⟩
set_option maxRecDepth 100000 in
theorem kL_setRain : z_okM z_MT 262 := ⟨⟨rfl, z_at4 6 rfl rfl, z_ini12, z_at4 5 rfl rfl, by decide +kernel, by decide +kernel, by decide +kernel, by decide +kernel, by decide⟩, by decide +kernel, by decide +kernel, by decide +kernel, by decide +kernel, Or.inr (by decide +kernel)⟩
set_option maxRecDepth 100000 in
theorem kL_setSoak : z_okM z_MT 263 := ⟨⟨rfl, z_at4 13 rfl rfl, z_ini12, z_at4 12 rfl rfl, by decide +kernel, by decide +kernel, by decide +kernel, by decide +kernel, by decide⟩, by decide +kernel, by decide +kernel, by decide +kernel, by decide +kernel, Or.inr (by decide +kernel)⟩
set_option maxRecDepth 100000 in
theorem kL_setOutlet : z_okM z_MT 264 := ⟨⟨rfl, z_at4 20 rfl rfl, z_ini12, z_at4 19 rfl rfl, by decide +kernel, by decide +kernel, by decide +kernel, by decide +kernel, by decide⟩, by decide +kernel, by decide +kernel, by decide +kernel, by decide +kernel, Or.inr (by decide +kernel)⟩
set_option maxRecDepth 100000 in
theorem kL_setThreshold : z_okM z_MT 265 := ⟨⟨rfl, z_at4 60 rfl rfl, z_ini12, z_at4 59 rfl rfl, by decide +kernel, by decide +kernel, by decide +kernel, by decide +kernel, by decide⟩, by decide +kernel, by decide +kernel, by decide +kernel, by decide +kernel, Or.inr (by decide +kernel)⟩
set_option maxRecDepth 100000 in
theorem kL_cell : z_okM z_MT 266 := ⟨⟨rfl, z_at4 67 rfl rfl, z_ini12, z_at4 66 rfl rfl, by decide +kernel, by decide +kernel, by decide +kernel, by decide +kernel, by decide⟩, by decide +kernel, by decide +kernel, by decide +kernel, by decide +kernel, Or.inr (by decide +kernel)⟩
set_option maxRecDepth 100000 in
theorem kL_count : z_okM z_MT 267 := ⟨⟨rfl, z_at4 74 rfl rfl, z_ini12, z_at4 73 rfl rfl, by decide +kernel, by decide +kernel, by decide +kernel, by decide +kernel, by decide⟩, by decide +kernel, by decide +kernel, by decide +kernel, by decide +kernel, Or.inr (by decide +kernel)⟩
set_option maxRecDepth 100000 in
theorem kL_level : z_okM z_MT 268 := ⟨⟨rfl, z_at4 161 rfl rfl, z_ini12, z_at4 160 rfl rfl, by decide +kernel, by decide +kernel, by decide +kernel, by decide +kernel, by decide⟩, by decide +kernel, by decide +kernel, by decide +kernel, by decide +kernel, Or.inr (by decide +kernel)⟩
set_option maxRecDepth 100000 in
theorem kL_levelByPools : z_okM z_MT 269 := ⟨⟨rfl, z_at4 168 rfl rfl, z_ini12, z_at4 167 rfl rfl, by decide +kernel, by decide +kernel, by decide +kernel, by decide +kernel, by decide⟩, by decide +kernel, by decide +kernel, by decide +kernel, by decide +kernel, Or.inr (by decide +kernel)⟩
set_option maxRecDepth 100000 in
theorem kL_lake : z_okM z_MT 270 := ⟨⟨rfl, z_at4 183 rfl rfl, z_ini12, z_at4 182 rfl rfl, by decide +kernel, by decide +kernel, by decide +kernel, by decide +kernel, by decide⟩, by decide +kernel, by decide +kernel, by decide +kernel, by decide +kernel, Or.inr (by decide +kernel)⟩
set_option maxRecDepth 100000 in
theorem kL_lakeOf : z_okM z_MT 271 := ⟨⟨rfl, z_at5 6 rfl rfl, z_ini12, z_at5 5 rfl rfl, by decide +kernel, by decide +kernel, by decide +kernel, by decide +kernel, by decide⟩, by decide +kernel, by decide +kernel, by decide +kernel, by decide +kernel, Or.inr (by decide +kernel)⟩
set_option maxRecDepth 100000 in
theorem kL_remedy : z_okM z_MT 272 := ⟨⟨rfl, z_at5 30 rfl rfl, z_ini12, z_at5 29 rfl rfl, by decide +kernel, by decide +kernel, by decide +kernel, by decide +kernel, by decide⟩, by decide +kernel, by decide +kernel, by decide +kernel, by decide +kernel, Or.inr (by decide +kernel)⟩
set_option maxRecDepth 100000 in
theorem kL_fillLake : z_okM z_MT 273 := ⟨⟨rfl, z_at5 37 rfl rfl, z_ini12, z_at5 36 rfl rfl, by decide +kernel, by decide +kernel, by decide +kernel, by decide +kernel, by decide⟩, by decide +kernel, by decide +kernel, by decide +kernel, by decide +kernel, Or.inr (by decide +kernel)⟩
set_option maxRecDepth 100000 in
theorem kL_carveLake : z_okM z_MT 274 := ⟨⟨rfl, z_at5 45 rfl rfl, z_ini12, z_at5 44 rfl rfl, by decide +kernel, by decide +kernel, by decide +kernel, by decide +kernel, by decide⟩, by decide +kernel, by decide +kernel, by decide +kernel, by decide +kernel, Or.inr (by decide +kernel)⟩
set_option maxRecDepth 100000 in
theorem kL_carveWay : z_okM z_MT 275 := ⟨⟨rfl, z_at5 56 rfl rfl, z_ini12, z_at5 55 rfl rfl, by decide +kernel, by decide +kernel, by decide +kernel, by decide +kernel, by decide⟩, by decide +kernel, by decide +kernel, by decide +kernel, by decide +kernel, Or.inr (by decide +kernel)⟩
set_option maxRecDepth 100000 in
theorem kL_meanDepth : z_okM z_MT 276 := ⟨⟨rfl, z_at5 64 rfl rfl, z_ini12, z_at5 63 rfl rfl, by decide +kernel, by decide +kernel, by decide +kernel, by decide +kernel, by decide⟩, by decide +kernel, by decide +kernel, by decide +kernel, by decide +kernel, Or.inr (by decide +kernel)⟩
set_option maxRecDepth 100000 in
theorem kL_flow : z_okM z_MT 277 := ⟨⟨rfl, z_at5 88 rfl rfl, z_ini12, z_at5 87 rfl rfl, by decide +kernel, by decide +kernel, by decide +kernel, by decide +kernel, by decide⟩, by decide +kernel, by decide +kernel, by decide +kernel, by decide +kernel, Or.inr (by decide +kernel)⟩
set_option maxRecDepth 100000 in
theorem kL_why : z_okM z_MT 278 := ⟨⟨rfl, z_at5 96 rfl rfl, z_ini12, z_at5 95 rfl rfl, by decide +kernel, by decide +kernel, by decide +kernel, by decide +kernel, by decide⟩, by decide +kernel, by decide +kernel, by decide +kernel, by decide +kernel, Or.inr (by decide +kernel)⟩
set_option maxRecDepth 100000 in
theorem kL_route : z_okM z_MT 279 := ⟨⟨rfl, z_at5 103 rfl rfl, z_ini12, z_at5 102 rfl rfl, by decide +kernel, by decide +kernel, by decide +kernel, by decide +kernel, by decide⟩, by decide +kernel, by decide +kernel, by decide +kernel, by decide +kernel, Or.inr (by decide +kernel)⟩
set_option maxRecDepth 100000 in
theorem kL_upstream : z_okM z_MT 280 := ⟨⟨rfl, z_at5 114 rfl rfl, z_ini12, z_at5 113 rfl rfl, by decide +kernel, by decide +kernel, by decide +kernel, by decide +kernel, by decide⟩, by decide +kernel, by decide +kernel, by decide +kernel, by decide +kernel, Or.inr (by decide +kernel)⟩
set_option maxRecDepth 100000 in
theorem kL_water : z_okM z_MT 281 := ⟨⟨rfl, z_at5 125 rfl rfl, z_ini12, z_at5 124 rfl rfl, by decide +kernel, by decide +kernel, by decide +kernel, by decide +kernel, by decide⟩, by decide +kernel, by decide +kernel, by decide +kernel, by decide +kernel, Or.inr (by decide +kernel)⟩
set_option maxRecDepth 100000 in
theorem kL_account : z_okM z_MT 282 := ⟨⟨rfl, z_at5 136 rfl rfl, z_ini12, z_at5 135 rfl rfl, by decide +kernel, by decide +kernel, by decide +kernel, by decide +kernel, by decide⟩, by decide +kernel, by decide +kernel, by decide +kernel, by decide +kernel, Or.inr (by decide +kernel)⟩
set_option maxRecDepth 100000 in
theorem kL_order : z_okM z_MT 283 := ⟨⟨rfl, z_at5 150 rfl rfl, z_ini12, z_at5 149 rfl rfl, by decide +kernel, by decide +kernel, by decide +kernel, by decide +kernel, by decide⟩, by decide +kernel, by decide +kernel, by decide +kernel, by decide +kernel, Or.inr (by decide +kernel)⟩
set_option maxRecDepth 100000 in
theorem kL_reach : z_okM z_MT 284 := ⟨⟨rfl, z_at5 157 rfl rfl, z_ini12, z_at5 156 rfl rfl, by decide +kernel, by decide +kernel, by decide +kernel, by decide +kernel, by decide⟩, by decide +kernel, by decide +kernel, by decide +kernel, by decide +kernel, Or.inr (by decide +kernel)⟩
set_option maxRecDepth 100000 in
theorem kL_reachOf : z_okM z_MT 285 := ⟨⟨rfl, z_at5 169 rfl rfl, z_ini12, z_at5 168 rfl rfl, by decide +kernel, by decide +kernel, by decide +kernel, by decide +kernel, by decide⟩, by decide +kernel, by decide +kernel, by decide +kernel, by decide +kernel, Or.inr (by decide +kernel)⟩
set_option maxRecDepth 100000 in
theorem kL_basin : z_okM z_MT 286 := ⟨⟨rfl, z_at5 177 rfl rfl, z_ini12, z_at5 176 rfl rfl, by decide +kernel, by decide +kernel, by decide +kernel, by decide +kernel, by decide⟩, by decide +kernel, by decide +kernel, by decide +kernel, by decide +kernel, Or.inr (by decide +kernel)⟩
set_option maxRecDepth 100000 in
theorem kL_depression : z_okM z_MT 287 := ⟨⟨rfl, z_at5 185 rfl rfl, z_ini12, z_at5 184 rfl rfl, by decide +kernel, by decide +kernel, by decide +kernel, by decide +kernel, by decide⟩, by decide +kernel, by decide +kernel, by decide +kernel, by decide +kernel, Or.inr (by decide +kernel)⟩
set_option maxRecDepth 100000 in
theorem kL_depressionAt : z_okM z_MT 288 := ⟨⟨rfl, z_at5 208 rfl rfl, z_ini12, z_at5 207 rfl rfl, by decide +kernel, by decide +kernel, by decide +kernel, by decide +kernel, by decide⟩, by decide +kernel, by decide +kernel, by decide +kernel, by decide +kernel, Or.inr (by decide +kernel)⟩
set_option maxRecDepth 100000 in
theorem kL_pools : z_okM z_MT 289 := ⟨⟨rfl, z_at5 220 rfl rfl, z_ini12, z_at5 219 rfl rfl, by decide +kernel, by decide +kernel, by decide +kernel, by decide +kernel, by decide⟩, by decide +kernel, by decide +kernel, by decide +kernel, by decide +kernel, Or.inr (by decide +kernel)⟩
set_option maxRecDepth 100000 in
theorem kL_contour : z_okM z_MT 290 := ⟨⟨rfl, z_at5 228 rfl rfl, z_ini12, z_at5 227 rfl rfl, by decide +kernel, by decide +kernel, by decide +kernel, by decide +kernel, by decide⟩, by decide +kernel, by decide +kernel, by decide +kernel, by decide +kernel, Or.inr (by decide +kernel)⟩
set_option maxRecDepth 100000 in
theorem kL_section : z_okM z_MT 291 := ⟨⟨rfl, z_at6 11 rfl rfl, z_ini12, z_at6 10 rfl rfl, by decide +kernel, by decide +kernel, by decide +kernel, by decide +kernel, by decide⟩, by decide +kernel, by decide +kernel, by decide +kernel, by decide +kernel, Or.inr (by decide +kernel)⟩
set_option maxRecDepth 100000 in
theorem kL_sectionCell : z_okM z_MT 292 := ⟨⟨rfl, z_at6 48 rfl rfl, z_ini12, z_at6 47 rfl rfl, by decide +kernel, by decide +kernel, by decide +kernel, by decide +kernel, by decide⟩, by decide +kernel, by decide +kernel, by decide +kernel, by decide +kernel, Or.inr (by decide +kernel)⟩
set_option maxRecDepth 100000 in
theorem kL_sees : z_okM z_MT 293 := ⟨⟨rfl, z_at6 55 rfl rfl, z_ini12, z_at6 54 rfl rfl, by decide +kernel, by decide +kernel, by decide +kernel, by decide +kernel, by decide⟩, by decide +kernel, by decide +kernel, by decide +kernel, by decide +kernel, Or.inr (by decide +kernel)⟩
set_option maxRecDepth 100000 in
theorem kL_viewshed : z_okM z_MT 294 := ⟨⟨rfl, z_at6 66 rfl rfl, z_ini12, z_at6 65 rfl rfl, by decide +kernel, by decide +kernel, by decide +kernel, by decide +kernel, by decide⟩, by decide +kernel, by decide +kernel, by decide +kernel, by decide +kernel, Or.inr (by decide +kernel)⟩
set_option maxRecDepth 100000 in
theorem kL_depthsIf : z_okM z_MT 295 := ⟨⟨rfl, z_at6 73 rfl rfl, z_ini12, z_at6 72 rfl rfl, by decide +kernel, by decide +kernel, by decide +kernel, by decide +kernel, by decide⟩, by decide +kernel, by decide +kernel, by decide +kernel, by decide +kernel, Or.inr (by decide +kernel)⟩
set_option maxRecDepth 100000 in
theorem kL_leavingIf : z_okM z_MT 296 := ⟨⟨rfl, z_at6 80 rfl rfl, z_ini12, z_at6 79 rfl rfl, by decide +kernel, by decide +kernel, by decide +kernel, by decide +kernel, by decide⟩, by decide +kernel, by decide +kernel, by decide +kernel, by decide +kernel, Or.inr (by decide +kernel)⟩
set_option maxRecDepth 100000 in
theorem kL_mouthIf : z_okM z_MT 297 := ⟨⟨rfl, z_at6 87 rfl rfl, z_ini12, z_at6 86 rfl rfl, by decide +kernel, by decide +kernel, by decide +kernel, by decide +kernel, by decide⟩, by decide +kernel, by decide +kernel, by decide +kernel, by decide +kernel, Or.inr (by decide +kernel)⟩
set_option maxRecDepth 100000 in
theorem kL_append : z_okM z_MT 298 := ⟨⟨rfl, z_at6 94 rfl rfl, z_ini12, z_at6 93 rfl rfl, by decide +kernel, by decide +kernel, by decide +kernel, by decide +kernel, by decide⟩, by decide +kernel, by decide +kernel, by decide +kernel, by decide +kernel, Or.inr (by decide +kernel)⟩
set_option maxRecDepth 100000 in
theorem kL_execute : z_okM z_MT 299 := ⟨⟨rfl, z_at6 106 rfl rfl, z_ini12, z_at6 105 rfl rfl, by decide +kernel, by decide +kernel, by decide +kernel, by decide +kernel, by decide⟩, by decide +kernel, by decide +kernel, by decide +kernel, by decide +kernel, Or.inr (by decide +kernel)⟩
set_option maxRecDepth 100000 in
theorem kL_errorPosition : z_okM z_MT 300 := ⟨⟨rfl, z_at6 158 rfl rfl, z_ini12, z_at6 157 rfl rfl, by decide +kernel, by decide +kernel, by decide +kernel, by decide +kernel, by decide⟩, by decide +kernel, by decide +kernel, by decide +kernel, by decide +kernel, Or.inr (by decide +kernel)⟩
set_option maxRecDepth 100000 in
theorem kL_map : z_okM z_MT 301 := ⟨⟨rfl, z_at6 166 rfl rfl, z_ini12, z_at6 165 rfl rfl, by decide +kernel, by decide +kernel, by decide +kernel, by decide +kernel, by decide⟩, by decide +kernel, by decide +kernel, by decide +kernel, by decide +kernel, Or.inr (by decide +kernel)⟩
set_option maxRecDepth 100000 in
theorem kL_undo : z_okM z_MT 302 := ⟨⟨rfl, z_at6 173 rfl rfl, z_ini12, z_at6 172 rfl rfl, by decide +kernel, by decide +kernel, by decide +kernel, by decide +kernel, by decide⟩, by decide +kernel, by decide +kernel, by decide +kernel, by decide +kernel, Or.inr (by decide +kernel)⟩
set_option maxRecDepth 100000 in
theorem kL_restore : z_okM z_MT 303 := ⟨⟨rfl, z_at6 186 rfl rfl, z_ini12, z_at6 185 rfl rfl, by decide +kernel, by decide +kernel, by decide +kernel, by decide +kernel, by decide⟩, by decide +kernel, by decide +kernel, by decide +kernel, by decide +kernel, Or.inr (by decide +kernel)⟩
