set_option maxRecDepth 100000 in
theorem kX8_reachBehind : z_okM z_MT 90 := ⟨⟨rfl, z_at5 166 rfl rfl, z_ini9, ⟨z_at5 164 rfl rfl, z_at5 165 rfl rfl, rfl, by decide, by decide, rfl⟩, by decide +kernel, by decide +kernel, by decide +kernel, by decide +kernel, by decide⟩, by decide +kernel, by decide +kernel, by decide +kernel, by decide +kernel, Or.inl rfl⟩
set_option maxRecDepth 100000 in
theorem kX9_add : z_okM z_MT 91 := ⟨⟨rfl, z_at6 103 rfl rfl, z_ini10, ⟨z_at6 101 rfl rfl, z_at6 102 rfl rfl, rfl, by decide, by decide, rfl⟩, by decide +kernel, by decide +kernel, by decide +kernel, by decide +kernel, by decide⟩, by decide +kernel, by decide +kernel, by decide +kernel, by decide +kernel, Or.inl rfl⟩
set_option maxRecDepth 100000 in
theorem kX9_countCommands : z_okM z_MT 92 := ⟨⟨rfl, z_at6 114 rfl rfl, z_ini10, ⟨z_at6 112 rfl rfl, z_at6 113 rfl rfl, rfl, by decide, by decide, rfl⟩, by decide +kernel, by decide +kernel, by decide +kernel, by decide +kernel, by decide⟩, by decide +kernel, by decide +kernel, by decide +kernel, by decide +kernel, Or.inl rfl⟩
set_option maxRecDepth 100000 in
theorem kX9_carryOut : z_okM z_MT 93 := ⟨⟨rfl, z_at6 147 rfl rfl, z_ini10, ⟨z_at6 145 rfl rfl, z_at6 146 rfl rfl, rfl, by decide, by decide, rfl⟩, by decide +kernel, by decide +kernel, by decide +kernel, by decide +kernel, by decide⟩, by decide +kernel, by decide +kernel, by decide +kernel, by decide +kernel, Or.inl rfl⟩
set_option maxRecDepth 100000 in
theorem kX9_carryOutCommand : z_okM z_MT 94 := ⟨⟨rfl, z_at6 153 rfl rfl, z_ini10, ⟨z_at6 152 rfl rfl, z_atP 41 rfl rfl, rfl, by decide, by decide, rfl⟩, by decide +kernel, by decide +kernel, by decide +kernel, by decide +kernel, by decide⟩, by decide +kernel, by decide +kernel, by decide +kernel, by decide +kernel, Or.inl rfl⟩
set_option maxRecDepth 100000 in
theorem kX9_sign : z_okM z_MT 95 := ⟨⟨rfl, z_at6 122 rfl rfl, z_ini10, ⟨z_at6 121 rfl rfl, z_atP 35 rfl rfl, rfl, by decide, by decide, rfl⟩, by decide +kernel, by decide +kernel, by decide +kernel, by decide +kernel, by decide⟩, by decide +kernel, by decide +kernel, by decide +kernel, by decide +kernel, Or.inl rfl⟩
set_option maxRecDepth 100000 in
theorem kX9_isDigit : z_okM z_MT 96 := ⟨⟨rfl, z_at6 126 rfl rfl, z_ini10, ⟨z_at6 125 rfl rfl, z_atP 36 rfl rfl, rfl, by decide, by decide, rfl⟩, by decide +kernel, by decide +kernel, by decide +kernel, by decide +kernel, by decide⟩, by decide +kernel, by decide +kernel, by decide +kernel, by decide +kernel, Or.inl rfl⟩
set_option maxRecDepth 100000 in
theorem kX9_readCommand : z_okM z_MT 97 := ⟨⟨rfl, z_at6 118 rfl rfl, z_ini10, ⟨z_at6 117 rfl rfl, z_atP 34 rfl rfl, rfl, by decide, by decide, rfl⟩, by decide +kernel, by decide +kernel, by decide +kernel, by decide +kernel, by decide⟩, by decide +kernel, by decide +kernel, by decide +kernel, by decide +kernel, Or.inl rfl⟩
set_option maxRecDepth 100000 in
theorem kX9_readMark : z_okM z_MT 98 := ⟨⟨rfl, z_at6 138 rfl rfl, z_ini10, ⟨z_at6 137 rfl rfl, z_atP 39 rfl rfl, rfl, by decide, by decide, rfl⟩, by decide +kernel, by decide +kernel, by decide +kernel, by decide +kernel, by decide⟩, by decide +kernel, by decide +kernel, by decide +kernel, by decide +kernel, Or.inl rfl⟩
set_option maxRecDepth 100000 in
theorem kX9_readValue : z_okM z_MT 99 := ⟨⟨rfl, z_at6 142 rfl rfl, z_ini10, ⟨z_at6 141 rfl rfl, z_atP 40 rfl rfl, rfl, by decide, by decide, rfl⟩, by decide +kernel, by decide +kernel, by decide +kernel, by decide +kernel, by decide⟩, by decide +kernel, by decide +kernel, by decide +kernel, by decide +kernel, Or.inl rfl⟩
set_option maxRecDepth 100000 in
theorem kX9_readDigit : z_okM z_MT 100 := ⟨⟨rfl, z_at6 134 rfl rfl, z_ini10, ⟨z_at6 133 rfl rfl, z_atP 38 rfl rfl, rfl, by decide, by decide, rfl⟩, by decide +kernel, by decide +kernel, by decide +kernel, by decide +kernel, by decide⟩, by decide +kernel, by decide +kernel, by decide +kernel, by decide +kernel, Or.inl rfl⟩
set_option maxRecDepth 100000 in
theorem kX9_readNumber : z_okM z_MT 101 := ⟨⟨rfl, z_at6 130 rfl rfl, z_ini10, ⟨z_at6 129 rfl rfl, z_atP 37 rfl rfl, rfl, by decide, by decide, rfl⟩, by decide +kernel, by decide +kernel, by decide +kernel, by decide +kernel, by decide⟩, by decide +kernel, by decide +kernel, by decide +kernel, by decide +kernel, Or.inl rfl⟩
set_option maxRecDepth 100000 in
theorem kX10_run : z_okM z_MT 102 := ⟨⟨rfl, z_at4 87 rfl rfl, z_ini11, ⟨z_at4 85 rfl rfl, z_at4 86 rfl rfl, rfl, by decide, by decide, rfl⟩, by decide +kernel, by decide +kernel, by decide +kernel, by decide +kernel, by decide⟩, by decide +kernel, by decide +kernel, by decide +kernel, by decide +kernel, Or.inl rfl⟩
set_option maxRecDepth 100000 in
theorem kX11_resize : z_okM z_MT 103 := ⟨⟨rfl, z_at3 72 rfl rfl, z_ini0, ⟨z_at3 70 rfl rfl, z_at3 71 rfl rfl, rfl, by decide, by decide, rfl⟩, by decide +kernel, by decide +kernel, by decide +kernel, by decide +kernel, by decide⟩, by decide +kernel, by decide +kernel, by decide +kernel, by decide +kernel, Or.inl rfl⟩
set_option maxRecDepth 100000 in
theorem kX11_scatter : z_okM z_MT 104 := ⟨⟨rfl, z_at3 164 rfl rfl, z_ini0, ⟨z_at3 162 rfl rfl, z_at3 163 rfl rfl, rfl, by decide, by decide, rfl⟩, by decide +kernel, by decide +kernel, by decide +kernel, by decide +kernel, by decide⟩, by decide +kernel, by decide +kernel, by decide +kernel, by decide +kernel, Or.inl rfl⟩
set_option maxRecDepth 100000 in
theorem kX11_setHeight : z_okM z_MT 105 := ⟨⟨rfl, z_at3 206 rfl rfl, z_ini0, ⟨z_at3 204 rfl rfl, z_at3 205 rfl rfl, rfl, by decide, by decide, rfl⟩, by decide +kernel, by decide +kernel, by decide +kernel, by decide +kernel, by decide⟩, by decide +kernel, by decide +kernel, by decide +kernel, by decide +kernel, Or.inl rfl⟩
set_option maxRecDepth 100000 in
theorem kX11_raise : z_okM z_MT 106 := ⟨⟨rfl, z_at3 230 rfl rfl, z_ini0, ⟨z_at3 228 rfl rfl, z_at3 229 rfl rfl, rfl, by decide, by decide, rfl⟩, by decide +kernel, by decide +kernel, by decide +kernel, by decide +kernel, by decide⟩, by decide +kernel, by decide +kernel, by decide +kernel, by decide +kernel, Or.inl rfl⟩
set_option maxRecDepth 100000 in
theorem kX11_setRain : z_okM z_MT 107 := ⟨⟨rfl, z_at4 10 rfl rfl, z_ini0, ⟨z_at4 8 rfl rfl, z_at4 9 rfl rfl, rfl, by decide, by decide, rfl⟩, by decide +kernel, by decide +kernel, by decide +kernel, by decide +kernel, by decide⟩, by decide +kernel, by decide +kernel, by decide +kernel, by decide +kernel, Or.inl rfl⟩
set_option maxRecDepth 100000 in
theorem kX11_setSoak : z_okM z_MT 108 := ⟨⟨rfl, z_at4 17 rfl rfl, z_ini0, ⟨z_at4 15 rfl rfl, z_at4 16 rfl rfl, rfl, by decide, by decide, rfl⟩, by decide +kernel, by decide +kernel, by decide +kernel, by decide +kernel, by decide⟩, by decide +kernel, by decide +kernel, by decide +kernel, by decide +kernel, Or.inl rfl⟩
set_option maxRecDepth 100000 in
theorem kX11_setOutlet : z_okM z_MT 109 := ⟨⟨rfl, z_at4 25 rfl rfl, z_ini0, ⟨z_at4 23 rfl rfl, z_at4 24 rfl rfl, rfl, by decide, by decide, rfl⟩, by decide +kernel, by decide +kernel, by decide +kernel, by decide +kernel, by decide⟩, by decide +kernel, by decide +kernel, by decide +kernel, by decide +kernel, Or.inl rfl⟩
set_option maxRecDepth 100000 in
theorem kX11_setThreshold : z_okM z_MT 110 := ⟨⟨rfl, z_at4 64 rfl rfl, z_ini0, ⟨z_at4 62 rfl rfl, z_at4 63 rfl rfl, rfl, by decide, by decide, rfl⟩, by decide +kernel, by decide +kernel, by decide +kernel, by decide +kernel, by decide⟩, by decide +kernel, by decide +kernel, by decide +kernel, by decide +kernel, Or.inl rfl⟩
set_option maxRecDepth 100000 in
theorem kX11_cell : z_okM z_MT 111 := ⟨⟨rfl, z_at4 71 rfl rfl, z_ini0, ⟨z_at4 69 rfl rfl, z_at4 70 rfl rfl, rfl, by decide, by decide, rfl⟩, by decide +kernel, by decide +kernel, by decide +kernel, by decide +kernel, by decide⟩, by decide +kernel, by decide +kernel, by decide +kernel, by decide +kernel, Or.inl rfl⟩
set_option maxRecDepth 100000 in
theorem kX11_count : z_okM z_MT 112 := ⟨⟨rfl, z_at4 78 rfl rfl, z_ini0, ⟨z_at4 76 rfl rfl, z_at4 77 rfl rfl, rfl, by decide, by decide, rfl⟩, by decide +kernel, by decide +kernel, by decide +kernel, by decide +kernel, by decide⟩, by decide +kernel, by decide +kernel, by decide +kernel, by decide +kernel, Or.inl rfl⟩
set_option maxRecDepth 100000 in
theorem kX11_level : z_okM z_MT 113 := ⟨⟨rfl, z_at4 165 rfl rfl, z_ini0, ⟨z_at4 163 rfl rfl, z_at4 164 rfl rfl, rfl, by decide, by decide, rfl⟩, by decide +kernel, by decide +kernel, by decide +kernel, by decide +kernel, by decide⟩, by decide +kernel, by decide +kernel, by decide +kernel, by decide +kernel, Or.inl rfl⟩
set_option maxRecDepth 100000 in
theorem kX11_levelByPools : z_okM z_MT 114 := ⟨⟨rfl, z_at4 172 rfl rfl, z_ini0, ⟨z_at4 170 rfl rfl, z_at4 171 rfl rfl, rfl, by decide, by decide, rfl⟩, by decide +kernel, by decide +kernel, by decide +kernel, by decide +kernel, by decide⟩, by decide +kernel, by decide +kernel, by decide +kernel, by decide +kernel, Or.inl rfl⟩
set_option maxRecDepth 100000 in
theorem kX11_lake : z_okM z_MT 115 := ⟨⟨rfl, z_at4 187 rfl rfl, z_ini0, ⟨z_at4 185 rfl rfl, z_at4 186 rfl rfl, rfl, by decide, by decide, rfl⟩, by decide +kernel, by decide +kernel, by decide +kernel, by decide +kernel, by decide⟩, by decide +kernel, by decide +kernel, by decide +kernel, by decide +kernel, Or.inl rfl⟩
set_option maxRecDepth 100000 in
theorem kX11_lakeOf : z_okM z_MT 116 := ⟨⟨rfl, z_at5 11 rfl rfl, z_ini0, ⟨z_at5 9 rfl rfl, z_at5 10 rfl rfl, rfl, by decide, by decide, rfl⟩, by decide +kernel, by decide +kernel, by decide +kernel, by decide +kernel, by decide⟩, by decide +kernel, by decide +kernel, by decide +kernel, by decide +kernel, Or.inl rfl⟩
set_option maxRecDepth 100000 in
theorem kX11_remedy : z_okM z_MT 117 := ⟨⟨rfl, z_at5 34 rfl rfl, z_ini0, ⟨z_at5 32 rfl rfl, z_at5 33 rfl rfl, rfl, by decide, by decide, rfl⟩, by decide +kernel, by decide +kernel, by decide +kernel, by decide +kernel, by decide⟩, by decide +kernel, by decide +kernel, by decide +kernel, by decide +kernel, Or.inl rfl⟩
set_option maxRecDepth 100000 in
theorem kX11_fillLake : z_okM z_MT 118 := ⟨⟨rfl, z_at5 41 rfl rfl, z_ini0, ⟨z_at5 39 rfl rfl, z_at5 40 rfl rfl, rfl, by decide, by decide, rfl⟩, by decide +kernel, by decide +kernel, by decide +kernel, by decide +kernel, by decide⟩, by decide +kernel, by decide +kernel, by decide +kernel, by decide +kernel, Or.inl rfl⟩
set_option maxRecDepth 100000 in
theorem kX11_carveLake : z_okM z_MT 119 := ⟨⟨rfl, z_at5 49 rfl rfl, z_ini0, ⟨z_at5 47 rfl rfl, z_at5 48 rfl rfl, rfl, by decide, by decide, rfl⟩, by decide +kernel, by decide +kernel, by decide +kernel, by decide +kernel, by decide⟩, by decide +kernel, by decide +kernel, by decide +kernel, by decide +kernel, Or.inl rfl⟩
set_option maxRecDepth 100000 in
theorem kX11_carveWay : z_okM z_MT 120 := ⟨⟨rfl, z_at5 60 rfl rfl, z_ini0, ⟨z_at5 58 rfl rfl, z_at5 59 rfl rfl, rfl, by decide, by decide, rfl⟩, by decide +kernel, by decide +kernel, by decide +kernel, by decide +kernel, by decide⟩, by decide +kernel, by decide +kernel, by decide +kernel, by decide +kernel, Or.inl rfl⟩
set_option maxRecDepth 100000 in
theorem kX11_meanDepth : z_okM z_MT 121 := ⟨⟨rfl, z_at5 82 rfl rfl, z_ini0, ⟨z_at5 80 rfl rfl, z_at5 81 rfl rfl, rfl, by decide, by decide, rfl⟩, by decide +kernel, by decide +kernel, by decide +kernel, by decide +kernel, by decide⟩, by decide +kernel, by decide +kernel, by decide +kernel, by decide +kernel, Or.inl rfl⟩
set_option maxRecDepth 100000 in
theorem kX11_flow : z_okM z_MT 122 := ⟨⟨rfl, z_at5 92 rfl rfl, z_ini0, ⟨z_at5 90 rfl rfl, z_at5 91 rfl rfl, rfl, by decide, by decide, rfl⟩, by decide +kernel, by decide +kernel, by decide +kernel, by decide +kernel, by decide⟩, by decide +kernel, by decide +kernel, by decide +kernel, by decide +kernel, Or.inl rfl⟩
set_option maxRecDepth 100000 in
theorem kX11_why : z_okM z_MT 123 := ⟨⟨rfl, z_at5 100 rfl rfl, z_ini0, ⟨z_at5 98 rfl rfl, z_at5 99 rfl rfl, rfl, by decide, by decide, rfl⟩, by decide +kernel, by decide +kernel, by decide +kernel, by decide +kernel, by decide⟩, by decide +kernel, by decide +kernel, by decide +kernel, by decide +kernel, Or.inl rfl⟩
set_option maxRecDepth 100000 in
theorem kX11_route : z_okM z_MT 124 := ⟨⟨rfl, z_at5 107 rfl rfl, z_ini0, ⟨z_at5 105 rfl rfl, z_at5 106 rfl rfl, rfl, by decide, by decide, rfl⟩, by decide +kernel, by decide +kernel, by decide +kernel, by decide +kernel, by decide⟩, by decide +kernel, by decide +kernel, by decide +kernel, by decide +kernel, Or.inl rfl⟩
set_option maxRecDepth 100000 in
theorem kX11_upstream : z_okM z_MT 125 := ⟨⟨rfl, z_at5 118 rfl rfl, z_ini0, ⟨z_at5 116 rfl rfl, z_at5 117 rfl rfl, rfl, by decide, by decide, rfl⟩, by decide +kernel, by decide +kernel, by decide +kernel, by decide +kernel, by decide⟩, by decide +kernel, by decide +kernel, by decide +kernel, by decide +kernel, Or.inl rfl⟩
set_option maxRecDepth 100000 in
theorem kX11_water : z_okM z_MT 126 := ⟨⟨rfl, z_at5 129 rfl rfl, z_ini0, ⟨z_at5 127 rfl rfl, z_at5 128 rfl rfl, rfl, by decide, by decide, rfl⟩, by decide +kernel, by decide +kernel, by decide +kernel, by decide +kernel, by decide⟩, by decide +kernel, by decide +kernel, by decide +kernel, by decide +kernel, Or.inl rfl⟩
set_option maxRecDepth 100000 in
theorem kX11_account : z_okM z_MT 127 := ⟨⟨rfl, z_at5 140 rfl rfl, z_ini0, ⟨z_at5 138 rfl rfl, z_at5 139 rfl rfl, rfl, by decide, by decide, rfl⟩, by decide +kernel, by decide +kernel, by decide +kernel, by decide +kernel, by decide⟩, by decide +kernel, by decide +kernel, by decide +kernel, by decide +kernel, Or.inl rfl⟩
set_option maxRecDepth 100000 in
theorem kX11_order : z_okM z_MT 128 := ⟨⟨rfl, z_at5 154 rfl rfl, z_ini0, ⟨z_at5 152 rfl rfl, z_at5 153 rfl rfl, rfl, by decide, by decide, rfl⟩, by decide +kernel, by decide +kernel, by decide +kernel, by decide +kernel, by decide⟩, by decide +kernel, by decide +kernel, by decide +kernel, by decide +kernel, Or.inl rfl⟩
set_option maxRecDepth 100000 in
theorem kX11_reach : z_okM z_MT 129 := ⟨⟨rfl, z_at5 161 rfl rfl, z_ini0, ⟨z_at5 159 rfl rfl, z_at5 160 rfl rfl, rfl, by decide, by decide, rfl⟩, by decide +kernel, by decide +kernel, by decide +kernel, by decide +kernel, by decide⟩, by decide +kernel, by decide +kernel, by decide +kernel, by decide +kernel, Or.inl rfl⟩
set_option maxRecDepth 100000 in
theorem kX11_reachOf : z_okM z_MT 130 := ⟨⟨rfl, z_at5 173 rfl rfl, z_ini0, ⟨z_at5 171 rfl rfl, z_at5 172 rfl rfl, rfl, by decide, by decide, rfl⟩, by decide +kernel, by decide +kernel, by decide +kernel, by decide +kernel, by decide⟩, by decide +kernel, by decide +kernel, by decide +kernel, by decide +kernel, Or.inl rfl⟩
set_option maxRecDepth 100000 in
theorem kX11_basin : z_okM z_MT 131 := ⟨⟨rfl, z_at5 181 rfl rfl, z_ini0, ⟨z_at5 179 rfl rfl, z_at5 180 rfl rfl, rfl, by decide, by decide, rfl⟩, by decide +kernel, by decide +kernel, by decide +kernel, by decide +kernel, by decide⟩, by decide +kernel, by decide +kernel, by decide +kernel, by decide +kernel, Or.inl rfl⟩
set_option maxRecDepth 100000 in
theorem kX11_divides : z_okM z_MT 132 := ⟨⟨rfl, z_at2 170 rfl rfl, z_ini0, ⟨z_at2 168 rfl rfl, z_at2 169 rfl rfl, rfl, by decide, by decide, rfl⟩, by decide +kernel, by decide +kernel, by decide +kernel, by decide +kernel, by decide⟩, by decide +kernel, by decide +kernel, by decide +kernel, by decide +kernel, Or.inl rfl⟩
set_option maxRecDepth 100000 in
theorem kX11_depression : z_okM z_MT 133 := ⟨⟨rfl, z_at5 189 rfl rfl, z_ini0, ⟨z_at5 187 rfl rfl, z_at5 188 rfl rfl, rfl, by decide, by decide, rfl⟩, by decide +kernel, by decide +kernel, by decide +kernel, by decide +kernel, by decide⟩, by decide +kernel, by decide +kernel, by decide +kernel, by decide +kernel, Or.inl rfl⟩
set_option maxRecDepth 100000 in
theorem kX11_depressionAt : z_okM z_MT 134 := ⟨⟨rfl, z_at5 212 rfl rfl, z_ini0, ⟨z_at5 210 rfl rfl, z_at5 211 rfl rfl, rfl, by decide, by decide, rfl⟩, by decide +kernel, by decide +kernel, by decide +kernel, by decide +kernel, by decide⟩, by decide +kernel, by decide +kernel, by decide +kernel, by decide +kernel, Or.inl rfl⟩
set_option maxRecDepth 100000 in
theorem kX11_pools : z_okM z_MT 135 := ⟨⟨rfl, z_at5 224 rfl rfl, z_ini0, ⟨z_at5 222 rfl rfl, z_at5 223 rfl rfl, rfl, by decide, by decide, rfl⟩, by decide +kernel, by decide +kernel, by decide +kernel, by decide +kernel, by decide⟩, by decide +kernel, by decide +kernel, by decide +kernel, by decide +kernel, Or.inl rfl⟩
set_option maxRecDepth 100000 in
theorem kX11_contour : z_okM z_MT 136 := ⟨⟨rfl, z_at5 232 rfl rfl, z_ini0, ⟨z_at5 230 rfl rfl, z_at5 231 rfl rfl, rfl, by decide, by decide, rfl⟩, by decide +kernel, by decide +kernel, by decide +kernel, by decide +kernel, by decide⟩, by decide +kernel, by decide +kernel, by decide +kernel, by decide +kernel, Or.inl rfl⟩
set_option maxRecDepth 100000 in
theorem kX11_section : z_okM z_MT 137 := ⟨⟨rfl, z_at6 15 rfl rfl, z_ini0, ⟨z_at6 13 rfl rfl, z_at6 14 rfl rfl, rfl, by decide, by decide, rfl⟩, by decide +kernel, by decide +kernel, by decide +kernel, by decide +kernel, by decide⟩, by decide +kernel, by decide +kernel, by decide +kernel, by decide +kernel, Or.inl rfl⟩
set_option maxRecDepth 100000 in
theorem kX11_sectionCell : z_okM z_MT 138 := ⟨⟨rfl, z_at6 52 rfl rfl, z_ini0, ⟨z_at6 50 rfl rfl, z_at6 51 rfl rfl, rfl, by decide, by decide, rfl⟩, by decide +kernel, by decide +kernel, by decide +kernel, by decide +kernel, by decide⟩, by decide +kernel, by decide +kernel, by decide +kernel, by decide +kernel, Or.inl rfl⟩
set_option maxRecDepth 100000 in
theorem kX11_sees : z_okM z_MT 139 := ⟨⟨rfl, z_at6 59 rfl rfl, z_ini0, ⟨z_at6 57 rfl rfl, z_at6 58 rfl rfl, rfl, by decide, by decide, rfl⟩, by decide +kernel, by decide +kernel, by decide +kernel, by decide +kernel, by decide⟩, by decide +kernel, by decide +kernel, by decide +kernel, by decide +kernel, Or.inl rfl⟩
set_option maxRecDepth 100000 in
theorem kX11_viewshed : z_okM z_MT 140 := ⟨⟨rfl, z_at6 70 rfl rfl, z_ini0, ⟨z_at6 68 rfl rfl, z_at6 69 rfl rfl, rfl, by decide, by decide, rfl⟩, by decide +kernel, by decide +kernel, by decide +kernel, by decide +kernel, by decide⟩, by decide +kernel, by decide +kernel, by decide +kernel, by decide +kernel, Or.inl rfl⟩
set_option maxRecDepth 100000 in
theorem kX11_depthsIf : z_okM z_MT 141 := ⟨⟨rfl, z_at6 77 rfl rfl, z_ini0, ⟨z_at6 75 rfl rfl, z_at6 76 rfl rfl, rfl, by decide, by decide, rfl⟩, by decide +kernel, by decide +kernel, by decide +kernel, by decide +kernel, by decide⟩, by decide +kernel, by decide +kernel, by decide +kernel, by decide +kernel, Or.inl rfl⟩
set_option maxRecDepth 100000 in
theorem kX11_leavingIf : z_okM z_MT 142 := ⟨⟨rfl, z_at6 84 rfl rfl, z_ini0, ⟨z_at6 82 rfl rfl, z_at6 83 rfl rfl, rfl, by decide, by decide, rfl⟩, by decide +kernel, by decide +kernel, by decide +kernel, by decide +kernel, by decide⟩, by decide +kernel, by decide +kernel, by decide +kernel, by decide +kernel, Or.inl rfl⟩
set_option maxRecDepth 100000 in
theorem kX11_mouthIf : z_okM z_MT 143 := ⟨⟨rfl, z_at6 91 rfl rfl, z_ini0, ⟨z_at6 89 rfl rfl, z_at6 90 rfl rfl, rfl, by decide, by decide, rfl⟩, by decide +kernel, by decide +kernel, by decide +kernel, by decide +kernel, by decide⟩, by decide +kernel, by decide +kernel, by decide +kernel, by decide +kernel, Or.inl rfl⟩
