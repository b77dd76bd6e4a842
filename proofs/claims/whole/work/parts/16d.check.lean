set_option maxRecDepth 100000 in
theorem kX11_append : z_okM z_MT 144 := ⟨⟨rfl, z_at6 98 rfl rfl, z_ini0, ⟨z_at6 96 rfl rfl, z_at6 97 rfl rfl, rfl, by decide, by decide, rfl⟩, by decide +kernel, by decide +kernel, by decide +kernel, by decide +kernel, by decide⟩, by decide +kernel, by decide +kernel, by decide +kernel, by decide +kernel, Or.inl rfl⟩
set_option maxRecDepth 100000 in
theorem kX11_execute : z_okM z_MT 145 := ⟨⟨rfl, z_at6 110 rfl rfl, z_ini0, ⟨z_at6 108 rfl rfl, z_at6 109 rfl rfl, rfl, by decide, by decide, rfl⟩, by decide +kernel, by decide +kernel, by decide +kernel, by decide +kernel, by decide⟩, by decide +kernel, by decide +kernel, by decide +kernel, by decide +kernel, Or.inl rfl⟩
set_option maxRecDepth 100000 in
theorem kX11_errorPosition : z_okM z_MT 146 := ⟨⟨rfl, z_at6 162 rfl rfl, z_ini0, ⟨z_at6 160 rfl rfl, z_at6 161 rfl rfl, rfl, by decide, by decide, rfl⟩, by decide +kernel, by decide +kernel, by decide +kernel, by decide +kernel, by decide⟩, by decide +kernel, by decide +kernel, by decide +kernel, by decide +kernel, Or.inl rfl⟩
set_option maxRecDepth 100000 in
theorem kX11_map : z_okM z_MT 147 := ⟨⟨rfl, z_at6 170 rfl rfl, z_ini0, ⟨z_at6 168 rfl rfl, z_at6 169 rfl rfl, rfl, by decide, by decide, rfl⟩, by decide +kernel, by decide +kernel, by decide +kernel, by decide +kernel, by decide⟩, by decide +kernel, by decide +kernel, by decide +kernel, by decide +kernel, Or.inl rfl⟩
set_option maxRecDepth 100000 in
theorem kX11_undo : z_okM z_MT 148 := ⟨⟨rfl, z_at6 177 rfl rfl, z_ini0, ⟨z_at6 175 rfl rfl, z_at6 176 rfl rfl, rfl, by decide, by decide, rfl⟩, by decide +kernel, by decide +kernel, by decide +kernel, by decide +kernel, by decide⟩, by decide +kernel, by decide +kernel, by decide +kernel, by decide +kernel, Or.inl rfl⟩
set_option maxRecDepth 100000 in
theorem kX11_save : z_okM z_MT 149 := ⟨⟨rfl, z_at3 57 rfl rfl, z_ini0, ⟨z_at3 55 rfl rfl, z_at3 56 rfl rfl, rfl, by decide, by decide, rfl⟩, by decide +kernel, by decide +kernel, by decide +kernel, by decide +kernel, by decide⟩, by decide +kernel, by decide +kernel, by decide +kernel, by decide +kernel, Or.inl rfl⟩
set_option maxRecDepth 100000 in
theorem kX11_restore : z_okM z_MT 150 := ⟨⟨rfl, z_at6 190 rfl rfl, z_ini0, ⟨z_at6 188 rfl rfl, z_at6 189 rfl rfl, rfl, by decide, by decide, rfl⟩, by decide +kernel, by decide +kernel, by decide +kernel, by decide +kernel, by decide⟩, by decide +kernel, by decide +kernel, by decide +kernel, by decide +kernel, Or.inl rfl⟩
set_option maxRecDepth 100000 in
theorem kX11_requireCell : z_okM z_MT 151 := ⟨⟨rfl, z_at3 210 rfl rfl, z_ini0, ⟨z_at3 209 rfl rfl, z_atP 15 rfl rfl, rfl, by decide, by decide, rfl⟩, by decide +kernel, by decide +kernel, by decide +kernel, by decide +kernel, by decide⟩, by decide +kernel, by decide +kernel, by decide +kernel, by decide +kernel, Or.inl rfl⟩
set_option maxRecDepth 100000 in
theorem kX11_requireLake : z_okM z_MT 152 := ⟨⟨rfl, z_at4 191 rfl rfl, z_ini0, ⟨z_at4 190 rfl rfl, z_atP 26 rfl rfl, rfl, by decide, by decide, rfl⟩, by decide +kernel, by decide +kernel, by decide +kernel, by decide +kernel, by decide⟩, by decide +kernel, by decide +kernel, by decide +kernel, by decide +kernel, Or.inl rfl⟩
set_option maxRecDepth 100000 in
theorem kX11_requireRange : z_okM z_MT 153 := ⟨⟨rfl, z_at3 75 rfl rfl, z_ini0, z_at3 74 rfl rfl, by decide +kernel, by decide +kernel, by decide +kernel, by decide +kernel, by decide⟩, by decide +kernel, by decide +kernel, by decide +kernel, by decide +kernel, Or.inl rfl⟩
set_option maxRecDepth 100000 in
theorem kX11_surveyFlows : z_okM z_MT 154 := ⟨⟨rfl, z_at2 174 rfl rfl, z_ini0, ⟨z_at2 173 rfl rfl, z_atP 0 rfl rfl, rfl, by decide, by decide, rfl⟩, by decide +kernel, by decide +kernel, by decide +kernel, by decide +kernel, by decide⟩, by decide +kernel, by decide +kernel, by decide +kernel, by decide +kernel, Or.inl rfl⟩
set_option maxRecDepth 100000 in
theorem kX11_surveyWaters : z_okM z_MT 155 := ⟨⟨rfl, z_at5 133 rfl rfl, z_ini0, ⟨z_at5 132 rfl rfl, z_atP 32 rfl rfl, rfl, by decide, by decide, rfl⟩, by decide +kernel, by decide +kernel, by decide +kernel, by decide +kernel, by decide⟩, by decide +kernel, by decide +kernel, by decide +kernel, by decide +kernel, Or.inl rfl⟩
set_option maxRecDepth 100000 in
theorem kX11_surveyStreams : z_okM z_MT 156 := ⟨⟨rfl, z_at4 83 rfl rfl, z_ini0, ⟨z_at4 82 rfl rfl, z_atP 16 rfl rfl, rfl, by decide, by decide, rfl⟩, by decide +kernel, by decide +kernel, by decide +kernel, by decide +kernel, by decide⟩, by decide +kernel, by decide +kernel, by decide +kernel, by decide +kernel, Or.inl rfl⟩
set_option maxRecDepth 100000 in
theorem kX12_thrown : z_okM z_MT 157 := ⟨⟨rfl, z_at7 59 rfl rfl, z_ini13, ⟨z_at7 57 rfl rfl, z_at7 58 rfl rfl, rfl, by decide, by decide, rfl⟩, by decide +kernel, by decide +kernel, by decide +kernel, by decide +kernel, by decide⟩, by decide +kernel, by decide +kernel, by decide +kernel, by decide +kernel, Or.inl rfl⟩
set_option maxRecDepth 100000 in
theorem kX12_raises : z_okM z_MT 158 := ⟨⟨rfl, z_at7 72 rfl rfl, z_ini13, ⟨z_at7 71 rfl rfl, z_atP 43 rfl rfl, rfl, by decide, by decide, rfl⟩, by decide +kernel, by decide +kernel, by decide +kernel, by decide +kernel, by decide⟩, by decide +kernel, by decide +kernel, by decide +kernel, by decide +kernel, Or.inl rfl⟩
set_option maxRecDepth 100000 in
theorem kX12_in : z_okM z_MT 159 := ⟨⟨rfl, z_at7 68 rfl rfl, z_ini13, z_at7 67 rfl rfl, by decide +kernel, by decide +kernel, by decide +kernel, by decide +kernel, by decide⟩, by decide +kernel, by decide +kernel, by decide +kernel, by decide +kernel, Or.inl rfl⟩
set_option maxRecDepth 100000 in
theorem kX12_lays : z_okM z_MT 160 := ⟨⟨rfl, z_at6 201 rfl rfl, z_ini13, ⟨z_at6 200 rfl rfl, z_atP 42 rfl rfl, rfl, by decide, by decide, rfl⟩, by decide +kernel, by decide +kernel, by decide +kernel, by decide +kernel, by decide⟩, by decide +kernel, by decide +kernel, by decide +kernel, by decide +kernel, Or.inl rfl⟩
set_option maxRecDepth 100000 in
theorem kX12_cells : z_okM z_MT 161 := ⟨⟨rfl, z_at7 80 rfl rfl, z_ini13, ⟨z_at7 79 rfl rfl, z_atP 45 rfl rfl, rfl, by decide, by decide, rfl⟩, by decide +kernel, by decide +kernel, by decide +kernel, by decide +kernel, by decide⟩, by decide +kernel, by decide +kernel, by decide +kernel, by decide +kernel, Or.inl rfl⟩
set_option maxRecDepth 100000 in
theorem kX12_isCell : z_okM z_MT 162 := ⟨⟨rfl, z_at7 102 rfl rfl, z_ini13, ⟨z_at7 101 rfl rfl, z_atP 48 rfl rfl, rfl, by decide, by decide, rfl⟩, by decide +kernel, by decide +kernel, by decide +kernel, by decide +kernel, by decide⟩, by decide +kernel, by decide +kernel, by decide +kernel, by decide +kernel, Or.inl rfl⟩
set_option maxRecDepth 100000 in
theorem kX12_height : z_okM z_MT 163 := ⟨⟨rfl, z_at7 90 rfl rfl, z_ini13, ⟨z_at7 89 rfl rfl, z_atP 46 rfl rfl, rfl, by decide, by decide, rfl⟩, by decide +kernel, by decide +kernel, by decide +kernel, by decide +kernel, by decide⟩, by decide +kernel, by decide +kernel, by decide +kernel, by decide +kernel, Or.inl rfl⟩
set_option maxRecDepth 100000 in
theorem kX12_isOutlet : z_okM z_MT 164 := ⟨⟨rfl, z_at7 126 rfl rfl, z_ini13, ⟨z_at7 125 rfl rfl, z_atP 49 rfl rfl, rfl, by decide, by decide, rfl⟩, by decide +kernel, by decide +kernel, by decide +kernel, by decide +kernel, by decide⟩, by decide +kernel, by decide +kernel, by decide +kernel, by decide +kernel, Or.inl rfl⟩
set_option maxRecDepth 100000 in
theorem kX12_outlets : z_okM z_MT 165 := ⟨⟨rfl, z_at7 130 rfl rfl, z_ini13, ⟨z_at7 129 rfl rfl, z_atP 50 rfl rfl, rfl, by decide, by decide, rfl⟩, by decide +kernel, by decide +kernel, by decide +kernel, by decide +kernel, by decide⟩, by decide +kernel, by decide +kernel, by decide +kernel, by decide +kernel, Or.inl rfl⟩
set_option maxRecDepth 100000 in
theorem kX12_next : z_okM z_MT 166 := ⟨⟨rfl, z_at7 160 rfl rfl, z_ini13, ⟨z_at7 159 rfl rfl, z_atP 54 rfl rfl, rfl, by decide, by decide, rfl⟩, by decide +kernel, by decide +kernel, by decide +kernel, by decide +kernel, by decide⟩, by decide +kernel, by decide +kernel, by decide +kernel, by decide +kernel, Or.inl rfl⟩
set_option maxRecDepth 100000 in
theorem kX12_changes : z_okM z_MT 167 := ⟨⟨rfl, z_at7 76 rfl rfl, z_ini13, ⟨z_at7 75 rfl rfl, z_atP 44 rfl rfl, rfl, by decide, by decide, rfl⟩, by decide +kernel, by decide +kernel, by decide +kernel, by decide +kernel, by decide⟩, by decide +kernel, by decide +kernel, by decide +kernel, by decide +kernel, Or.inl rfl⟩
set_option maxRecDepth 100000 in
theorem kX12_resize : z_okM z_MT 168 := ⟨⟨rfl, z_at7 63 rfl rfl, z_ini13, ⟨z_at7 61 rfl rfl, z_at7 62 rfl rfl, rfl, by decide, by decide, rfl⟩, by decide +kernel, by decide +kernel, by decide +kernel, by decide +kernel, by decide⟩, by decide +kernel, by decide +kernel, by decide +kernel, by decide +kernel, Or.inl rfl⟩
set_option maxRecDepth 100000 in
theorem kX12_scatter : z_okM z_MT 169 := ⟨⟨rfl, z_at7 84 rfl rfl, z_ini13, ⟨z_at7 82 rfl rfl, z_at7 83 rfl rfl, rfl, by decide, by decide, rfl⟩, by decide +kernel, by decide +kernel, by decide +kernel, by decide +kernel, by decide⟩, by decide +kernel, by decide +kernel, by decide +kernel, by decide +kernel, Or.inl rfl⟩
set_option maxRecDepth 100000 in
theorem kX12_sets : z_okM z_MT 170 := ⟨⟨rfl, z_at7 98 rfl rfl, z_ini13, ⟨z_at7 97 rfl rfl, z_atP 47 rfl rfl, rfl, by decide, by decide, rfl⟩, by decide +kernel, by decide +kernel, by decide +kernel, by decide +kernel, by decide⟩, by decide +kernel, by decide +kernel, by decide +kernel, by decide +kernel, Or.inl rfl⟩
set_option maxRecDepth 100000 in
theorem kX12_setHeight : z_okM z_MT 171 := ⟨⟨rfl, z_at7 94 rfl rfl, z_ini13, ⟨z_at7 92 rfl rfl, z_at7 93 rfl rfl, rfl, by decide, by decide, rfl⟩, by decide +kernel, by decide +kernel, by decide +kernel, by decide +kernel, by decide⟩, by decide +kernel, by decide +kernel, by decide +kernel, by decide +kernel, Or.inl rfl⟩
set_option maxRecDepth 100000 in
theorem kX12_raise : z_okM z_MT 172 := ⟨⟨rfl, z_at7 106 rfl rfl, z_ini13, ⟨z_at7 104 rfl rfl, z_at7 105 rfl rfl, rfl, by decide, by decide, rfl⟩, by decide +kernel, by decide +kernel, by decide +kernel, by decide +kernel, by decide⟩, by decide +kernel, by decide +kernel, by decide +kernel, by decide +kernel, Or.inl rfl⟩
set_option maxRecDepth 100000 in
theorem kX12_setRain : z_okM z_MT 173 := ⟨⟨rfl, z_at7 114 rfl rfl, z_ini13, ⟨z_at7 112 rfl rfl, z_at7 113 rfl rfl, rfl, by decide, by decide, rfl⟩, by decide +kernel, by decide +kernel, by decide +kernel, by decide +kernel, by decide⟩, by decide +kernel, by decide +kernel, by decide +kernel, by decide +kernel, Or.inl rfl⟩
set_option maxRecDepth 100000 in
theorem kX12_setSoak : z_okM z_MT 174 := ⟨⟨rfl, z_at7 118 rfl rfl, z_ini13, ⟨z_at7 116 rfl rfl, z_at7 117 rfl rfl, rfl, by decide, by decide, rfl⟩, by decide +kernel, by decide +kernel, by decide +kernel, by decide +kernel, by decide⟩, by decide +kernel, by decide +kernel, by decide +kernel, by decide +kernel, Or.inl rfl⟩
set_option maxRecDepth 100000 in
theorem kX12_setOutlet : z_okM z_MT 175 := ⟨⟨rfl, z_at7 122 rfl rfl, z_ini13, ⟨z_at7 120 rfl rfl, z_at7 121 rfl rfl, rfl, by decide, by decide, rfl⟩, by decide +kernel, by decide +kernel, by decide +kernel, by decide +kernel, by decide⟩, by decide +kernel, by decide +kernel, by decide +kernel, by decide +kernel, Or.inl rfl⟩
set_option maxRecDepth 100000 in
theorem kX12_setThreshold : z_okM z_MT 176 := ⟨⟨rfl, z_at7 134 rfl rfl, z_ini13, ⟨z_at7 132 rfl rfl, z_at7 133 rfl rfl, rfl, by decide, by decide, rfl⟩, by decide +kernel, by decide +kernel, by decide +kernel, by decide +kernel, by decide⟩, by decide +kernel, by decide +kernel, by decide +kernel, by decide +kernel, Or.inl rfl⟩
set_option maxRecDepth 100000 in
theorem kX12_cell : z_okM z_MT 177 := ⟨⟨rfl, z_at7 138 rfl rfl, z_ini13, ⟨z_at7 136 rfl rfl, z_at7 137 rfl rfl, rfl, by decide, by decide, rfl⟩, by decide +kernel, by decide +kernel, by decide +kernel, by decide +kernel, by decide⟩, by decide +kernel, by decide +kernel, by decide +kernel, by decide +kernel, Or.inl rfl⟩
set_option maxRecDepth 100000 in
theorem kX12_levels : z_okM z_MT 178 := ⟨⟨rfl, z_at7 155 rfl rfl, z_ini13, ⟨z_at7 154 rfl rfl, z_atP 53 rfl rfl, rfl, by decide, by decide, rfl⟩, by decide +kernel, by decide +kernel, by decide +kernel, by decide +kernel, by decide⟩, by decide +kernel, by decide +kernel, by decide +kernel, by decide +kernel, Or.inl rfl⟩
set_option maxRecDepth 100000 in
theorem kX12_depth : z_okM z_MT 179 := ⟨⟨rfl, z_at7 168 rfl rfl, z_ini13, ⟨z_at7 167 rfl rfl, z_atP 56 rfl rfl, rfl, by decide, by decide, rfl⟩, by decide +kernel, by decide +kernel, by decide +kernel, by decide +kernel, by decide⟩, by decide +kernel, by decide +kernel, by decide +kernel, by decide +kernel, Or.inl rfl⟩
set_option maxRecDepth 100000 in
theorem kX12_isSloping : z_okM z_MT 180 := ⟨⟨rfl, z_at7 164 rfl rfl, z_ini13, ⟨z_at7 163 rfl rfl, z_atP 55 rfl rfl, rfl, by decide, by decide, rfl⟩, by decide +kernel, by decide +kernel, by decide +kernel, by decide +kernel, by decide⟩, by decide +kernel, by decide +kernel, by decide +kernel, by decide +kernel, Or.inl rfl⟩
set_option maxRecDepth 100000 in
theorem kX12_looks : z_okM z_MT 181 := ⟨⟨rfl, z_at7 151 rfl rfl, z_ini13, ⟨z_at7 150 rfl rfl, z_atP 52 rfl rfl, rfl, by decide, by decide, rfl⟩, by decide +kernel, by decide +kernel, by decide +kernel, by decide +kernel, by decide⟩, by decide +kernel, by decide +kernel, by decide +kernel, by decide +kernel, Or.inl rfl⟩
set_option maxRecDepth 100000 in
theorem kX12_onward : z_okM z_MT 182 := ⟨⟨rfl, z_at7 180 rfl rfl, z_ini13, ⟨z_at7 179 rfl rfl, z_atP 59 rfl rfl, rfl, by decide, by decide, rfl⟩, by decide +kernel, by decide +kernel, by decide +kernel, by decide +kernel, by decide⟩, by decide +kernel, by decide +kernel, by decide +kernel, by decide +kernel, Or.inl rfl⟩
set_option maxRecDepth 100000 in
theorem kX12_mouth : z_okM z_MT 183 := ⟨⟨rfl, z_at8 61 rfl rfl, z_ini13, ⟨z_at8 60 rfl rfl, z_atP 77 rfl rfl, rfl, by decide, by decide, rfl⟩, by decide +kernel, by decide +kernel, by decide +kernel, by decide +kernel, by decide⟩, by decide +kernel, by decide +kernel, by decide +kernel, by decide +kernel, Or.inl rfl⟩
set_option maxRecDepth 100000 in
theorem kX12_soaks : z_okM z_MT 184 := ⟨⟨rfl, z_at7 184 rfl rfl, z_ini13, ⟨z_at7 183 rfl rfl, z_atP 60 rfl rfl, rfl, by decide, by decide, rfl⟩, by decide +kernel, by decide +kernel, by decide +kernel, by decide +kernel, by decide⟩, by decide +kernel, by decide +kernel, by decide +kernel, by decide +kernel, Or.inl rfl⟩
set_option maxRecDepth 100000 in
theorem kX12_inflow : z_okM z_MT 185 := ⟨⟨rfl, z_at7 176 rfl rfl, z_ini13, ⟨z_at7 175 rfl rfl, z_atP 58 rfl rfl, rfl, by decide, by decide, rfl⟩, by decide +kernel, by decide +kernel, by decide +kernel, by decide +kernel, by decide⟩, by decide +kernel, by decide +kernel, by decide +kernel, by decide +kernel, Or.inl rfl⟩
set_option maxRecDepth 100000 in
theorem kX12_waters : z_okM z_MT 186 := ⟨⟨rfl, z_at7 172 rfl rfl, z_ini13, ⟨z_at7 171 rfl rfl, z_atP 57 rfl rfl, rfl, by decide, by decide, rfl⟩, by decide +kernel, by decide +kernel, by decide +kernel, by decide +kernel, by decide⟩, by decide +kernel, by decide +kernel, by decide +kernel, by decide +kernel, Or.inl rfl⟩
set_option maxRecDepth 100000 in
theorem kX12_isStream : z_okM z_MT 187 := ⟨⟨rfl, z_at7 188 rfl rfl, z_ini13, ⟨z_at7 187 rfl rfl, z_atP 61 rfl rfl, rfl, by decide, by decide, rfl⟩, by decide +kernel, by decide +kernel, by decide +kernel, by decide +kernel, by decide⟩, by decide +kernel, by decide +kernel, by decide +kernel, by decide +kernel, Or.inl rfl⟩
set_option maxRecDepth 100000 in
theorem kX12_feeders : z_okM z_MT 188 := ⟨⟨rfl, z_at7 204 rfl rfl, z_ini13, ⟨z_at7 203 rfl rfl, z_atP 65 rfl rfl, rfl, by decide, by decide, rfl⟩, by decide +kernel, by decide +kernel, by decide +kernel, by decide +kernel, by decide⟩, by decide +kernel, by decide +kernel, by decide +kernel, by decide +kernel, Or.inl rfl⟩
set_option maxRecDepth 100000 in
theorem kX12_isJunction : z_okM z_MT 189 := ⟨⟨rfl, z_at7 208 rfl rfl, z_ini13, ⟨z_at7 207 rfl rfl, z_atP 66 rfl rfl, rfl, by decide, by decide, rfl⟩, by decide +kernel, by decide +kernel, by decide +kernel, by decide +kernel, by decide⟩, by decide +kernel, by decide +kernel, by decide +kernel, by decide +kernel, Or.inl rfl⟩
set_option maxRecDepth 100000 in
theorem kX12_orderBy : z_okM z_MT 190 := ⟨⟨rfl, z_at7 200 rfl rfl, z_ini13, ⟨z_at7 199 rfl rfl, z_atP 64 rfl rfl, rfl, by decide, by decide, rfl⟩, by decide +kernel, by decide +kernel, by decide +kernel, by decide +kernel, by decide⟩, by decide +kernel, by decide +kernel, by decide +kernel, by decide +kernel, Or.inl rfl⟩
set_option maxRecDepth 100000 in
theorem kX12_streams : z_okM z_MT 191 := ⟨⟨rfl, z_at7 192 rfl rfl, z_ini13, ⟨z_at7 191 rfl rfl, z_atP 62 rfl rfl, rfl, by decide, by decide, rfl⟩, by decide +kernel, by decide +kernel, by decide +kernel, by decide +kernel, by decide⟩, by decide +kernel, by decide +kernel, by decide +kernel, by decide +kernel, Or.inl rfl⟩
set_option maxRecDepth 100000 in
theorem kX12_stepsOf : z_okM z_MT 192 := ⟨⟨rfl, z_at7 196 rfl rfl, z_ini13, ⟨z_at7 195 rfl rfl, z_atP 63 rfl rfl, rfl, by decide, by decide, rfl⟩, by decide +kernel, by decide +kernel, by decide +kernel, by decide +kernel, by decide⟩, by decide +kernel, by decide +kernel, by decide +kernel, by decide +kernel, Or.inl rfl⟩
set_option maxRecDepth 100000 in
theorem kX12_lakes : z_okM z_MT 193 := ⟨⟨rfl, z_at7 147 rfl rfl, z_ini13, ⟨z_at7 146 rfl rfl, z_atP 51 rfl rfl, rfl, by decide, by decide, rfl⟩, by decide +kernel, by decide +kernel, by decide +kernel, by decide +kernel, by decide⟩, by decide +kernel, by decide +kernel, by decide +kernel, by decide +kernel, Or.inl rfl⟩
set_option maxRecDepth 100000 in
theorem kX12_land : z_okM z_MT 194 := ⟨⟨rfl, z_at7 216 rfl rfl, z_ini13, ⟨z_at7 215 rfl rfl, z_atP 68 rfl rfl, rfl, by decide, by decide, rfl⟩, by decide +kernel, by decide +kernel, by decide +kernel, by decide +kernel, by decide⟩, by decide +kernel, by decide +kernel, by decide +kernel, by decide +kernel, Or.inl rfl⟩
set_option maxRecDepth 100000 in
theorem kX12_isPool : z_okM z_MT 195 := ⟨⟨rfl, z_at7 220 rfl rfl, z_ini13, ⟨z_at7 219 rfl rfl, z_atP 69 rfl rfl, rfl, by decide, by decide, rfl⟩, by decide +kernel, by decide +kernel, by decide +kernel, by decide +kernel, by decide⟩, by decide +kernel, by decide +kernel, by decide +kernel, by decide +kernel, Or.inl rfl⟩
set_option maxRecDepth 100000 in
theorem kX12_depressions : z_okM z_MT 196 := ⟨⟨rfl, z_at7 212 rfl rfl, z_ini13, ⟨z_at7 211 rfl rfl, z_atP 67 rfl rfl, rfl, by decide, by decide, rfl⟩, by decide +kernel, by decide +kernel, by decide +kernel, by decide +kernel, by decide⟩, by decide +kernel, by decide +kernel, by decide +kernel, by decide +kernel, Or.inl rfl⟩
set_option maxRecDepth 100000 in
theorem kX12_count : z_okM z_MT 197 := ⟨⟨rfl, z_at7 143 rfl rfl, z_ini13, ⟨z_at7 141 rfl rfl, z_at7 142 rfl rfl, rfl, by decide, by decide, rfl⟩, by decide +kernel, by decide +kernel, by decide +kernel, by decide +kernel, by decide⟩, by decide +kernel, by decide +kernel, by decide +kernel, by decide +kernel, Or.inl rfl⟩
