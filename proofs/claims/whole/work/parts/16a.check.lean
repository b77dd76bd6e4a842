theorem z_ini0 : Cond.initialized "WatershedMapper" ∈ z_W := z_at1 1 rfl rfl
theorem z_ini1 : Cond.initialized "WatershedMapper$Carving" ∈ z_W := z_at1 11 rfl rfl
theorem z_ini2 : Cond.initialized "WatershedMapper$Depressions" ∈ z_W := z_at1 10 rfl rfl
theorem z_ini3 : Cond.initialized "WatershedMapper$Filling" ∈ z_W := z_at1 6 rfl rfl
theorem z_ini4 : Cond.initialized "WatershedMapper$Flows" ∈ z_W := z_at1 7 rfl rfl
theorem z_ini5 : Cond.initialized "WatershedMapper$Grid" ∈ z_W := z_at1 2 rfl rfl
theorem z_ini6 : Cond.initialized "WatershedMapper$History" ∈ z_W := z_at1 4 rfl rfl
theorem z_ini7 : Cond.initialized "WatershedMapper$Line" ∈ z_W := z_at1 12 rfl rfl
theorem z_ini8 : Cond.initialized "WatershedMapper$Rows" ∈ z_W := z_at1 18 rfl rfl
theorem z_ini9 : Cond.initialized "WatershedMapper$Streams" ∈ z_W := z_at1 9 rfl rfl
theorem z_ini10 : Cond.initialized "WatershedMapper$Text" ∈ z_W := z_at1 5 rfl rfl
theorem z_ini11 : Cond.initialized "WatershedMapper$Waters" ∈ z_W := z_at1 8 rfl rfl
theorem z_ini12 : Cond.initialized "WatershedMapperLaw" ∈ z_W := z_at1 0 rfl rfl
theorem z_ini13 : Cond.initialized "WatershedMapperModel" ∈ z_W := z_at1 13 rfl rfl
theorem z_ini14 : Cond.initialized "java/lang/Integer" ∈ z_W := z_at1 28 rfl rfl
theorem z_ini15 : Cond.initialized "java/lang/Long" ∈ z_W := z_at1 24 rfl rfl
theorem z_ini16 : Cond.initialized "java/lang/Math" ∈ z_W := z_at1 19 rfl rfl
theorem z_ini17 : Cond.initialized "java/util/Arrays" ∈ z_W := z_at1 3 rfl rfl
set_option maxRecDepth 100000 in
theorem kJ6_numberOfTrailingZeros_0f7a4 : z_okM z_MT 0 := ⟨⟨rfl, z_at8 125 rfl rfl, z_ini14, z_at8 124 rfl rfl, by decide +kernel, by decide +kernel, by decide +kernel, by decide +kernel, by decide⟩, by decide +kernel, by decide +kernel, by decide +kernel, by decide +kernel, Or.inl rfl⟩
set_option maxRecDepth 100000 in
theorem kJ13_numberOfTrailingZeros_95d88 : z_okM z_MT 1 := ⟨⟨rfl, z_at8 122 rfl rfl, z_ini15, z_at8 121 rfl rfl, by decide +kernel, by decide +kernel, by decide +kernel, by decide +kernel, by decide⟩, by decide +kernel, by decide +kernel, by decide +kernel, by decide +kernel, Or.inl rfl⟩
set_option maxRecDepth 100000 in
theorem kJ13_bitCount_95d88 : z_okM z_MT 2 := ⟨⟨rfl, z_at4 33 rfl rfl, z_ini15, z_at4 32 rfl rfl, by decide +kernel, by decide +kernel, by decide +kernel, by decide +kernel, by decide⟩, by decide +kernel, by decide +kernel, by decide +kernel, by decide +kernel, Or.inl rfl⟩
set_option maxRecDepth 100000 in
theorem kJ9_floorDiv_7cf53 : z_okM z_MT 3 := ⟨⟨rfl, z_at6 31 rfl rfl, z_ini16, z_at6 30 rfl rfl, by decide +kernel, by decide +kernel, by decide +kernel, by decide +kernel, by decide⟩, by decide +kernel, by decide +kernel, by decide +kernel, by decide +kernel, Or.inl rfl⟩
set_option maxRecDepth 100000 in
theorem kJ9_abs_0f7a4 : z_okM z_MT 4 := ⟨⟨rfl, z_at6 24 rfl rfl, z_ini16, z_at6 23 rfl rfl, by decide +kernel, by decide +kernel, by decide +kernel, by decide +kernel, by decide⟩, by decide +kernel, by decide +kernel, by decide +kernel, by decide +kernel, Or.inl rfl⟩
set_option maxRecDepth 100000 in
theorem kJ9_max_7cf53 : z_okM z_MT 5 := ⟨⟨rfl, z_at3 238 rfl rfl, z_ini16, z_at3 237 rfl rfl, by decide +kernel, by decide +kernel, by decide +kernel, by decide +kernel, by decide⟩, by decide +kernel, by decide +kernel, by decide +kernel, by decide +kernel, Or.inl rfl⟩
set_option maxRecDepth 100000 in
theorem kJ9_min_7cf53 : z_okM z_MT 6 := ⟨⟨rfl, z_at3 15 rfl rfl, z_ini16, z_at3 14 rfl rfl, by decide +kernel, by decide +kernel, by decide +kernel, by decide +kernel, by decide⟩, by decide +kernel, by decide +kernel, by decide +kernel, by decide +kernel, Or.inl rfl⟩
set_option maxRecDepth 100000 in
theorem kJ7_fill_53178 : z_okM z_MT 7 := ⟨⟨rfl, z_at1 49 rfl rfl, z_ini17, z_at1 48 rfl rfl, by decide +kernel, by decide +kernel, by decide +kernel, by decide +kernel, by decide⟩, by decide +kernel, by decide +kernel, by decide +kernel, by decide +kernel, Or.inl rfl⟩
set_option maxRecDepth 100000 in
theorem kX7_at : z_okM z_MT 8 := ⟨⟨rfl, z_at2 194 rfl rfl, z_ini8, z_at2 193 rfl rfl, by decide +kernel, by decide +kernel, by decide +kernel, by decide +kernel, by decide⟩, by decide +kernel, by decide +kernel, by decide +kernel, by decide +kernel, Or.inl rfl⟩
set_option maxRecDepth 100000 in
theorem kX7_at_ : z_okM z_MT 9 := ⟨⟨rfl, z_at4 152 rfl rfl, z_ini8, z_at4 151 rfl rfl, by decide +kernel, by decide +kernel, by decide +kernel, by decide +kernel, by decide⟩, by decide +kernel, by decide +kernel, by decide +kernel, by decide +kernel, Or.inl rfl⟩
set_option maxRecDepth 100000 in
theorem kX7_put : z_okM z_MT 10 := ⟨⟨rfl, z_at2 210 rfl rfl, z_ini8, z_at2 209 rfl rfl, by decide +kernel, by decide +kernel, by decide +kernel, by decide +kernel, by decide⟩, by decide +kernel, by decide +kernel, by decide +kernel, by decide +kernel, Or.inl rfl⟩
set_option maxRecDepth 100000 in
theorem kX7_put_ : z_okM z_MT 11 := ⟨⟨rfl, z_at2 227 rfl rfl, z_ini8, z_at2 226 rfl rfl, by decide +kernel, by decide +kernel, by decide +kernel, by decide +kernel, by decide⟩, by decide +kernel, by decide +kernel, by decide +kernel, by decide +kernel, Or.inl rfl⟩
set_option maxRecDepth 100000 in
theorem kX7_add : z_okM z_MT 12 := ⟨⟨rfl, z_at3 41 rfl rfl, z_ini8, z_at3 40 rfl rfl, by decide +kernel, by decide +kernel, by decide +kernel, by decide +kernel, by decide⟩, by decide +kernel, by decide +kernel, by decide +kernel, by decide +kernel, Or.inl rfl⟩
set_option maxRecDepth 100000 in
theorem kX7_copy : z_okM z_MT 13 := ⟨⟨rfl, z_at3 64 rfl rfl, z_ini8, z_at3 63 rfl rfl, by decide +kernel, by decide +kernel, by decide +kernel, by decide +kernel, by decide⟩, by decide +kernel, by decide +kernel, by decide +kernel, by decide +kernel, Or.inl rfl⟩
set_option maxRecDepth 100000 in
theorem kX7_sum : z_okM z_MT 14 := ⟨⟨rfl, z_at4 206 rfl rfl, z_ini8, z_at4 205 rfl rfl, by decide +kernel, by decide +kernel, by decide +kernel, by decide +kernel, by decide⟩, by decide +kernel, by decide +kernel, by decide +kernel, by decide +kernel, Or.inl rfl⟩
set_option maxRecDepth 100000 in
theorem kX7_greatest : z_okM z_MT 15 := ⟨⟨rfl, z_at5 147 rfl rfl, z_ini8, z_at5 146 rfl rfl, by decide +kernel, by decide +kernel, by decide +kernel, by decide +kernel, by decide⟩, by decide +kernel, by decide +kernel, by decide +kernel, by decide +kernel, Or.inl rfl⟩
set_option maxRecDepth 100000 in
theorem kX7_has : z_okM z_MT 16 := ⟨⟨rfl, z_at2 207 rfl rfl, z_ini8, z_at2 206 rfl rfl, by decide +kernel, by decide +kernel, by decide +kernel, by decide +kernel, by decide⟩, by decide +kernel, by decide +kernel, by decide +kernel, by decide +kernel, Or.inl rfl⟩
set_option maxRecDepth 100000 in
theorem kX7_lowest : z_okM z_MT 17 := ⟨⟨rfl, z_at4 200 rfl rfl, z_ini8, z_at4 199 rfl rfl, by decide +kernel, by decide +kernel, by decide +kernel, by decide +kernel, by decide⟩, by decide +kernel, by decide +kernel, by decide +kernel, by decide +kernel, Or.inl rfl⟩
set_option maxRecDepth 100000 in
theorem kX4_startAfresh : z_okM z_MT 18 := ⟨⟨rfl, z_at1 46 rfl rfl, z_ini5, ⟨z_at1 44 rfl rfl, z_at1 45 rfl rfl, rfl, by decide, by decide, rfl⟩, by decide +kernel, by decide +kernel, by decide +kernel, by decide +kernel, by decide⟩, by decide +kernel, by decide +kernel, by decide +kernel, by decide +kernel, Or.inl rfl⟩
set_option maxRecDepth 100000 in
theorem kX4_copyFrom : z_okM z_MT 19 := ⟨⟨rfl, z_at3 61 rfl rfl, z_ini5, ⟨z_at3 59 rfl rfl, z_at3 60 rfl rfl, rfl, by decide, by decide, rfl⟩, by decide +kernel, by decide +kernel, by decide +kernel, by decide +kernel, by decide⟩, by decide +kernel, by decide +kernel, by decide +kernel, by decide +kernel, Or.inl rfl⟩
set_option maxRecDepth 100000 in
theorem kX4_size : z_okM z_MT 20 := ⟨⟨rfl, z_at2 186 rfl rfl, z_ini5, ⟨z_at2 184 rfl rfl, z_at2 185 rfl rfl, rfl, by decide, by decide, rfl⟩, by decide +kernel, by decide +kernel, by decide +kernel, by decide +kernel, by decide⟩, by decide +kernel, by decide +kernel, by decide +kernel, by decide +kernel, Or.inl rfl⟩
set_option maxRecDepth 100000 in
theorem kX4_all : z_okM z_MT 21 := ⟨⟨rfl, z_at5 144 rfl rfl, z_ini5, ⟨z_at5 142 rfl rfl, z_at5 143 rfl rfl, rfl, by decide, by decide, rfl⟩, by decide +kernel, by decide +kernel, by decide +kernel, by decide +kernel, by decide⟩, by decide +kernel, by decide +kernel, by decide +kernel, by decide +kernel, Or.inl rfl⟩
set_option maxRecDepth 100000 in
theorem kX4_isOutlet : z_okM z_MT 22 := ⟨⟨rfl, z_at3 19 rfl rfl, z_ini5, ⟨z_at3 17 rfl rfl, z_at3 18 rfl rfl, rfl, by decide, by decide, rfl⟩, by decide +kernel, by decide +kernel, by decide +kernel, by decide +kernel, by decide⟩, by decide +kernel, by decide +kernel, by decide +kernel, by decide +kernel, Or.inl rfl⟩
set_option maxRecDepth 100000 in
theorem kX4_isOnlyOutlet : z_okM z_MT 23 := ⟨⟨rfl, z_at4 29 rfl rfl, z_ini5, ⟨z_at4 27 rfl rfl, z_at4 28 rfl rfl, rfl, by decide, by decide, rfl⟩, by decide +kernel, by decide +kernel, by decide +kernel, by decide +kernel, by decide⟩, by decide +kernel, by decide +kernel, by decide +kernel, by decide +kernel, Or.inl rfl⟩
set_option maxRecDepth 100000 in
theorem kX4_markOutlet : z_okM z_MT 24 := ⟨⟨rfl, z_at4 57 rfl rfl, z_ini5, ⟨z_at4 55 rfl rfl, z_at4 56 rfl rfl, rfl, by decide, by decide, rfl⟩, by decide +kernel, by decide +kernel, by decide +kernel, by decide +kernel, by decide⟩, by decide +kernel, by decide +kernel, by decide +kernel, by decide +kernel, Or.inl rfl⟩
set_option maxRecDepth 100000 in
theorem kX4_columnOf : z_okM z_MT 25 := ⟨⟨rfl, z_at3 11 rfl rfl, z_ini5, ⟨z_at3 9 rfl rfl, z_at3 10 rfl rfl, rfl, by decide, by decide, rfl⟩, by decide +kernel, by decide +kernel, by decide +kernel, by decide +kernel, by decide⟩, by decide +kernel, by decide +kernel, by decide +kernel, by decide +kernel, Or.inl rfl⟩
set_option maxRecDepth 100000 in
theorem kX4_rowOf : z_okM z_MT 26 := ⟨⟨rfl, z_at4 2 rfl rfl, z_ini5, ⟨z_at4 0 rfl rfl, z_at4 1 rfl rfl, rfl, by decide, by decide, rfl⟩, by decide +kernel, by decide +kernel, by decide +kernel, by decide +kernel, by decide⟩, by decide +kernel, by decide +kernel, by decide +kernel, by decide +kernel, Or.inl rfl⟩
set_option maxRecDepth 100000 in
theorem kX4_neighbor : z_okM z_MT 27 := ⟨⟨rfl, z_at3 7 rfl rfl, z_ini5, ⟨z_at3 5 rfl rfl, z_at3 6 rfl rfl, rfl, by decide, by decide, rfl⟩, by decide +kernel, by decide +kernel, by decide +kernel, by decide +kernel, by decide⟩, by decide +kernel, by decide +kernel, by decide +kernel, by decide +kernel, Or.inl rfl⟩
set_option maxRecDepth 100000 in
theorem kX4_column : z_okM z_MT 28 := ⟨⟨rfl, z_at2 202 rfl rfl, z_ini5, ⟨z_at2 200 rfl rfl, z_at2 201 rfl rfl, rfl, by decide, by decide, rfl⟩, by decide +kernel, by decide +kernel, by decide +kernel, by decide +kernel, by decide⟩, by decide +kernel, by decide +kernel, by decide +kernel, by decide +kernel, Or.inl rfl⟩
set_option maxRecDepth 100000 in
theorem kX4_edge : z_okM z_MT 29 := ⟨⟨rfl, z_at6 7 rfl rfl, z_ini5, ⟨z_at6 5 rfl rfl, z_at6 6 rfl rfl, rfl, by decide, by decide, rfl⟩, by decide +kernel, by decide +kernel, by decide +kernel, by decide +kernel, by decide⟩, by decide +kernel, by decide +kernel, by decide +kernel, by decide +kernel, Or.inl rfl⟩
set_option maxRecDepth 100000 in
theorem kX4_reachable : z_okM z_MT 30 := ⟨⟨rfl, z_at2 198 rfl rfl, z_ini5, ⟨z_at2 196 rfl rfl, z_at2 197 rfl rfl, rfl, by decide, by decide, rfl⟩, by decide +kernel, by decide +kernel, by decide +kernel, by decide +kernel, by decide⟩, by decide +kernel, by decide +kernel, by decide +kernel, by decide +kernel, Or.inl rfl⟩
set_option maxRecDepth 100000 in
theorem kX4_atMost : z_okM z_MT 31 := ⟨⟨rfl, z_at2 190 rfl rfl, z_ini5, ⟨z_at2 188 rfl rfl, z_at2 189 rfl rfl, rfl, by decide, by decide, rfl⟩, by decide +kernel, by decide +kernel, by decide +kernel, by decide +kernel, by decide⟩, by decide +kernel, by decide +kernel, by decide +kernel, by decide +kernel, Or.inl rfl⟩
set_option maxRecDepth 100000 in
theorem kX4_hasHeight : z_okM z_MT 32 := ⟨⟨rfl, z_at3 175 rfl rfl, z_ini5, ⟨z_at3 173 rfl rfl, z_at3 174 rfl rfl, rfl, by decide, by decide, rfl⟩, by decide +kernel, by decide +kernel, by decide +kernel, by decide +kernel, by decide⟩, by decide +kernel, by decide +kernel, by decide +kernel, by decide +kernel, Or.inl rfl⟩
set_option maxRecDepth 100000 in
theorem kX4_differentHeights : z_okM z_MT 33 := ⟨⟨rfl, z_at3 171 rfl rfl, z_ini5, ⟨z_at3 169 rfl rfl, z_at3 170 rfl rfl, rfl, by decide, by decide, rfl⟩, by decide +kernel, by decide +kernel, by decide +kernel, by decide +kernel, by decide⟩, by decide +kernel, by decide +kernel, by decide +kernel, by decide +kernel, Or.inl rfl⟩
set_option maxRecDepth 100000 in
theorem kX4_lowestPlace : z_okM z_MT 34 := ⟨⟨rfl, z_at4 197 rfl rfl, z_ini5, ⟨z_at4 195 rfl rfl, z_at4 196 rfl rfl, rfl, by decide, by decide, rfl⟩, by decide +kernel, by decide +kernel, by decide +kernel, by decide +kernel, by decide⟩, by decide +kernel, by decide +kernel, by decide +kernel, by decide +kernel, Or.inl rfl⟩
set_option maxRecDepth 100000 in
theorem kX4_raiseRectangle : z_okM z_MT 35 := ⟨⟨rfl, z_at3 234 rfl rfl, z_ini5, ⟨z_at3 232 rfl rfl, z_at3 233 rfl rfl, rfl, by decide, by decide, rfl⟩, by decide +kernel, by decide +kernel, by decide +kernel, by decide +kernel, by decide⟩, by decide +kernel, by decide +kernel, by decide +kernel, by decide +kernel, Or.inl rfl⟩
