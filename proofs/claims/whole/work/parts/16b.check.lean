set_option maxRecDepth 100000 in
theorem kX4_poolCells : z_okM z_MT 36 := ⟨⟨rfl, z_at4 135 rfl rfl, z_ini5, ⟨z_at4 133 rfl rfl, z_at4 134 rfl rfl, rfl, by decide, by decide, rfl⟩, by decide +kernel, by decide +kernel, by decide +kernel, by decide +kernel, by decide⟩, by decide +kernel, by decide +kernel, by decide +kernel, by decide +kernel, Or.inl rfl⟩
set_option maxRecDepth 100000 in
theorem kX4_groups : z_okM z_MT 37 := ⟨⟨rfl, z_at5 238 rfl rfl, z_ini5, ⟨z_at5 236 rfl rfl, z_at5 237 rfl rfl, rfl, by decide, by decide, rfl⟩, by decide +kernel, by decide +kernel, by decide +kernel, by decide +kernel, by decide⟩, by decide +kernel, by decide +kernel, by decide +kernel, by decide +kernel, Or.inl rfl⟩
set_option maxRecDepth 100000 in
theorem kX4_borders : z_okM z_MT 38 := ⟨⟨rfl, z_at6 2 rfl rfl, z_ini5, ⟨z_at6 0 rfl rfl, z_at6 1 rfl rfl, rfl, by decide, by decide, rfl⟩, by decide +kernel, by decide +kernel, by decide +kernel, by decide +kernel, by decide⟩, by decide +kernel, by decide +kernel, by decide +kernel, by decide +kernel, Or.inl rfl⟩
set_option maxRecDepth 100000 in
theorem kX0_plan : z_okM z_MT 39 := ⟨⟨rfl, z_at4 211 rfl rfl, z_ini1, ⟨z_at4 209 rfl rfl, z_at4 210 rfl rfl, rfl, by decide, by decide, rfl⟩, by decide +kernel, by decide +kernel, by decide +kernel, by decide +kernel, by decide⟩, by decide +kernel, by decide +kernel, by decide +kernel, by decide +kernel, Or.inl rfl⟩
set_option maxRecDepth 100000 in
theorem kX0_solve : z_okM z_MT 40 := ⟨⟨rfl, z_at4 217 rfl rfl, z_ini1, ⟨z_at4 216 rfl rfl, z_atP 27 rfl rfl, rfl, by decide, by decide, rfl⟩, by decide +kernel, by decide +kernel, by decide +kernel, by decide +kernel, by decide⟩, by decide +kernel, by decide +kernel, by decide +kernel, by decide +kernel, Or.inl rfl⟩
set_option maxRecDepth 100000 in
theorem kX0_improve : z_okM z_MT 41 := ⟨⟨rfl, z_at4 225 rfl rfl, z_ini1, ⟨z_at4 224 rfl rfl, z_atP 28 rfl rfl, rfl, by decide, by decide, rfl⟩, by decide +kernel, by decide +kernel, by decide +kernel, by decide +kernel, by decide⟩, by decide +kernel, by decide +kernel, by decide +kernel, by decide +kernel, Or.inl rfl⟩
set_option maxRecDepth 100000 in
theorem kX0_stepValue : z_okM z_MT 42 := ⟨⟨rfl, z_at4 230 rfl rfl, z_ini1, ⟨z_at4 229 rfl rfl, z_atP 29 rfl rfl, rfl, by decide, by decide, rfl⟩, by decide +kernel, by decide +kernel, by decide +kernel, by decide +kernel, by decide⟩, by decide +kernel, by decide +kernel, by decide +kernel, by decide +kernel, Or.inl rfl⟩
set_option maxRecDepth 100000 in
theorem kX0_keepOwn : z_okM z_MT 43 := ⟨⟨rfl, z_at4 235 rfl rfl, z_ini1, ⟨z_at4 234 rfl rfl, z_atP 30 rfl rfl, rfl, by decide, by decide, rfl⟩, by decide +kernel, by decide +kernel, by decide +kernel, by decide +kernel, by decide⟩, by decide +kernel, by decide +kernel, by decide +kernel, by decide +kernel, Or.inl rfl⟩
set_option maxRecDepth 100000 in
theorem kX0_bestStep : z_okM z_MT 44 := ⟨⟨rfl, z_at4 239 rfl rfl, z_ini1, ⟨z_at4 238 rfl rfl, z_atP 31 rfl rfl, rfl, by decide, by decide, rfl⟩, by decide +kernel, by decide +kernel, by decide +kernel, by decide +kernel, by decide⟩, by decide +kernel, by decide +kernel, by decide +kernel, by decide +kernel, Or.inl rfl⟩
set_option maxRecDepth 100000 in
theorem kX0_carve : z_okM z_MT 45 := ⟨⟨rfl, z_at5 53 rfl rfl, z_ini1, ⟨z_at5 51 rfl rfl, z_at5 52 rfl rfl, rfl, by decide, by decide, rfl⟩, by decide +kernel, by decide +kernel, by decide +kernel, by decide +kernel, by decide⟩, by decide +kernel, by decide +kernel, by decide +kernel, by decide +kernel, Or.inl rfl⟩
set_option maxRecDepth 100000 in
theorem kX1_find : z_okM z_MT 46 := ⟨⟨rfl, z_at4 130 rfl rfl, z_ini2, ⟨z_at4 128 rfl rfl, z_at4 129 rfl rfl, rfl, by decide, by decide, rfl⟩, by decide +kernel, by decide +kernel, by decide +kernel, by decide +kernel, by decide⟩, by decide +kernel, by decide +kernel, by decide +kernel, by decide +kernel, Or.inl rfl⟩
set_option maxRecDepth 100000 in
theorem kX1_place : z_okM z_MT 47 := ⟨⟨rfl, z_at4 144 rfl rfl, z_ini2, ⟨z_at4 143 rfl rfl, z_atP 23 rfl rfl, rfl, by decide, by decide, rfl⟩, by decide +kernel, by decide +kernel, by decide +kernel, by decide +kernel, by decide⟩, by decide +kernel, by decide +kernel, by decide +kernel, by decide +kernel, Or.inl rfl⟩
set_option maxRecDepth 100000 in
theorem kX1_isWithin : z_okM z_MT 48 := ⟨⟨rfl, z_at4 148 rfl rfl, z_ini2, ⟨z_at4 147 rfl rfl, z_atP 24 rfl rfl, rfl, by decide, by decide, rfl⟩, by decide +kernel, by decide +kernel, by decide +kernel, by decide +kernel, by decide⟩, by decide +kernel, by decide +kernel, by decide +kernel, by decide +kernel, Or.inl rfl⟩
set_option maxRecDepth 100000 in
theorem kX1_begin : z_okM z_MT 49 := ⟨⟨rfl, z_at4 158 rfl rfl, z_ini2, ⟨z_at4 157 rfl rfl, z_atP 25 rfl rfl, rfl, by decide, by decide, rfl⟩, by decide +kernel, by decide +kernel, by decide +kernel, by decide +kernel, by decide⟩, by decide +kernel, by decide +kernel, by decide +kernel, by decide +kernel, Or.inl rfl⟩
set_option maxRecDepth 100000 in
theorem kX1_rim : z_okM z_MT 50 := ⟨⟨rfl, z_at4 180 rfl rfl, z_ini2, ⟨z_at4 178 rfl rfl, z_at4 179 rfl rfl, rfl, by decide, by decide, rfl⟩, by decide +kernel, by decide +kernel, by decide +kernel, by decide +kernel, by decide⟩, by decide +kernel, by decide +kernel, by decide +kernel, by decide +kernel, Or.inl rfl⟩
set_option maxRecDepth 100000 in
theorem kX1_capacity : z_okM z_MT 51 := ⟨⟨rfl, z_at5 194 rfl rfl, z_ini2, ⟨z_at5 192 rfl rfl, z_at5 193 rfl rfl, rfl, by decide, by decide, rfl⟩, by decide +kernel, by decide +kernel, by decide +kernel, by decide +kernel, by decide⟩, by decide +kernel, by decide +kernel, by decide +kernel, by decide +kernel, Or.inl rfl⟩
set_option maxRecDepth 100000 in
theorem kX1_children : z_okM z_MT 52 := ⟨⟨rfl, z_at5 201 rfl rfl, z_ini2, ⟨z_at5 199 rfl rfl, z_at5 200 rfl rfl, rfl, by decide, by decide, rfl⟩, by decide +kernel, by decide +kernel, by decide +kernel, by decide +kernel, by decide⟩, by decide +kernel, by decide +kernel, by decide +kernel, by decide +kernel, Or.inl rfl⟩
set_option maxRecDepth 100000 in
theorem kX1_depthInTree : z_okM z_MT 53 := ⟨⟨rfl, z_at5 205 rfl rfl, z_ini2, ⟨z_at5 203 rfl rfl, z_at5 204 rfl rfl, rfl, by decide, by decide, rfl⟩, by decide +kernel, by decide +kernel, by decide +kernel, by decide +kernel, by decide⟩, by decide +kernel, by decide +kernel, by decide +kernel, by decide +kernel, Or.inl rfl⟩
set_option maxRecDepth 100000 in
theorem kX1_rootAt : z_okM z_MT 54 := ⟨⟨rfl, z_at4 176 rfl rfl, z_ini2, ⟨z_at4 174 rfl rfl, z_at4 175 rfl rfl, rfl, by decide, by decide, rfl⟩, by decide +kernel, by decide +kernel, by decide +kernel, by decide +kernel, by decide⟩, by decide +kernel, by decide +kernel, by decide +kernel, by decide +kernel, Or.inl rfl⟩
set_option maxRecDepth 100000 in
theorem kX1_at : z_okM z_MT 55 := ⟨⟨rfl, z_at5 216 rfl rfl, z_ini2, ⟨z_at5 214 rfl rfl, z_at5 215 rfl rfl, rfl, by decide, by decide, rfl⟩, by decide +kernel, by decide +kernel, by decide +kernel, by decide +kernel, by decide⟩, by decide +kernel, by decide +kernel, by decide +kernel, by decide +kernel, Or.inl rfl⟩
set_option maxRecDepth 100000 in
theorem kX2_fill : z_okM z_MT 56 := ⟨⟨rfl, z_at2 178 rfl rfl, z_ini3, ⟨z_at2 176 rfl rfl, z_at2 177 rfl rfl, rfl, by decide, by decide, rfl⟩, by decide +kernel, by decide +kernel, by decide +kernel, by decide +kernel, by decide⟩, by decide +kernel, by decide +kernel, by decide +kernel, by decide +kernel, Or.inl rfl⟩
set_option maxRecDepth 100000 in
theorem kX2_findLevels : z_okM z_MT 57 := ⟨⟨rfl, z_at2 182 rfl rfl, z_ini3, ⟨z_at2 181 rfl rfl, z_atP 1 rfl rfl, rfl, by decide, by decide, rfl⟩, by decide +kernel, by decide +kernel, by decide +kernel, by decide +kernel, by decide⟩, by decide +kernel, by decide +kernel, by decide +kernel, by decide +kernel, Or.inl rfl⟩
set_option maxRecDepth 100000 in
theorem kX2_findDepths : z_okM z_MT 58 := ⟨⟨rfl, z_at2 214 rfl rfl, z_ini3, ⟨z_at2 213 rfl rfl, z_atP 2 rfl rfl, rfl, by decide, by decide, rfl⟩, by decide +kernel, by decide +kernel, by decide +kernel, by decide +kernel, by decide⟩, by decide +kernel, by decide +kernel, by decide +kernel, by decide +kernel, Or.inl rfl⟩
set_option maxRecDepth 100000 in
theorem kX2_findLakes : z_okM z_MT 59 := ⟨⟨rfl, z_at2 219 rfl rfl, z_ini3, ⟨z_at2 218 rfl rfl, z_atP 3 rfl rfl, rfl, by decide, by decide, rfl⟩, by decide +kernel, by decide +kernel, by decide +kernel, by decide +kernel, by decide⟩, by decide +kernel, by decide +kernel, by decide +kernel, by decide +kernel, Or.inl rfl⟩
set_option maxRecDepth 100000 in
theorem kX2_wetAtLevel : z_okM z_MT 60 := ⟨⟨rfl, z_at2 224 rfl rfl, z_ini3, ⟨z_at2 223 rfl rfl, z_atP 4 rfl rfl, rfl, by decide, by decide, rfl⟩, by decide +kernel, by decide +kernel, by decide +kernel, by decide +kernel, by decide⟩, by decide +kernel, by decide +kernel, by decide +kernel, by decide +kernel, Or.inl rfl⟩
set_option maxRecDepth 100000 in
theorem kX2_numberLake : z_okM z_MT 61 := ⟨⟨rfl, z_at2 231 rfl rfl, z_ini3, ⟨z_at2 230 rfl rfl, z_atP 5 rfl rfl, rfl, by decide, by decide, rfl⟩, by decide +kernel, by decide +kernel, by decide +kernel, by decide +kernel, by decide⟩, by decide +kernel, by decide +kernel, by decide +kernel, by decide +kernel, Or.inl rfl⟩
set_option maxRecDepth 100000 in
theorem kX3_trace : z_okM z_MT 62 := ⟨⟨rfl, z_at2 235 rfl rfl, z_ini4, ⟨z_at2 233 rfl rfl, z_at2 234 rfl rfl, rfl, by decide, by decide, rfl⟩, by decide +kernel, by decide +kernel, by decide +kernel, by decide +kernel, by decide⟩, by decide +kernel, by decide +kernel, by decide +kernel, by decide +kernel, Or.inl rfl⟩
set_option maxRecDepth 100000 in
theorem kX3_findFlat : z_okM z_MT 63 := ⟨⟨rfl, z_at3 0 rfl rfl, z_ini4, ⟨z_at2 239 rfl rfl, z_atP 6 rfl rfl, rfl, by decide, by decide, rfl⟩, by decide +kernel, by decide +kernel, by decide +kernel, by decide +kernel, by decide⟩, by decide +kernel, by decide +kernel, by decide +kernel, by decide +kernel, Or.inl rfl⟩
set_option maxRecDepth 100000 in
theorem kX3_leastLevelAround : z_okM z_MT 64 := ⟨⟨rfl, z_at3 3 rfl rfl, z_ini4, z_at3 2 rfl rfl, by decide +kernel, by decide +kernel, by decide +kernel, by decide +kernel, by decide⟩, by decide +kernel, by decide +kernel, by decide +kernel, by decide +kernel, Or.inl rfl⟩
set_option maxRecDepth 100000 in
theorem kX3_findRanks : z_okM z_MT 65 := ⟨⟨rfl, z_at3 24 rfl rfl, z_ini4, ⟨z_at3 23 rfl rfl, z_atP 7 rfl rfl, rfl, by decide, by decide, rfl⟩, by decide +kernel, by decide +kernel, by decide +kernel, by decide +kernel, by decide⟩, by decide +kernel, by decide +kernel, by decide +kernel, by decide +kernel, Or.inl rfl⟩
set_option maxRecDepth 100000 in
theorem kX3_isNextTo : z_okM z_MT 66 := ⟨⟨rfl, z_at3 30 rfl rfl, z_ini4, ⟨z_at3 29 rfl rfl, z_atP 8 rfl rfl, rfl, by decide, by decide, rfl⟩, by decide +kernel, by decide +kernel, by decide +kernel, by decide +kernel, by decide⟩, by decide +kernel, by decide +kernel, by decide +kernel, by decide +kernel, Or.inl rfl⟩
set_option maxRecDepth 100000 in
theorem kX3_isOnLevel : z_okM z_MT 67 := ⟨⟨rfl, z_at3 34 rfl rfl, z_ini4, ⟨z_at3 33 rfl rfl, z_atP 9 rfl rfl, rfl, by decide, by decide, rfl⟩, by decide +kernel, by decide +kernel, by decide +kernel, by decide +kernel, by decide⟩, by decide +kernel, by decide +kernel, by decide +kernel, by decide +kernel, Or.inl rfl⟩
set_option maxRecDepth 100000 in
theorem kX3_choose : z_okM z_MT 68 := ⟨⟨rfl, z_at3 38 rfl rfl, z_ini4, ⟨z_at3 37 rfl rfl, z_atP 10 rfl rfl, rfl, by decide, by decide, rfl⟩, by decide +kernel, by decide +kernel, by decide +kernel, by decide +kernel, by decide⟩, by decide +kernel, by decide +kernel, by decide +kernel, by decide +kernel, Or.inl rfl⟩
set_option maxRecDepth 100000 in
theorem kX3_findSequence : z_okM z_MT 69 := ⟨⟨rfl, z_at3 45 rfl rfl, z_ini4, ⟨z_at3 44 rfl rfl, z_atP 11 rfl rfl, rfl, by decide, by decide, rfl⟩, by decide +kernel, by decide +kernel, by decide +kernel, by decide +kernel, by decide⟩, by decide +kernel, by decide +kernel, by decide +kernel, by decide +kernel, Or.inl rfl⟩
set_option maxRecDepth 100000 in
theorem kX3_findMouths : z_okM z_MT 70 := ⟨⟨rfl, z_at3 50 rfl rfl, z_ini4, ⟨z_at3 49 rfl rfl, z_atP 12 rfl rfl, rfl, by decide, by decide, rfl⟩, by decide +kernel, by decide +kernel, by decide +kernel, by decide +kernel, by decide⟩, by decide +kernel, by decide +kernel, by decide +kernel, by decide +kernel, Or.inl rfl⟩
set_option maxRecDepth 100000 in
theorem kX3_downstream : z_okM z_MT 71 := ⟨⟨rfl, z_at5 111 rfl rfl, z_ini4, ⟨z_at5 109 rfl rfl, z_at5 110 rfl rfl, rfl, by decide, by decide, rfl⟩, by decide +kernel, by decide +kernel, by decide +kernel, by decide +kernel, by decide⟩, by decide +kernel, by decide +kernel, by decide +kernel, by decide +kernel, Or.inl rfl⟩
set_option maxRecDepth 100000 in
theorem kX3_firstOutside : z_okM z_MT 72 := ⟨⟨rfl, z_at5 3 rfl rfl, z_ini4, ⟨z_at5 1 rfl rfl, z_at5 2 rfl rfl, rfl, by decide, by decide, rfl⟩, by decide +kernel, by decide +kernel, by decide +kernel, by decide +kernel, by decide⟩, by decide +kernel, by decide +kernel, by decide +kernel, by decide +kernel, Or.inl rfl⟩
set_option maxRecDepth 100000 in
theorem kX3_above : z_okM z_MT 73 := ⟨⟨rfl, z_at5 122 rfl rfl, z_ini4, ⟨z_at5 120 rfl rfl, z_at5 121 rfl rfl, rfl, by decide, by decide, rfl⟩, by decide +kernel, by decide +kernel, by decide +kernel, by decide +kernel, by decide⟩, by decide +kernel, by decide +kernel, by decide +kernel, by decide +kernel, Or.inl rfl⟩
set_option maxRecDepth 100000 in
theorem kX5_remember : z_okM z_MT 74 := ⟨⟨rfl, z_at3 150 rfl rfl, z_ini6, ⟨z_at3 148 rfl rfl, z_at3 149 rfl rfl, rfl, by decide, by decide, rfl⟩, by decide +kernel, by decide +kernel, by decide +kernel, by decide +kernel, by decide⟩, by decide +kernel, by decide +kernel, by decide +kernel, by decide +kernel, Or.inl rfl⟩
set_option maxRecDepth 100000 in
theorem kX5_takeBack : z_okM z_MT 75 := ⟨⟨rfl, z_at6 182 rfl rfl, z_ini6, ⟨z_at6 180 rfl rfl, z_at6 181 rfl rfl, rfl, by decide, by decide, rfl⟩, by decide +kernel, by decide +kernel, by decide +kernel, by decide +kernel, by decide⟩, by decide +kernel, by decide +kernel, by decide +kernel, by decide +kernel, Or.inl rfl⟩
set_option maxRecDepth 100000 in
theorem kX5_newestSlot : z_okM z_MT 76 := ⟨⟨rfl, z_at3 154 rfl rfl, z_ini6, ⟨z_at3 153 rfl rfl, z_atP 14 rfl rfl, rfl, by decide, by decide, rfl⟩, by decide +kernel, by decide +kernel, by decide +kernel, by decide +kernel, by decide⟩, by decide +kernel, by decide +kernel, by decide +kernel, by decide +kernel, Or.inl rfl⟩
set_option maxRecDepth 100000 in
theorem kX6_draw : z_okM z_MT 77 := ⟨⟨rfl, z_at6 19 rfl rfl, z_ini7, ⟨z_at6 17 rfl rfl, z_at6 18 rfl rfl, rfl, by decide, by decide, rfl⟩, by decide +kernel, by decide +kernel, by decide +kernel, by decide +kernel, by decide⟩, by decide +kernel, by decide +kernel, by decide +kernel, by decide +kernel, Or.inl rfl⟩
set_option maxRecDepth 100000 in
theorem kX6_moved : z_okM z_MT 78 := ⟨⟨rfl, z_at6 28 rfl rfl, z_ini7, z_at6 27 rfl rfl, by decide +kernel, by decide +kernel, by decide +kernel, by decide +kernel, by decide⟩, by decide +kernel, by decide +kernel, by decide +kernel, by decide +kernel, Or.inl rfl⟩
set_option maxRecDepth 100000 in
theorem kX6_cellSet : z_okM z_MT 79 := ⟨⟨rfl, z_at6 45 rfl rfl, z_ini7, ⟨z_at6 43 rfl rfl, z_at6 44 rfl rfl, rfl, by decide, by decide, rfl⟩, by decide +kernel, by decide +kernel, by decide +kernel, by decide +kernel, by decide⟩, by decide +kernel, by decide +kernel, by decide +kernel, by decide +kernel, Or.inl rfl⟩
set_option maxRecDepth 100000 in
theorem kX6_heightAt : z_okM z_MT 80 := ⟨⟨rfl, z_at6 40 rfl rfl, z_ini7, ⟨z_at6 39 rfl rfl, z_atP 33 rfl rfl, rfl, by decide, by decide, rfl⟩, by decide +kernel, by decide +kernel, by decide +kernel, by decide +kernel, by decide⟩, by decide +kernel, by decide +kernel, by decide +kernel, by decide +kernel, Or.inl rfl⟩
set_option maxRecDepth 100000 in
theorem kX6_rises : z_okM z_MT 81 := ⟨⟨rfl, z_at6 36 rfl rfl, z_ini7, ⟨z_at6 34 rfl rfl, z_at6 35 rfl rfl, rfl, by decide, by decide, rfl⟩, by decide +kernel, by decide +kernel, by decide +kernel, by decide +kernel, by decide⟩, by decide +kernel, by decide +kernel, by decide +kernel, by decide +kernel, Or.inl rfl⟩
set_option maxRecDepth 100000 in
theorem kX6_isOpen : z_okM z_MT 82 := ⟨⟨rfl, z_at6 63 rfl rfl, z_ini7, ⟨z_at6 61 rfl rfl, z_at6 62 rfl rfl, rfl, by decide, by decide, rfl⟩, by decide +kernel, by decide +kernel, by decide +kernel, by decide +kernel, by decide⟩, by decide +kernel, by decide +kernel, by decide +kernel, by decide +kernel, Or.inl rfl⟩
set_option maxRecDepth 100000 in
theorem kX8_find : z_okM z_MT 83 := ⟨⟨rfl, z_at4 96 rfl rfl, z_ini9, ⟨z_at4 94 rfl rfl, z_at4 95 rfl rfl, rfl, by decide, by decide, rfl⟩, by decide +kernel, by decide +kernel, by decide +kernel, by decide +kernel, by decide⟩, by decide +kernel, by decide +kernel, by decide +kernel, by decide +kernel, Or.inl rfl⟩
set_option maxRecDepth 100000 in
theorem kX8_findCells : z_okM z_MT 84 := ⟨⟨rfl, z_at4 100 rfl rfl, z_ini9, ⟨z_at4 99 rfl rfl, z_atP 17 rfl rfl, rfl, by decide, by decide, rfl⟩, by decide +kernel, by decide +kernel, by decide +kernel, by decide +kernel, by decide⟩, by decide +kernel, by decide +kernel, by decide +kernel, by decide +kernel, Or.inl rfl⟩
set_option maxRecDepth 100000 in
theorem kX8_findOrders : z_okM z_MT 85 := ⟨⟨rfl, z_at4 106 rfl rfl, z_ini9, ⟨z_at4 105 rfl rfl, z_atP 18 rfl rfl, rfl, by decide, by decide, rfl⟩, by decide +kernel, by decide +kernel, by decide +kernel, by decide +kernel, by decide⟩, by decide +kernel, by decide +kernel, by decide +kernel, by decide +kernel, Or.inl rfl⟩
set_option maxRecDepth 100000 in
theorem kX8_feed : z_okM z_MT 86 := ⟨⟨rfl, z_at4 113 rfl rfl, z_ini9, ⟨z_at4 112 rfl rfl, z_atP 19 rfl rfl, rfl, by decide, by decide, rfl⟩, by decide +kernel, by decide +kernel, by decide +kernel, by decide +kernel, by decide⟩, by decide +kernel, by decide +kernel, by decide +kernel, by decide +kernel, Or.inl rfl⟩
set_option maxRecDepth 100000 in
theorem kX8_isBeginning : z_okM z_MT 87 := ⟨⟨rfl, z_at4 122 rfl rfl, z_ini9, ⟨z_at4 121 rfl rfl, z_atP 21 rfl rfl, rfl, by decide, by decide, rfl⟩, by decide +kernel, by decide +kernel, by decide +kernel, by decide +kernel, by decide⟩, by decide +kernel, by decide +kernel, by decide +kernel, by decide +kernel, Or.inl rfl⟩
set_option maxRecDepth 100000 in
theorem kX8_beginReaches : z_okM z_MT 88 := ⟨⟨rfl, z_at4 118 rfl rfl, z_ini9, ⟨z_at4 117 rfl rfl, z_atP 20 rfl rfl, rfl, by decide, by decide, rfl⟩, by decide +kernel, by decide +kernel, by decide +kernel, by decide +kernel, by decide⟩, by decide +kernel, by decide +kernel, by decide +kernel, by decide +kernel, Or.inl rfl⟩
set_option maxRecDepth 100000 in
theorem kX8_followReaches : z_okM z_MT 89 := ⟨⟨rfl, z_at4 126 rfl rfl, z_ini9, ⟨z_at4 125 rfl rfl, z_atP 22 rfl rfl, rfl, by decide, by decide, rfl⟩, by decide +kernel, by decide +kernel, by decide +kernel, by decide +kernel, by decide⟩, by decide +kernel, by decide +kernel, by decide +kernel, by decide +kernel, Or.inl rfl⟩
