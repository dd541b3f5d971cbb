section LawCases
variable {κ : Kx} {i : Int} {σ τ : Sg}
abbrev lL (i : Int) : List (Option AV) := [some (vr 1202), some (vr 0), some (vr 172), some (vi i)]
abbrev sc (κ : Kx) (i : Int) : Int := (κ.2.2.2.2.2.2 i.toNat).toInt
theorem scInR (i : Int) : inR (sc κ i) := toR _
theorem lk13 : LK 13 mX8_state 1 1 0 := ⟨8, "ThreeDots", ⟨⟨(g_t2 124 (by decide +kernel) (by decide +kernel)), (g_t1 1 (by decide +kernel) (by decide +kernel)), (g_t2 127 (by decide +kernel) (by decide +kernel)), by decide +kernel, by decide +kernel, by decide +kernel, by decide +kernel⟩, (g_t2 125 (by decide +kernel) (by decide +kernel)), (g_t2 126 (by decide +kernel) (by decide +kernel))⟩, by decide +kernel, rfl, by decide⟩
theorem lk17 : LK 17 mX9_state 1 1 172 := ⟨9, "ThreeDotsModel", ⟨⟨(g_t5 177 (by decide +kernel) (by decide +kernel)), (g_t1 10 (by decide +kernel) (by decide +kernel)), (g_t5 180 (by decide +kernel) (by decide +kernel)), by decide +kernel, by decide +kernel, by decide +kernel, by decide +kernel⟩, (g_t5 178 (by decide +kernel) (by decide +kernel)), (g_t5 179 (by decide +kernel) (by decide +kernel))⟩, by decide +kernel, rfl, by decide⟩
theorem lk18 : LK 18 mX8_set 3 1 0 := ⟨8, "ThreeDots", ⟨⟨(g_t2 132 (by decide +kernel) (by decide +kernel)), (g_t1 1 (by decide +kernel) (by decide +kernel)), (g_t2 135 (by decide +kernel) (by decide +kernel)), by decide +kernel, by decide +kernel, by decide +kernel, by decide +kernel⟩, (g_t2 133 (by decide +kernel) (by decide +kernel)), (g_t2 134 (by decide +kernel) (by decide +kernel))⟩, by decide +kernel, rfl, by decide⟩
theorem lk22 : LK 22 mX9_set 3 2 172 := ⟨9, "ThreeDotsModel", ⟨⟨(g_t5 185 (by decide +kernel) (by decide +kernel)), (g_t1 10 (by decide +kernel) (by decide +kernel)), (g_t5 188 (by decide +kernel) (by decide +kernel)), by decide +kernel, by decide +kernel, by decide +kernel, by decide +kernel⟩, (g_t5 186 (by decide +kernel) (by decide +kernel)), (g_t5 187 (by decide +kernel) (by decide +kernel))⟩, by decide +kernel, rfl, by decide⟩
theorem lk23 : LK 23 mX8_say 4 3 0 := ⟨8, "ThreeDots", ⟨⟨(g_t2 146 (by decide +kernel) (by decide +kernel)), (g_t1 1 (by decide +kernel) (by decide +kernel)), (g_t2 149 (by decide +kernel) (by decide +kernel)), by decide +kernel, by decide +kernel, by decide +kernel, by decide +kernel⟩, (g_t2 147 (by decide +kernel) (by decide +kernel)), (g_t2 148 (by decide +kernel) (by decide +kernel))⟩, by decide +kernel, rfl, by decide⟩
theorem lk27 : LK 27 mX9_say 4 3 172 := ⟨9, "ThreeDotsModel", ⟨⟨(g_t6 132 (by decide +kernel) (by decide +kernel)), (g_t1 10 (by decide +kernel) (by decide +kernel)), (g_t6 135 (by decide +kernel) (by decide +kernel)), by decide +kernel, by decide +kernel, by decide +kernel, by decide +kernel⟩, (g_t6 133 (by decide +kernel) (by decide +kernel)), (g_t6 134 (by decide +kernel) (by decide +kernel))⟩, by decide +kernel, rfl, by decide⟩
theorem lk28 : LK 28 mX8_takeBack 1 3 0 := ⟨8, "ThreeDots", ⟨⟨(g_t2 182 (by decide +kernel) (by decide +kernel)), (g_t1 1 (by decide +kernel) (by decide +kernel)), (g_t2 185 (by decide +kernel) (by decide +kernel)), by decide +kernel, by decide +kernel, by decide +kernel, by decide +kernel⟩, (g_t2 183 (by decide +kernel) (by decide +kernel)), (g_t2 184 (by decide +kernel) (by decide +kernel))⟩, by decide +kernel, rfl, by decide⟩
theorem lk32 : LK 32 mX9_takeBack 1 3 172 := ⟨9, "ThreeDotsModel", ⟨⟨(g_t6 156 (by decide +kernel) (by decide +kernel)), (g_t1 10 (by decide +kernel) (by decide +kernel)), (g_t6 159 (by decide +kernel) (by decide +kernel)), by decide +kernel, by decide +kernel, by decide +kernel, by decide +kernel⟩, (g_t6 157 (by decide +kernel) (by decide +kernel)), (g_t6 158 (by decide +kernel) (by decide +kernel))⟩, by decide +kernel, rfl, by decide⟩
theorem lk33 : LK 33 mX8_ring 0 3 0 := ⟨8, "ThreeDots", ⟨⟨(g_t2 198 (by decide +kernel) (by decide +kernel)), (g_t1 1 (by decide +kernel) (by decide +kernel)), (g_t2 201 (by decide +kernel) (by decide +kernel)), by decide +kernel, by decide +kernel, by decide +kernel, by decide +kernel⟩, (g_t2 199 (by decide +kernel) (by decide +kernel)), (g_t2 200 (by decide +kernel) (by decide +kernel))⟩, by decide +kernel, rfl, by decide⟩
theorem lk37 : LK 37 mX9_ring 0 1 172 := ⟨9, "ThreeDotsModel", ⟨⟨(g_t6 180 (by decide +kernel) (by decide +kernel)), (g_t1 10 (by decide +kernel) (by decide +kernel)), (g_t6 183 (by decide +kernel) (by decide +kernel)), by decide +kernel, by decide +kernel, by decide +kernel, by decide +kernel⟩, (g_t6 181 (by decide +kernel) (by decide +kernel)), (g_t6 182 (by decide +kernel) (by decide +kernel))⟩, by decide +kernel, rfl, by decide⟩
theorem lk38 : LK 38 mX8_minutes 1 7 0 := ⟨8, "ThreeDots", ⟨⟨(g_t2 213 (by decide +kernel) (by decide +kernel)), (g_t1 1 (by decide +kernel) (by decide +kernel)), (g_t2 216 (by decide +kernel) (by decide +kernel)), by decide +kernel, by decide +kernel, by decide +kernel, by decide +kernel⟩, (g_t2 214 (by decide +kernel) (by decide +kernel)), (g_t2 215 (by decide +kernel) (by decide +kernel))⟩, by decide +kernel, rfl, by decide⟩
theorem lk41 : LK 41 mX9_minutes 1 7 172 := ⟨9, "ThreeDotsModel", ⟨⟨(g_t6 187 (by decide +kernel) (by decide +kernel)), (g_t1 10 (by decide +kernel) (by decide +kernel)), (g_t6 190 (by decide +kernel) (by decide +kernel)), by decide +kernel, by decide +kernel, by decide +kernel, by decide +kernel⟩, (g_t6 188 (by decide +kernel) (by decide +kernel)), (g_t6 189 (by decide +kernel) (by decide +kernel))⟩, by decide +kernel, rfl, by decide⟩
theorem lk42 : LK 42 mX8_feed 5 1 0 := ⟨8, "ThreeDots", ⟨⟨(g_t3 82 (by decide +kernel) (by decide +kernel)), (g_t1 1 (by decide +kernel) (by decide +kernel)), (g_t3 85 (by decide +kernel) (by decide +kernel)), by decide +kernel, by decide +kernel, by decide +kernel, by decide +kernel⟩, (g_t3 83 (by decide +kernel) (by decide +kernel)), (g_t3 84 (by decide +kernel) (by decide +kernel))⟩, by decide +kernel, rfl, by decide⟩
theorem lk46 : LK 46 mX9_feed 5 0 172 := ⟨9, "ThreeDotsModel", ⟨⟨(g_t5 195 (by decide +kernel) (by decide +kernel)), (g_t1 10 (by decide +kernel) (by decide +kernel)), (g_t5 198 (by decide +kernel) (by decide +kernel)), by decide +kernel, by decide +kernel, by decide +kernel, by decide +kernel⟩, (g_t5 196 (by decide +kernel) (by decide +kernel)), (g_t5 197 (by decide +kernel) (by decide +kernel))⟩, by decide +kernel, rfl, by decide⟩
theorem lk47 : LK 47 mX8_end 1 1 0 := ⟨8, "ThreeDots", ⟨⟨(g_t3 94 (by decide +kernel) (by decide +kernel)), (g_t1 1 (by decide +kernel) (by decide +kernel)), (g_t3 97 (by decide +kernel) (by decide +kernel)), by decide +kernel, by decide +kernel, by decide +kernel, by decide +kernel⟩, (g_t3 95 (by decide +kernel) (by decide +kernel)), (g_t3 96 (by decide +kernel) (by decide +kernel))⟩, by decide +kernel, rfl, by decide⟩
theorem lk50 : LK 50 mX9_end 1 1 172 := ⟨9, "ThreeDotsModel", ⟨⟨(g_t5 199 (by decide +kernel) (by decide +kernel)), (g_t1 10 (by decide +kernel) (by decide +kernel)), (g_t5 202 (by decide +kernel) (by decide +kernel)), by decide +kernel, by decide +kernel, by decide +kernel, by decide +kernel⟩, (g_t5 200 (by decide +kernel) (by decide +kernel)), (g_t5 201 (by decide +kernel) (by decide +kernel))⟩, by decide +kernel, rfl, by decide⟩
theorem lk51 : LK 51 mX8_text 1 43 0 := ⟨8, "ThreeDots", ⟨⟨(g_t3 98 (by decide +kernel) (by decide +kernel)), (g_t1 1 (by decide +kernel) (by decide +kernel)), (g_t3 101 (by decide +kernel) (by decide +kernel)), by decide +kernel, by decide +kernel, by decide +kernel, by decide +kernel⟩, (g_t3 99 (by decide +kernel) (by decide +kernel)), (g_t3 100 (by decide +kernel) (by decide +kernel))⟩, by decide +kernel, rfl, by decide⟩
theorem lk54 : LK 54 mX9_text 1 47 172 := ⟨9, "ThreeDotsModel", ⟨⟨(g_t5 203 (by decide +kernel) (by decide +kernel)), (g_t1 10 (by decide +kernel) (by decide +kernel)), (g_t5 206 (by decide +kernel) (by decide +kernel)), by decide +kernel, by decide +kernel, by decide +kernel, by decide +kernel⟩, (g_t5 204 (by decide +kernel) (by decide +kernel)), (g_t5 205 (by decide +kernel) (by decide +kernel))⟩, by decide +kernel, rfl, by decide⟩
theorem lk55 : LK 55 mX8_fault 1 0 0 := ⟨8, "ThreeDots", ⟨⟨(g_t4 40 (by decide +kernel) (by decide +kernel)), (g_t1 1 (by decide +kernel) (by decide +kernel)), (g_t4 43 (by decide +kernel) (by decide +kernel)), by decide +kernel, by decide +kernel, by decide +kernel, by decide +kernel⟩, (g_t4 41 (by decide +kernel) (by decide +kernel)), (g_t4 42 (by decide +kernel) (by decide +kernel))⟩, by decide +kernel, rfl, by decide⟩
theorem lk58 : LK 58 mX9_fault 1 0 172 := ⟨9, "ThreeDotsModel", ⟨⟨(g_t6 124 (by decide +kernel) (by decide +kernel)), (g_t1 10 (by decide +kernel) (by decide +kernel)), (g_t6 127 (by decide +kernel) (by decide +kernel)), by decide +kernel, by decide +kernel, by decide +kernel, by decide +kernel⟩, (g_t6 125 (by decide +kernel) (by decide +kernel)), (g_t6 126 (by decide +kernel) (by decide +kernel))⟩, by decide +kernel, rfl, by decide⟩
theorem lk59 : LK 59 mX8_of 2 2 0 := ⟨8, "ThreeDots", ⟨⟨(g_t4 44 (by decide +kernel) (by decide +kernel)), (g_t1 1 (by decide +kernel) (by decide +kernel)), (g_t4 47 (by decide +kernel) (by decide +kernel)), by decide +kernel, by decide +kernel, by decide +kernel, by decide +kernel⟩, (g_t4 45 (by decide +kernel) (by decide +kernel)), (g_t4 46 (by decide +kernel) (by decide +kernel))⟩, by decide +kernel, rfl, by decide⟩
theorem lk63 : LK 63 mX9_of 2 2 172 := ⟨9, "ThreeDotsModel", ⟨⟨(g_t7 43 (by decide +kernel) (by decide +kernel)), (g_t1 10 (by decide +kernel) (by decide +kernel)), (g_t7 46 (by decide +kernel) (by decide +kernel)), by decide +kernel, by decide +kernel, by decide +kernel, by decide +kernel⟩, (g_t7 44 (by decide +kernel) (by decide +kernel)), (g_t7 45 (by decide +kernel) (by decide +kernel))⟩, by decide +kernel, rfl, by decide⟩
theorem lk64 : LK 64 mX8_message 2 1 0 := ⟨8, "ThreeDots", ⟨⟨(g_t4 50 (by decide +kernel) (by decide +kernel)), (g_t1 1 (by decide +kernel) (by decide +kernel)), (g_t4 53 (by decide +kernel) (by decide +kernel)), by decide +kernel, by decide +kernel, by decide +kernel, by decide +kernel⟩, (g_t4 51 (by decide +kernel) (by decide +kernel)), (g_t4 52 (by decide +kernel) (by decide +kernel))⟩, by decide +kernel, rfl, by decide⟩
theorem lk67 : LK 67 mX9_message 2 2 172 := ⟨9, "ThreeDotsModel", ⟨⟨(g_t7 47 (by decide +kernel) (by decide +kernel)), (g_t1 10 (by decide +kernel) (by decide +kernel)), (g_t7 50 (by decide +kernel) (by decide +kernel)), by decide +kernel, by decide +kernel, by decide +kernel, by decide +kernel⟩, (g_t7 48 (by decide +kernel) (by decide +kernel)), (g_t7 49 (by decide +kernel) (by decide +kernel))⟩, by decide +kernel, rfl, by decide⟩
theorem lk68 : LK 68 mX8_asks 2 3 0 := ⟨8, "ThreeDots", ⟨⟨(g_t4 54 (by decide +kernel) (by decide +kernel)), (g_t1 1 (by decide +kernel) (by decide +kernel)), (g_t4 57 (by decide +kernel) (by decide +kernel)), by decide +kernel, by decide +kernel, by decide +kernel, by decide +kernel⟩, (g_t4 55 (by decide +kernel) (by decide +kernel)), (g_t4 56 (by decide +kernel) (by decide +kernel))⟩, by decide +kernel, rfl, by decide⟩
theorem lk71 : LK 71 mX9_asks 2 5 172 := ⟨9, "ThreeDotsModel", ⟨⟨(g_t7 51 (by decide +kernel) (by decide +kernel)), (g_t1 10 (by decide +kernel) (by decide +kernel)), (g_t7 54 (by decide +kernel) (by decide +kernel)), by decide +kernel, by decide +kernel, by decide +kernel, by decide +kernel⟩, (g_t7 52 (by decide +kernel) (by decide +kernel)), (g_t7 53 (by decide +kernel) (by decide +kernel))⟩, by decide +kernel, rfl, by decide⟩
theorem lk72 : LK 72 mX8_book 2 1 0 := ⟨8, "ThreeDots", ⟨⟨(g_t4 61 (by decide +kernel) (by decide +kernel)), (g_t1 1 (by decide +kernel) (by decide +kernel)), (g_t4 64 (by decide +kernel) (by decide +kernel)), by decide +kernel, by decide +kernel, by decide +kernel, by decide +kernel⟩, (g_t4 62 (by decide +kernel) (by decide +kernel)), (g_t4 63 (by decide +kernel) (by decide +kernel))⟩, by decide +kernel, rfl, by decide⟩
theorem lk75 : LK 75 mX9_book 2 1 172 := ⟨9, "ThreeDotsModel", ⟨⟨(g_t7 55 (by decide +kernel) (by decide +kernel)), (g_t1 10 (by decide +kernel) (by decide +kernel)), (g_t7 58 (by decide +kernel) (by decide +kernel)), by decide +kernel, by decide +kernel, by decide +kernel, by decide +kernel⟩, (g_t7 56 (by decide +kernel) (by decide +kernel)), (g_t7 57 (by decide +kernel) (by decide +kernel))⟩, by decide +kernel, rfl, by decide⟩
theorem lk76 : LK 76 mX8_goes 2 7 0 := ⟨8, "ThreeDots", ⟨⟨(g_t4 65 (by decide +kernel) (by decide +kernel)), (g_t1 1 (by decide +kernel) (by decide +kernel)), (g_t4 68 (by decide +kernel) (by decide +kernel)), by decide +kernel, by decide +kernel, by decide +kernel, by decide +kernel⟩, (g_t4 66 (by decide +kernel) (by decide +kernel)), (g_t4 67 (by decide +kernel) (by decide +kernel))⟩, by decide +kernel, rfl, by decide⟩
theorem lk79 : LK 79 mX9_goes 2 7 172 := ⟨9, "ThreeDotsModel", ⟨⟨(g_t7 59 (by decide +kernel) (by decide +kernel)), (g_t1 10 (by decide +kernel) (by decide +kernel)), (g_t7 62 (by decide +kernel) (by decide +kernel)), by decide +kernel, by decide +kernel, by decide +kernel, by decide +kernel⟩, (g_t7 60 (by decide +kernel) (by decide +kernel)), (g_t7 61 (by decide +kernel) (by decide +kernel))⟩, by decide +kernel, rfl, by decide⟩
theorem lk80 : LK 80 mX8_copies 3 3 0 := ⟨8, "ThreeDots", ⟨⟨(g_t4 78 (by decide +kernel) (by decide +kernel)), (g_t1 1 (by decide +kernel) (by decide +kernel)), (g_t4 81 (by decide +kernel) (by decide +kernel)), by decide +kernel, by decide +kernel, by decide +kernel, by decide +kernel⟩, (g_t4 79 (by decide +kernel) (by decide +kernel)), (g_t4 80 (by decide +kernel) (by decide +kernel))⟩, by decide +kernel, rfl, by decide⟩
theorem lk84 : LK 84 mX9_copies 3 5 172 := ⟨9, "ThreeDotsModel", ⟨⟨(g_t7 87 (by decide +kernel) (by decide +kernel)), (g_t1 10 (by decide +kernel) (by decide +kernel)), (g_t7 90 (by decide +kernel) (by decide +kernel)), by decide +kernel, by decide +kernel, by decide +kernel, by decide +kernel⟩, (g_t7 88 (by decide +kernel) (by decide +kernel)), (g_t7 89 (by decide +kernel) (by decide +kernel))⟩, by decide +kernel, rfl, by decide⟩
theorem lk85 : LK 85 mX8_sure 3 2 0 := ⟨8, "ThreeDots", ⟨⟨(g_t4 87 (by decide +kernel) (by decide +kernel)), (g_t1 1 (by decide +kernel) (by decide +kernel)), (g_t4 90 (by decide +kernel) (by decide +kernel)), by decide +kernel, by decide +kernel, by decide +kernel, by decide +kernel⟩, (g_t4 88 (by decide +kernel) (by decide +kernel)), (g_t4 89 (by decide +kernel) (by decide +kernel))⟩, by decide +kernel, rfl, by decide⟩
theorem lk88 : LK 88 mX9_sure 3 2 172 := ⟨9, "ThreeDotsModel", ⟨⟨(g_t7 95 (by decide +kernel) (by decide +kernel)), (g_t1 10 (by decide +kernel) (by decide +kernel)), (g_t7 98 (by decide +kernel) (by decide +kernel)), by decide +kernel, by decide +kernel, by decide +kernel, by decide +kernel⟩, (g_t7 96 (by decide +kernel) (by decide +kernel)), (g_t7 97 (by decide +kernel) (by decide +kernel))⟩, by decide +kernel, rfl, by decide⟩
theorem lk89 : LK 89 mX8_needs 2 2 0 := ⟨8, "ThreeDots", ⟨⟨(g_t4 100 (by decide +kernel) (by decide +kernel)), (g_t1 1 (by decide +kernel) (by decide +kernel)), (g_t4 103 (by decide +kernel) (by decide +kernel)), by decide +kernel, by decide +kernel, by decide +kernel, by decide +kernel⟩, (g_t4 101 (by decide +kernel) (by decide +kernel)), (g_t4 102 (by decide +kernel) (by decide +kernel))⟩, by decide +kernel, rfl, by decide⟩
theorem lk92 : LK 92 mX9_needs 2 1 172 := ⟨9, "ThreeDotsModel", ⟨⟨(g_t7 109 (by decide +kernel) (by decide +kernel)), (g_t1 10 (by decide +kernel) (by decide +kernel)), (g_t7 112 (by decide +kernel) (by decide +kernel)), by decide +kernel, by decide +kernel, by decide +kernel, by decide +kernel⟩, (g_t7 110 (by decide +kernel) (by decide +kernel)), (g_t7 111 (by decide +kernel) (by decide +kernel))⟩, by decide +kernel, rfl, by decide⟩
theorem lk93 : LK 93 mX8_waits 1 2 0 := ⟨8, "ThreeDots", ⟨⟨(g_t4 105 (by decide +kernel) (by decide +kernel)), (g_t1 1 (by decide +kernel) (by decide +kernel)), (g_t4 108 (by decide +kernel) (by decide +kernel)), by decide +kernel, by decide +kernel, by decide +kernel, by decide +kernel⟩, (g_t4 106 (by decide +kernel) (by decide +kernel)), (g_t4 107 (by decide +kernel) (by decide +kernel))⟩, by decide +kernel, rfl, by decide⟩
theorem lk96 : LK 96 mX9_waits 1 1 172 := ⟨9, "ThreeDotsModel", ⟨⟨(g_t7 114 (by decide +kernel) (by decide +kernel)), (g_t1 10 (by decide +kernel) (by decide +kernel)), (g_t7 117 (by decide +kernel) (by decide +kernel)), by decide +kernel, by decide +kernel, by decide +kernel, by decide +kernel⟩, (g_t7 115 (by decide +kernel) (by decide +kernel)), (g_t7 116 (by decide +kernel) (by decide +kernel))⟩, by decide +kernel, rfl, by decide⟩
theorem lk97 : LK 97 mX8_which 1 2 0 := ⟨8, "ThreeDots", ⟨⟨(g_t4 112 (by decide +kernel) (by decide +kernel)), (g_t1 1 (by decide +kernel) (by decide +kernel)), (g_t4 115 (by decide +kernel) (by decide +kernel)), by decide +kernel, by decide +kernel, by decide +kernel, by decide +kernel⟩, (g_t4 113 (by decide +kernel) (by decide +kernel)), (g_t4 114 (by decide +kernel) (by decide +kernel))⟩, by decide +kernel, rfl, by decide⟩
theorem lk100 : LK 100 mX9_which 1 4 172 := ⟨9, "ThreeDotsModel", ⟨⟨(g_t7 119 (by decide +kernel) (by decide +kernel)), (g_t1 10 (by decide +kernel) (by decide +kernel)), (g_t7 122 (by decide +kernel) (by decide +kernel)), by decide +kernel, by decide +kernel, by decide +kernel, by decide +kernel⟩, (g_t7 120 (by decide +kernel) (by decide +kernel)), (g_t7 121 (by decide +kernel) (by decide +kernel))⟩, by decide +kernel, rfl, by decide⟩
theorem lk101 : LK 101 mX8_drift 2 2 0 := ⟨8, "ThreeDots", ⟨⟨(g_t4 124 (by decide +kernel) (by decide +kernel)), (g_t1 1 (by decide +kernel) (by decide +kernel)), (g_t4 127 (by decide +kernel) (by decide +kernel)), by decide +kernel, by decide +kernel, by decide +kernel, by decide +kernel⟩, (g_t4 125 (by decide +kernel) (by decide +kernel)), (g_t4 126 (by decide +kernel) (by decide +kernel))⟩, by decide +kernel, rfl, by decide⟩
theorem lk104 : LK 104 mX9_drift 2 2 172 := ⟨9, "ThreeDotsModel", ⟨⟨(g_t7 131 (by decide +kernel) (by decide +kernel)), (g_t1 10 (by decide +kernel) (by decide +kernel)), (g_t7 134 (by decide +kernel) (by decide +kernel)), by decide +kernel, by decide +kernel, by decide +kernel, by decide +kernel⟩, (g_t7 132 (by decide +kernel) (by decide +kernel)), (g_t7 133 (by decide +kernel) (by decide +kernel))⟩, by decide +kernel, rfl, by decide⟩
theorem lk105 : LK 105 mX8_pauses 2 3 0 := ⟨8, "ThreeDots", ⟨⟨(g_t4 140 (by decide +kernel) (by decide +kernel)), (g_t1 1 (by decide +kernel) (by decide +kernel)), (g_t4 143 (by decide +kernel) (by decide +kernel)), by decide +kernel, by decide +kernel, by decide +kernel, by decide +kernel⟩, (g_t4 141 (by decide +kernel) (by decide +kernel)), (g_t4 142 (by decide +kernel) (by decide +kernel))⟩, by decide +kernel, rfl, by decide⟩
theorem lk108 : LK 108 mX9_pauses 2 4 172 := ⟨9, "ThreeDotsModel", ⟨⟨(g_t7 135 (by decide +kernel) (by decide +kernel)), (g_t1 10 (by decide +kernel) (by decide +kernel)), (g_t7 138 (by decide +kernel) (by decide +kernel)), by decide +kernel, by decide +kernel, by decide +kernel, by decide +kernel⟩, (g_t7 136 (by decide +kernel) (by decide +kernel)), (g_t7 137 (by decide +kernel) (by decide +kernel))⟩, by decide +kernel, rfl, by decide⟩
theorem lk109 : LK 109 mX8_time 1 1 0 := ⟨8, "ThreeDots", ⟨⟨(g_t4 165 (by decide +kernel) (by decide +kernel)), (g_t1 1 (by decide +kernel) (by decide +kernel)), (g_t4 168 (by decide +kernel) (by decide +kernel)), by decide +kernel, by decide +kernel, by decide +kernel, by decide +kernel⟩, (g_t4 166 (by decide +kernel) (by decide +kernel)), (g_t4 167 (by decide +kernel) (by decide +kernel))⟩, by decide +kernel, rfl, by decide⟩
theorem lk112 : LK 112 mX9_time 1 1 172 := ⟨9, "ThreeDotsModel", ⟨⟨(g_t7 162 (by decide +kernel) (by decide +kernel)), (g_t1 10 (by decide +kernel) (by decide +kernel)), (g_t7 165 (by decide +kernel) (by decide +kernel)), by decide +kernel, by decide +kernel, by decide +kernel, by decide +kernel⟩, (g_t7 163 (by decide +kernel) (by decide +kernel)), (g_t7 164 (by decide +kernel) (by decide +kernel))⟩, by decide +kernel, rfl, by decide⟩
theorem lk113 : LK 113 mX8_fits 1 1 0 := ⟨8, "ThreeDots", ⟨⟨(g_t4 169 (by decide +kernel) (by decide +kernel)), (g_t1 1 (by decide +kernel) (by decide +kernel)), (g_t4 172 (by decide +kernel) (by decide +kernel)), by decide +kernel, by decide +kernel, by decide +kernel, by decide +kernel⟩, (g_t4 170 (by decide +kernel) (by decide +kernel)), (g_t4 171 (by decide +kernel) (by decide +kernel))⟩, by decide +kernel, rfl, by decide⟩
theorem lk116 : LK 116 mX9_fits 1 1 172 := ⟨9, "ThreeDotsModel", ⟨⟨(g_t7 166 (by decide +kernel) (by decide +kernel)), (g_t1 10 (by decide +kernel) (by decide +kernel)), (g_t7 169 (by decide +kernel) (by decide +kernel)), by decide +kernel, by decide +kernel, by decide +kernel, by decide +kernel⟩, (g_t7 167 (by decide +kernel) (by decide +kernel)), (g_t7 168 (by decide +kernel) (by decide +kernel))⟩, by decide +kernel, rfl, by decide⟩
theorem lk117 : LK 117 mX8_game 1 2 0 := ⟨8, "ThreeDots", ⟨⟨(g_t4 177 (by decide +kernel) (by decide +kernel)), (g_t1 1 (by decide +kernel) (by decide +kernel)), (g_t4 180 (by decide +kernel) (by decide +kernel)), by decide +kernel, by decide +kernel, by decide +kernel, by decide +kernel⟩, (g_t4 178 (by decide +kernel) (by decide +kernel)), (g_t4 179 (by decide +kernel) (by decide +kernel))⟩, by decide +kernel, rfl, by decide⟩
theorem lk120 : LK 120 mX9_game 1 4 172 := ⟨9, "ThreeDotsModel", ⟨⟨(g_t7 174 (by decide +kernel) (by decide +kernel)), (g_t1 10 (by decide +kernel) (by decide +kernel)), (g_t7 177 (by decide +kernel) (by decide +kernel)), by decide +kernel, by decide +kernel, by decide +kernel, by decide +kernel⟩, (g_t7 175 (by decide +kernel) (by decide +kernel)), (g_t7 176 (by decide +kernel) (by decide +kernel))⟩, by decide +kernel, rfl, by decide⟩
theorem lk121 : LK 121 mX8_table 3 1 0 := ⟨8, "ThreeDots", ⟨⟨(g_t4 194 (by decide +kernel) (by decide +kernel)), (g_t1 1 (by decide +kernel) (by decide +kernel)), (g_t4 197 (by decide +kernel) (by decide +kernel)), by decide +kernel, by decide +kernel, by decide +kernel, by decide +kernel⟩, (g_t4 195 (by decide +kernel) (by decide +kernel)), (g_t4 196 (by decide +kernel) (by decide +kernel))⟩, by decide +kernel, rfl, by decide⟩
theorem lk124 : LK 124 mX9_table 3 1 172 := ⟨9, "ThreeDotsModel", ⟨⟨(g_t7 182 (by decide +kernel) (by decide +kernel)), (g_t1 10 (by decide +kernel) (by decide +kernel)), (g_t7 185 (by decide +kernel) (by decide +kernel)), by decide +kernel, by decide +kernel, by decide +kernel, by decide +kernel⟩, (g_t7 183 (by decide +kernel) (by decide +kernel)), (g_t7 184 (by decide +kernel) (by decide +kernel))⟩, by decide +kernel, rfl, by decide⟩
theorem lk125 : LK 125 mX8_rests 0 0 0 := ⟨8, "ThreeDots", ⟨⟨(g_t4 198 (by decide +kernel) (by decide +kernel)), (g_t1 1 (by decide +kernel) (by decide +kernel)), (g_t4 201 (by decide +kernel) (by decide +kernel)), by decide +kernel, by decide +kernel, by decide +kernel, by decide +kernel⟩, (g_t4 199 (by decide +kernel) (by decide +kernel)), (g_t4 200 (by decide +kernel) (by decide +kernel))⟩, by decide +kernel, rfl, by decide⟩
theorem lk128 : LK 128 mX9_rests 0 0 172 := ⟨9, "ThreeDotsModel", ⟨⟨(g_t7 186 (by decide +kernel) (by decide +kernel)), (g_t1 10 (by decide +kernel) (by decide +kernel)), (g_t7 189 (by decide +kernel) (by decide +kernel)), by decide +kernel, by decide +kernel, by decide +kernel, by decide +kernel⟩, (g_t7 187 (by decide +kernel) (by decide +kernel)), (g_t7 188 (by decide +kernel) (by decide +kernel))⟩, by decide +kernel, rfl, by decide⟩
theorem lk129 : LK 129 mX8_deletes 3 7 0 := ⟨8, "ThreeDots", ⟨⟨(g_t4 202 (by decide +kernel) (by decide +kernel)), (g_t1 1 (by decide +kernel) (by decide +kernel)), (g_t4 205 (by decide +kernel) (by decide +kernel)), by decide +kernel, by decide +kernel, by decide +kernel, by decide +kernel⟩, (g_t4 203 (by decide +kernel) (by decide +kernel)), (g_t4 204 (by decide +kernel) (by decide +kernel))⟩, by decide +kernel, rfl, by decide⟩
theorem lk132 : LK 132 mX9_deletes 3 7 172 := ⟨9, "ThreeDotsModel", ⟨⟨(g_t7 75 (by decide +kernel) (by decide +kernel)), (g_t1 10 (by decide +kernel) (by decide +kernel)), (g_t7 78 (by decide +kernel) (by decide +kernel)), by decide +kernel, by decide +kernel, by decide +kernel, by decide +kernel⟩, (g_t7 76 (by decide +kernel) (by decide +kernel)), (g_t7 77 (by decide +kernel) (by decide +kernel))⟩, by decide +kernel, rfl, by decide⟩
theorem lk133 : LK 133 mX8_thread 1 2 0 := ⟨8, "ThreeDots", ⟨⟨(g_t4 220 (by decide +kernel) (by decide +kernel)), (g_t1 1 (by decide +kernel) (by decide +kernel)), (g_t4 223 (by decide +kernel) (by decide +kernel)), by decide +kernel, by decide +kernel, by decide +kernel, by decide +kernel⟩, (g_t4 221 (by decide +kernel) (by decide +kernel)), (g_t4 222 (by decide +kernel) (by decide +kernel))⟩, by decide +kernel, rfl, by decide⟩
theorem lk136 : LK 136 mX9_thread 1 2 172 := ⟨9, "ThreeDotsModel", ⟨⟨(g_t7 190 (by decide +kernel) (by decide +kernel)), (g_t1 10 (by decide +kernel) (by decide +kernel)), (g_t7 193 (by decide +kernel) (by decide +kernel)), by decide +kernel, by decide +kernel, by decide +kernel, by decide +kernel⟩, (g_t7 191 (by decide +kernel) (by decide +kernel)), (g_t7 192 (by decide +kernel) (by decide +kernel))⟩, by decide +kernel, rfl, by decide⟩
theorem lk137 : LK 137 mX8_crossed 0 1 0 := ⟨8, "ThreeDots", ⟨⟨(g_t4 228 (by decide +kernel) (by decide +kernel)), (g_t1 1 (by decide +kernel) (by decide +kernel)), (g_t4 231 (by decide +kernel) (by decide +kernel)), by decide +kernel, by decide +kernel, by decide +kernel, by decide +kernel⟩, (g_t4 229 (by decide +kernel) (by decide +kernel)), (g_t4 230 (by decide +kernel) (by decide +kernel))⟩, by decide +kernel, rfl, by decide⟩
theorem lk140 : LK 140 mX9_crossed 0 2 172 := ⟨9, "ThreeDotsModel", ⟨⟨(g_t7 194 (by decide +kernel) (by decide +kernel)), (g_t1 10 (by decide +kernel) (by decide +kernel)), (g_t7 197 (by decide +kernel) (by decide +kernel)), by decide +kernel, by decide +kernel, by decide +kernel, by decide +kernel⟩, (g_t7 195 (by decide +kernel) (by decide +kernel)), (g_t7 196 (by decide +kernel) (by decide +kernel))⟩, by decide +kernel, rfl, by decide⟩
theorem lk141 : LK 141 mX8_awake 2 3 0 := ⟨8, "ThreeDots", ⟨⟨(g_t4 236 (by decide +kernel) (by decide +kernel)), (g_t1 1 (by decide +kernel) (by decide +kernel)), (g_t4 239 (by decide +kernel) (by decide +kernel)), by decide +kernel, by decide +kernel, by decide +kernel, by decide +kernel⟩, (g_t4 237 (by decide +kernel) (by decide +kernel)), (g_t4 238 (by decide +kernel) (by decide +kernel))⟩, by decide +kernel, rfl, by decide⟩
theorem lk144 : LK 144 mX9_awake 2 2 172 := ⟨9, "ThreeDotsModel", ⟨⟨(g_t7 202 (by decide +kernel) (by decide +kernel)), (g_t1 10 (by decide +kernel) (by decide +kernel)), (g_t7 205 (by decide +kernel) (by decide +kernel)), by decide +kernel, by decide +kernel, by decide +kernel, by decide +kernel⟩, (g_t7 203 (by decide +kernel) (by decide +kernel)), (g_t7 204 (by decide +kernel) (by decide +kernel))⟩, by decide +kernel, rfl, by decide⟩
theorem lk145 : LK 145 mX8_mirrors 2 3 0 := ⟨8, "ThreeDots", ⟨⟨(g_t5 1 (by decide +kernel) (by decide +kernel)), (g_t1 1 (by decide +kernel) (by decide +kernel)), (g_t5 4 (by decide +kernel) (by decide +kernel)), by decide +kernel, by decide +kernel, by decide +kernel, by decide +kernel⟩, (g_t5 2 (by decide +kernel) (by decide +kernel)), (g_t5 3 (by decide +kernel) (by decide +kernel))⟩, by decide +kernel, rfl, by decide⟩
theorem lk148 : LK 148 mX9_mirrors 2 5 172 := ⟨9, "ThreeDotsModel", ⟨⟨(g_t7 91 (by decide +kernel) (by decide +kernel)), (g_t1 10 (by decide +kernel) (by decide +kernel)), (g_t7 94 (by decide +kernel) (by decide +kernel)), by decide +kernel, by decide +kernel, by decide +kernel, by decide +kernel⟩, (g_t7 92 (by decide +kernel) (by decide +kernel)), (g_t7 93 (by decide +kernel) (by decide +kernel))⟩, by decide +kernel, rfl, by decide⟩
theorem lk149 : LK 149 mX8_ease 3 7 0 := ⟨8, "ThreeDots", ⟨⟨(g_t5 5 (by decide +kernel) (by decide +kernel)), (g_t1 1 (by decide +kernel) (by decide +kernel)), (g_t5 8 (by decide +kernel) (by decide +kernel)), by decide +kernel, by decide +kernel, by decide +kernel, by decide +kernel⟩, (g_t5 6 (by decide +kernel) (by decide +kernel)), (g_t5 7 (by decide +kernel) (by decide +kernel))⟩, by decide +kernel, rfl, by decide⟩
theorem lk152 : LK 152 mX9_ease 3 7 172 := ⟨9, "ThreeDotsModel", ⟨⟨(g_t7 83 (by decide +kernel) (by decide +kernel)), (g_t1 10 (by decide +kernel) (by decide +kernel)), (g_t7 86 (by decide +kernel) (by decide +kernel)), by decide +kernel, by decide +kernel, by decide +kernel, by decide +kernel⟩, (g_t7 84 (by decide +kernel) (by decide +kernel)), (g_t7 85 (by decide +kernel) (by decide +kernel))⟩, by decide +kernel, rfl, by decide⟩
theorem lk153 : LK 153 mX8_split 1 4 0 := ⟨8, "ThreeDots", ⟨⟨(g_t5 13 (by decide +kernel) (by decide +kernel)), (g_t1 1 (by decide +kernel) (by decide +kernel)), (g_t5 16 (by decide +kernel) (by decide +kernel)), by decide +kernel, by decide +kernel, by decide +kernel, by decide +kernel⟩, (g_t5 14 (by decide +kernel) (by decide +kernel)), (g_t5 15 (by decide +kernel) (by decide +kernel))⟩, by decide +kernel, rfl, by decide⟩
theorem lk156 : LK 156 mX9_split 1 4 172 := ⟨9, "ThreeDotsModel", ⟨⟨(g_t7 147 (by decide +kernel) (by decide +kernel)), (g_t1 10 (by decide +kernel) (by decide +kernel)), (g_t7 150 (by decide +kernel) (by decide +kernel)), by decide +kernel, by decide +kernel, by decide +kernel, by decide +kernel⟩, (g_t7 148 (by decide +kernel) (by decide +kernel)), (g_t7 149 (by decide +kernel) (by decide +kernel))⟩, by decide +kernel, rfl, by decide⟩
theorem lk157 : LK 157 mX8_undo 0 3 0 := ⟨8, "ThreeDots", ⟨⟨(g_t5 42 (by decide +kernel) (by decide +kernel)), (g_t1 1 (by decide +kernel) (by decide +kernel)), (g_t5 45 (by decide +kernel) (by decide +kernel)), by decide +kernel, by decide +kernel, by decide +kernel, by decide +kernel⟩, (g_t5 43 (by decide +kernel) (by decide +kernel)), (g_t5 44 (by decide +kernel) (by decide +kernel))⟩, by decide +kernel, rfl, by decide⟩
theorem lk161 : LK 161 mX9_undo 0 0 172 := ⟨9, "ThreeDotsModel", ⟨⟨(g_t6 128 (by decide +kernel) (by decide +kernel)), (g_t1 10 (by decide +kernel) (by decide +kernel)), (g_t6 131 (by decide +kernel) (by decide +kernel)), by decide +kernel, by decide +kernel, by decide +kernel, by decide +kernel⟩, (g_t6 129 (by decide +kernel) (by decide +kernel)), (g_t6 130 (by decide +kernel) (by decide +kernel))⟩, by decide +kernel, rfl, by decide⟩
theorem lk162 : LK 162 mX8_image 1 3 0 := ⟨8, "ThreeDots", ⟨⟨(g_t5 50 (by decide +kernel) (by decide +kernel)), (g_t1 1 (by decide +kernel) (by decide +kernel)), (g_t5 53 (by decide +kernel) (by decide +kernel)), by decide +kernel, by decide +kernel, by decide +kernel, by decide +kernel⟩, (g_t5 51 (by decide +kernel) (by decide +kernel)), (g_t5 52 (by decide +kernel) (by decide +kernel))⟩, by decide +kernel, rfl, by decide⟩
theorem lk166 : LK 166 mX9_image 1 1 172 := ⟨9, "ThreeDotsModel", ⟨⟨(g_t7 206 (by decide +kernel) (by decide +kernel)), (g_t1 10 (by decide +kernel) (by decide +kernel)), (g_t7 209 (by decide +kernel) (by decide +kernel)), by decide +kernel, by decide +kernel, by decide +kernel, by decide +kernel⟩, (g_t7 207 (by decide +kernel) (by decide +kernel)), (g_t7 208 (by decide +kernel) (by decide +kernel))⟩, by decide +kernel, rfl, by decide⟩
theorem lk167 : LK 167 mX8_look 1 1 0 := ⟨8, "ThreeDots", ⟨⟨(g_t5 61 (by decide +kernel) (by decide +kernel)), (g_t1 1 (by decide +kernel) (by decide +kernel)), (g_t5 64 (by decide +kernel) (by decide +kernel)), by decide +kernel, by decide +kernel, by decide +kernel, by decide +kernel⟩, (g_t5 62 (by decide +kernel) (by decide +kernel)), (g_t5 63 (by decide +kernel) (by decide +kernel))⟩, by decide +kernel, rfl, by decide⟩
theorem lk170 : LK 170 mX9_look 1 1 172 := ⟨9, "ThreeDotsModel", ⟨⟨(g_t7 210 (by decide +kernel) (by decide +kernel)), (g_t1 10 (by decide +kernel) (by decide +kernel)), (g_t7 213 (by decide +kernel) (by decide +kernel)), by decide +kernel, by decide +kernel, by decide +kernel, by decide +kernel⟩, (g_t7 211 (by decide +kernel) (by decide +kernel)), (g_t7 212 (by decide +kernel) (by decide +kernel))⟩, by decide +kernel, rfl, by decide⟩
theorem lc0 (hn : κ.2.2.2.2.2.1 ≤ 3072) (hi : 0 ≤ i ∧ i + 6 ≤ (κ.2.2.2.2.2.1 : Int)) (K : ∀ σ τ, Inv σ τ → okS σ → okS τ → Go κ mL (eLw κ) 1329 (lL i) [] (ms false τ σ)) (h : Inv σ τ) (ho : okS σ) (hp : okS τ) : Go κ mL (eLw κ) 196 (lL i) [] (ms false τ σ) := by
  obtain ⟨r, σ', τ', e1, e2, h'⟩ := p_state h (sc κ (i + 1))
  show Go κ mL (eLw κ) 196 (lL i) [] (ms false τ σ)
  refine G_aload_n 1 rfl rfl dL_law_196 ?_
  show Go κ mL (eLw κ) 197 (lL i) [vr 0] (ms false τ σ)
  refine G_aload_n 0 rfl rfl dL_law_197 ?_
  show Go κ mL (eLw κ) 198 (lL i) [vr 1202, vr 0] (ms false τ σ)
  refine G_iload_n 3 rfl rfl dL_law_198 ?_
  show Go κ mL (eLw κ) 199 (lL i) [vi i, vr 1202, vr 0] (ms false τ σ)
  refine G_iconst dL_law_199 ?_
  show Go κ mL (eLw κ) 200 (lL i) [vi 1, vi i, vr 1202, vr 0] (ms false τ σ)
  refine G_iadd dL_law_200 ?_
  show Go κ mL (eLw κ) 201 (lL i) [vi (i + 1), vr 1202, vr 0] (ms false τ σ)
  refine G_scr ⟨by omega, by omega⟩ hn dL_law_201 ?_
  show Go κ mL (eLw κ) 202 (lL i) [vi (sc κ (i + 1)), vr 0] (ms false τ σ)
  refine lwI [vi (sc κ (i + 1))] [] lk13 dL_law_202 rfl rfl (Nat.le_of_ble_eq_true rfl) (k_Td_state (sc κ (i + 1)) σ (scInR _) ho) e1 (fun hr ho' => ?_)
  show Go κ mL (eLw κ) 205 (lL i) [vi r] (ms false τ σ')
  refine G_aload_n 2 rfl rfl dL_law_205 ?_
  show Go κ mL (eLw κ) 206 (lL i) [vr 172, vi r] (ms false τ σ')
  refine G_aload_n 0 rfl rfl dL_law_206 ?_
  show Go κ mL (eLw κ) 207 (lL i) [vr 1202, vr 172, vi r] (ms false τ σ')
  refine G_iload_n 3 rfl rfl dL_law_207 ?_
  show Go κ mL (eLw κ) 208 (lL i) [vi i, vr 1202, vr 172, vi r] (ms false τ σ')
  refine G_iconst dL_law_208 ?_
  show Go κ mL (eLw κ) 209 (lL i) [vi 1, vi i, vr 1202, vr 172, vi r] (ms false τ σ')
  refine G_iadd dL_law_209 ?_
  show Go κ mL (eLw κ) 210 (lL i) [vi (i + 1), vr 1202, vr 172, vi r] (ms false τ σ')
  refine G_scr ⟨by omega, by omega⟩ hn dL_law_210 ?_
  show Go κ mL (eLw κ) 211 (lL i) [vi (sc κ (i + 1)), vr 172, vi r] (ms false τ σ')
  rw [ms_sw]
  refine lwI [vi (sc κ (i + 1))] [vi r] lk17 dL_law_211 rfl rfl (Nat.le_of_ble_eq_true rfl) (k_Mo_state (sc κ (i + 1)) τ (scInR _) hp) e2 (fun hr hp' => ?_)
  show Go κ mL (eLw κ) 214 (lL i) [vi r, vi r] (ms true σ' τ')
  refine G_icmp_eq dL_law_214 ⟨hr, hr⟩ (tgt := 1329) (by decide) (fun _ => ?_) (fun z => absurd rfl z)
  rw [← ms_sw]
  exact K _ _ h' ho' hp'
theorem lc1 (hn : κ.2.2.2.2.2.1 ≤ 3072) (hi : 0 ≤ i ∧ i + 6 ≤ (κ.2.2.2.2.2.1 : Int)) (K : ∀ σ τ, Inv σ τ → okS σ → okS τ → Go κ mL (eLw κ) 1329 (lL i) [] (ms false τ σ)) (h : Inv σ τ) (ho : okS σ) (hp : okS τ) : Go κ mL (eLw κ) 219 (lL i) [] (ms false τ σ) := by
  obtain ⟨r, σ', τ', e1, e2, h'⟩ := p_set h (sc κ (i + 1)) (sc κ (i + 2)) (sc κ (i + 3))
  show Go κ mL (eLw κ) 219 (lL i) [] (ms false τ σ)
  refine G_aload_n 1 rfl rfl dL_law_219 ?_
  show Go κ mL (eLw κ) 220 (lL i) [vr 0] (ms false τ σ)
  refine G_aload_n 0 rfl rfl dL_law_220 ?_
  show Go κ mL (eLw κ) 221 (lL i) [vr 1202, vr 0] (ms false τ σ)
  refine G_iload_n 3 rfl rfl dL_law_221 ?_
  show Go κ mL (eLw κ) 222 (lL i) [vi i, vr 1202, vr 0] (ms false τ σ)
  refine G_iconst dL_law_222 ?_
  show Go κ mL (eLw κ) 223 (lL i) [vi 1, vi i, vr 1202, vr 0] (ms false τ σ)
  refine G_iadd dL_law_223 ?_
  show Go κ mL (eLw κ) 224 (lL i) [vi (i + 1), vr 1202, vr 0] (ms false τ σ)
  refine G_scr ⟨by omega, by omega⟩ hn dL_law_224 ?_
  show Go κ mL (eLw κ) 225 (lL i) [vi (sc κ (i + 1)), vr 0] (ms false τ σ)
  refine G_aload_n 0 rfl rfl dL_law_225 ?_
  show Go κ mL (eLw κ) 226 (lL i) [vr 1202, vi (sc κ (i + 1)), vr 0] (ms false τ σ)
  refine G_iload_n 3 rfl rfl dL_law_226 ?_
  show Go κ mL (eLw κ) 227 (lL i) [vi i, vr 1202, vi (sc κ (i + 1)), vr 0] (ms false τ σ)
  refine G_iconst dL_law_227 ?_
  show Go κ mL (eLw κ) 228 (lL i) [vi 2, vi i, vr 1202, vi (sc κ (i + 1)), vr 0] (ms false τ σ)
  refine G_iadd dL_law_228 ?_
  show Go κ mL (eLw κ) 229 (lL i) [vi (i + 2), vr 1202, vi (sc κ (i + 1)), vr 0] (ms false τ σ)
  refine G_scr ⟨by omega, by omega⟩ hn dL_law_229 ?_
  show Go κ mL (eLw κ) 230 (lL i) [vi (sc κ (i + 2)), vi (sc κ (i + 1)), vr 0] (ms false τ σ)
  refine G_aload_n 0 rfl rfl dL_law_230 ?_
  show Go κ mL (eLw κ) 231 (lL i) [vr 1202, vi (sc κ (i + 2)), vi (sc κ (i + 1)), vr 0] (ms false τ σ)
  refine G_iload_n 3 rfl rfl dL_law_231 ?_
  show Go κ mL (eLw κ) 232 (lL i) [vi i, vr 1202, vi (sc κ (i + 2)), vi (sc κ (i + 1)), vr 0] (ms false τ σ)
  refine G_iconst dL_law_232 ?_
  show Go κ mL (eLw κ) 233 (lL i) [vi 3, vi i, vr 1202, vi (sc κ (i + 2)), vi (sc κ (i + 1)), vr 0] (ms false τ σ)
  refine G_iadd dL_law_233 ?_
  show Go κ mL (eLw κ) 234 (lL i) [vi (i + 3), vr 1202, vi (sc κ (i + 2)), vi (sc κ (i + 1)), vr 0] (ms false τ σ)
  refine G_scr ⟨by omega, by omega⟩ hn dL_law_234 ?_
  show Go κ mL (eLw κ) 235 (lL i) [vi (sc κ (i + 3)), vi (sc κ (i + 2)), vi (sc κ (i + 1)), vr 0] (ms false τ σ)
  refine lwZ [vi (sc κ (i + 1)), vi (sc κ (i + 2)), vi (sc κ (i + 3))] [] lk18 dL_law_235 rfl rfl (Nat.le_of_ble_eq_true rfl) (k_Td_set (sc κ (i + 1)) (sc κ (i + 2)) (sc κ (i + 3)) σ (scInR _) (scInR _) (scInR _) ho) e1 (fun hr ho' => ?_)
  show Go κ mL (eLw κ) 238 (lL i) [vi r] (ms false τ σ')
  refine G_aload_n 2 rfl rfl dL_law_238 ?_
  show Go κ mL (eLw κ) 239 (lL i) [vr 172, vi r] (ms false τ σ')
  refine G_aload_n 0 rfl rfl dL_law_239 ?_
  show Go κ mL (eLw κ) 240 (lL i) [vr 1202, vr 172, vi r] (ms false τ σ')
  refine G_iload_n 3 rfl rfl dL_law_240 ?_
  show Go κ mL (eLw κ) 241 (lL i) [vi i, vr 1202, vr 172, vi r] (ms false τ σ')
  refine G_iconst dL_law_241 ?_
  show Go κ mL (eLw κ) 242 (lL i) [vi 1, vi i, vr 1202, vr 172, vi r] (ms false τ σ')
  refine G_iadd dL_law_242 ?_
  show Go κ mL (eLw κ) 243 (lL i) [vi (i + 1), vr 1202, vr 172, vi r] (ms false τ σ')
  refine G_scr ⟨by omega, by omega⟩ hn dL_law_243 ?_
  show Go κ mL (eLw κ) 244 (lL i) [vi (sc κ (i + 1)), vr 172, vi r] (ms false τ σ')
  refine G_aload_n 0 rfl rfl dL_law_244 ?_
  show Go κ mL (eLw κ) 245 (lL i) [vr 1202, vi (sc κ (i + 1)), vr 172, vi r] (ms false τ σ')
  refine G_iload_n 3 rfl rfl dL_law_245 ?_
  show Go κ mL (eLw κ) 246 (lL i) [vi i, vr 1202, vi (sc κ (i + 1)), vr 172, vi r] (ms false τ σ')
  refine G_iconst dL_law_246 ?_
  show Go κ mL (eLw κ) 247 (lL i) [vi 2, vi i, vr 1202, vi (sc κ (i + 1)), vr 172, vi r] (ms false τ σ')
  refine G_iadd dL_law_247 ?_
  show Go κ mL (eLw κ) 248 (lL i) [vi (i + 2), vr 1202, vi (sc κ (i + 1)), vr 172, vi r] (ms false τ σ')
  refine G_scr ⟨by omega, by omega⟩ hn dL_law_248 ?_
  show Go κ mL (eLw κ) 249 (lL i) [vi (sc κ (i + 2)), vi (sc κ (i + 1)), vr 172, vi r] (ms false τ σ')
  refine G_aload_n 0 rfl rfl dL_law_249 ?_
  show Go κ mL (eLw κ) 250 (lL i) [vr 1202, vi (sc κ (i + 2)), vi (sc κ (i + 1)), vr 172, vi r] (ms false τ σ')
  refine G_iload_n 3 rfl rfl dL_law_250 ?_
  show Go κ mL (eLw κ) 251 (lL i) [vi i, vr 1202, vi (sc κ (i + 2)), vi (sc κ (i + 1)), vr 172, vi r] (ms false τ σ')
  refine G_iconst dL_law_251 ?_
  show Go κ mL (eLw κ) 252 (lL i) [vi 3, vi i, vr 1202, vi (sc κ (i + 2)), vi (sc κ (i + 1)), vr 172, vi r] (ms false τ σ')
  refine G_iadd dL_law_252 ?_
  show Go κ mL (eLw κ) 253 (lL i) [vi (i + 3), vr 1202, vi (sc κ (i + 2)), vi (sc κ (i + 1)), vr 172, vi r] (ms false τ σ')
  refine G_scr ⟨by omega, by omega⟩ hn dL_law_253 ?_
  show Go κ mL (eLw κ) 254 (lL i) [vi (sc κ (i + 3)), vi (sc κ (i + 2)), vi (sc κ (i + 1)), vr 172, vi r] (ms false τ σ')
  rw [ms_sw]
  refine lwZ [vi (sc κ (i + 1)), vi (sc κ (i + 2)), vi (sc κ (i + 3))] [vi r] lk22 dL_law_254 rfl rfl (Nat.le_of_ble_eq_true rfl) (k_Mo_set (sc κ (i + 1)) (sc κ (i + 2)) (sc κ (i + 3)) τ (scInR _) (scInR _) (scInR _) hp) e2 (fun hr hp' => ?_)
  show Go κ mL (eLw κ) 257 (lL i) [vi r, vi r] (ms true σ' τ')
  refine G_icmp_eq dL_law_257 ⟨hr, hr⟩ (tgt := 1329) (by decide) (fun _ => ?_) (fun z => absurd rfl z)
  rw [← ms_sw]
  exact K _ _ h' ho' hp'
theorem lc2_1 (hn : κ.2.2.2.2.2.1 ≤ 3072) (hi : 0 ≤ i ∧ i + 6 ≤ (κ.2.2.2.2.2.1 : Int)) (hz : ¬ sc κ (i + 4) = 0) (K : ∀ σ τ, Inv σ τ → okS σ → okS τ → Go κ mL (eLw κ) 1329 (lL i) [] (ms false τ σ)) (h : Inv σ τ) (ho : okS σ) (hp : okS τ) : Go κ mL (eLw κ) 262 (lL i) [] (ms false τ σ) := by
  obtain ⟨r, σ', τ', e1, e2, h'⟩ := p_say h (sc κ (i + 1)) (sc κ (i + 2)) (sc κ (i + 3)) 1
  show Go κ mL (eLw κ) 262 (lL i) [] (ms false τ σ)
  refine G_aload_n 1 rfl rfl dL_law_262 ?_
  show Go κ mL (eLw κ) 263 (lL i) [vr 0] (ms false τ σ)
  refine G_aload_n 0 rfl rfl dL_law_263 ?_
  show Go κ mL (eLw κ) 264 (lL i) [vr 1202, vr 0] (ms false τ σ)
  refine G_iload_n 3 rfl rfl dL_law_264 ?_
  show Go κ mL (eLw κ) 265 (lL i) [vi i, vr 1202, vr 0] (ms false τ σ)
  refine G_iconst dL_law_265 ?_
  show Go κ mL (eLw κ) 266 (lL i) [vi 1, vi i, vr 1202, vr 0] (ms false τ σ)
  refine G_iadd dL_law_266 ?_
  show Go κ mL (eLw κ) 267 (lL i) [vi (i + 1), vr 1202, vr 0] (ms false τ σ)
  refine G_scr ⟨by omega, by omega⟩ hn dL_law_267 ?_
  show Go κ mL (eLw κ) 268 (lL i) [vi (sc κ (i + 1)), vr 0] (ms false τ σ)
  refine G_aload_n 0 rfl rfl dL_law_268 ?_
  show Go κ mL (eLw κ) 269 (lL i) [vr 1202, vi (sc κ (i + 1)), vr 0] (ms false τ σ)
  refine G_iload_n 3 rfl rfl dL_law_269 ?_
  show Go κ mL (eLw κ) 270 (lL i) [vi i, vr 1202, vi (sc κ (i + 1)), vr 0] (ms false τ σ)
  refine G_iconst dL_law_270 ?_
  show Go κ mL (eLw κ) 271 (lL i) [vi 2, vi i, vr 1202, vi (sc κ (i + 1)), vr 0] (ms false τ σ)
  refine G_iadd dL_law_271 ?_
  show Go κ mL (eLw κ) 272 (lL i) [vi (i + 2), vr 1202, vi (sc κ (i + 1)), vr 0] (ms false τ σ)
  refine G_scr ⟨by omega, by omega⟩ hn dL_law_272 ?_
  show Go κ mL (eLw κ) 273 (lL i) [vi (sc κ (i + 2)), vi (sc κ (i + 1)), vr 0] (ms false τ σ)
  refine G_aload_n 0 rfl rfl dL_law_273 ?_
  show Go κ mL (eLw κ) 274 (lL i) [vr 1202, vi (sc κ (i + 2)), vi (sc κ (i + 1)), vr 0] (ms false τ σ)
  refine G_iload_n 3 rfl rfl dL_law_274 ?_
  show Go κ mL (eLw κ) 275 (lL i) [vi i, vr 1202, vi (sc κ (i + 2)), vi (sc κ (i + 1)), vr 0] (ms false τ σ)
  refine G_iconst dL_law_275 ?_
  show Go κ mL (eLw κ) 276 (lL i) [vi 3, vi i, vr 1202, vi (sc κ (i + 2)), vi (sc κ (i + 1)), vr 0] (ms false τ σ)
  refine G_iadd dL_law_276 ?_
  show Go κ mL (eLw κ) 277 (lL i) [vi (i + 3), vr 1202, vi (sc κ (i + 2)), vi (sc κ (i + 1)), vr 0] (ms false τ σ)
  refine G_scr ⟨by omega, by omega⟩ hn dL_law_277 ?_
  show Go κ mL (eLw κ) 278 (lL i) [vi (sc κ (i + 3)), vi (sc κ (i + 2)), vi (sc κ (i + 1)), vr 0] (ms false τ σ)
  refine G_aload_n 0 rfl rfl dL_law_278 ?_
  show Go κ mL (eLw κ) 279 (lL i) [vr 1202, vi (sc κ (i + 3)), vi (sc κ (i + 2)), vi (sc κ (i + 1)), vr 0] (ms false τ σ)
  refine G_iload_n 3 rfl rfl dL_law_279 ?_
  show Go κ mL (eLw κ) 280 (lL i) [vi i, vr 1202, vi (sc κ (i + 3)), vi (sc κ (i + 2)), vi (sc κ (i + 1)), vr 0] (ms false τ σ)
  refine G_iconst dL_law_280 ?_
  show Go κ mL (eLw κ) 281 (lL i) [vi 4, vi i, vr 1202, vi (sc κ (i + 3)), vi (sc κ (i + 2)), vi (sc κ (i + 1)), vr 0] (ms false τ σ)
  refine G_iadd dL_law_281 ?_
  show Go κ mL (eLw κ) 282 (lL i) [vi (i + 4), vr 1202, vi (sc κ (i + 3)), vi (sc κ (i + 2)), vi (sc κ (i + 1)), vr 0] (ms false τ σ)
  refine G_scr ⟨by omega, by omega⟩ hn dL_law_282 ?_
  show Go κ mL (eLw κ) 283 (lL i) [vi (sc κ (i + 4)), vi (sc κ (i + 3)), vi (sc κ (i + 2)), vi (sc κ (i + 1)), vr 0] (ms false τ σ)
  refine G_if_eq dL_law_283 (scInR _) (tgt := 290) (by decide) (fun z => absurd z hz) (fun _ => ?_)
  show Go κ mL (eLw κ) 286 (lL i) [vi (sc κ (i + 3)), vi (sc κ (i + 2)), vi (sc κ (i + 1)), vr 0] (ms false τ σ)
  refine G_iconst dL_law_286 ?_
  show Go κ mL (eLw κ) 287 (lL i) [vi 1, vi (sc κ (i + 3)), vi (sc κ (i + 2)), vi (sc κ (i + 1)), vr 0] (ms false τ σ)
  refine G_goto dL_law_287 (tgt := 291) (by decide) ?_
  show Go κ mL (eLw κ) 291 (lL i) [vi 1, vi (sc κ (i + 3)), vi (sc κ (i + 2)), vi (sc κ (i + 1)), vr 0] (ms false τ σ)
  refine lwI [vi (sc κ (i + 1)), vi (sc κ (i + 2)), vi (sc κ (i + 3)), vi 1] [] lk23 dL_law_291 rfl rfl (Nat.le_of_ble_eq_true rfl) (k_Td_say (sc κ (i + 1)) (sc κ (i + 2)) (sc κ (i + 3)) 1 σ (scInR _) (scInR _) (scInR _) (inRk 1 rfl) ho) e1 (fun hr ho' => ?_)
  show Go κ mL (eLw κ) 294 (lL i) [vi r] (ms false τ σ')
  refine G_aload_n 2 rfl rfl dL_law_294 ?_
  show Go κ mL (eLw κ) 295 (lL i) [vr 172, vi r] (ms false τ σ')
  refine G_aload_n 0 rfl rfl dL_law_295 ?_
  show Go κ mL (eLw κ) 296 (lL i) [vr 1202, vr 172, vi r] (ms false τ σ')
  refine G_iload_n 3 rfl rfl dL_law_296 ?_
  show Go κ mL (eLw κ) 297 (lL i) [vi i, vr 1202, vr 172, vi r] (ms false τ σ')
  refine G_iconst dL_law_297 ?_
  show Go κ mL (eLw κ) 298 (lL i) [vi 1, vi i, vr 1202, vr 172, vi r] (ms false τ σ')
  refine G_iadd dL_law_298 ?_
  show Go κ mL (eLw κ) 299 (lL i) [vi (i + 1), vr 1202, vr 172, vi r] (ms false τ σ')
  refine G_scr ⟨by omega, by omega⟩ hn dL_law_299 ?_
  show Go κ mL (eLw κ) 300 (lL i) [vi (sc κ (i + 1)), vr 172, vi r] (ms false τ σ')
  refine G_aload_n 0 rfl rfl dL_law_300 ?_
  show Go κ mL (eLw κ) 301 (lL i) [vr 1202, vi (sc κ (i + 1)), vr 172, vi r] (ms false τ σ')
  refine G_iload_n 3 rfl rfl dL_law_301 ?_
  show Go κ mL (eLw κ) 302 (lL i) [vi i, vr 1202, vi (sc κ (i + 1)), vr 172, vi r] (ms false τ σ')
  refine G_iconst dL_law_302 ?_
  show Go κ mL (eLw κ) 303 (lL i) [vi 2, vi i, vr 1202, vi (sc κ (i + 1)), vr 172, vi r] (ms false τ σ')
  refine G_iadd dL_law_303 ?_
  show Go κ mL (eLw κ) 304 (lL i) [vi (i + 2), vr 1202, vi (sc κ (i + 1)), vr 172, vi r] (ms false τ σ')
  refine G_scr ⟨by omega, by omega⟩ hn dL_law_304 ?_
  show Go κ mL (eLw κ) 305 (lL i) [vi (sc κ (i + 2)), vi (sc κ (i + 1)), vr 172, vi r] (ms false τ σ')
  refine G_aload_n 0 rfl rfl dL_law_305 ?_
  show Go κ mL (eLw κ) 306 (lL i) [vr 1202, vi (sc κ (i + 2)), vi (sc κ (i + 1)), vr 172, vi r] (ms false τ σ')
  refine G_iload_n 3 rfl rfl dL_law_306 ?_
  show Go κ mL (eLw κ) 307 (lL i) [vi i, vr 1202, vi (sc κ (i + 2)), vi (sc κ (i + 1)), vr 172, vi r] (ms false τ σ')
  refine G_iconst dL_law_307 ?_
  show Go κ mL (eLw κ) 308 (lL i) [vi 3, vi i, vr 1202, vi (sc κ (i + 2)), vi (sc κ (i + 1)), vr 172, vi r] (ms false τ σ')
  refine G_iadd dL_law_308 ?_
  show Go κ mL (eLw κ) 309 (lL i) [vi (i + 3), vr 1202, vi (sc κ (i + 2)), vi (sc κ (i + 1)), vr 172, vi r] (ms false τ σ')
  refine G_scr ⟨by omega, by omega⟩ hn dL_law_309 ?_
  show Go κ mL (eLw κ) 310 (lL i) [vi (sc κ (i + 3)), vi (sc κ (i + 2)), vi (sc κ (i + 1)), vr 172, vi r] (ms false τ σ')
  refine G_aload_n 0 rfl rfl dL_law_310 ?_
  show Go κ mL (eLw κ) 311 (lL i) [vr 1202, vi (sc κ (i + 3)), vi (sc κ (i + 2)), vi (sc κ (i + 1)), vr 172, vi r] (ms false τ σ')
  refine G_iload_n 3 rfl rfl dL_law_311 ?_
  show Go κ mL (eLw κ) 312 (lL i) [vi i, vr 1202, vi (sc κ (i + 3)), vi (sc κ (i + 2)), vi (sc κ (i + 1)), vr 172, vi r] (ms false τ σ')
  refine G_iconst dL_law_312 ?_
  show Go κ mL (eLw κ) 313 (lL i) [vi 4, vi i, vr 1202, vi (sc κ (i + 3)), vi (sc κ (i + 2)), vi (sc κ (i + 1)), vr 172, vi r] (ms false τ σ')
  refine G_iadd dL_law_313 ?_
  show Go κ mL (eLw κ) 314 (lL i) [vi (i + 4), vr 1202, vi (sc κ (i + 3)), vi (sc κ (i + 2)), vi (sc κ (i + 1)), vr 172, vi r] (ms false τ σ')
  refine G_scr ⟨by omega, by omega⟩ hn dL_law_314 ?_
  show Go κ mL (eLw κ) 315 (lL i) [vi (sc κ (i + 4)), vi (sc κ (i + 3)), vi (sc κ (i + 2)), vi (sc κ (i + 1)), vr 172, vi r] (ms false τ σ')
  refine G_if_eq dL_law_315 (scInR _) (tgt := 322) (by decide) (fun z => absurd z hz) (fun _ => ?_)
  show Go κ mL (eLw κ) 318 (lL i) [vi (sc κ (i + 3)), vi (sc κ (i + 2)), vi (sc κ (i + 1)), vr 172, vi r] (ms false τ σ')
  refine G_iconst dL_law_318 ?_
  show Go κ mL (eLw κ) 319 (lL i) [vi 1, vi (sc κ (i + 3)), vi (sc κ (i + 2)), vi (sc κ (i + 1)), vr 172, vi r] (ms false τ σ')
  refine G_goto dL_law_319 (tgt := 323) (by decide) ?_
  show Go κ mL (eLw κ) 323 (lL i) [vi 1, vi (sc κ (i + 3)), vi (sc κ (i + 2)), vi (sc κ (i + 1)), vr 172, vi r] (ms false τ σ')
  rw [ms_sw]
  refine lwI [vi (sc κ (i + 1)), vi (sc κ (i + 2)), vi (sc κ (i + 3)), vi 1] [vi r] lk27 dL_law_323 rfl rfl (Nat.le_of_ble_eq_true rfl) (k_Mo_say (sc κ (i + 1)) (sc κ (i + 2)) (sc κ (i + 3)) 1 τ (scInR _) (scInR _) (scInR _) (inRk 1 rfl) hp) e2 (fun hr hp' => ?_)
  show Go κ mL (eLw κ) 326 (lL i) [vi r, vi r] (ms true σ' τ')
  refine G_icmp_eq dL_law_326 ⟨hr, hr⟩ (tgt := 1329) (by decide) (fun _ => ?_) (fun z => absurd rfl z)
  rw [← ms_sw]
  exact K _ _ h' ho' hp'
theorem lc2_0 (hn : κ.2.2.2.2.2.1 ≤ 3072) (hi : 0 ≤ i ∧ i + 6 ≤ (κ.2.2.2.2.2.1 : Int)) (hz : sc κ (i + 4) = 0) (K : ∀ σ τ, Inv σ τ → okS σ → okS τ → Go κ mL (eLw κ) 1329 (lL i) [] (ms false τ σ)) (h : Inv σ τ) (ho : okS σ) (hp : okS τ) : Go κ mL (eLw κ) 262 (lL i) [] (ms false τ σ) := by
  obtain ⟨r, σ', τ', e1, e2, h'⟩ := p_say h (sc κ (i + 1)) (sc κ (i + 2)) (sc κ (i + 3)) 0
  show Go κ mL (eLw κ) 262 (lL i) [] (ms false τ σ)
  refine G_aload_n 1 rfl rfl dL_law_262 ?_
  show Go κ mL (eLw κ) 263 (lL i) [vr 0] (ms false τ σ)
  refine G_aload_n 0 rfl rfl dL_law_263 ?_
  show Go κ mL (eLw κ) 264 (lL i) [vr 1202, vr 0] (ms false τ σ)
  refine G_iload_n 3 rfl rfl dL_law_264 ?_
  show Go κ mL (eLw κ) 265 (lL i) [vi i, vr 1202, vr 0] (ms false τ σ)
  refine G_iconst dL_law_265 ?_
  show Go κ mL (eLw κ) 266 (lL i) [vi 1, vi i, vr 1202, vr 0] (ms false τ σ)
  refine G_iadd dL_law_266 ?_
  show Go κ mL (eLw κ) 267 (lL i) [vi (i + 1), vr 1202, vr 0] (ms false τ σ)
  refine G_scr ⟨by omega, by omega⟩ hn dL_law_267 ?_
  show Go κ mL (eLw κ) 268 (lL i) [vi (sc κ (i + 1)), vr 0] (ms false τ σ)
  refine G_aload_n 0 rfl rfl dL_law_268 ?_
  show Go κ mL (eLw κ) 269 (lL i) [vr 1202, vi (sc κ (i + 1)), vr 0] (ms false τ σ)
  refine G_iload_n 3 rfl rfl dL_law_269 ?_
  show Go κ mL (eLw κ) 270 (lL i) [vi i, vr 1202, vi (sc κ (i + 1)), vr 0] (ms false τ σ)
  refine G_iconst dL_law_270 ?_
  show Go κ mL (eLw κ) 271 (lL i) [vi 2, vi i, vr 1202, vi (sc κ (i + 1)), vr 0] (ms false τ σ)
  refine G_iadd dL_law_271 ?_
  show Go κ mL (eLw κ) 272 (lL i) [vi (i + 2), vr 1202, vi (sc κ (i + 1)), vr 0] (ms false τ σ)
  refine G_scr ⟨by omega, by omega⟩ hn dL_law_272 ?_
  show Go κ mL (eLw κ) 273 (lL i) [vi (sc κ (i + 2)), vi (sc κ (i + 1)), vr 0] (ms false τ σ)
  refine G_aload_n 0 rfl rfl dL_law_273 ?_
  show Go κ mL (eLw κ) 274 (lL i) [vr 1202, vi (sc κ (i + 2)), vi (sc κ (i + 1)), vr 0] (ms false τ σ)
  refine G_iload_n 3 rfl rfl dL_law_274 ?_
  show Go κ mL (eLw κ) 275 (lL i) [vi i, vr 1202, vi (sc κ (i + 2)), vi (sc κ (i + 1)), vr 0] (ms false τ σ)
  refine G_iconst dL_law_275 ?_
  show Go κ mL (eLw κ) 276 (lL i) [vi 3, vi i, vr 1202, vi (sc κ (i + 2)), vi (sc κ (i + 1)), vr 0] (ms false τ σ)
  refine G_iadd dL_law_276 ?_
  show Go κ mL (eLw κ) 277 (lL i) [vi (i + 3), vr 1202, vi (sc κ (i + 2)), vi (sc κ (i + 1)), vr 0] (ms false τ σ)
  refine G_scr ⟨by omega, by omega⟩ hn dL_law_277 ?_
  show Go κ mL (eLw κ) 278 (lL i) [vi (sc κ (i + 3)), vi (sc κ (i + 2)), vi (sc κ (i + 1)), vr 0] (ms false τ σ)
  refine G_aload_n 0 rfl rfl dL_law_278 ?_
  show Go κ mL (eLw κ) 279 (lL i) [vr 1202, vi (sc κ (i + 3)), vi (sc κ (i + 2)), vi (sc κ (i + 1)), vr 0] (ms false τ σ)
  refine G_iload_n 3 rfl rfl dL_law_279 ?_
  show Go κ mL (eLw κ) 280 (lL i) [vi i, vr 1202, vi (sc κ (i + 3)), vi (sc κ (i + 2)), vi (sc κ (i + 1)), vr 0] (ms false τ σ)
  refine G_iconst dL_law_280 ?_
  show Go κ mL (eLw κ) 281 (lL i) [vi 4, vi i, vr 1202, vi (sc κ (i + 3)), vi (sc κ (i + 2)), vi (sc κ (i + 1)), vr 0] (ms false τ σ)
  refine G_iadd dL_law_281 ?_
  show Go κ mL (eLw κ) 282 (lL i) [vi (i + 4), vr 1202, vi (sc κ (i + 3)), vi (sc κ (i + 2)), vi (sc κ (i + 1)), vr 0] (ms false τ σ)
  refine G_scr ⟨by omega, by omega⟩ hn dL_law_282 ?_
  show Go κ mL (eLw κ) 283 (lL i) [vi (sc κ (i + 4)), vi (sc κ (i + 3)), vi (sc κ (i + 2)), vi (sc κ (i + 1)), vr 0] (ms false τ σ)
  refine G_if_eq dL_law_283 (scInR _) (tgt := 290) (by decide) (fun _ => ?_) (fun z => absurd hz z)
  show Go κ mL (eLw κ) 290 (lL i) [vi (sc κ (i + 3)), vi (sc κ (i + 2)), vi (sc κ (i + 1)), vr 0] (ms false τ σ)
  refine G_iconst dL_law_290 ?_
  show Go κ mL (eLw κ) 291 (lL i) [vi 0, vi (sc κ (i + 3)), vi (sc κ (i + 2)), vi (sc κ (i + 1)), vr 0] (ms false τ σ)
  refine lwI [vi (sc κ (i + 1)), vi (sc κ (i + 2)), vi (sc κ (i + 3)), vi 0] [] lk23 dL_law_291 rfl rfl (Nat.le_of_ble_eq_true rfl) (k_Td_say (sc κ (i + 1)) (sc κ (i + 2)) (sc κ (i + 3)) 0 σ (scInR _) (scInR _) (scInR _) (inRk 0 rfl) ho) e1 (fun hr ho' => ?_)
  show Go κ mL (eLw κ) 294 (lL i) [vi r] (ms false τ σ')
  refine G_aload_n 2 rfl rfl dL_law_294 ?_
  show Go κ mL (eLw κ) 295 (lL i) [vr 172, vi r] (ms false τ σ')
  refine G_aload_n 0 rfl rfl dL_law_295 ?_
  show Go κ mL (eLw κ) 296 (lL i) [vr 1202, vr 172, vi r] (ms false τ σ')
  refine G_iload_n 3 rfl rfl dL_law_296 ?_
  show Go κ mL (eLw κ) 297 (lL i) [vi i, vr 1202, vr 172, vi r] (ms false τ σ')
  refine G_iconst dL_law_297 ?_
  show Go κ mL (eLw κ) 298 (lL i) [vi 1, vi i, vr 1202, vr 172, vi r] (ms false τ σ')
  refine G_iadd dL_law_298 ?_
  show Go κ mL (eLw κ) 299 (lL i) [vi (i + 1), vr 1202, vr 172, vi r] (ms false τ σ')
  refine G_scr ⟨by omega, by omega⟩ hn dL_law_299 ?_
  show Go κ mL (eLw κ) 300 (lL i) [vi (sc κ (i + 1)), vr 172, vi r] (ms false τ σ')
  refine G_aload_n 0 rfl rfl dL_law_300 ?_
  show Go κ mL (eLw κ) 301 (lL i) [vr 1202, vi (sc κ (i + 1)), vr 172, vi r] (ms false τ σ')
  refine G_iload_n 3 rfl rfl dL_law_301 ?_
  show Go κ mL (eLw κ) 302 (lL i) [vi i, vr 1202, vi (sc κ (i + 1)), vr 172, vi r] (ms false τ σ')
  refine G_iconst dL_law_302 ?_
  show Go κ mL (eLw κ) 303 (lL i) [vi 2, vi i, vr 1202, vi (sc κ (i + 1)), vr 172, vi r] (ms false τ σ')
  refine G_iadd dL_law_303 ?_
  show Go κ mL (eLw κ) 304 (lL i) [vi (i + 2), vr 1202, vi (sc κ (i + 1)), vr 172, vi r] (ms false τ σ')
  refine G_scr ⟨by omega, by omega⟩ hn dL_law_304 ?_
  show Go κ mL (eLw κ) 305 (lL i) [vi (sc κ (i + 2)), vi (sc κ (i + 1)), vr 172, vi r] (ms false τ σ')
  refine G_aload_n 0 rfl rfl dL_law_305 ?_
  show Go κ mL (eLw κ) 306 (lL i) [vr 1202, vi (sc κ (i + 2)), vi (sc κ (i + 1)), vr 172, vi r] (ms false τ σ')
  refine G_iload_n 3 rfl rfl dL_law_306 ?_
  show Go κ mL (eLw κ) 307 (lL i) [vi i, vr 1202, vi (sc κ (i + 2)), vi (sc κ (i + 1)), vr 172, vi r] (ms false τ σ')
  refine G_iconst dL_law_307 ?_
  show Go κ mL (eLw κ) 308 (lL i) [vi 3, vi i, vr 1202, vi (sc κ (i + 2)), vi (sc κ (i + 1)), vr 172, vi r] (ms false τ σ')
  refine G_iadd dL_law_308 ?_
  show Go κ mL (eLw κ) 309 (lL i) [vi (i + 3), vr 1202, vi (sc κ (i + 2)), vi (sc κ (i + 1)), vr 172, vi r] (ms false τ σ')
  refine G_scr ⟨by omega, by omega⟩ hn dL_law_309 ?_
  show Go κ mL (eLw κ) 310 (lL i) [vi (sc κ (i + 3)), vi (sc κ (i + 2)), vi (sc κ (i + 1)), vr 172, vi r] (ms false τ σ')
  refine G_aload_n 0 rfl rfl dL_law_310 ?_
  show Go κ mL (eLw κ) 311 (lL i) [vr 1202, vi (sc κ (i + 3)), vi (sc κ (i + 2)), vi (sc κ (i + 1)), vr 172, vi r] (ms false τ σ')
  refine G_iload_n 3 rfl rfl dL_law_311 ?_
  show Go κ mL (eLw κ) 312 (lL i) [vi i, vr 1202, vi (sc κ (i + 3)), vi (sc κ (i + 2)), vi (sc κ (i + 1)), vr 172, vi r] (ms false τ σ')
  refine G_iconst dL_law_312 ?_
  show Go κ mL (eLw κ) 313 (lL i) [vi 4, vi i, vr 1202, vi (sc κ (i + 3)), vi (sc κ (i + 2)), vi (sc κ (i + 1)), vr 172, vi r] (ms false τ σ')
  refine G_iadd dL_law_313 ?_
  show Go κ mL (eLw κ) 314 (lL i) [vi (i + 4), vr 1202, vi (sc κ (i + 3)), vi (sc κ (i + 2)), vi (sc κ (i + 1)), vr 172, vi r] (ms false τ σ')
  refine G_scr ⟨by omega, by omega⟩ hn dL_law_314 ?_
  show Go κ mL (eLw κ) 315 (lL i) [vi (sc κ (i + 4)), vi (sc κ (i + 3)), vi (sc κ (i + 2)), vi (sc κ (i + 1)), vr 172, vi r] (ms false τ σ')
  refine G_if_eq dL_law_315 (scInR _) (tgt := 322) (by decide) (fun _ => ?_) (fun z => absurd hz z)
  show Go κ mL (eLw κ) 322 (lL i) [vi (sc κ (i + 3)), vi (sc κ (i + 2)), vi (sc κ (i + 1)), vr 172, vi r] (ms false τ σ')
  refine G_iconst dL_law_322 ?_
  show Go κ mL (eLw κ) 323 (lL i) [vi 0, vi (sc κ (i + 3)), vi (sc κ (i + 2)), vi (sc κ (i + 1)), vr 172, vi r] (ms false τ σ')
  rw [ms_sw]
  refine lwI [vi (sc κ (i + 1)), vi (sc κ (i + 2)), vi (sc κ (i + 3)), vi 0] [vi r] lk27 dL_law_323 rfl rfl (Nat.le_of_ble_eq_true rfl) (k_Mo_say (sc κ (i + 1)) (sc κ (i + 2)) (sc κ (i + 3)) 0 τ (scInR _) (scInR _) (scInR _) (inRk 0 rfl) hp) e2 (fun hr hp' => ?_)
  show Go κ mL (eLw κ) 326 (lL i) [vi r, vi r] (ms true σ' τ')
  refine G_icmp_eq dL_law_326 ⟨hr, hr⟩ (tgt := 1329) (by decide) (fun _ => ?_) (fun z => absurd rfl z)
  rw [← ms_sw]
  exact K _ _ h' ho' hp'
theorem lc2 (hn : κ.2.2.2.2.2.1 ≤ 3072) (hi : 0 ≤ i ∧ i + 6 ≤ (κ.2.2.2.2.2.1 : Int)) (K : ∀ σ τ, Inv σ τ → okS σ → okS τ → Go κ mL (eLw κ) 1329 (lL i) [] (ms false τ σ)) (h : Inv σ τ) (ho : okS σ) (hp : okS τ) : Go κ mL (eLw κ) 262 (lL i) [] (ms false τ σ) := by
  by_cases hz : sc κ (i + 4) = 0
  · exact lc2_0 hn hi hz K h ho hp
  · exact lc2_1 hn hi hz K h ho hp
theorem lc3 (hn : κ.2.2.2.2.2.1 ≤ 3072) (hi : 0 ≤ i ∧ i + 6 ≤ (κ.2.2.2.2.2.1 : Int)) (K : ∀ σ τ, Inv σ τ → okS σ → okS τ → Go κ mL (eLw κ) 1329 (lL i) [] (ms false τ σ)) (h : Inv σ τ) (ho : okS σ) (hp : okS τ) : Go κ mL (eLw κ) 331 (lL i) [] (ms false τ σ) := by
  obtain ⟨r, σ', τ', e1, e2, h'⟩ := p_takeBack h (sc κ (i + 1))
  show Go κ mL (eLw κ) 331 (lL i) [] (ms false τ σ)
  refine G_aload_n 1 rfl rfl dL_law_331 ?_
  show Go κ mL (eLw κ) 332 (lL i) [vr 0] (ms false τ σ)
  refine G_aload_n 0 rfl rfl dL_law_332 ?_
  show Go κ mL (eLw κ) 333 (lL i) [vr 1202, vr 0] (ms false τ σ)
  refine G_iload_n 3 rfl rfl dL_law_333 ?_
  show Go κ mL (eLw κ) 334 (lL i) [vi i, vr 1202, vr 0] (ms false τ σ)
  refine G_iconst dL_law_334 ?_
  show Go κ mL (eLw κ) 335 (lL i) [vi 1, vi i, vr 1202, vr 0] (ms false τ σ)
  refine G_iadd dL_law_335 ?_
  show Go κ mL (eLw κ) 336 (lL i) [vi (i + 1), vr 1202, vr 0] (ms false τ σ)
  refine G_scr ⟨by omega, by omega⟩ hn dL_law_336 ?_
  show Go κ mL (eLw κ) 337 (lL i) [vi (sc κ (i + 1)), vr 0] (ms false τ σ)
  refine lwZ [vi (sc κ (i + 1))] [] lk28 dL_law_337 rfl rfl (Nat.le_of_ble_eq_true rfl) (k_Td_takeBack (sc κ (i + 1)) σ (scInR _) ho) e1 (fun hr ho' => ?_)
  show Go κ mL (eLw κ) 340 (lL i) [vi r] (ms false τ σ')
  refine G_aload_n 2 rfl rfl dL_law_340 ?_
  show Go κ mL (eLw κ) 341 (lL i) [vr 172, vi r] (ms false τ σ')
  refine G_aload_n 0 rfl rfl dL_law_341 ?_
  show Go κ mL (eLw κ) 342 (lL i) [vr 1202, vr 172, vi r] (ms false τ σ')
  refine G_iload_n 3 rfl rfl dL_law_342 ?_
  show Go κ mL (eLw κ) 343 (lL i) [vi i, vr 1202, vr 172, vi r] (ms false τ σ')
  refine G_iconst dL_law_343 ?_
  show Go κ mL (eLw κ) 344 (lL i) [vi 1, vi i, vr 1202, vr 172, vi r] (ms false τ σ')
  refine G_iadd dL_law_344 ?_
  show Go κ mL (eLw κ) 345 (lL i) [vi (i + 1), vr 1202, vr 172, vi r] (ms false τ σ')
  refine G_scr ⟨by omega, by omega⟩ hn dL_law_345 ?_
  show Go κ mL (eLw κ) 346 (lL i) [vi (sc κ (i + 1)), vr 172, vi r] (ms false τ σ')
  rw [ms_sw]
  refine lwZ [vi (sc κ (i + 1))] [vi r] lk32 dL_law_346 rfl rfl (Nat.le_of_ble_eq_true rfl) (k_Mo_takeBack (sc κ (i + 1)) τ (scInR _) hp) e2 (fun hr hp' => ?_)
  show Go κ mL (eLw κ) 349 (lL i) [vi r, vi r] (ms true σ' τ')
  refine G_icmp_eq dL_law_349 ⟨hr, hr⟩ (tgt := 1329) (by decide) (fun _ => ?_) (fun z => absurd rfl z)
  rw [← ms_sw]
  exact K _ _ h' ho' hp'
theorem lc4 (hn : κ.2.2.2.2.2.1 ≤ 3072) (hi : 0 ≤ i ∧ i + 6 ≤ (κ.2.2.2.2.2.1 : Int)) (K : ∀ σ τ, Inv σ τ → okS σ → okS τ → Go κ mL (eLw κ) 1329 (lL i) [] (ms false τ σ)) (h : Inv σ τ) (ho : okS σ) (hp : okS τ) : Go κ mL (eLw κ) 354 (lL i) [] (ms false τ σ) := by
  obtain ⟨r, σ', τ', e1, e2, h'⟩ := p_ring h
  show Go κ mL (eLw κ) 354 (lL i) [] (ms false τ σ)
  refine G_aload_n 1 rfl rfl dL_law_354 ?_
  show Go κ mL (eLw κ) 355 (lL i) [vr 0] (ms false τ σ)
  refine lwI [] [] lk33 dL_law_355 rfl rfl (Nat.le_of_ble_eq_true rfl) (k_Td_ring σ  ho) e1 (fun hr ho' => ?_)
  show Go κ mL (eLw κ) 358 (lL i) [vi r] (ms false τ σ')
  refine G_aload_n 2 rfl rfl dL_law_358 ?_
  show Go κ mL (eLw κ) 359 (lL i) [vr 172, vi r] (ms false τ σ')
  rw [ms_sw]
  refine lwI [] [vi r] lk37 dL_law_359 rfl rfl (Nat.le_of_ble_eq_true rfl) (k_Mo_ring τ  hp) e2 (fun hr hp' => ?_)
  show Go κ mL (eLw κ) 362 (lL i) [vi r, vi r] (ms true σ' τ')
  refine G_icmp_eq dL_law_362 ⟨hr, hr⟩ (tgt := 1329) (by decide) (fun _ => ?_) (fun z => absurd rfl z)
  rw [← ms_sw]
  exact K _ _ h' ho' hp'
theorem lc5 (hn : κ.2.2.2.2.2.1 ≤ 3072) (hi : 0 ≤ i ∧ i + 6 ≤ (κ.2.2.2.2.2.1 : Int)) (K : ∀ σ τ, Inv σ τ → okS σ → okS τ → Go κ mL (eLw κ) 1329 (lL i) [] (ms false τ σ)) (h : Inv σ τ) (ho : okS σ) (hp : okS τ) : Go κ mL (eLw κ) 367 (lL i) [] (ms false τ σ) := by
  obtain ⟨r, σ', τ', e1, e2, h'⟩ := p_minutes h (sc κ (i + 1))
  show Go κ mL (eLw κ) 367 (lL i) [] (ms false τ σ)
  refine G_aload_n 1 rfl rfl dL_law_367 ?_
  show Go κ mL (eLw κ) 368 (lL i) [vr 0] (ms false τ σ)
  refine G_aload_n 0 rfl rfl dL_law_368 ?_
  show Go κ mL (eLw κ) 369 (lL i) [vr 1202, vr 0] (ms false τ σ)
  refine G_iload_n 3 rfl rfl dL_law_369 ?_
  show Go κ mL (eLw κ) 370 (lL i) [vi i, vr 1202, vr 0] (ms false τ σ)
  refine G_iconst dL_law_370 ?_
  show Go κ mL (eLw κ) 371 (lL i) [vi 1, vi i, vr 1202, vr 0] (ms false τ σ)
  refine G_iadd dL_law_371 ?_
  show Go κ mL (eLw κ) 372 (lL i) [vi (i + 1), vr 1202, vr 0] (ms false τ σ)
  refine G_scr ⟨by omega, by omega⟩ hn dL_law_372 ?_
  show Go κ mL (eLw κ) 373 (lL i) [vi (sc κ (i + 1)), vr 0] (ms false τ σ)
  refine lwI [vi (sc κ (i + 1))] [] lk38 dL_law_373 rfl rfl (Nat.le_of_ble_eq_true rfl) (k_Td_minutes (sc κ (i + 1)) σ (scInR _) ho) e1 (fun hr ho' => ?_)
  show Go κ mL (eLw κ) 376 (lL i) [vi r] (ms false τ σ')
  refine G_aload_n 2 rfl rfl dL_law_376 ?_
  show Go κ mL (eLw κ) 377 (lL i) [vr 172, vi r] (ms false τ σ')
  refine G_aload_n 0 rfl rfl dL_law_377 ?_
  show Go κ mL (eLw κ) 378 (lL i) [vr 1202, vr 172, vi r] (ms false τ σ')
  refine G_iload_n 3 rfl rfl dL_law_378 ?_
  show Go κ mL (eLw κ) 379 (lL i) [vi i, vr 1202, vr 172, vi r] (ms false τ σ')
  refine G_iconst dL_law_379 ?_
  show Go κ mL (eLw κ) 380 (lL i) [vi 1, vi i, vr 1202, vr 172, vi r] (ms false τ σ')
  refine G_iadd dL_law_380 ?_
  show Go κ mL (eLw κ) 381 (lL i) [vi (i + 1), vr 1202, vr 172, vi r] (ms false τ σ')
  refine G_scr ⟨by omega, by omega⟩ hn dL_law_381 ?_
  show Go κ mL (eLw κ) 382 (lL i) [vi (sc κ (i + 1)), vr 172, vi r] (ms false τ σ')
  rw [ms_sw]
  refine lwI [vi (sc κ (i + 1))] [vi r] lk41 dL_law_382 rfl rfl (Nat.le_of_ble_eq_true rfl) (k_Mo_minutes (sc κ (i + 1)) τ (scInR _) hp) e2 (fun hr hp' => ?_)
  show Go κ mL (eLw κ) 385 (lL i) [vi r, vi r] (ms true σ' τ')
  refine G_icmp_eq dL_law_385 ⟨hr, hr⟩ (tgt := 1329) (by decide) (fun _ => ?_) (fun z => absurd rfl z)
  rw [← ms_sw]
  exact K _ _ h' ho' hp'
theorem lc6 (hn : κ.2.2.2.2.2.1 ≤ 3072) (hi : 0 ≤ i ∧ i + 6 ≤ (κ.2.2.2.2.2.1 : Int)) (K : ∀ σ τ, Inv σ τ → okS σ → okS τ → Go κ mL (eLw κ) 1329 (lL i) [] (ms false τ σ)) (h : Inv σ τ) (ho : okS σ) (hp : okS τ) : Go κ mL (eLw κ) 390 (lL i) [] (ms false τ σ) := by
  obtain ⟨r, σ', τ', e1, e2, h'⟩ := p_feed h (sc κ (i + 1)) (sc κ (i + 2)) (sc κ (i + 3)) (sc κ (i + 4)) (sc κ (i + 5))
  show Go κ mL (eLw κ) 390 (lL i) [] (ms false τ σ)
  refine G_aload_n 1 rfl rfl dL_law_390 ?_
  show Go κ mL (eLw κ) 391 (lL i) [vr 0] (ms false τ σ)
  refine G_aload_n 0 rfl rfl dL_law_391 ?_
  show Go κ mL (eLw κ) 392 (lL i) [vr 1202, vr 0] (ms false τ σ)
  refine G_iload_n 3 rfl rfl dL_law_392 ?_
  show Go κ mL (eLw κ) 393 (lL i) [vi i, vr 1202, vr 0] (ms false τ σ)
  refine G_iconst dL_law_393 ?_
  show Go κ mL (eLw κ) 394 (lL i) [vi 1, vi i, vr 1202, vr 0] (ms false τ σ)
  refine G_iadd dL_law_394 ?_
  show Go κ mL (eLw κ) 395 (lL i) [vi (i + 1), vr 1202, vr 0] (ms false τ σ)
  refine G_scr ⟨by omega, by omega⟩ hn dL_law_395 ?_
  show Go κ mL (eLw κ) 396 (lL i) [vi (sc κ (i + 1)), vr 0] (ms false τ σ)
  refine G_aload_n 0 rfl rfl dL_law_396 ?_
  show Go κ mL (eLw κ) 397 (lL i) [vr 1202, vi (sc κ (i + 1)), vr 0] (ms false τ σ)
  refine G_iload_n 3 rfl rfl dL_law_397 ?_
  show Go κ mL (eLw κ) 398 (lL i) [vi i, vr 1202, vi (sc κ (i + 1)), vr 0] (ms false τ σ)
  refine G_iconst dL_law_398 ?_
  show Go κ mL (eLw κ) 399 (lL i) [vi 2, vi i, vr 1202, vi (sc κ (i + 1)), vr 0] (ms false τ σ)
  refine G_iadd dL_law_399 ?_
  show Go κ mL (eLw κ) 400 (lL i) [vi (i + 2), vr 1202, vi (sc κ (i + 1)), vr 0] (ms false τ σ)
  refine G_scr ⟨by omega, by omega⟩ hn dL_law_400 ?_
  show Go κ mL (eLw κ) 401 (lL i) [vi (sc κ (i + 2)), vi (sc κ (i + 1)), vr 0] (ms false τ σ)
  refine G_aload_n 0 rfl rfl dL_law_401 ?_
  show Go κ mL (eLw κ) 402 (lL i) [vr 1202, vi (sc κ (i + 2)), vi (sc κ (i + 1)), vr 0] (ms false τ σ)
  refine G_iload_n 3 rfl rfl dL_law_402 ?_
  show Go κ mL (eLw κ) 403 (lL i) [vi i, vr 1202, vi (sc κ (i + 2)), vi (sc κ (i + 1)), vr 0] (ms false τ σ)
  refine G_iconst dL_law_403 ?_
  show Go κ mL (eLw κ) 404 (lL i) [vi 3, vi i, vr 1202, vi (sc κ (i + 2)), vi (sc κ (i + 1)), vr 0] (ms false τ σ)
  refine G_iadd dL_law_404 ?_
  show Go κ mL (eLw κ) 405 (lL i) [vi (i + 3), vr 1202, vi (sc κ (i + 2)), vi (sc κ (i + 1)), vr 0] (ms false τ σ)
  refine G_scr ⟨by omega, by omega⟩ hn dL_law_405 ?_
  show Go κ mL (eLw κ) 406 (lL i) [vi (sc κ (i + 3)), vi (sc κ (i + 2)), vi (sc κ (i + 1)), vr 0] (ms false τ σ)
  refine G_aload_n 0 rfl rfl dL_law_406 ?_
  show Go κ mL (eLw κ) 407 (lL i) [vr 1202, vi (sc κ (i + 3)), vi (sc κ (i + 2)), vi (sc κ (i + 1)), vr 0] (ms false τ σ)
  refine G_iload_n 3 rfl rfl dL_law_407 ?_
  show Go κ mL (eLw κ) 408 (lL i) [vi i, vr 1202, vi (sc κ (i + 3)), vi (sc κ (i + 2)), vi (sc κ (i + 1)), vr 0] (ms false τ σ)
  refine G_iconst dL_law_408 ?_
  show Go κ mL (eLw κ) 409 (lL i) [vi 4, vi i, vr 1202, vi (sc κ (i + 3)), vi (sc κ (i + 2)), vi (sc κ (i + 1)), vr 0] (ms false τ σ)
  refine G_iadd dL_law_409 ?_
  show Go κ mL (eLw κ) 410 (lL i) [vi (i + 4), vr 1202, vi (sc κ (i + 3)), vi (sc κ (i + 2)), vi (sc κ (i + 1)), vr 0] (ms false τ σ)
  refine G_scr ⟨by omega, by omega⟩ hn dL_law_410 ?_
  show Go κ mL (eLw κ) 411 (lL i) [vi (sc κ (i + 4)), vi (sc κ (i + 3)), vi (sc κ (i + 2)), vi (sc κ (i + 1)), vr 0] (ms false τ σ)
  refine G_aload_n 0 rfl rfl dL_law_411 ?_
  show Go κ mL (eLw κ) 412 (lL i) [vr 1202, vi (sc κ (i + 4)), vi (sc κ (i + 3)), vi (sc κ (i + 2)), vi (sc κ (i + 1)), vr 0] (ms false τ σ)
  refine G_iload_n 3 rfl rfl dL_law_412 ?_
  show Go κ mL (eLw κ) 413 (lL i) [vi i, vr 1202, vi (sc κ (i + 4)), vi (sc κ (i + 3)), vi (sc κ (i + 2)), vi (sc κ (i + 1)), vr 0] (ms false τ σ)
  refine G_iconst dL_law_413 ?_
  show Go κ mL (eLw κ) 414 (lL i) [vi 5, vi i, vr 1202, vi (sc κ (i + 4)), vi (sc κ (i + 3)), vi (sc κ (i + 2)), vi (sc κ (i + 1)), vr 0] (ms false τ σ)
  refine G_iadd dL_law_414 ?_
  show Go κ mL (eLw κ) 415 (lL i) [vi (i + 5), vr 1202, vi (sc κ (i + 4)), vi (sc κ (i + 3)), vi (sc κ (i + 2)), vi (sc κ (i + 1)), vr 0] (ms false τ σ)
  refine G_scr ⟨by omega, by omega⟩ hn dL_law_415 ?_
  show Go κ mL (eLw κ) 416 (lL i) [vi (sc κ (i + 5)), vi (sc κ (i + 4)), vi (sc κ (i + 3)), vi (sc κ (i + 2)), vi (sc κ (i + 1)), vr 0] (ms false τ σ)
  refine lwI [vi (sc κ (i + 1)), vi (sc κ (i + 2)), vi (sc κ (i + 3)), vi (sc κ (i + 4)), vi (sc κ (i + 5))] [] lk42 dL_law_416 rfl rfl (Nat.le_of_ble_eq_true rfl) (k_Td_feed (sc κ (i + 1)) (sc κ (i + 2)) (sc κ (i + 3)) (sc κ (i + 4)) (sc κ (i + 5)) σ (scInR _) (scInR _) (scInR _) (scInR _) (scInR _) ho) e1 (fun hr ho' => ?_)
  show Go κ mL (eLw κ) 419 (lL i) [vi r] (ms false τ σ')
  refine G_aload_n 2 rfl rfl dL_law_419 ?_
  show Go κ mL (eLw κ) 420 (lL i) [vr 172, vi r] (ms false τ σ')
  refine G_aload_n 0 rfl rfl dL_law_420 ?_
  show Go κ mL (eLw κ) 421 (lL i) [vr 1202, vr 172, vi r] (ms false τ σ')
  refine G_iload_n 3 rfl rfl dL_law_421 ?_
  show Go κ mL (eLw κ) 422 (lL i) [vi i, vr 1202, vr 172, vi r] (ms false τ σ')
  refine G_iconst dL_law_422 ?_
  show Go κ mL (eLw κ) 423 (lL i) [vi 1, vi i, vr 1202, vr 172, vi r] (ms false τ σ')
  refine G_iadd dL_law_423 ?_
  show Go κ mL (eLw κ) 424 (lL i) [vi (i + 1), vr 1202, vr 172, vi r] (ms false τ σ')
  refine G_scr ⟨by omega, by omega⟩ hn dL_law_424 ?_
  show Go κ mL (eLw κ) 425 (lL i) [vi (sc κ (i + 1)), vr 172, vi r] (ms false τ σ')
  refine G_aload_n 0 rfl rfl dL_law_425 ?_
  show Go κ mL (eLw κ) 426 (lL i) [vr 1202, vi (sc κ (i + 1)), vr 172, vi r] (ms false τ σ')
  refine G_iload_n 3 rfl rfl dL_law_426 ?_
  show Go κ mL (eLw κ) 427 (lL i) [vi i, vr 1202, vi (sc κ (i + 1)), vr 172, vi r] (ms false τ σ')
  refine G_iconst dL_law_427 ?_
  show Go κ mL (eLw κ) 428 (lL i) [vi 2, vi i, vr 1202, vi (sc κ (i + 1)), vr 172, vi r] (ms false τ σ')
  refine G_iadd dL_law_428 ?_
  show Go κ mL (eLw κ) 429 (lL i) [vi (i + 2), vr 1202, vi (sc κ (i + 1)), vr 172, vi r] (ms false τ σ')
  refine G_scr ⟨by omega, by omega⟩ hn dL_law_429 ?_
  show Go κ mL (eLw κ) 430 (lL i) [vi (sc κ (i + 2)), vi (sc κ (i + 1)), vr 172, vi r] (ms false τ σ')
  refine G_aload_n 0 rfl rfl dL_law_430 ?_
  show Go κ mL (eLw κ) 431 (lL i) [vr 1202, vi (sc κ (i + 2)), vi (sc κ (i + 1)), vr 172, vi r] (ms false τ σ')
  refine G_iload_n 3 rfl rfl dL_law_431 ?_
  show Go κ mL (eLw κ) 432 (lL i) [vi i, vr 1202, vi (sc κ (i + 2)), vi (sc κ (i + 1)), vr 172, vi r] (ms false τ σ')
  refine G_iconst dL_law_432 ?_
  show Go κ mL (eLw κ) 433 (lL i) [vi 3, vi i, vr 1202, vi (sc κ (i + 2)), vi (sc κ (i + 1)), vr 172, vi r] (ms false τ σ')
  refine G_iadd dL_law_433 ?_
  show Go κ mL (eLw κ) 434 (lL i) [vi (i + 3), vr 1202, vi (sc κ (i + 2)), vi (sc κ (i + 1)), vr 172, vi r] (ms false τ σ')
  refine G_scr ⟨by omega, by omega⟩ hn dL_law_434 ?_
  show Go κ mL (eLw κ) 435 (lL i) [vi (sc κ (i + 3)), vi (sc κ (i + 2)), vi (sc κ (i + 1)), vr 172, vi r] (ms false τ σ')
  refine G_aload_n 0 rfl rfl dL_law_435 ?_
  show Go κ mL (eLw κ) 436 (lL i) [vr 1202, vi (sc κ (i + 3)), vi (sc κ (i + 2)), vi (sc κ (i + 1)), vr 172, vi r] (ms false τ σ')
  refine G_iload_n 3 rfl rfl dL_law_436 ?_
  show Go κ mL (eLw κ) 437 (lL i) [vi i, vr 1202, vi (sc κ (i + 3)), vi (sc κ (i + 2)), vi (sc κ (i + 1)), vr 172, vi r] (ms false τ σ')
  refine G_iconst dL_law_437 ?_
  show Go κ mL (eLw κ) 438 (lL i) [vi 4, vi i, vr 1202, vi (sc κ (i + 3)), vi (sc κ (i + 2)), vi (sc κ (i + 1)), vr 172, vi r] (ms false τ σ')
  refine G_iadd dL_law_438 ?_
  show Go κ mL (eLw κ) 439 (lL i) [vi (i + 4), vr 1202, vi (sc κ (i + 3)), vi (sc κ (i + 2)), vi (sc κ (i + 1)), vr 172, vi r] (ms false τ σ')
  refine G_scr ⟨by omega, by omega⟩ hn dL_law_439 ?_
  show Go κ mL (eLw κ) 440 (lL i) [vi (sc κ (i + 4)), vi (sc κ (i + 3)), vi (sc κ (i + 2)), vi (sc κ (i + 1)), vr 172, vi r] (ms false τ σ')
  refine G_aload_n 0 rfl rfl dL_law_440 ?_
  show Go κ mL (eLw κ) 441 (lL i) [vr 1202, vi (sc κ (i + 4)), vi (sc κ (i + 3)), vi (sc κ (i + 2)), vi (sc κ (i + 1)), vr 172, vi r] (ms false τ σ')
  refine G_iload_n 3 rfl rfl dL_law_441 ?_
  show Go κ mL (eLw κ) 442 (lL i) [vi i, vr 1202, vi (sc κ (i + 4)), vi (sc κ (i + 3)), vi (sc κ (i + 2)), vi (sc κ (i + 1)), vr 172, vi r] (ms false τ σ')
  refine G_iconst dL_law_442 ?_
  show Go κ mL (eLw κ) 443 (lL i) [vi 5, vi i, vr 1202, vi (sc κ (i + 4)), vi (sc κ (i + 3)), vi (sc κ (i + 2)), vi (sc κ (i + 1)), vr 172, vi r] (ms false τ σ')
  refine G_iadd dL_law_443 ?_
  show Go κ mL (eLw κ) 444 (lL i) [vi (i + 5), vr 1202, vi (sc κ (i + 4)), vi (sc κ (i + 3)), vi (sc κ (i + 2)), vi (sc κ (i + 1)), vr 172, vi r] (ms false τ σ')
  refine G_scr ⟨by omega, by omega⟩ hn dL_law_444 ?_
  show Go κ mL (eLw κ) 445 (lL i) [vi (sc κ (i + 5)), vi (sc κ (i + 4)), vi (sc κ (i + 3)), vi (sc κ (i + 2)), vi (sc κ (i + 1)), vr 172, vi r] (ms false τ σ')
  rw [ms_sw]
  refine lwI [vi (sc κ (i + 1)), vi (sc κ (i + 2)), vi (sc κ (i + 3)), vi (sc κ (i + 4)), vi (sc κ (i + 5))] [vi r] lk46 dL_law_445 rfl rfl (Nat.le_of_ble_eq_true rfl) (k_Mo_feed (sc κ (i + 1)) (sc κ (i + 2)) (sc κ (i + 3)) (sc κ (i + 4)) (sc κ (i + 5)) τ (scInR _) (scInR _) (scInR _) (scInR _) (scInR _) hp) e2 (fun hr hp' => ?_)
  show Go κ mL (eLw κ) 448 (lL i) [vi r, vi r] (ms true σ' τ')
  refine G_icmp_eq dL_law_448 ⟨hr, hr⟩ (tgt := 1329) (by decide) (fun _ => ?_) (fun z => absurd rfl z)
  rw [← ms_sw]
  exact K _ _ h' ho' hp'
theorem lc7 (hn : κ.2.2.2.2.2.1 ≤ 3072) (hi : 0 ≤ i ∧ i + 6 ≤ (κ.2.2.2.2.2.1 : Int)) (K : ∀ σ τ, Inv σ τ → okS σ → okS τ → Go κ mL (eLw κ) 1329 (lL i) [] (ms false τ σ)) (h : Inv σ τ) (ho : okS σ) (hp : okS τ) : Go κ mL (eLw κ) 453 (lL i) [] (ms false τ σ) := by
  obtain ⟨r, σ', τ', e1, e2, h'⟩ := p_end h (sc κ (i + 1))
  show Go κ mL (eLw κ) 453 (lL i) [] (ms false τ σ)
  refine G_aload_n 1 rfl rfl dL_law_453 ?_
  show Go κ mL (eLw κ) 454 (lL i) [vr 0] (ms false τ σ)
  refine G_aload_n 0 rfl rfl dL_law_454 ?_
  show Go κ mL (eLw κ) 455 (lL i) [vr 1202, vr 0] (ms false τ σ)
  refine G_iload_n 3 rfl rfl dL_law_455 ?_
  show Go κ mL (eLw κ) 456 (lL i) [vi i, vr 1202, vr 0] (ms false τ σ)
  refine G_iconst dL_law_456 ?_
  show Go κ mL (eLw κ) 457 (lL i) [vi 1, vi i, vr 1202, vr 0] (ms false τ σ)
  refine G_iadd dL_law_457 ?_
  show Go κ mL (eLw κ) 458 (lL i) [vi (i + 1), vr 1202, vr 0] (ms false τ σ)
  refine G_scr ⟨by omega, by omega⟩ hn dL_law_458 ?_
  show Go κ mL (eLw κ) 459 (lL i) [vi (sc κ (i + 1)), vr 0] (ms false τ σ)
  refine lwZ [vi (sc κ (i + 1))] [] lk47 dL_law_459 rfl rfl (Nat.le_of_ble_eq_true rfl) (k_Td_end (sc κ (i + 1)) σ (scInR _) ho) e1 (fun hr ho' => ?_)
  show Go κ mL (eLw κ) 462 (lL i) [vi r] (ms false τ σ')
  refine G_aload_n 2 rfl rfl dL_law_462 ?_
  show Go κ mL (eLw κ) 463 (lL i) [vr 172, vi r] (ms false τ σ')
  refine G_aload_n 0 rfl rfl dL_law_463 ?_
  show Go κ mL (eLw κ) 464 (lL i) [vr 1202, vr 172, vi r] (ms false τ σ')
  refine G_iload_n 3 rfl rfl dL_law_464 ?_
  show Go κ mL (eLw κ) 465 (lL i) [vi i, vr 1202, vr 172, vi r] (ms false τ σ')
  refine G_iconst dL_law_465 ?_
  show Go κ mL (eLw κ) 466 (lL i) [vi 1, vi i, vr 1202, vr 172, vi r] (ms false τ σ')
  refine G_iadd dL_law_466 ?_
  show Go κ mL (eLw κ) 467 (lL i) [vi (i + 1), vr 1202, vr 172, vi r] (ms false τ σ')
  refine G_scr ⟨by omega, by omega⟩ hn dL_law_467 ?_
  show Go κ mL (eLw κ) 468 (lL i) [vi (sc κ (i + 1)), vr 172, vi r] (ms false τ σ')
  rw [ms_sw]
  refine lwZ [vi (sc κ (i + 1))] [vi r] lk50 dL_law_468 rfl rfl (Nat.le_of_ble_eq_true rfl) (k_Mo_end (sc κ (i + 1)) τ (scInR _) hp) e2 (fun hr hp' => ?_)
  show Go κ mL (eLw κ) 471 (lL i) [vi r, vi r] (ms true σ' τ')
  refine G_icmp_eq dL_law_471 ⟨hr, hr⟩ (tgt := 1329) (by decide) (fun _ => ?_) (fun z => absurd rfl z)
  rw [← ms_sw]
  exact K _ _ h' ho' hp'
theorem lc8 (hn : κ.2.2.2.2.2.1 ≤ 3072) (hi : 0 ≤ i ∧ i + 6 ≤ (κ.2.2.2.2.2.1 : Int)) (K : ∀ σ τ, Inv σ τ → okS σ → okS τ → Go κ mL (eLw κ) 1329 (lL i) [] (ms false τ σ)) (h : Inv σ τ) (ho : okS σ) (hp : okS τ) : Go κ mL (eLw κ) 476 (lL i) [] (ms false τ σ) := by
  obtain ⟨r, σ', τ', e1, e2, h'⟩ := p_text h (sc κ (i + 1))
  show Go κ mL (eLw κ) 476 (lL i) [] (ms false τ σ)
  refine G_aload_n 1 rfl rfl dL_law_476 ?_
  show Go κ mL (eLw κ) 477 (lL i) [vr 0] (ms false τ σ)
  refine G_aload_n 0 rfl rfl dL_law_477 ?_
  show Go κ mL (eLw κ) 478 (lL i) [vr 1202, vr 0] (ms false τ σ)
  refine G_iload_n 3 rfl rfl dL_law_478 ?_
  show Go κ mL (eLw κ) 479 (lL i) [vi i, vr 1202, vr 0] (ms false τ σ)
  refine G_iconst dL_law_479 ?_
  show Go κ mL (eLw κ) 480 (lL i) [vi 1, vi i, vr 1202, vr 0] (ms false τ σ)
  refine G_iadd dL_law_480 ?_
  show Go κ mL (eLw κ) 481 (lL i) [vi (i + 1), vr 1202, vr 0] (ms false τ σ)
  refine G_scr ⟨by omega, by omega⟩ hn dL_law_481 ?_
  show Go κ mL (eLw κ) 482 (lL i) [vi (sc κ (i + 1)), vr 0] (ms false τ σ)
  refine lwI [vi (sc κ (i + 1))] [] lk51 dL_law_482 rfl rfl (Nat.le_of_ble_eq_true rfl) (k_Td_text (sc κ (i + 1)) σ (scInR _) ho) e1 (fun hr ho' => ?_)
  show Go κ mL (eLw κ) 485 (lL i) [vi r] (ms false τ σ')
  refine G_aload_n 2 rfl rfl dL_law_485 ?_
  show Go κ mL (eLw κ) 486 (lL i) [vr 172, vi r] (ms false τ σ')
  refine G_aload_n 0 rfl rfl dL_law_486 ?_
  show Go κ mL (eLw κ) 487 (lL i) [vr 1202, vr 172, vi r] (ms false τ σ')
  refine G_iload_n 3 rfl rfl dL_law_487 ?_
  show Go κ mL (eLw κ) 488 (lL i) [vi i, vr 1202, vr 172, vi r] (ms false τ σ')
  refine G_iconst dL_law_488 ?_
  show Go κ mL (eLw κ) 489 (lL i) [vi 1, vi i, vr 1202, vr 172, vi r] (ms false τ σ')
  refine G_iadd dL_law_489 ?_
  show Go κ mL (eLw κ) 490 (lL i) [vi (i + 1), vr 1202, vr 172, vi r] (ms false τ σ')
  refine G_scr ⟨by omega, by omega⟩ hn dL_law_490 ?_
  show Go κ mL (eLw κ) 491 (lL i) [vi (sc κ (i + 1)), vr 172, vi r] (ms false τ σ')
  rw [ms_sw]
  refine lwI [vi (sc κ (i + 1))] [vi r] lk54 dL_law_491 rfl rfl (Nat.le_of_ble_eq_true rfl) (k_Mo_text (sc κ (i + 1)) τ (scInR _) hp) e2 (fun hr hp' => ?_)
  show Go κ mL (eLw κ) 494 (lL i) [vi r, vi r] (ms true σ' τ')
  refine G_icmp_eq dL_law_494 ⟨hr, hr⟩ (tgt := 1329) (by decide) (fun _ => ?_) (fun z => absurd rfl z)
  rw [← ms_sw]
  exact K _ _ h' ho' hp'
theorem lc9 (hn : κ.2.2.2.2.2.1 ≤ 3072) (hi : 0 ≤ i ∧ i + 6 ≤ (κ.2.2.2.2.2.1 : Int)) (K : ∀ σ τ, Inv σ τ → okS σ → okS τ → Go κ mL (eLw κ) 1329 (lL i) [] (ms false τ σ)) (h : Inv σ τ) (ho : okS σ) (hp : okS τ) : Go κ mL (eLw κ) 499 (lL i) [] (ms false τ σ) := by
  obtain ⟨r, e1, e2⟩ := p_fault h (sc κ (i + 1))
  show Go κ mL (eLw κ) 499 (lL i) [] (ms false τ σ)
  refine G_aload_n 1 rfl rfl dL_law_499 ?_
  show Go κ mL (eLw κ) 500 (lL i) [vr 0] (ms false τ σ)
  refine G_aload_n 0 rfl rfl dL_law_500 ?_
  show Go κ mL (eLw κ) 501 (lL i) [vr 1202, vr 0] (ms false τ σ)
  refine G_iload_n 3 rfl rfl dL_law_501 ?_
  show Go κ mL (eLw κ) 502 (lL i) [vi i, vr 1202, vr 0] (ms false τ σ)
  refine G_iconst dL_law_502 ?_
  show Go κ mL (eLw κ) 503 (lL i) [vi 1, vi i, vr 1202, vr 0] (ms false τ σ)
  refine G_iadd dL_law_503 ?_
  show Go κ mL (eLw κ) 504 (lL i) [vi (i + 1), vr 1202, vr 0] (ms false τ σ)
  refine G_scr ⟨by omega, by omega⟩ hn dL_law_504 ?_
  show Go κ mL (eLw κ) 505 (lL i) [vi (sc κ (i + 1)), vr 0] (ms false τ σ)
  refine lwRI [vi (sc κ (i + 1))] [] lk55 dL_law_505 rfl rfl (Nat.le_of_ble_eq_true rfl) (k_Td_fault (sc κ (i + 1)) σ (scInR _) ho) e1 (fun hr => ?_)
  show Go κ mL (eLw κ) 508 (lL i) [vi r] (ms false τ σ)
  refine G_aload_n 2 rfl rfl dL_law_508 ?_
  show Go κ mL (eLw κ) 509 (lL i) [vr 172, vi r] (ms false τ σ)
  refine G_aload_n 0 rfl rfl dL_law_509 ?_
  show Go κ mL (eLw κ) 510 (lL i) [vr 1202, vr 172, vi r] (ms false τ σ)
  refine G_iload_n 3 rfl rfl dL_law_510 ?_
  show Go κ mL (eLw κ) 511 (lL i) [vi i, vr 1202, vr 172, vi r] (ms false τ σ)
  refine G_iconst dL_law_511 ?_
  show Go κ mL (eLw κ) 512 (lL i) [vi 1, vi i, vr 1202, vr 172, vi r] (ms false τ σ)
  refine G_iadd dL_law_512 ?_
  show Go κ mL (eLw κ) 513 (lL i) [vi (i + 1), vr 1202, vr 172, vi r] (ms false τ σ)
  refine G_scr ⟨by omega, by omega⟩ hn dL_law_513 ?_
  show Go κ mL (eLw κ) 514 (lL i) [vi (sc κ (i + 1)), vr 172, vi r] (ms false τ σ)
  rw [ms_sw]
  refine lwRI [vi (sc κ (i + 1))] [vi r] lk58 dL_law_514 rfl rfl (Nat.le_of_ble_eq_true rfl) (k_Mo_fault (sc κ (i + 1)) τ (scInR _) hp) e2 (fun hr => ?_)
  show Go κ mL (eLw κ) 517 (lL i) [vi r, vi r] (ms true σ τ)
  refine G_icmp_eq dL_law_517 ⟨hr, hr⟩ (tgt := 1329) (by decide) (fun _ => ?_) (fun z => absurd rfl z)
  rw [← ms_sw]
  exact K _ _ h ho hp
theorem lc10 (hn : κ.2.2.2.2.2.1 ≤ 3072) (hi : 0 ≤ i ∧ i + 6 ≤ (κ.2.2.2.2.2.1 : Int)) (K : ∀ σ τ, Inv σ τ → okS σ → okS τ → Go κ mL (eLw κ) 1329 (lL i) [] (ms false τ σ)) (h : Inv σ τ) (ho : okS σ) (hp : okS τ) : Go κ mL (eLw κ) 522 (lL i) [] (ms false τ σ) := by
  obtain ⟨r, e1, e2⟩ := p_of h (sc κ (i + 1)) (sc κ (i + 2))
  show Go κ mL (eLw κ) 522 (lL i) [] (ms false τ σ)
  refine G_aload_n 1 rfl rfl dL_law_522 ?_
  show Go κ mL (eLw κ) 523 (lL i) [vr 0] (ms false τ σ)
  refine G_aload_n 0 rfl rfl dL_law_523 ?_
  show Go κ mL (eLw κ) 524 (lL i) [vr 1202, vr 0] (ms false τ σ)
  refine G_iload_n 3 rfl rfl dL_law_524 ?_
  show Go κ mL (eLw κ) 525 (lL i) [vi i, vr 1202, vr 0] (ms false τ σ)
  refine G_iconst dL_law_525 ?_
  show Go κ mL (eLw κ) 526 (lL i) [vi 1, vi i, vr 1202, vr 0] (ms false τ σ)
  refine G_iadd dL_law_526 ?_
  show Go κ mL (eLw κ) 527 (lL i) [vi (i + 1), vr 1202, vr 0] (ms false τ σ)
  refine G_scr ⟨by omega, by omega⟩ hn dL_law_527 ?_
  show Go κ mL (eLw κ) 528 (lL i) [vi (sc κ (i + 1)), vr 0] (ms false τ σ)
  refine G_aload_n 0 rfl rfl dL_law_528 ?_
  show Go κ mL (eLw κ) 529 (lL i) [vr 1202, vi (sc κ (i + 1)), vr 0] (ms false τ σ)
  refine G_iload_n 3 rfl rfl dL_law_529 ?_
  show Go κ mL (eLw κ) 530 (lL i) [vi i, vr 1202, vi (sc κ (i + 1)), vr 0] (ms false τ σ)
  refine G_iconst dL_law_530 ?_
  show Go κ mL (eLw κ) 531 (lL i) [vi 2, vi i, vr 1202, vi (sc κ (i + 1)), vr 0] (ms false τ σ)
  refine G_iadd dL_law_531 ?_
  show Go κ mL (eLw κ) 532 (lL i) [vi (i + 2), vr 1202, vi (sc κ (i + 1)), vr 0] (ms false τ σ)
  refine G_scr ⟨by omega, by omega⟩ hn dL_law_532 ?_
  show Go κ mL (eLw κ) 533 (lL i) [vi (sc κ (i + 2)), vi (sc κ (i + 1)), vr 0] (ms false τ σ)
  refine lwRI [vi (sc κ (i + 1)), vi (sc κ (i + 2))] [] lk59 dL_law_533 rfl rfl (Nat.le_of_ble_eq_true rfl) (k_Td_of (sc κ (i + 1)) (sc κ (i + 2)) σ (scInR _) (scInR _) ho) e1 (fun hr => ?_)
  show Go κ mL (eLw κ) 536 (lL i) [vi r] (ms false τ σ)
  refine G_aload_n 2 rfl rfl dL_law_536 ?_
  show Go κ mL (eLw κ) 537 (lL i) [vr 172, vi r] (ms false τ σ)
  refine G_aload_n 0 rfl rfl dL_law_537 ?_
  show Go κ mL (eLw κ) 538 (lL i) [vr 1202, vr 172, vi r] (ms false τ σ)
  refine G_iload_n 3 rfl rfl dL_law_538 ?_
  show Go κ mL (eLw κ) 539 (lL i) [vi i, vr 1202, vr 172, vi r] (ms false τ σ)
  refine G_iconst dL_law_539 ?_
  show Go κ mL (eLw κ) 540 (lL i) [vi 1, vi i, vr 1202, vr 172, vi r] (ms false τ σ)
  refine G_iadd dL_law_540 ?_
  show Go κ mL (eLw κ) 541 (lL i) [vi (i + 1), vr 1202, vr 172, vi r] (ms false τ σ)
  refine G_scr ⟨by omega, by omega⟩ hn dL_law_541 ?_
  show Go κ mL (eLw κ) 542 (lL i) [vi (sc κ (i + 1)), vr 172, vi r] (ms false τ σ)
  refine G_aload_n 0 rfl rfl dL_law_542 ?_
  show Go κ mL (eLw κ) 543 (lL i) [vr 1202, vi (sc κ (i + 1)), vr 172, vi r] (ms false τ σ)
  refine G_iload_n 3 rfl rfl dL_law_543 ?_
  show Go κ mL (eLw κ) 544 (lL i) [vi i, vr 1202, vi (sc κ (i + 1)), vr 172, vi r] (ms false τ σ)
  refine G_iconst dL_law_544 ?_
  show Go κ mL (eLw κ) 545 (lL i) [vi 2, vi i, vr 1202, vi (sc κ (i + 1)), vr 172, vi r] (ms false τ σ)
  refine G_iadd dL_law_545 ?_
  show Go κ mL (eLw κ) 546 (lL i) [vi (i + 2), vr 1202, vi (sc κ (i + 1)), vr 172, vi r] (ms false τ σ)
  refine G_scr ⟨by omega, by omega⟩ hn dL_law_546 ?_
  show Go κ mL (eLw κ) 547 (lL i) [vi (sc κ (i + 2)), vi (sc κ (i + 1)), vr 172, vi r] (ms false τ σ)
  rw [ms_sw]
  refine lwRI [vi (sc κ (i + 1)), vi (sc κ (i + 2))] [vi r] lk63 dL_law_547 rfl rfl (Nat.le_of_ble_eq_true rfl) (k_Mo_of (sc κ (i + 1)) (sc κ (i + 2)) τ (scInR _) (scInR _) hp) e2 (fun hr => ?_)
  show Go κ mL (eLw κ) 550 (lL i) [vi r, vi r] (ms true σ τ)
  refine G_icmp_eq dL_law_550 ⟨hr, hr⟩ (tgt := 1329) (by decide) (fun _ => ?_) (fun z => absurd rfl z)
  rw [← ms_sw]
  exact K _ _ h ho hp
theorem lc11 (hn : κ.2.2.2.2.2.1 ≤ 3072) (hi : 0 ≤ i ∧ i + 6 ≤ (κ.2.2.2.2.2.1 : Int)) (K : ∀ σ τ, Inv σ τ → okS σ → okS τ → Go κ mL (eLw κ) 1329 (lL i) [] (ms false τ σ)) (h : Inv σ τ) (ho : okS σ) (hp : okS τ) : Go κ mL (eLw κ) 555 (lL i) [] (ms false τ σ) := by
  obtain ⟨r, e1, e2⟩ := p_message h (sc κ (i + 1)) (sc κ (i + 2))
  show Go κ mL (eLw κ) 555 (lL i) [] (ms false τ σ)
  refine G_aload_n 1 rfl rfl dL_law_555 ?_
  show Go κ mL (eLw κ) 556 (lL i) [vr 0] (ms false τ σ)
  refine G_aload_n 0 rfl rfl dL_law_556 ?_
  show Go κ mL (eLw κ) 557 (lL i) [vr 1202, vr 0] (ms false τ σ)
  refine G_iload_n 3 rfl rfl dL_law_557 ?_
  show Go κ mL (eLw κ) 558 (lL i) [vi i, vr 1202, vr 0] (ms false τ σ)
  refine G_iconst dL_law_558 ?_
  show Go κ mL (eLw κ) 559 (lL i) [vi 1, vi i, vr 1202, vr 0] (ms false τ σ)
  refine G_iadd dL_law_559 ?_
  show Go κ mL (eLw κ) 560 (lL i) [vi (i + 1), vr 1202, vr 0] (ms false τ σ)
  refine G_scr ⟨by omega, by omega⟩ hn dL_law_560 ?_
  show Go κ mL (eLw κ) 561 (lL i) [vi (sc κ (i + 1)), vr 0] (ms false τ σ)
  refine G_aload_n 0 rfl rfl dL_law_561 ?_
  show Go κ mL (eLw κ) 562 (lL i) [vr 1202, vi (sc κ (i + 1)), vr 0] (ms false τ σ)
  refine G_iload_n 3 rfl rfl dL_law_562 ?_
  show Go κ mL (eLw κ) 563 (lL i) [vi i, vr 1202, vi (sc κ (i + 1)), vr 0] (ms false τ σ)
  refine G_iconst dL_law_563 ?_
  show Go κ mL (eLw κ) 564 (lL i) [vi 2, vi i, vr 1202, vi (sc κ (i + 1)), vr 0] (ms false τ σ)
  refine G_iadd dL_law_564 ?_
  show Go κ mL (eLw κ) 565 (lL i) [vi (i + 2), vr 1202, vi (sc κ (i + 1)), vr 0] (ms false τ σ)
  refine G_scr ⟨by omega, by omega⟩ hn dL_law_565 ?_
  show Go κ mL (eLw κ) 566 (lL i) [vi (sc κ (i + 2)), vi (sc κ (i + 1)), vr 0] (ms false τ σ)
  refine lwRI [vi (sc κ (i + 1)), vi (sc κ (i + 2))] [] lk64 dL_law_566 rfl rfl (Nat.le_of_ble_eq_true rfl) (k_Td_message (sc κ (i + 1)) (sc κ (i + 2)) σ (scInR _) (scInR _) ho) e1 (fun hr => ?_)
  show Go κ mL (eLw κ) 569 (lL i) [vi r] (ms false τ σ)
  refine G_aload_n 2 rfl rfl dL_law_569 ?_
  show Go κ mL (eLw κ) 570 (lL i) [vr 172, vi r] (ms false τ σ)
  refine G_aload_n 0 rfl rfl dL_law_570 ?_
  show Go κ mL (eLw κ) 571 (lL i) [vr 1202, vr 172, vi r] (ms false τ σ)
  refine G_iload_n 3 rfl rfl dL_law_571 ?_
  show Go κ mL (eLw κ) 572 (lL i) [vi i, vr 1202, vr 172, vi r] (ms false τ σ)
  refine G_iconst dL_law_572 ?_
  show Go κ mL (eLw κ) 573 (lL i) [vi 1, vi i, vr 1202, vr 172, vi r] (ms false τ σ)
  refine G_iadd dL_law_573 ?_
  show Go κ mL (eLw κ) 574 (lL i) [vi (i + 1), vr 1202, vr 172, vi r] (ms false τ σ)
  refine G_scr ⟨by omega, by omega⟩ hn dL_law_574 ?_
  show Go κ mL (eLw κ) 575 (lL i) [vi (sc κ (i + 1)), vr 172, vi r] (ms false τ σ)
  refine G_aload_n 0 rfl rfl dL_law_575 ?_
  show Go κ mL (eLw κ) 576 (lL i) [vr 1202, vi (sc κ (i + 1)), vr 172, vi r] (ms false τ σ)
  refine G_iload_n 3 rfl rfl dL_law_576 ?_
  show Go κ mL (eLw κ) 577 (lL i) [vi i, vr 1202, vi (sc κ (i + 1)), vr 172, vi r] (ms false τ σ)
  refine G_iconst dL_law_577 ?_
  show Go κ mL (eLw κ) 578 (lL i) [vi 2, vi i, vr 1202, vi (sc κ (i + 1)), vr 172, vi r] (ms false τ σ)
  refine G_iadd dL_law_578 ?_
  show Go κ mL (eLw κ) 579 (lL i) [vi (i + 2), vr 1202, vi (sc κ (i + 1)), vr 172, vi r] (ms false τ σ)
  refine G_scr ⟨by omega, by omega⟩ hn dL_law_579 ?_
  show Go κ mL (eLw κ) 580 (lL i) [vi (sc κ (i + 2)), vi (sc κ (i + 1)), vr 172, vi r] (ms false τ σ)
  rw [ms_sw]
  refine lwRI [vi (sc κ (i + 1)), vi (sc κ (i + 2))] [vi r] lk67 dL_law_580 rfl rfl (Nat.le_of_ble_eq_true rfl) (k_Mo_message (sc κ (i + 1)) (sc κ (i + 2)) τ (scInR _) (scInR _) hp) e2 (fun hr => ?_)
  show Go κ mL (eLw κ) 583 (lL i) [vi r, vi r] (ms true σ τ)
  refine G_icmp_eq dL_law_583 ⟨hr, hr⟩ (tgt := 1329) (by decide) (fun _ => ?_) (fun z => absurd rfl z)
  rw [← ms_sw]
  exact K _ _ h ho hp
theorem lc12 (hn : κ.2.2.2.2.2.1 ≤ 3072) (hi : 0 ≤ i ∧ i + 6 ≤ (κ.2.2.2.2.2.1 : Int)) (K : ∀ σ τ, Inv σ τ → okS σ → okS τ → Go κ mL (eLw κ) 1329 (lL i) [] (ms false τ σ)) (h : Inv σ τ) (ho : okS σ) (hp : okS τ) : Go κ mL (eLw κ) 588 (lL i) [] (ms false τ σ) := by
  obtain ⟨r, σ', τ', e1, e2, h'⟩ := p_asks h (sc κ (i + 1)) (sc κ (i + 2))
  show Go κ mL (eLw κ) 588 (lL i) [] (ms false τ σ)
  refine G_aload_n 1 rfl rfl dL_law_588 ?_
  show Go κ mL (eLw κ) 589 (lL i) [vr 0] (ms false τ σ)
  refine G_aload_n 0 rfl rfl dL_law_589 ?_
  show Go κ mL (eLw κ) 590 (lL i) [vr 1202, vr 0] (ms false τ σ)
  refine G_iload_n 3 rfl rfl dL_law_590 ?_
  show Go κ mL (eLw κ) 591 (lL i) [vi i, vr 1202, vr 0] (ms false τ σ)
  refine G_iconst dL_law_591 ?_
  show Go κ mL (eLw κ) 592 (lL i) [vi 1, vi i, vr 1202, vr 0] (ms false τ σ)
  refine G_iadd dL_law_592 ?_
  show Go κ mL (eLw κ) 593 (lL i) [vi (i + 1), vr 1202, vr 0] (ms false τ σ)
  refine G_scr ⟨by omega, by omega⟩ hn dL_law_593 ?_
  show Go κ mL (eLw κ) 594 (lL i) [vi (sc κ (i + 1)), vr 0] (ms false τ σ)
  refine G_aload_n 0 rfl rfl dL_law_594 ?_
  show Go κ mL (eLw κ) 595 (lL i) [vr 1202, vi (sc κ (i + 1)), vr 0] (ms false τ σ)
  refine G_iload_n 3 rfl rfl dL_law_595 ?_
  show Go κ mL (eLw κ) 596 (lL i) [vi i, vr 1202, vi (sc κ (i + 1)), vr 0] (ms false τ σ)
  refine G_iconst dL_law_596 ?_
  show Go κ mL (eLw κ) 597 (lL i) [vi 2, vi i, vr 1202, vi (sc κ (i + 1)), vr 0] (ms false τ σ)
  refine G_iadd dL_law_597 ?_
  show Go κ mL (eLw κ) 598 (lL i) [vi (i + 2), vr 1202, vi (sc κ (i + 1)), vr 0] (ms false τ σ)
  refine G_scr ⟨by omega, by omega⟩ hn dL_law_598 ?_
  show Go κ mL (eLw κ) 599 (lL i) [vi (sc κ (i + 2)), vi (sc κ (i + 1)), vr 0] (ms false τ σ)
  refine lwI [vi (sc κ (i + 1)), vi (sc κ (i + 2))] [] lk68 dL_law_599 rfl rfl (Nat.le_of_ble_eq_true rfl) (k_Td_asks (sc κ (i + 1)) (sc κ (i + 2)) σ (scInR _) (scInR _) ho) e1 (fun hr ho' => ?_)
  show Go κ mL (eLw κ) 602 (lL i) [vi r] (ms false τ σ')
  refine G_aload_n 2 rfl rfl dL_law_602 ?_
  show Go κ mL (eLw κ) 603 (lL i) [vr 172, vi r] (ms false τ σ')
  refine G_aload_n 0 rfl rfl dL_law_603 ?_
  show Go κ mL (eLw κ) 604 (lL i) [vr 1202, vr 172, vi r] (ms false τ σ')
  refine G_iload_n 3 rfl rfl dL_law_604 ?_
  show Go κ mL (eLw κ) 605 (lL i) [vi i, vr 1202, vr 172, vi r] (ms false τ σ')
  refine G_iconst dL_law_605 ?_
  show Go κ mL (eLw κ) 606 (lL i) [vi 1, vi i, vr 1202, vr 172, vi r] (ms false τ σ')
  refine G_iadd dL_law_606 ?_
  show Go κ mL (eLw κ) 607 (lL i) [vi (i + 1), vr 1202, vr 172, vi r] (ms false τ σ')
  refine G_scr ⟨by omega, by omega⟩ hn dL_law_607 ?_
  show Go κ mL (eLw κ) 608 (lL i) [vi (sc κ (i + 1)), vr 172, vi r] (ms false τ σ')
  refine G_aload_n 0 rfl rfl dL_law_608 ?_
  show Go κ mL (eLw κ) 609 (lL i) [vr 1202, vi (sc κ (i + 1)), vr 172, vi r] (ms false τ σ')
  refine G_iload_n 3 rfl rfl dL_law_609 ?_
  show Go κ mL (eLw κ) 610 (lL i) [vi i, vr 1202, vi (sc κ (i + 1)), vr 172, vi r] (ms false τ σ')
  refine G_iconst dL_law_610 ?_
  show Go κ mL (eLw κ) 611 (lL i) [vi 2, vi i, vr 1202, vi (sc κ (i + 1)), vr 172, vi r] (ms false τ σ')
  refine G_iadd dL_law_611 ?_
  show Go κ mL (eLw κ) 612 (lL i) [vi (i + 2), vr 1202, vi (sc κ (i + 1)), vr 172, vi r] (ms false τ σ')
  refine G_scr ⟨by omega, by omega⟩ hn dL_law_612 ?_
  show Go κ mL (eLw κ) 613 (lL i) [vi (sc κ (i + 2)), vi (sc κ (i + 1)), vr 172, vi r] (ms false τ σ')
  rw [ms_sw]
  refine lwI [vi (sc κ (i + 1)), vi (sc κ (i + 2))] [vi r] lk71 dL_law_613 rfl rfl (Nat.le_of_ble_eq_true rfl) (k_Mo_asks (sc κ (i + 1)) (sc κ (i + 2)) τ (scInR _) (scInR _) hp) e2 (fun hr hp' => ?_)
  show Go κ mL (eLw κ) 616 (lL i) [vi r, vi r] (ms true σ' τ')
  refine G_icmp_eq dL_law_616 ⟨hr, hr⟩ (tgt := 1329) (by decide) (fun _ => ?_) (fun z => absurd rfl z)
  rw [← ms_sw]
  exact K _ _ h' ho' hp'
theorem lc13 (hn : κ.2.2.2.2.2.1 ≤ 3072) (hi : 0 ≤ i ∧ i + 6 ≤ (κ.2.2.2.2.2.1 : Int)) (K : ∀ σ τ, Inv σ τ → okS σ → okS τ → Go κ mL (eLw κ) 1329 (lL i) [] (ms false τ σ)) (h : Inv σ τ) (ho : okS σ) (hp : okS τ) : Go κ mL (eLw κ) 621 (lL i) [] (ms false τ σ) := by
  obtain ⟨r, e1, e2⟩ := p_book h (sc κ (i + 1)) (sc κ (i + 2))
  show Go κ mL (eLw κ) 621 (lL i) [] (ms false τ σ)
  refine G_aload_n 1 rfl rfl dL_law_621 ?_
  show Go κ mL (eLw κ) 622 (lL i) [vr 0] (ms false τ σ)
  refine G_aload_n 0 rfl rfl dL_law_622 ?_
  show Go κ mL (eLw κ) 623 (lL i) [vr 1202, vr 0] (ms false τ σ)
  refine G_iload_n 3 rfl rfl dL_law_623 ?_
  show Go κ mL (eLw κ) 624 (lL i) [vi i, vr 1202, vr 0] (ms false τ σ)
  refine G_iconst dL_law_624 ?_
  show Go κ mL (eLw κ) 625 (lL i) [vi 1, vi i, vr 1202, vr 0] (ms false τ σ)
  refine G_iadd dL_law_625 ?_
  show Go κ mL (eLw κ) 626 (lL i) [vi (i + 1), vr 1202, vr 0] (ms false τ σ)
  refine G_scr ⟨by omega, by omega⟩ hn dL_law_626 ?_
  show Go κ mL (eLw κ) 627 (lL i) [vi (sc κ (i + 1)), vr 0] (ms false τ σ)
  refine G_aload_n 0 rfl rfl dL_law_627 ?_
  show Go κ mL (eLw κ) 628 (lL i) [vr 1202, vi (sc κ (i + 1)), vr 0] (ms false τ σ)
  refine G_iload_n 3 rfl rfl dL_law_628 ?_
  show Go κ mL (eLw κ) 629 (lL i) [vi i, vr 1202, vi (sc κ (i + 1)), vr 0] (ms false τ σ)
  refine G_iconst dL_law_629 ?_
  show Go κ mL (eLw κ) 630 (lL i) [vi 2, vi i, vr 1202, vi (sc κ (i + 1)), vr 0] (ms false τ σ)
  refine G_iadd dL_law_630 ?_
  show Go κ mL (eLw κ) 631 (lL i) [vi (i + 2), vr 1202, vi (sc κ (i + 1)), vr 0] (ms false τ σ)
  refine G_scr ⟨by omega, by omega⟩ hn dL_law_631 ?_
  show Go κ mL (eLw κ) 632 (lL i) [vi (sc κ (i + 2)), vi (sc κ (i + 1)), vr 0] (ms false τ σ)
  refine lwRI [vi (sc κ (i + 1)), vi (sc κ (i + 2))] [] lk72 dL_law_632 rfl rfl (Nat.le_of_ble_eq_true rfl) (k_Td_book (sc κ (i + 1)) (sc κ (i + 2)) σ (scInR _) (scInR _) ho) e1 (fun hr => ?_)
  show Go κ mL (eLw κ) 635 (lL i) [vi r] (ms false τ σ)
  refine G_aload_n 2 rfl rfl dL_law_635 ?_
  show Go κ mL (eLw κ) 636 (lL i) [vr 172, vi r] (ms false τ σ)
  refine G_aload_n 0 rfl rfl dL_law_636 ?_
  show Go κ mL (eLw κ) 637 (lL i) [vr 1202, vr 172, vi r] (ms false τ σ)
  refine G_iload_n 3 rfl rfl dL_law_637 ?_
  show Go κ mL (eLw κ) 638 (lL i) [vi i, vr 1202, vr 172, vi r] (ms false τ σ)
  refine G_iconst dL_law_638 ?_
  show Go κ mL (eLw κ) 639 (lL i) [vi 1, vi i, vr 1202, vr 172, vi r] (ms false τ σ)
  refine G_iadd dL_law_639 ?_
  show Go κ mL (eLw κ) 640 (lL i) [vi (i + 1), vr 1202, vr 172, vi r] (ms false τ σ)
  refine G_scr ⟨by omega, by omega⟩ hn dL_law_640 ?_
  show Go κ mL (eLw κ) 641 (lL i) [vi (sc κ (i + 1)), vr 172, vi r] (ms false τ σ)
  refine G_aload_n 0 rfl rfl dL_law_641 ?_
  show Go κ mL (eLw κ) 642 (lL i) [vr 1202, vi (sc κ (i + 1)), vr 172, vi r] (ms false τ σ)
  refine G_iload_n 3 rfl rfl dL_law_642 ?_
  show Go κ mL (eLw κ) 643 (lL i) [vi i, vr 1202, vi (sc κ (i + 1)), vr 172, vi r] (ms false τ σ)
  refine G_iconst dL_law_643 ?_
  show Go κ mL (eLw κ) 644 (lL i) [vi 2, vi i, vr 1202, vi (sc κ (i + 1)), vr 172, vi r] (ms false τ σ)
  refine G_iadd dL_law_644 ?_
  show Go κ mL (eLw κ) 645 (lL i) [vi (i + 2), vr 1202, vi (sc κ (i + 1)), vr 172, vi r] (ms false τ σ)
  refine G_scr ⟨by omega, by omega⟩ hn dL_law_645 ?_
  show Go κ mL (eLw κ) 646 (lL i) [vi (sc κ (i + 2)), vi (sc κ (i + 1)), vr 172, vi r] (ms false τ σ)
  rw [ms_sw]
  refine lwRI [vi (sc κ (i + 1)), vi (sc κ (i + 2))] [vi r] lk75 dL_law_646 rfl rfl (Nat.le_of_ble_eq_true rfl) (k_Mo_book (sc κ (i + 1)) (sc κ (i + 2)) τ (scInR _) (scInR _) hp) e2 (fun hr => ?_)
  show Go κ mL (eLw κ) 649 (lL i) [vi r, vi r] (ms true σ τ)
  refine G_icmp_eq dL_law_649 ⟨hr, hr⟩ (tgt := 1329) (by decide) (fun _ => ?_) (fun z => absurd rfl z)
  rw [← ms_sw]
  exact K _ _ h ho hp
theorem lc14 (hn : κ.2.2.2.2.2.1 ≤ 3072) (hi : 0 ≤ i ∧ i + 6 ≤ (κ.2.2.2.2.2.1 : Int)) (K : ∀ σ τ, Inv σ τ → okS σ → okS τ → Go κ mL (eLw κ) 1329 (lL i) [] (ms false τ σ)) (h : Inv σ τ) (ho : okS σ) (hp : okS τ) : Go κ mL (eLw κ) 654 (lL i) [] (ms false τ σ) := by
  obtain ⟨r, σ', τ', e1, e2, h'⟩ := p_goes h (sc κ (i + 1)) (sc κ (i + 2))
  show Go κ mL (eLw κ) 654 (lL i) [] (ms false τ σ)
  refine G_aload_n 1 rfl rfl dL_law_654 ?_
  show Go κ mL (eLw κ) 655 (lL i) [vr 0] (ms false τ σ)
  refine G_aload_n 0 rfl rfl dL_law_655 ?_
  show Go κ mL (eLw κ) 656 (lL i) [vr 1202, vr 0] (ms false τ σ)
  refine G_iload_n 3 rfl rfl dL_law_656 ?_
  show Go κ mL (eLw κ) 657 (lL i) [vi i, vr 1202, vr 0] (ms false τ σ)
  refine G_iconst dL_law_657 ?_
  show Go κ mL (eLw κ) 658 (lL i) [vi 1, vi i, vr 1202, vr 0] (ms false τ σ)
  refine G_iadd dL_law_658 ?_
  show Go κ mL (eLw κ) 659 (lL i) [vi (i + 1), vr 1202, vr 0] (ms false τ σ)
  refine G_scr ⟨by omega, by omega⟩ hn dL_law_659 ?_
  show Go κ mL (eLw κ) 660 (lL i) [vi (sc κ (i + 1)), vr 0] (ms false τ σ)
  refine G_aload_n 0 rfl rfl dL_law_660 ?_
  show Go κ mL (eLw κ) 661 (lL i) [vr 1202, vi (sc κ (i + 1)), vr 0] (ms false τ σ)
  refine G_iload_n 3 rfl rfl dL_law_661 ?_
  show Go κ mL (eLw κ) 662 (lL i) [vi i, vr 1202, vi (sc κ (i + 1)), vr 0] (ms false τ σ)
  refine G_iconst dL_law_662 ?_
  show Go κ mL (eLw κ) 663 (lL i) [vi 2, vi i, vr 1202, vi (sc κ (i + 1)), vr 0] (ms false τ σ)
  refine G_iadd dL_law_663 ?_
  show Go κ mL (eLw κ) 664 (lL i) [vi (i + 2), vr 1202, vi (sc κ (i + 1)), vr 0] (ms false τ σ)
  refine G_scr ⟨by omega, by omega⟩ hn dL_law_664 ?_
  show Go κ mL (eLw κ) 665 (lL i) [vi (sc κ (i + 2)), vi (sc κ (i + 1)), vr 0] (ms false τ σ)
  refine lwI [vi (sc κ (i + 1)), vi (sc κ (i + 2))] [] lk76 dL_law_665 rfl rfl (Nat.le_of_ble_eq_true rfl) (k_Td_goes (sc κ (i + 1)) (sc κ (i + 2)) σ (scInR _) (scInR _) ho) e1 (fun hr ho' => ?_)
  show Go κ mL (eLw κ) 668 (lL i) [vi r] (ms false τ σ')
  refine G_aload_n 2 rfl rfl dL_law_668 ?_
  show Go κ mL (eLw κ) 669 (lL i) [vr 172, vi r] (ms false τ σ')
  refine G_aload_n 0 rfl rfl dL_law_669 ?_
  show Go κ mL (eLw κ) 670 (lL i) [vr 1202, vr 172, vi r] (ms false τ σ')
  refine G_iload_n 3 rfl rfl dL_law_670 ?_
  show Go κ mL (eLw κ) 671 (lL i) [vi i, vr 1202, vr 172, vi r] (ms false τ σ')
  refine G_iconst dL_law_671 ?_
  show Go κ mL (eLw κ) 672 (lL i) [vi 1, vi i, vr 1202, vr 172, vi r] (ms false τ σ')
  refine G_iadd dL_law_672 ?_
  show Go κ mL (eLw κ) 673 (lL i) [vi (i + 1), vr 1202, vr 172, vi r] (ms false τ σ')
  refine G_scr ⟨by omega, by omega⟩ hn dL_law_673 ?_
  show Go κ mL (eLw κ) 674 (lL i) [vi (sc κ (i + 1)), vr 172, vi r] (ms false τ σ')
  refine G_aload_n 0 rfl rfl dL_law_674 ?_
  show Go κ mL (eLw κ) 675 (lL i) [vr 1202, vi (sc κ (i + 1)), vr 172, vi r] (ms false τ σ')
  refine G_iload_n 3 rfl rfl dL_law_675 ?_
  show Go κ mL (eLw κ) 676 (lL i) [vi i, vr 1202, vi (sc κ (i + 1)), vr 172, vi r] (ms false τ σ')
  refine G_iconst dL_law_676 ?_
  show Go κ mL (eLw κ) 677 (lL i) [vi 2, vi i, vr 1202, vi (sc κ (i + 1)), vr 172, vi r] (ms false τ σ')
  refine G_iadd dL_law_677 ?_
  show Go κ mL (eLw κ) 678 (lL i) [vi (i + 2), vr 1202, vi (sc κ (i + 1)), vr 172, vi r] (ms false τ σ')
  refine G_scr ⟨by omega, by omega⟩ hn dL_law_678 ?_
  show Go κ mL (eLw κ) 679 (lL i) [vi (sc κ (i + 2)), vi (sc κ (i + 1)), vr 172, vi r] (ms false τ σ')
  rw [ms_sw]
  refine lwI [vi (sc κ (i + 1)), vi (sc κ (i + 2))] [vi r] lk79 dL_law_679 rfl rfl (Nat.le_of_ble_eq_true rfl) (k_Mo_goes (sc κ (i + 1)) (sc κ (i + 2)) τ (scInR _) (scInR _) hp) e2 (fun hr hp' => ?_)
  show Go κ mL (eLw κ) 682 (lL i) [vi r, vi r] (ms true σ' τ')
  refine G_icmp_eq dL_law_682 ⟨hr, hr⟩ (tgt := 1329) (by decide) (fun _ => ?_) (fun z => absurd rfl z)
  rw [← ms_sw]
  exact K _ _ h' ho' hp'
theorem lc15 (hn : κ.2.2.2.2.2.1 ≤ 3072) (hi : 0 ≤ i ∧ i + 6 ≤ (κ.2.2.2.2.2.1 : Int)) (K : ∀ σ τ, Inv σ τ → okS σ → okS τ → Go κ mL (eLw κ) 1329 (lL i) [] (ms false τ σ)) (h : Inv σ τ) (ho : okS σ) (hp : okS τ) : Go κ mL (eLw κ) 687 (lL i) [] (ms false τ σ) := by
  obtain ⟨r, σ', τ', e1, e2, h'⟩ := p_copies h (sc κ (i + 1)) (sc κ (i + 2)) (sc κ (i + 3))
  show Go κ mL (eLw κ) 687 (lL i) [] (ms false τ σ)
  refine G_aload_n 1 rfl rfl dL_law_687 ?_
  show Go κ mL (eLw κ) 688 (lL i) [vr 0] (ms false τ σ)
  refine G_aload_n 0 rfl rfl dL_law_688 ?_
  show Go κ mL (eLw κ) 689 (lL i) [vr 1202, vr 0] (ms false τ σ)
  refine G_iload_n 3 rfl rfl dL_law_689 ?_
  show Go κ mL (eLw κ) 690 (lL i) [vi i, vr 1202, vr 0] (ms false τ σ)
  refine G_iconst dL_law_690 ?_
  show Go κ mL (eLw κ) 691 (lL i) [vi 1, vi i, vr 1202, vr 0] (ms false τ σ)
  refine G_iadd dL_law_691 ?_
  show Go κ mL (eLw κ) 692 (lL i) [vi (i + 1), vr 1202, vr 0] (ms false τ σ)
  refine G_scr ⟨by omega, by omega⟩ hn dL_law_692 ?_
  show Go κ mL (eLw κ) 693 (lL i) [vi (sc κ (i + 1)), vr 0] (ms false τ σ)
  refine G_aload_n 0 rfl rfl dL_law_693 ?_
  show Go κ mL (eLw κ) 694 (lL i) [vr 1202, vi (sc κ (i + 1)), vr 0] (ms false τ σ)
  refine G_iload_n 3 rfl rfl dL_law_694 ?_
  show Go κ mL (eLw κ) 695 (lL i) [vi i, vr 1202, vi (sc κ (i + 1)), vr 0] (ms false τ σ)
  refine G_iconst dL_law_695 ?_
  show Go κ mL (eLw κ) 696 (lL i) [vi 2, vi i, vr 1202, vi (sc κ (i + 1)), vr 0] (ms false τ σ)
  refine G_iadd dL_law_696 ?_
  show Go κ mL (eLw κ) 697 (lL i) [vi (i + 2), vr 1202, vi (sc κ (i + 1)), vr 0] (ms false τ σ)
  refine G_scr ⟨by omega, by omega⟩ hn dL_law_697 ?_
  show Go κ mL (eLw κ) 698 (lL i) [vi (sc κ (i + 2)), vi (sc κ (i + 1)), vr 0] (ms false τ σ)
  refine G_aload_n 0 rfl rfl dL_law_698 ?_
  show Go κ mL (eLw κ) 699 (lL i) [vr 1202, vi (sc κ (i + 2)), vi (sc κ (i + 1)), vr 0] (ms false τ σ)
  refine G_iload_n 3 rfl rfl dL_law_699 ?_
  show Go κ mL (eLw κ) 700 (lL i) [vi i, vr 1202, vi (sc κ (i + 2)), vi (sc κ (i + 1)), vr 0] (ms false τ σ)
  refine G_iconst dL_law_700 ?_
  show Go κ mL (eLw κ) 701 (lL i) [vi 3, vi i, vr 1202, vi (sc κ (i + 2)), vi (sc κ (i + 1)), vr 0] (ms false τ σ)
  refine G_iadd dL_law_701 ?_
  show Go κ mL (eLw κ) 702 (lL i) [vi (i + 3), vr 1202, vi (sc κ (i + 2)), vi (sc κ (i + 1)), vr 0] (ms false τ σ)
  refine G_scr ⟨by omega, by omega⟩ hn dL_law_702 ?_
  show Go κ mL (eLw κ) 703 (lL i) [vi (sc κ (i + 3)), vi (sc κ (i + 2)), vi (sc κ (i + 1)), vr 0] (ms false τ σ)
  refine lwI [vi (sc κ (i + 1)), vi (sc κ (i + 2)), vi (sc κ (i + 3))] [] lk80 dL_law_703 rfl rfl (Nat.le_of_ble_eq_true rfl) (k_Td_copies (sc κ (i + 1)) (sc κ (i + 2)) (sc κ (i + 3)) σ (scInR _) (scInR _) (scInR _) ho) e1 (fun hr ho' => ?_)
  show Go κ mL (eLw κ) 706 (lL i) [vi r] (ms false τ σ')
  refine G_aload_n 2 rfl rfl dL_law_706 ?_
  show Go κ mL (eLw κ) 707 (lL i) [vr 172, vi r] (ms false τ σ')
  refine G_aload_n 0 rfl rfl dL_law_707 ?_
  show Go κ mL (eLw κ) 708 (lL i) [vr 1202, vr 172, vi r] (ms false τ σ')
  refine G_iload_n 3 rfl rfl dL_law_708 ?_
  show Go κ mL (eLw κ) 709 (lL i) [vi i, vr 1202, vr 172, vi r] (ms false τ σ')
  refine G_iconst dL_law_709 ?_
  show Go κ mL (eLw κ) 710 (lL i) [vi 1, vi i, vr 1202, vr 172, vi r] (ms false τ σ')
  refine G_iadd dL_law_710 ?_
  show Go κ mL (eLw κ) 711 (lL i) [vi (i + 1), vr 1202, vr 172, vi r] (ms false τ σ')
  refine G_scr ⟨by omega, by omega⟩ hn dL_law_711 ?_
  show Go κ mL (eLw κ) 712 (lL i) [vi (sc κ (i + 1)), vr 172, vi r] (ms false τ σ')
  refine G_aload_n 0 rfl rfl dL_law_712 ?_
  show Go κ mL (eLw κ) 713 (lL i) [vr 1202, vi (sc κ (i + 1)), vr 172, vi r] (ms false τ σ')
  refine G_iload_n 3 rfl rfl dL_law_713 ?_
  show Go κ mL (eLw κ) 714 (lL i) [vi i, vr 1202, vi (sc κ (i + 1)), vr 172, vi r] (ms false τ σ')
  refine G_iconst dL_law_714 ?_
  show Go κ mL (eLw κ) 715 (lL i) [vi 2, vi i, vr 1202, vi (sc κ (i + 1)), vr 172, vi r] (ms false τ σ')
  refine G_iadd dL_law_715 ?_
  show Go κ mL (eLw κ) 716 (lL i) [vi (i + 2), vr 1202, vi (sc κ (i + 1)), vr 172, vi r] (ms false τ σ')
  refine G_scr ⟨by omega, by omega⟩ hn dL_law_716 ?_
  show Go κ mL (eLw κ) 717 (lL i) [vi (sc κ (i + 2)), vi (sc κ (i + 1)), vr 172, vi r] (ms false τ σ')
  refine G_aload_n 0 rfl rfl dL_law_717 ?_
  show Go κ mL (eLw κ) 718 (lL i) [vr 1202, vi (sc κ (i + 2)), vi (sc κ (i + 1)), vr 172, vi r] (ms false τ σ')
  refine G_iload_n 3 rfl rfl dL_law_718 ?_
  show Go κ mL (eLw κ) 719 (lL i) [vi i, vr 1202, vi (sc κ (i + 2)), vi (sc κ (i + 1)), vr 172, vi r] (ms false τ σ')
  refine G_iconst dL_law_719 ?_
  show Go κ mL (eLw κ) 720 (lL i) [vi 3, vi i, vr 1202, vi (sc κ (i + 2)), vi (sc κ (i + 1)), vr 172, vi r] (ms false τ σ')
  refine G_iadd dL_law_720 ?_
  show Go κ mL (eLw κ) 721 (lL i) [vi (i + 3), vr 1202, vi (sc κ (i + 2)), vi (sc κ (i + 1)), vr 172, vi r] (ms false τ σ')
  refine G_scr ⟨by omega, by omega⟩ hn dL_law_721 ?_
  show Go κ mL (eLw κ) 722 (lL i) [vi (sc κ (i + 3)), vi (sc κ (i + 2)), vi (sc κ (i + 1)), vr 172, vi r] (ms false τ σ')
  rw [ms_sw]
  refine lwI [vi (sc κ (i + 1)), vi (sc κ (i + 2)), vi (sc κ (i + 3))] [vi r] lk84 dL_law_722 rfl rfl (Nat.le_of_ble_eq_true rfl) (k_Mo_copies (sc κ (i + 1)) (sc κ (i + 2)) (sc κ (i + 3)) τ (scInR _) (scInR _) (scInR _) hp) e2 (fun hr hp' => ?_)
  show Go κ mL (eLw κ) 725 (lL i) [vi r, vi r] (ms true σ' τ')
  refine G_icmp_eq dL_law_725 ⟨hr, hr⟩ (tgt := 1329) (by decide) (fun _ => ?_) (fun z => absurd rfl z)
  rw [← ms_sw]
  exact K _ _ h' ho' hp'
theorem lc16 (hn : κ.2.2.2.2.2.1 ≤ 3072) (hi : 0 ≤ i ∧ i + 6 ≤ (κ.2.2.2.2.2.1 : Int)) (K : ∀ σ τ, Inv σ τ → okS σ → okS τ → Go κ mL (eLw κ) 1329 (lL i) [] (ms false τ σ)) (h : Inv σ τ) (ho : okS σ) (hp : okS τ) : Go κ mL (eLw κ) 730 (lL i) [] (ms false τ σ) := by
  obtain ⟨r, e1, e2⟩ := p_sure h (sc κ (i + 1)) (sc κ (i + 2)) (sc κ (i + 3)) (scInR _) (scInR _) (scInR _)
  show Go κ mL (eLw κ) 730 (lL i) [] (ms false τ σ)
  refine G_aload_n 1 rfl rfl dL_law_730 ?_
  show Go κ mL (eLw κ) 731 (lL i) [vr 0] (ms false τ σ)
  refine G_aload_n 0 rfl rfl dL_law_731 ?_
  show Go κ mL (eLw κ) 732 (lL i) [vr 1202, vr 0] (ms false τ σ)
  refine G_iload_n 3 rfl rfl dL_law_732 ?_
  show Go κ mL (eLw κ) 733 (lL i) [vi i, vr 1202, vr 0] (ms false τ σ)
  refine G_iconst dL_law_733 ?_
  show Go κ mL (eLw κ) 734 (lL i) [vi 1, vi i, vr 1202, vr 0] (ms false τ σ)
  refine G_iadd dL_law_734 ?_
  show Go κ mL (eLw κ) 735 (lL i) [vi (i + 1), vr 1202, vr 0] (ms false τ σ)
  refine G_scr ⟨by omega, by omega⟩ hn dL_law_735 ?_
  show Go κ mL (eLw κ) 736 (lL i) [vi (sc κ (i + 1)), vr 0] (ms false τ σ)
  refine G_aload_n 0 rfl rfl dL_law_736 ?_
  show Go κ mL (eLw κ) 737 (lL i) [vr 1202, vi (sc κ (i + 1)), vr 0] (ms false τ σ)
  refine G_iload_n 3 rfl rfl dL_law_737 ?_
  show Go κ mL (eLw κ) 738 (lL i) [vi i, vr 1202, vi (sc κ (i + 1)), vr 0] (ms false τ σ)
  refine G_iconst dL_law_738 ?_
  show Go κ mL (eLw κ) 739 (lL i) [vi 2, vi i, vr 1202, vi (sc κ (i + 1)), vr 0] (ms false τ σ)
  refine G_iadd dL_law_739 ?_
  show Go κ mL (eLw κ) 740 (lL i) [vi (i + 2), vr 1202, vi (sc κ (i + 1)), vr 0] (ms false τ σ)
  refine G_scr ⟨by omega, by omega⟩ hn dL_law_740 ?_
  show Go κ mL (eLw κ) 741 (lL i) [vi (sc κ (i + 2)), vi (sc κ (i + 1)), vr 0] (ms false τ σ)
  refine G_aload_n 0 rfl rfl dL_law_741 ?_
  show Go κ mL (eLw κ) 742 (lL i) [vr 1202, vi (sc κ (i + 2)), vi (sc κ (i + 1)), vr 0] (ms false τ σ)
  refine G_iload_n 3 rfl rfl dL_law_742 ?_
  show Go κ mL (eLw κ) 743 (lL i) [vi i, vr 1202, vi (sc κ (i + 2)), vi (sc κ (i + 1)), vr 0] (ms false τ σ)
  refine G_iconst dL_law_743 ?_
  show Go κ mL (eLw κ) 744 (lL i) [vi 3, vi i, vr 1202, vi (sc κ (i + 2)), vi (sc κ (i + 1)), vr 0] (ms false τ σ)
  refine G_iadd dL_law_744 ?_
  show Go κ mL (eLw κ) 745 (lL i) [vi (i + 3), vr 1202, vi (sc κ (i + 2)), vi (sc κ (i + 1)), vr 0] (ms false τ σ)
  refine G_scr ⟨by omega, by omega⟩ hn dL_law_745 ?_
  show Go κ mL (eLw κ) 746 (lL i) [vi (sc κ (i + 3)), vi (sc κ (i + 2)), vi (sc κ (i + 1)), vr 0] (ms false τ σ)
  refine lwRI [vi (sc κ (i + 1)), vi (sc κ (i + 2)), vi (sc κ (i + 3))] [] lk85 dL_law_746 rfl rfl (Nat.le_of_ble_eq_true rfl) (k_Td_sure (sc κ (i + 1)) (sc κ (i + 2)) (sc κ (i + 3)) σ (scInR _) (scInR _) (scInR _) ho) e1 (fun hr => ?_)
  show Go κ mL (eLw κ) 749 (lL i) [vi r] (ms false τ σ)
  refine G_aload_n 2 rfl rfl dL_law_749 ?_
  show Go κ mL (eLw κ) 750 (lL i) [vr 172, vi r] (ms false τ σ)
  refine G_aload_n 0 rfl rfl dL_law_750 ?_
  show Go κ mL (eLw κ) 751 (lL i) [vr 1202, vr 172, vi r] (ms false τ σ)
  refine G_iload_n 3 rfl rfl dL_law_751 ?_
  show Go κ mL (eLw κ) 752 (lL i) [vi i, vr 1202, vr 172, vi r] (ms false τ σ)
  refine G_iconst dL_law_752 ?_
  show Go κ mL (eLw κ) 753 (lL i) [vi 1, vi i, vr 1202, vr 172, vi r] (ms false τ σ)
  refine G_iadd dL_law_753 ?_
  show Go κ mL (eLw κ) 754 (lL i) [vi (i + 1), vr 1202, vr 172, vi r] (ms false τ σ)
  refine G_scr ⟨by omega, by omega⟩ hn dL_law_754 ?_
  show Go κ mL (eLw κ) 755 (lL i) [vi (sc κ (i + 1)), vr 172, vi r] (ms false τ σ)
  refine G_aload_n 0 rfl rfl dL_law_755 ?_
  show Go κ mL (eLw κ) 756 (lL i) [vr 1202, vi (sc κ (i + 1)), vr 172, vi r] (ms false τ σ)
  refine G_iload_n 3 rfl rfl dL_law_756 ?_
  show Go κ mL (eLw κ) 757 (lL i) [vi i, vr 1202, vi (sc κ (i + 1)), vr 172, vi r] (ms false τ σ)
  refine G_iconst dL_law_757 ?_
  show Go κ mL (eLw κ) 758 (lL i) [vi 2, vi i, vr 1202, vi (sc κ (i + 1)), vr 172, vi r] (ms false τ σ)
  refine G_iadd dL_law_758 ?_
  show Go κ mL (eLw κ) 759 (lL i) [vi (i + 2), vr 1202, vi (sc κ (i + 1)), vr 172, vi r] (ms false τ σ)
  refine G_scr ⟨by omega, by omega⟩ hn dL_law_759 ?_
  show Go κ mL (eLw κ) 760 (lL i) [vi (sc κ (i + 2)), vi (sc κ (i + 1)), vr 172, vi r] (ms false τ σ)
  refine G_aload_n 0 rfl rfl dL_law_760 ?_
  show Go κ mL (eLw κ) 761 (lL i) [vr 1202, vi (sc κ (i + 2)), vi (sc κ (i + 1)), vr 172, vi r] (ms false τ σ)
  refine G_iload_n 3 rfl rfl dL_law_761 ?_
  show Go κ mL (eLw κ) 762 (lL i) [vi i, vr 1202, vi (sc κ (i + 2)), vi (sc κ (i + 1)), vr 172, vi r] (ms false τ σ)
  refine G_iconst dL_law_762 ?_
  show Go κ mL (eLw κ) 763 (lL i) [vi 3, vi i, vr 1202, vi (sc κ (i + 2)), vi (sc κ (i + 1)), vr 172, vi r] (ms false τ σ)
  refine G_iadd dL_law_763 ?_
  show Go κ mL (eLw κ) 764 (lL i) [vi (i + 3), vr 1202, vi (sc κ (i + 2)), vi (sc κ (i + 1)), vr 172, vi r] (ms false τ σ)
  refine G_scr ⟨by omega, by omega⟩ hn dL_law_764 ?_
  show Go κ mL (eLw κ) 765 (lL i) [vi (sc κ (i + 3)), vi (sc κ (i + 2)), vi (sc κ (i + 1)), vr 172, vi r] (ms false τ σ)
  rw [ms_sw]
  refine lwRI [vi (sc κ (i + 1)), vi (sc κ (i + 2)), vi (sc κ (i + 3))] [vi r] lk88 dL_law_765 rfl rfl (Nat.le_of_ble_eq_true rfl) (k_Mo_sure (sc κ (i + 1)) (sc κ (i + 2)) (sc κ (i + 3)) τ (scInR _) (scInR _) (scInR _) hp) e2 (fun hr => ?_)
  show Go κ mL (eLw κ) 768 (lL i) [vi r, vi r] (ms true σ τ)
  refine G_icmp_eq dL_law_768 ⟨hr, hr⟩ (tgt := 1329) (by decide) (fun _ => ?_) (fun z => absurd rfl z)
  rw [← ms_sw]
  exact K _ _ h ho hp
theorem lc17 (hn : κ.2.2.2.2.2.1 ≤ 3072) (hi : 0 ≤ i ∧ i + 6 ≤ (κ.2.2.2.2.2.1 : Int)) (K : ∀ σ τ, Inv σ τ → okS σ → okS τ → Go κ mL (eLw κ) 1329 (lL i) [] (ms false τ σ)) (h : Inv σ τ) (ho : okS σ) (hp : okS τ) : Go κ mL (eLw κ) 773 (lL i) [] (ms false τ σ) := by
  obtain ⟨r, e1, e2⟩ := p_needs h (sc κ (i + 1)) (sc κ (i + 2)) (scInR _) (scInR _)
  show Go κ mL (eLw κ) 773 (lL i) [] (ms false τ σ)
  refine G_aload_n 1 rfl rfl dL_law_773 ?_
  show Go κ mL (eLw κ) 774 (lL i) [vr 0] (ms false τ σ)
  refine G_aload_n 0 rfl rfl dL_law_774 ?_
  show Go κ mL (eLw κ) 775 (lL i) [vr 1202, vr 0] (ms false τ σ)
  refine G_iload_n 3 rfl rfl dL_law_775 ?_
  show Go κ mL (eLw κ) 776 (lL i) [vi i, vr 1202, vr 0] (ms false τ σ)
  refine G_iconst dL_law_776 ?_
  show Go κ mL (eLw κ) 777 (lL i) [vi 1, vi i, vr 1202, vr 0] (ms false τ σ)
  refine G_iadd dL_law_777 ?_
  show Go κ mL (eLw κ) 778 (lL i) [vi (i + 1), vr 1202, vr 0] (ms false τ σ)
  refine G_scr ⟨by omega, by omega⟩ hn dL_law_778 ?_
  show Go κ mL (eLw κ) 779 (lL i) [vi (sc κ (i + 1)), vr 0] (ms false τ σ)
  refine G_aload_n 0 rfl rfl dL_law_779 ?_
  show Go κ mL (eLw κ) 780 (lL i) [vr 1202, vi (sc κ (i + 1)), vr 0] (ms false τ σ)
  refine G_iload_n 3 rfl rfl dL_law_780 ?_
  show Go κ mL (eLw κ) 781 (lL i) [vi i, vr 1202, vi (sc κ (i + 1)), vr 0] (ms false τ σ)
  refine G_iconst dL_law_781 ?_
  show Go κ mL (eLw κ) 782 (lL i) [vi 2, vi i, vr 1202, vi (sc κ (i + 1)), vr 0] (ms false τ σ)
  refine G_iadd dL_law_782 ?_
  show Go κ mL (eLw κ) 783 (lL i) [vi (i + 2), vr 1202, vi (sc κ (i + 1)), vr 0] (ms false τ σ)
  refine G_scr ⟨by omega, by omega⟩ hn dL_law_783 ?_
  show Go κ mL (eLw κ) 784 (lL i) [vi (sc κ (i + 2)), vi (sc κ (i + 1)), vr 0] (ms false τ σ)
  refine lwRI [vi (sc κ (i + 1)), vi (sc κ (i + 2))] [] lk89 dL_law_784 rfl rfl (Nat.le_of_ble_eq_true rfl) (k_Td_needs (sc κ (i + 1)) (sc κ (i + 2)) σ (scInR _) (scInR _) ho) e1 (fun hr => ?_)
  show Go κ mL (eLw κ) 787 (lL i) [vi r] (ms false τ σ)
  refine G_aload_n 2 rfl rfl dL_law_787 ?_
  show Go κ mL (eLw κ) 788 (lL i) [vr 172, vi r] (ms false τ σ)
  refine G_aload_n 0 rfl rfl dL_law_788 ?_
  show Go κ mL (eLw κ) 789 (lL i) [vr 1202, vr 172, vi r] (ms false τ σ)
  refine G_iload_n 3 rfl rfl dL_law_789 ?_
  show Go κ mL (eLw κ) 790 (lL i) [vi i, vr 1202, vr 172, vi r] (ms false τ σ)
  refine G_iconst dL_law_790 ?_
  show Go κ mL (eLw κ) 791 (lL i) [vi 1, vi i, vr 1202, vr 172, vi r] (ms false τ σ)
  refine G_iadd dL_law_791 ?_
  show Go κ mL (eLw κ) 792 (lL i) [vi (i + 1), vr 1202, vr 172, vi r] (ms false τ σ)
  refine G_scr ⟨by omega, by omega⟩ hn dL_law_792 ?_
  show Go κ mL (eLw κ) 793 (lL i) [vi (sc κ (i + 1)), vr 172, vi r] (ms false τ σ)
  refine G_aload_n 0 rfl rfl dL_law_793 ?_
  show Go κ mL (eLw κ) 794 (lL i) [vr 1202, vi (sc κ (i + 1)), vr 172, vi r] (ms false τ σ)
  refine G_iload_n 3 rfl rfl dL_law_794 ?_
  show Go κ mL (eLw κ) 795 (lL i) [vi i, vr 1202, vi (sc κ (i + 1)), vr 172, vi r] (ms false τ σ)
  refine G_iconst dL_law_795 ?_
  show Go κ mL (eLw κ) 796 (lL i) [vi 2, vi i, vr 1202, vi (sc κ (i + 1)), vr 172, vi r] (ms false τ σ)
  refine G_iadd dL_law_796 ?_
  show Go κ mL (eLw κ) 797 (lL i) [vi (i + 2), vr 1202, vi (sc κ (i + 1)), vr 172, vi r] (ms false τ σ)
  refine G_scr ⟨by omega, by omega⟩ hn dL_law_797 ?_
  show Go κ mL (eLw κ) 798 (lL i) [vi (sc κ (i + 2)), vi (sc κ (i + 1)), vr 172, vi r] (ms false τ σ)
  rw [ms_sw]
  refine lwRI [vi (sc κ (i + 1)), vi (sc κ (i + 2))] [vi r] lk92 dL_law_798 rfl rfl (Nat.le_of_ble_eq_true rfl) (k_Mo_needs (sc κ (i + 1)) (sc κ (i + 2)) τ (scInR _) (scInR _) hp) e2 (fun hr => ?_)
  show Go κ mL (eLw κ) 801 (lL i) [vi r, vi r] (ms true σ τ)
  refine G_icmp_eq dL_law_801 ⟨hr, hr⟩ (tgt := 1329) (by decide) (fun _ => ?_) (fun z => absurd rfl z)
  rw [← ms_sw]
  exact K _ _ h ho hp
theorem lc18 (hn : κ.2.2.2.2.2.1 ≤ 3072) (hi : 0 ≤ i ∧ i + 6 ≤ (κ.2.2.2.2.2.1 : Int)) (K : ∀ σ τ, Inv σ τ → okS σ → okS τ → Go κ mL (eLw κ) 1329 (lL i) [] (ms false τ σ)) (h : Inv σ τ) (ho : okS σ) (hp : okS τ) : Go κ mL (eLw κ) 806 (lL i) [] (ms false τ σ) := by
  obtain ⟨r, e1, e2⟩ := p_waits h (sc κ (i + 1)) (scInR _)
  show Go κ mL (eLw κ) 806 (lL i) [] (ms false τ σ)
  refine G_aload_n 1 rfl rfl dL_law_806 ?_
  show Go κ mL (eLw κ) 807 (lL i) [vr 0] (ms false τ σ)
  refine G_aload_n 0 rfl rfl dL_law_807 ?_
  show Go κ mL (eLw κ) 808 (lL i) [vr 1202, vr 0] (ms false τ σ)
  refine G_iload_n 3 rfl rfl dL_law_808 ?_
  show Go κ mL (eLw κ) 809 (lL i) [vi i, vr 1202, vr 0] (ms false τ σ)
  refine G_iconst dL_law_809 ?_
  show Go κ mL (eLw κ) 810 (lL i) [vi 1, vi i, vr 1202, vr 0] (ms false τ σ)
  refine G_iadd dL_law_810 ?_
  show Go κ mL (eLw κ) 811 (lL i) [vi (i + 1), vr 1202, vr 0] (ms false τ σ)
  refine G_scr ⟨by omega, by omega⟩ hn dL_law_811 ?_
  show Go κ mL (eLw κ) 812 (lL i) [vi (sc κ (i + 1)), vr 0] (ms false τ σ)
  refine lwRI [vi (sc κ (i + 1))] [] lk93 dL_law_812 rfl rfl (Nat.le_of_ble_eq_true rfl) (k_Td_waits (sc κ (i + 1)) σ (scInR _) ho) e1 (fun hr => ?_)
  show Go κ mL (eLw κ) 815 (lL i) [vi r] (ms false τ σ)
  refine G_aload_n 2 rfl rfl dL_law_815 ?_
  show Go κ mL (eLw κ) 816 (lL i) [vr 172, vi r] (ms false τ σ)
  refine G_aload_n 0 rfl rfl dL_law_816 ?_
  show Go κ mL (eLw κ) 817 (lL i) [vr 1202, vr 172, vi r] (ms false τ σ)
  refine G_iload_n 3 rfl rfl dL_law_817 ?_
  show Go κ mL (eLw κ) 818 (lL i) [vi i, vr 1202, vr 172, vi r] (ms false τ σ)
  refine G_iconst dL_law_818 ?_
  show Go κ mL (eLw κ) 819 (lL i) [vi 1, vi i, vr 1202, vr 172, vi r] (ms false τ σ)
  refine G_iadd dL_law_819 ?_
  show Go κ mL (eLw κ) 820 (lL i) [vi (i + 1), vr 1202, vr 172, vi r] (ms false τ σ)
  refine G_scr ⟨by omega, by omega⟩ hn dL_law_820 ?_
  show Go κ mL (eLw κ) 821 (lL i) [vi (sc κ (i + 1)), vr 172, vi r] (ms false τ σ)
  rw [ms_sw]
  refine lwRI [vi (sc κ (i + 1))] [vi r] lk96 dL_law_821 rfl rfl (Nat.le_of_ble_eq_true rfl) (k_Mo_waits (sc κ (i + 1)) τ (scInR _) hp) e2 (fun hr => ?_)
  show Go κ mL (eLw κ) 824 (lL i) [vi r, vi r] (ms true σ τ)
  refine G_icmp_eq dL_law_824 ⟨hr, hr⟩ (tgt := 1329) (by decide) (fun _ => ?_) (fun z => absurd rfl z)
  rw [← ms_sw]
  exact K _ _ h ho hp
theorem lc19 (hn : κ.2.2.2.2.2.1 ≤ 3072) (hi : 0 ≤ i ∧ i + 6 ≤ (κ.2.2.2.2.2.1 : Int)) (K : ∀ σ τ, Inv σ τ → okS σ → okS τ → Go κ mL (eLw κ) 1329 (lL i) [] (ms false τ σ)) (h : Inv σ τ) (ho : okS σ) (hp : okS τ) : Go κ mL (eLw κ) 829 (lL i) [] (ms false τ σ) := by
  obtain ⟨r, e1, e2⟩ := p_which h (sc κ (i + 1))
  show Go κ mL (eLw κ) 829 (lL i) [] (ms false τ σ)
  refine G_aload_n 1 rfl rfl dL_law_829 ?_
  show Go κ mL (eLw κ) 830 (lL i) [vr 0] (ms false τ σ)
  refine G_aload_n 0 rfl rfl dL_law_830 ?_
  show Go κ mL (eLw κ) 831 (lL i) [vr 1202, vr 0] (ms false τ σ)
  refine G_iload_n 3 rfl rfl dL_law_831 ?_
  show Go κ mL (eLw κ) 832 (lL i) [vi i, vr 1202, vr 0] (ms false τ σ)
  refine G_iconst dL_law_832 ?_
  show Go κ mL (eLw κ) 833 (lL i) [vi 1, vi i, vr 1202, vr 0] (ms false τ σ)
  refine G_iadd dL_law_833 ?_
  show Go κ mL (eLw κ) 834 (lL i) [vi (i + 1), vr 1202, vr 0] (ms false τ σ)
  refine G_scr ⟨by omega, by omega⟩ hn dL_law_834 ?_
  show Go κ mL (eLw κ) 835 (lL i) [vi (sc κ (i + 1)), vr 0] (ms false τ σ)
  refine lwRI [vi (sc κ (i + 1))] [] lk97 dL_law_835 rfl rfl (Nat.le_of_ble_eq_true rfl) (k_Td_which (sc κ (i + 1)) σ (scInR _) ho) e1 (fun hr => ?_)
  show Go κ mL (eLw κ) 838 (lL i) [vi r] (ms false τ σ)
  refine G_aload_n 2 rfl rfl dL_law_838 ?_
  show Go κ mL (eLw κ) 839 (lL i) [vr 172, vi r] (ms false τ σ)
  refine G_aload_n 0 rfl rfl dL_law_839 ?_
  show Go κ mL (eLw κ) 840 (lL i) [vr 1202, vr 172, vi r] (ms false τ σ)
  refine G_iload_n 3 rfl rfl dL_law_840 ?_
  show Go κ mL (eLw κ) 841 (lL i) [vi i, vr 1202, vr 172, vi r] (ms false τ σ)
  refine G_iconst dL_law_841 ?_
  show Go κ mL (eLw κ) 842 (lL i) [vi 1, vi i, vr 1202, vr 172, vi r] (ms false τ σ)
  refine G_iadd dL_law_842 ?_
  show Go κ mL (eLw κ) 843 (lL i) [vi (i + 1), vr 1202, vr 172, vi r] (ms false τ σ)
  refine G_scr ⟨by omega, by omega⟩ hn dL_law_843 ?_
  show Go κ mL (eLw κ) 844 (lL i) [vi (sc κ (i + 1)), vr 172, vi r] (ms false τ σ)
  rw [ms_sw]
  refine lwRI [vi (sc κ (i + 1))] [vi r] lk100 dL_law_844 rfl rfl (Nat.le_of_ble_eq_true rfl) (k_Mo_which (sc κ (i + 1)) τ (scInR _) hp) e2 (fun hr => ?_)
  show Go κ mL (eLw κ) 847 (lL i) [vi r, vi r] (ms true σ τ)
  refine G_icmp_eq dL_law_847 ⟨hr, hr⟩ (tgt := 1329) (by decide) (fun _ => ?_) (fun z => absurd rfl z)
  rw [← ms_sw]
  exact K _ _ h ho hp
theorem lc20 (hn : κ.2.2.2.2.2.1 ≤ 3072) (hi : 0 ≤ i ∧ i + 6 ≤ (κ.2.2.2.2.2.1 : Int)) (K : ∀ σ τ, Inv σ τ → okS σ → okS τ → Go κ mL (eLw κ) 1329 (lL i) [] (ms false τ σ)) (h : Inv σ τ) (ho : okS σ) (hp : okS τ) : Go κ mL (eLw κ) 852 (lL i) [] (ms false τ σ) := by
  obtain ⟨r, σ', τ', e1, e2, h'⟩ := p_drift h (sc κ (i + 1)) (sc κ (i + 2))
  show Go κ mL (eLw κ) 852 (lL i) [] (ms false τ σ)
  refine G_aload_n 1 rfl rfl dL_law_852 ?_
  show Go κ mL (eLw κ) 853 (lL i) [vr 0] (ms false τ σ)
  refine G_aload_n 0 rfl rfl dL_law_853 ?_
  show Go κ mL (eLw κ) 854 (lL i) [vr 1202, vr 0] (ms false τ σ)
  refine G_iload_n 3 rfl rfl dL_law_854 ?_
  show Go κ mL (eLw κ) 855 (lL i) [vi i, vr 1202, vr 0] (ms false τ σ)
  refine G_iconst dL_law_855 ?_
  show Go κ mL (eLw κ) 856 (lL i) [vi 1, vi i, vr 1202, vr 0] (ms false τ σ)
  refine G_iadd dL_law_856 ?_
  show Go κ mL (eLw κ) 857 (lL i) [vi (i + 1), vr 1202, vr 0] (ms false τ σ)
  refine G_scr ⟨by omega, by omega⟩ hn dL_law_857 ?_
  show Go κ mL (eLw κ) 858 (lL i) [vi (sc κ (i + 1)), vr 0] (ms false τ σ)
  refine G_aload_n 0 rfl rfl dL_law_858 ?_
  show Go κ mL (eLw κ) 859 (lL i) [vr 1202, vi (sc κ (i + 1)), vr 0] (ms false τ σ)
  refine G_iload_n 3 rfl rfl dL_law_859 ?_
  show Go κ mL (eLw κ) 860 (lL i) [vi i, vr 1202, vi (sc κ (i + 1)), vr 0] (ms false τ σ)
  refine G_iconst dL_law_860 ?_
  show Go κ mL (eLw κ) 861 (lL i) [vi 2, vi i, vr 1202, vi (sc κ (i + 1)), vr 0] (ms false τ σ)
  refine G_iadd dL_law_861 ?_
  show Go κ mL (eLw κ) 862 (lL i) [vi (i + 2), vr 1202, vi (sc κ (i + 1)), vr 0] (ms false τ σ)
  refine G_scr ⟨by omega, by omega⟩ hn dL_law_862 ?_
  show Go κ mL (eLw κ) 863 (lL i) [vi (sc κ (i + 2)), vi (sc κ (i + 1)), vr 0] (ms false τ σ)
  refine lwI [vi (sc κ (i + 1)), vi (sc κ (i + 2))] [] lk101 dL_law_863 rfl rfl (Nat.le_of_ble_eq_true rfl) (k_Td_drift (sc κ (i + 1)) (sc κ (i + 2)) σ (scInR _) (scInR _) ho) e1 (fun hr ho' => ?_)
  show Go κ mL (eLw κ) 866 (lL i) [vi r] (ms false τ σ')
  refine G_aload_n 2 rfl rfl dL_law_866 ?_
  show Go κ mL (eLw κ) 867 (lL i) [vr 172, vi r] (ms false τ σ')
  refine G_aload_n 0 rfl rfl dL_law_867 ?_
  show Go κ mL (eLw κ) 868 (lL i) [vr 1202, vr 172, vi r] (ms false τ σ')
  refine G_iload_n 3 rfl rfl dL_law_868 ?_
  show Go κ mL (eLw κ) 869 (lL i) [vi i, vr 1202, vr 172, vi r] (ms false τ σ')
  refine G_iconst dL_law_869 ?_
  show Go κ mL (eLw κ) 870 (lL i) [vi 1, vi i, vr 1202, vr 172, vi r] (ms false τ σ')
  refine G_iadd dL_law_870 ?_
  show Go κ mL (eLw κ) 871 (lL i) [vi (i + 1), vr 1202, vr 172, vi r] (ms false τ σ')
  refine G_scr ⟨by omega, by omega⟩ hn dL_law_871 ?_
  show Go κ mL (eLw κ) 872 (lL i) [vi (sc κ (i + 1)), vr 172, vi r] (ms false τ σ')
  refine G_aload_n 0 rfl rfl dL_law_872 ?_
  show Go κ mL (eLw κ) 873 (lL i) [vr 1202, vi (sc κ (i + 1)), vr 172, vi r] (ms false τ σ')
  refine G_iload_n 3 rfl rfl dL_law_873 ?_
  show Go κ mL (eLw κ) 874 (lL i) [vi i, vr 1202, vi (sc κ (i + 1)), vr 172, vi r] (ms false τ σ')
  refine G_iconst dL_law_874 ?_
  show Go κ mL (eLw κ) 875 (lL i) [vi 2, vi i, vr 1202, vi (sc κ (i + 1)), vr 172, vi r] (ms false τ σ')
  refine G_iadd dL_law_875 ?_
  show Go κ mL (eLw κ) 876 (lL i) [vi (i + 2), vr 1202, vi (sc κ (i + 1)), vr 172, vi r] (ms false τ σ')
  refine G_scr ⟨by omega, by omega⟩ hn dL_law_876 ?_
  show Go κ mL (eLw κ) 877 (lL i) [vi (sc κ (i + 2)), vi (sc κ (i + 1)), vr 172, vi r] (ms false τ σ')
  rw [ms_sw]
  refine lwI [vi (sc κ (i + 1)), vi (sc κ (i + 2))] [vi r] lk104 dL_law_877 rfl rfl (Nat.le_of_ble_eq_true rfl) (k_Mo_drift (sc κ (i + 1)) (sc κ (i + 2)) τ (scInR _) (scInR _) hp) e2 (fun hr hp' => ?_)
  show Go κ mL (eLw κ) 880 (lL i) [vi r, vi r] (ms true σ' τ')
  refine G_icmp_eq dL_law_880 ⟨hr, hr⟩ (tgt := 1329) (by decide) (fun _ => ?_) (fun z => absurd rfl z)
  rw [← ms_sw]
  exact K _ _ h' ho' hp'
theorem lc21 (hn : κ.2.2.2.2.2.1 ≤ 3072) (hi : 0 ≤ i ∧ i + 6 ≤ (κ.2.2.2.2.2.1 : Int)) (K : ∀ σ τ, Inv σ τ → okS σ → okS τ → Go κ mL (eLw κ) 1329 (lL i) [] (ms false τ σ)) (h : Inv σ τ) (ho : okS σ) (hp : okS τ) : Go κ mL (eLw κ) 885 (lL i) [] (ms false τ σ) := by
  obtain ⟨r, e1, e2⟩ := p_pauses h (sc κ (i + 1)) (sc κ (i + 2))
  show Go κ mL (eLw κ) 885 (lL i) [] (ms false τ σ)
  refine G_aload_n 1 rfl rfl dL_law_885 ?_
  show Go κ mL (eLw κ) 886 (lL i) [vr 0] (ms false τ σ)
  refine G_aload_n 0 rfl rfl dL_law_886 ?_
  show Go κ mL (eLw κ) 887 (lL i) [vr 1202, vr 0] (ms false τ σ)
  refine G_iload_n 3 rfl rfl dL_law_887 ?_
  show Go κ mL (eLw κ) 888 (lL i) [vi i, vr 1202, vr 0] (ms false τ σ)
  refine G_iconst dL_law_888 ?_
  show Go κ mL (eLw κ) 889 (lL i) [vi 1, vi i, vr 1202, vr 0] (ms false τ σ)
  refine G_iadd dL_law_889 ?_
  show Go κ mL (eLw κ) 890 (lL i) [vi (i + 1), vr 1202, vr 0] (ms false τ σ)
  refine G_scr ⟨by omega, by omega⟩ hn dL_law_890 ?_
  show Go κ mL (eLw κ) 891 (lL i) [vi (sc κ (i + 1)), vr 0] (ms false τ σ)
  refine G_aload_n 0 rfl rfl dL_law_891 ?_
  show Go κ mL (eLw κ) 892 (lL i) [vr 1202, vi (sc κ (i + 1)), vr 0] (ms false τ σ)
  refine G_iload_n 3 rfl rfl dL_law_892 ?_
  show Go κ mL (eLw κ) 893 (lL i) [vi i, vr 1202, vi (sc κ (i + 1)), vr 0] (ms false τ σ)
  refine G_iconst dL_law_893 ?_
  show Go κ mL (eLw κ) 894 (lL i) [vi 2, vi i, vr 1202, vi (sc κ (i + 1)), vr 0] (ms false τ σ)
  refine G_iadd dL_law_894 ?_
  show Go κ mL (eLw κ) 895 (lL i) [vi (i + 2), vr 1202, vi (sc κ (i + 1)), vr 0] (ms false τ σ)
  refine G_scr ⟨by omega, by omega⟩ hn dL_law_895 ?_
  show Go κ mL (eLw κ) 896 (lL i) [vi (sc κ (i + 2)), vi (sc κ (i + 1)), vr 0] (ms false τ σ)
  refine lwRI [vi (sc κ (i + 1)), vi (sc κ (i + 2))] [] lk105 dL_law_896 rfl rfl (Nat.le_of_ble_eq_true rfl) (k_Td_pauses (sc κ (i + 1)) (sc κ (i + 2)) σ (scInR _) (scInR _) ho) e1 (fun hr => ?_)
  show Go κ mL (eLw κ) 899 (lL i) [vi r] (ms false τ σ)
  refine G_aload_n 2 rfl rfl dL_law_899 ?_
  show Go κ mL (eLw κ) 900 (lL i) [vr 172, vi r] (ms false τ σ)
  refine G_aload_n 0 rfl rfl dL_law_900 ?_
  show Go κ mL (eLw κ) 901 (lL i) [vr 1202, vr 172, vi r] (ms false τ σ)
  refine G_iload_n 3 rfl rfl dL_law_901 ?_
  show Go κ mL (eLw κ) 902 (lL i) [vi i, vr 1202, vr 172, vi r] (ms false τ σ)
  refine G_iconst dL_law_902 ?_
  show Go κ mL (eLw κ) 903 (lL i) [vi 1, vi i, vr 1202, vr 172, vi r] (ms false τ σ)
  refine G_iadd dL_law_903 ?_
  show Go κ mL (eLw κ) 904 (lL i) [vi (i + 1), vr 1202, vr 172, vi r] (ms false τ σ)
  refine G_scr ⟨by omega, by omega⟩ hn dL_law_904 ?_
  show Go κ mL (eLw κ) 905 (lL i) [vi (sc κ (i + 1)), vr 172, vi r] (ms false τ σ)
  refine G_aload_n 0 rfl rfl dL_law_905 ?_
  show Go κ mL (eLw κ) 906 (lL i) [vr 1202, vi (sc κ (i + 1)), vr 172, vi r] (ms false τ σ)
  refine G_iload_n 3 rfl rfl dL_law_906 ?_
  show Go κ mL (eLw κ) 907 (lL i) [vi i, vr 1202, vi (sc κ (i + 1)), vr 172, vi r] (ms false τ σ)
  refine G_iconst dL_law_907 ?_
  show Go κ mL (eLw κ) 908 (lL i) [vi 2, vi i, vr 1202, vi (sc κ (i + 1)), vr 172, vi r] (ms false τ σ)
  refine G_iadd dL_law_908 ?_
  show Go κ mL (eLw κ) 909 (lL i) [vi (i + 2), vr 1202, vi (sc κ (i + 1)), vr 172, vi r] (ms false τ σ)
  refine G_scr ⟨by omega, by omega⟩ hn dL_law_909 ?_
  show Go κ mL (eLw κ) 910 (lL i) [vi (sc κ (i + 2)), vi (sc κ (i + 1)), vr 172, vi r] (ms false τ σ)
  rw [ms_sw]
  refine lwRI [vi (sc κ (i + 1)), vi (sc κ (i + 2))] [vi r] lk108 dL_law_910 rfl rfl (Nat.le_of_ble_eq_true rfl) (k_Mo_pauses (sc κ (i + 1)) (sc κ (i + 2)) τ (scInR _) (scInR _) hp) e2 (fun hr => ?_)
  show Go κ mL (eLw κ) 913 (lL i) [vi r, vi r] (ms true σ τ)
  refine G_icmp_eq dL_law_913 ⟨hr, hr⟩ (tgt := 1329) (by decide) (fun _ => ?_) (fun z => absurd rfl z)
  rw [← ms_sw]
  exact K _ _ h ho hp
theorem lc22 (hn : κ.2.2.2.2.2.1 ≤ 3072) (hi : 0 ≤ i ∧ i + 6 ≤ (κ.2.2.2.2.2.1 : Int)) (K : ∀ σ τ, Inv σ τ → okS σ → okS τ → Go κ mL (eLw κ) 1329 (lL i) [] (ms false τ σ)) (h : Inv σ τ) (ho : okS σ) (hp : okS τ) : Go κ mL (eLw κ) 918 (lL i) [] (ms false τ σ) := by
  obtain ⟨r, σ', τ', e1, e2, h'⟩ := p_time h (sc κ (i + 1))
  show Go κ mL (eLw κ) 918 (lL i) [] (ms false τ σ)
  refine G_aload_n 1 rfl rfl dL_law_918 ?_
  show Go κ mL (eLw κ) 919 (lL i) [vr 0] (ms false τ σ)
  refine G_aload_n 0 rfl rfl dL_law_919 ?_
  show Go κ mL (eLw κ) 920 (lL i) [vr 1202, vr 0] (ms false τ σ)
  refine G_iload_n 3 rfl rfl dL_law_920 ?_
  show Go κ mL (eLw κ) 921 (lL i) [vi i, vr 1202, vr 0] (ms false τ σ)
  refine G_iconst dL_law_921 ?_
  show Go κ mL (eLw κ) 922 (lL i) [vi 1, vi i, vr 1202, vr 0] (ms false τ σ)
  refine G_iadd dL_law_922 ?_
  show Go κ mL (eLw κ) 923 (lL i) [vi (i + 1), vr 1202, vr 0] (ms false τ σ)
  refine G_scr ⟨by omega, by omega⟩ hn dL_law_923 ?_
  show Go κ mL (eLw κ) 924 (lL i) [vi (sc κ (i + 1)), vr 0] (ms false τ σ)
  refine lwI [vi (sc κ (i + 1))] [] lk109 dL_law_924 rfl rfl (Nat.le_of_ble_eq_true rfl) (k_Td_time (sc κ (i + 1)) σ (scInR _) ho) e1 (fun hr ho' => ?_)
  show Go κ mL (eLw κ) 927 (lL i) [vi r] (ms false τ σ')
  refine G_aload_n 2 rfl rfl dL_law_927 ?_
  show Go κ mL (eLw κ) 928 (lL i) [vr 172, vi r] (ms false τ σ')
  refine G_aload_n 0 rfl rfl dL_law_928 ?_
  show Go κ mL (eLw κ) 929 (lL i) [vr 1202, vr 172, vi r] (ms false τ σ')
  refine G_iload_n 3 rfl rfl dL_law_929 ?_
  show Go κ mL (eLw κ) 930 (lL i) [vi i, vr 1202, vr 172, vi r] (ms false τ σ')
  refine G_iconst dL_law_930 ?_
  show Go κ mL (eLw κ) 931 (lL i) [vi 1, vi i, vr 1202, vr 172, vi r] (ms false τ σ')
  refine G_iadd dL_law_931 ?_
  show Go κ mL (eLw κ) 932 (lL i) [vi (i + 1), vr 1202, vr 172, vi r] (ms false τ σ')
  refine G_scr ⟨by omega, by omega⟩ hn dL_law_932 ?_
  show Go κ mL (eLw κ) 933 (lL i) [vi (sc κ (i + 1)), vr 172, vi r] (ms false τ σ')
  rw [ms_sw]
  refine lwI [vi (sc κ (i + 1))] [vi r] lk112 dL_law_933 rfl rfl (Nat.le_of_ble_eq_true rfl) (k_Mo_time (sc κ (i + 1)) τ (scInR _) hp) e2 (fun hr hp' => ?_)
  show Go κ mL (eLw κ) 936 (lL i) [vi r, vi r] (ms true σ' τ')
  refine G_icmp_eq dL_law_936 ⟨hr, hr⟩ (tgt := 1329) (by decide) (fun _ => ?_) (fun z => absurd rfl z)
  rw [← ms_sw]
  exact K _ _ h' ho' hp'
theorem lc23 (hn : κ.2.2.2.2.2.1 ≤ 3072) (hi : 0 ≤ i ∧ i + 6 ≤ (κ.2.2.2.2.2.1 : Int)) (K : ∀ σ τ, Inv σ τ → okS σ → okS τ → Go κ mL (eLw κ) 1329 (lL i) [] (ms false τ σ)) (h : Inv σ τ) (ho : okS σ) (hp : okS τ) : Go κ mL (eLw κ) 941 (lL i) [] (ms false τ σ) := by
  obtain ⟨r, e1, e2⟩ := p_fits h (sc κ (i + 1))
  show Go κ mL (eLw κ) 941 (lL i) [] (ms false τ σ)
  refine G_aload_n 1 rfl rfl dL_law_941 ?_
  show Go κ mL (eLw κ) 942 (lL i) [vr 0] (ms false τ σ)
  refine G_aload_n 0 rfl rfl dL_law_942 ?_
  show Go κ mL (eLw κ) 943 (lL i) [vr 1202, vr 0] (ms false τ σ)
  refine G_iload_n 3 rfl rfl dL_law_943 ?_
  show Go κ mL (eLw κ) 944 (lL i) [vi i, vr 1202, vr 0] (ms false τ σ)
  refine G_iconst dL_law_944 ?_
  show Go κ mL (eLw κ) 945 (lL i) [vi 1, vi i, vr 1202, vr 0] (ms false τ σ)
  refine G_iadd dL_law_945 ?_
  show Go κ mL (eLw κ) 946 (lL i) [vi (i + 1), vr 1202, vr 0] (ms false τ σ)
  refine G_scr ⟨by omega, by omega⟩ hn dL_law_946 ?_
  show Go κ mL (eLw κ) 947 (lL i) [vi (sc κ (i + 1)), vr 0] (ms false τ σ)
  refine lwRI [vi (sc κ (i + 1))] [] lk113 dL_law_947 rfl rfl (Nat.le_of_ble_eq_true rfl) (k_Td_fits (sc κ (i + 1)) σ (scInR _) ho) e1 (fun hr => ?_)
  show Go κ mL (eLw κ) 950 (lL i) [vi r] (ms false τ σ)
  refine G_aload_n 2 rfl rfl dL_law_950 ?_
  show Go κ mL (eLw κ) 951 (lL i) [vr 172, vi r] (ms false τ σ)
  refine G_aload_n 0 rfl rfl dL_law_951 ?_
  show Go κ mL (eLw κ) 952 (lL i) [vr 1202, vr 172, vi r] (ms false τ σ)
  refine G_iload_n 3 rfl rfl dL_law_952 ?_
  show Go κ mL (eLw κ) 953 (lL i) [vi i, vr 1202, vr 172, vi r] (ms false τ σ)
  refine G_iconst dL_law_953 ?_
  show Go κ mL (eLw κ) 954 (lL i) [vi 1, vi i, vr 1202, vr 172, vi r] (ms false τ σ)
  refine G_iadd dL_law_954 ?_
  show Go κ mL (eLw κ) 955 (lL i) [vi (i + 1), vr 1202, vr 172, vi r] (ms false τ σ)
  refine G_scr ⟨by omega, by omega⟩ hn dL_law_955 ?_
  show Go κ mL (eLw κ) 956 (lL i) [vi (sc κ (i + 1)), vr 172, vi r] (ms false τ σ)
  rw [ms_sw]
  refine lwRI [vi (sc κ (i + 1))] [vi r] lk116 dL_law_956 rfl rfl (Nat.le_of_ble_eq_true rfl) (k_Mo_fits (sc κ (i + 1)) τ (scInR _) hp) e2 (fun hr => ?_)
  show Go κ mL (eLw κ) 959 (lL i) [vi r, vi r] (ms true σ τ)
  refine G_icmp_eq dL_law_959 ⟨hr, hr⟩ (tgt := 1329) (by decide) (fun _ => ?_) (fun z => absurd rfl z)
  rw [← ms_sw]
  exact K _ _ h ho hp
theorem lc24 (hn : κ.2.2.2.2.2.1 ≤ 3072) (hi : 0 ≤ i ∧ i + 6 ≤ (κ.2.2.2.2.2.1 : Int)) (K : ∀ σ τ, Inv σ τ → okS σ → okS τ → Go κ mL (eLw κ) 1329 (lL i) [] (ms false τ σ)) (h : Inv σ τ) (ho : okS σ) (hp : okS τ) : Go κ mL (eLw κ) 964 (lL i) [] (ms false τ σ) := by
  obtain ⟨r, e1, e2⟩ := p_game h (sc κ (i + 1))
  show Go κ mL (eLw κ) 964 (lL i) [] (ms false τ σ)
  refine G_aload_n 1 rfl rfl dL_law_964 ?_
  show Go κ mL (eLw κ) 965 (lL i) [vr 0] (ms false τ σ)
  refine G_aload_n 0 rfl rfl dL_law_965 ?_
  show Go κ mL (eLw κ) 966 (lL i) [vr 1202, vr 0] (ms false τ σ)
  refine G_iload_n 3 rfl rfl dL_law_966 ?_
  show Go κ mL (eLw κ) 967 (lL i) [vi i, vr 1202, vr 0] (ms false τ σ)
  refine G_iconst dL_law_967 ?_
  show Go κ mL (eLw κ) 968 (lL i) [vi 1, vi i, vr 1202, vr 0] (ms false τ σ)
  refine G_iadd dL_law_968 ?_
  show Go κ mL (eLw κ) 969 (lL i) [vi (i + 1), vr 1202, vr 0] (ms false τ σ)
  refine G_scr ⟨by omega, by omega⟩ hn dL_law_969 ?_
  show Go κ mL (eLw κ) 970 (lL i) [vi (sc κ (i + 1)), vr 0] (ms false τ σ)
  refine lwRI [vi (sc κ (i + 1))] [] lk117 dL_law_970 rfl rfl (Nat.le_of_ble_eq_true rfl) (k_Td_game (sc κ (i + 1)) σ (scInR _) ho) e1 (fun hr => ?_)
  show Go κ mL (eLw κ) 973 (lL i) [vi r] (ms false τ σ)
  refine G_aload_n 2 rfl rfl dL_law_973 ?_
  show Go κ mL (eLw κ) 974 (lL i) [vr 172, vi r] (ms false τ σ)
  refine G_aload_n 0 rfl rfl dL_law_974 ?_
  show Go κ mL (eLw κ) 975 (lL i) [vr 1202, vr 172, vi r] (ms false τ σ)
  refine G_iload_n 3 rfl rfl dL_law_975 ?_
  show Go κ mL (eLw κ) 976 (lL i) [vi i, vr 1202, vr 172, vi r] (ms false τ σ)
  refine G_iconst dL_law_976 ?_
  show Go κ mL (eLw κ) 977 (lL i) [vi 1, vi i, vr 1202, vr 172, vi r] (ms false τ σ)
  refine G_iadd dL_law_977 ?_
  show Go κ mL (eLw κ) 978 (lL i) [vi (i + 1), vr 1202, vr 172, vi r] (ms false τ σ)
  refine G_scr ⟨by omega, by omega⟩ hn dL_law_978 ?_
  show Go κ mL (eLw κ) 979 (lL i) [vi (sc κ (i + 1)), vr 172, vi r] (ms false τ σ)
  rw [ms_sw]
  refine lwRI [vi (sc κ (i + 1))] [vi r] lk120 dL_law_979 rfl rfl (Nat.le_of_ble_eq_true rfl) (k_Mo_game (sc κ (i + 1)) τ (scInR _) hp) e2 (fun hr => ?_)
  show Go κ mL (eLw κ) 982 (lL i) [vi r, vi r] (ms true σ τ)
  refine G_icmp_eq dL_law_982 ⟨hr, hr⟩ (tgt := 1329) (by decide) (fun _ => ?_) (fun z => absurd rfl z)
  rw [← ms_sw]
  exact K _ _ h ho hp
theorem lc25 (hn : κ.2.2.2.2.2.1 ≤ 3072) (hi : 0 ≤ i ∧ i + 6 ≤ (κ.2.2.2.2.2.1 : Int)) (K : ∀ σ τ, Inv σ τ → okS σ → okS τ → Go κ mL (eLw κ) 1329 (lL i) [] (ms false τ σ)) (h : Inv σ τ) (ho : okS σ) (hp : okS τ) : Go κ mL (eLw κ) 987 (lL i) [] (ms false τ σ) := by
  obtain ⟨r, σ', τ', e1, e2, h'⟩ := p_table h (sc κ (i + 1)) (sc κ (i + 2)) (sc κ (i + 3))
  show Go κ mL (eLw κ) 987 (lL i) [] (ms false τ σ)
  refine G_aload_n 1 rfl rfl dL_law_987 ?_
  show Go κ mL (eLw κ) 988 (lL i) [vr 0] (ms false τ σ)
  refine G_aload_n 0 rfl rfl dL_law_988 ?_
  show Go κ mL (eLw κ) 989 (lL i) [vr 1202, vr 0] (ms false τ σ)
  refine G_iload_n 3 rfl rfl dL_law_989 ?_
  show Go κ mL (eLw κ) 990 (lL i) [vi i, vr 1202, vr 0] (ms false τ σ)
  refine G_iconst dL_law_990 ?_
  show Go κ mL (eLw κ) 991 (lL i) [vi 1, vi i, vr 1202, vr 0] (ms false τ σ)
  refine G_iadd dL_law_991 ?_
  show Go κ mL (eLw κ) 992 (lL i) [vi (i + 1), vr 1202, vr 0] (ms false τ σ)
  refine G_scr ⟨by omega, by omega⟩ hn dL_law_992 ?_
  show Go κ mL (eLw κ) 993 (lL i) [vi (sc κ (i + 1)), vr 0] (ms false τ σ)
  refine G_aload_n 0 rfl rfl dL_law_993 ?_
  show Go κ mL (eLw κ) 994 (lL i) [vr 1202, vi (sc κ (i + 1)), vr 0] (ms false τ σ)
  refine G_iload_n 3 rfl rfl dL_law_994 ?_
  show Go κ mL (eLw κ) 995 (lL i) [vi i, vr 1202, vi (sc κ (i + 1)), vr 0] (ms false τ σ)
  refine G_iconst dL_law_995 ?_
  show Go κ mL (eLw κ) 996 (lL i) [vi 2, vi i, vr 1202, vi (sc κ (i + 1)), vr 0] (ms false τ σ)
  refine G_iadd dL_law_996 ?_
  show Go κ mL (eLw κ) 997 (lL i) [vi (i + 2), vr 1202, vi (sc κ (i + 1)), vr 0] (ms false τ σ)
  refine G_scr ⟨by omega, by omega⟩ hn dL_law_997 ?_
  show Go κ mL (eLw κ) 998 (lL i) [vi (sc κ (i + 2)), vi (sc κ (i + 1)), vr 0] (ms false τ σ)
  refine G_aload_n 0 rfl rfl dL_law_998 ?_
  show Go κ mL (eLw κ) 999 (lL i) [vr 1202, vi (sc κ (i + 2)), vi (sc κ (i + 1)), vr 0] (ms false τ σ)
  refine G_iload_n 3 rfl rfl dL_law_999 ?_
  show Go κ mL (eLw κ) 1000 (lL i) [vi i, vr 1202, vi (sc κ (i + 2)), vi (sc κ (i + 1)), vr 0] (ms false τ σ)
  refine G_iconst dL_law_1000 ?_
  show Go κ mL (eLw κ) 1001 (lL i) [vi 3, vi i, vr 1202, vi (sc κ (i + 2)), vi (sc κ (i + 1)), vr 0] (ms false τ σ)
  refine G_iadd dL_law_1001 ?_
  show Go κ mL (eLw κ) 1002 (lL i) [vi (i + 3), vr 1202, vi (sc κ (i + 2)), vi (sc κ (i + 1)), vr 0] (ms false τ σ)
  refine G_scr ⟨by omega, by omega⟩ hn dL_law_1002 ?_
  show Go κ mL (eLw κ) 1003 (lL i) [vi (sc κ (i + 3)), vi (sc κ (i + 2)), vi (sc κ (i + 1)), vr 0] (ms false τ σ)
  refine lwZ [vi (sc κ (i + 1)), vi (sc κ (i + 2)), vi (sc κ (i + 3))] [] lk121 dL_law_1003 rfl rfl (Nat.le_of_ble_eq_true rfl) (k_Td_table (sc κ (i + 1)) (sc κ (i + 2)) (sc κ (i + 3)) σ (scInR _) (scInR _) (scInR _) ho) e1 (fun hr ho' => ?_)
  show Go κ mL (eLw κ) 1006 (lL i) [vi r] (ms false τ σ')
  refine G_aload_n 2 rfl rfl dL_law_1006 ?_
  show Go κ mL (eLw κ) 1007 (lL i) [vr 172, vi r] (ms false τ σ')
  refine G_aload_n 0 rfl rfl dL_law_1007 ?_
  show Go κ mL (eLw κ) 1008 (lL i) [vr 1202, vr 172, vi r] (ms false τ σ')
  refine G_iload_n 3 rfl rfl dL_law_1008 ?_
  show Go κ mL (eLw κ) 1009 (lL i) [vi i, vr 1202, vr 172, vi r] (ms false τ σ')
  refine G_iconst dL_law_1009 ?_
  show Go κ mL (eLw κ) 1010 (lL i) [vi 1, vi i, vr 1202, vr 172, vi r] (ms false τ σ')
  refine G_iadd dL_law_1010 ?_
  show Go κ mL (eLw κ) 1011 (lL i) [vi (i + 1), vr 1202, vr 172, vi r] (ms false τ σ')
  refine G_scr ⟨by omega, by omega⟩ hn dL_law_1011 ?_
  show Go κ mL (eLw κ) 1012 (lL i) [vi (sc κ (i + 1)), vr 172, vi r] (ms false τ σ')
  refine G_aload_n 0 rfl rfl dL_law_1012 ?_
  show Go κ mL (eLw κ) 1013 (lL i) [vr 1202, vi (sc κ (i + 1)), vr 172, vi r] (ms false τ σ')
  refine G_iload_n 3 rfl rfl dL_law_1013 ?_
  show Go κ mL (eLw κ) 1014 (lL i) [vi i, vr 1202, vi (sc κ (i + 1)), vr 172, vi r] (ms false τ σ')
  refine G_iconst dL_law_1014 ?_
  show Go κ mL (eLw κ) 1015 (lL i) [vi 2, vi i, vr 1202, vi (sc κ (i + 1)), vr 172, vi r] (ms false τ σ')
  refine G_iadd dL_law_1015 ?_
  show Go κ mL (eLw κ) 1016 (lL i) [vi (i + 2), vr 1202, vi (sc κ (i + 1)), vr 172, vi r] (ms false τ σ')
  refine G_scr ⟨by omega, by omega⟩ hn dL_law_1016 ?_
  show Go κ mL (eLw κ) 1017 (lL i) [vi (sc κ (i + 2)), vi (sc κ (i + 1)), vr 172, vi r] (ms false τ σ')
  refine G_aload_n 0 rfl rfl dL_law_1017 ?_
  show Go κ mL (eLw κ) 1018 (lL i) [vr 1202, vi (sc κ (i + 2)), vi (sc κ (i + 1)), vr 172, vi r] (ms false τ σ')
  refine G_iload_n 3 rfl rfl dL_law_1018 ?_
  show Go κ mL (eLw κ) 1019 (lL i) [vi i, vr 1202, vi (sc κ (i + 2)), vi (sc κ (i + 1)), vr 172, vi r] (ms false τ σ')
  refine G_iconst dL_law_1019 ?_
  show Go κ mL (eLw κ) 1020 (lL i) [vi 3, vi i, vr 1202, vi (sc κ (i + 2)), vi (sc κ (i + 1)), vr 172, vi r] (ms false τ σ')
  refine G_iadd dL_law_1020 ?_
  show Go κ mL (eLw κ) 1021 (lL i) [vi (i + 3), vr 1202, vi (sc κ (i + 2)), vi (sc κ (i + 1)), vr 172, vi r] (ms false τ σ')
  refine G_scr ⟨by omega, by omega⟩ hn dL_law_1021 ?_
  show Go κ mL (eLw κ) 1022 (lL i) [vi (sc κ (i + 3)), vi (sc κ (i + 2)), vi (sc κ (i + 1)), vr 172, vi r] (ms false τ σ')
  rw [ms_sw]
  refine lwZ [vi (sc κ (i + 1)), vi (sc κ (i + 2)), vi (sc κ (i + 3))] [vi r] lk124 dL_law_1022 rfl rfl (Nat.le_of_ble_eq_true rfl) (k_Mo_table (sc κ (i + 1)) (sc κ (i + 2)) (sc κ (i + 3)) τ (scInR _) (scInR _) (scInR _) hp) e2 (fun hr hp' => ?_)
  show Go κ mL (eLw κ) 1025 (lL i) [vi r, vi r] (ms true σ' τ')
  refine G_icmp_eq dL_law_1025 ⟨hr, hr⟩ (tgt := 1329) (by decide) (fun _ => ?_) (fun z => absurd rfl z)
  rw [← ms_sw]
  exact K _ _ h' ho' hp'
theorem lc26 (hn : κ.2.2.2.2.2.1 ≤ 3072) (hi : 0 ≤ i ∧ i + 6 ≤ (κ.2.2.2.2.2.1 : Int)) (K : ∀ σ τ, Inv σ τ → okS σ → okS τ → Go κ mL (eLw κ) 1329 (lL i) [] (ms false τ σ)) (h : Inv σ τ) (ho : okS σ) (hp : okS τ) : Go κ mL (eLw κ) 1030 (lL i) [] (ms false τ σ) := by
  obtain ⟨r, e1, e2⟩ := p_rests h
  show Go κ mL (eLw κ) 1030 (lL i) [] (ms false τ σ)
  refine G_aload_n 1 rfl rfl dL_law_1030 ?_
  show Go κ mL (eLw κ) 1031 (lL i) [vr 0] (ms false τ σ)
  refine lwRI [] [] lk125 dL_law_1031 rfl rfl (Nat.le_of_ble_eq_true rfl) (k_Td_rests σ  ho) e1 (fun hr => ?_)
  show Go κ mL (eLw κ) 1034 (lL i) [vi r] (ms false τ σ)
  refine G_aload_n 2 rfl rfl dL_law_1034 ?_
  show Go κ mL (eLw κ) 1035 (lL i) [vr 172, vi r] (ms false τ σ)
  rw [ms_sw]
  refine lwRI [] [vi r] lk128 dL_law_1035 rfl rfl (Nat.le_of_ble_eq_true rfl) (k_Mo_rests τ  hp) e2 (fun hr => ?_)
  show Go κ mL (eLw κ) 1038 (lL i) [vi r, vi r] (ms true σ τ)
  refine G_icmp_eq dL_law_1038 ⟨hr, hr⟩ (tgt := 1329) (by decide) (fun _ => ?_) (fun z => absurd rfl z)
  rw [← ms_sw]
  exact K _ _ h ho hp
theorem lc27 (hn : κ.2.2.2.2.2.1 ≤ 3072) (hi : 0 ≤ i ∧ i + 6 ≤ (κ.2.2.2.2.2.1 : Int)) (K : ∀ σ τ, Inv σ τ → okS σ → okS τ → Go κ mL (eLw κ) 1329 (lL i) [] (ms false τ σ)) (h : Inv σ τ) (ho : okS σ) (hp : okS τ) : Go κ mL (eLw κ) 1043 (lL i) [] (ms false τ σ) := by
  obtain ⟨r, σ', τ', e1, e2, h'⟩ := p_deletes h (sc κ (i + 1)) (sc κ (i + 2)) (sc κ (i + 3))
  show Go κ mL (eLw κ) 1043 (lL i) [] (ms false τ σ)
  refine G_aload_n 1 rfl rfl dL_law_1043 ?_
  show Go κ mL (eLw κ) 1044 (lL i) [vr 0] (ms false τ σ)
  refine G_aload_n 0 rfl rfl dL_law_1044 ?_
  show Go κ mL (eLw κ) 1045 (lL i) [vr 1202, vr 0] (ms false τ σ)
  refine G_iload_n 3 rfl rfl dL_law_1045 ?_
  show Go κ mL (eLw κ) 1046 (lL i) [vi i, vr 1202, vr 0] (ms false τ σ)
  refine G_iconst dL_law_1046 ?_
  show Go κ mL (eLw κ) 1047 (lL i) [vi 1, vi i, vr 1202, vr 0] (ms false τ σ)
  refine G_iadd dL_law_1047 ?_
  show Go κ mL (eLw κ) 1048 (lL i) [vi (i + 1), vr 1202, vr 0] (ms false τ σ)
  refine G_scr ⟨by omega, by omega⟩ hn dL_law_1048 ?_
  show Go κ mL (eLw κ) 1049 (lL i) [vi (sc κ (i + 1)), vr 0] (ms false τ σ)
  refine G_aload_n 0 rfl rfl dL_law_1049 ?_
  show Go κ mL (eLw κ) 1050 (lL i) [vr 1202, vi (sc κ (i + 1)), vr 0] (ms false τ σ)
  refine G_iload_n 3 rfl rfl dL_law_1050 ?_
  show Go κ mL (eLw κ) 1051 (lL i) [vi i, vr 1202, vi (sc κ (i + 1)), vr 0] (ms false τ σ)
  refine G_iconst dL_law_1051 ?_
  show Go κ mL (eLw κ) 1052 (lL i) [vi 2, vi i, vr 1202, vi (sc κ (i + 1)), vr 0] (ms false τ σ)
  refine G_iadd dL_law_1052 ?_
  show Go κ mL (eLw κ) 1053 (lL i) [vi (i + 2), vr 1202, vi (sc κ (i + 1)), vr 0] (ms false τ σ)
  refine G_scr ⟨by omega, by omega⟩ hn dL_law_1053 ?_
  show Go κ mL (eLw κ) 1054 (lL i) [vi (sc κ (i + 2)), vi (sc κ (i + 1)), vr 0] (ms false τ σ)
  refine G_aload_n 0 rfl rfl dL_law_1054 ?_
  show Go κ mL (eLw κ) 1055 (lL i) [vr 1202, vi (sc κ (i + 2)), vi (sc κ (i + 1)), vr 0] (ms false τ σ)
  refine G_iload_n 3 rfl rfl dL_law_1055 ?_
  show Go κ mL (eLw κ) 1056 (lL i) [vi i, vr 1202, vi (sc κ (i + 2)), vi (sc κ (i + 1)), vr 0] (ms false τ σ)
  refine G_iconst dL_law_1056 ?_
  show Go κ mL (eLw κ) 1057 (lL i) [vi 3, vi i, vr 1202, vi (sc κ (i + 2)), vi (sc κ (i + 1)), vr 0] (ms false τ σ)
  refine G_iadd dL_law_1057 ?_
  show Go κ mL (eLw κ) 1058 (lL i) [vi (i + 3), vr 1202, vi (sc κ (i + 2)), vi (sc κ (i + 1)), vr 0] (ms false τ σ)
  refine G_scr ⟨by omega, by omega⟩ hn dL_law_1058 ?_
  show Go κ mL (eLw κ) 1059 (lL i) [vi (sc κ (i + 3)), vi (sc κ (i + 2)), vi (sc κ (i + 1)), vr 0] (ms false τ σ)
  refine lwI [vi (sc κ (i + 1)), vi (sc κ (i + 2)), vi (sc κ (i + 3))] [] lk129 dL_law_1059 rfl rfl (Nat.le_of_ble_eq_true rfl) (k_Td_deletes (sc κ (i + 1)) (sc κ (i + 2)) (sc κ (i + 3)) σ (scInR _) (scInR _) (scInR _) ho) e1 (fun hr ho' => ?_)
  show Go κ mL (eLw κ) 1062 (lL i) [vi r] (ms false τ σ')
  refine G_aload_n 2 rfl rfl dL_law_1062 ?_
  show Go κ mL (eLw κ) 1063 (lL i) [vr 172, vi r] (ms false τ σ')
  refine G_aload_n 0 rfl rfl dL_law_1063 ?_
  show Go κ mL (eLw κ) 1064 (lL i) [vr 1202, vr 172, vi r] (ms false τ σ')
  refine G_iload_n 3 rfl rfl dL_law_1064 ?_
  show Go κ mL (eLw κ) 1065 (lL i) [vi i, vr 1202, vr 172, vi r] (ms false τ σ')
  refine G_iconst dL_law_1065 ?_
  show Go κ mL (eLw κ) 1066 (lL i) [vi 1, vi i, vr 1202, vr 172, vi r] (ms false τ σ')
  refine G_iadd dL_law_1066 ?_
  show Go κ mL (eLw κ) 1067 (lL i) [vi (i + 1), vr 1202, vr 172, vi r] (ms false τ σ')
  refine G_scr ⟨by omega, by omega⟩ hn dL_law_1067 ?_
  show Go κ mL (eLw κ) 1068 (lL i) [vi (sc κ (i + 1)), vr 172, vi r] (ms false τ σ')
  refine G_aload_n 0 rfl rfl dL_law_1068 ?_
  show Go κ mL (eLw κ) 1069 (lL i) [vr 1202, vi (sc κ (i + 1)), vr 172, vi r] (ms false τ σ')
  refine G_iload_n 3 rfl rfl dL_law_1069 ?_
  show Go κ mL (eLw κ) 1070 (lL i) [vi i, vr 1202, vi (sc κ (i + 1)), vr 172, vi r] (ms false τ σ')
  refine G_iconst dL_law_1070 ?_
  show Go κ mL (eLw κ) 1071 (lL i) [vi 2, vi i, vr 1202, vi (sc κ (i + 1)), vr 172, vi r] (ms false τ σ')
  refine G_iadd dL_law_1071 ?_
  show Go κ mL (eLw κ) 1072 (lL i) [vi (i + 2), vr 1202, vi (sc κ (i + 1)), vr 172, vi r] (ms false τ σ')
  refine G_scr ⟨by omega, by omega⟩ hn dL_law_1072 ?_
  show Go κ mL (eLw κ) 1073 (lL i) [vi (sc κ (i + 2)), vi (sc κ (i + 1)), vr 172, vi r] (ms false τ σ')
  refine G_aload_n 0 rfl rfl dL_law_1073 ?_
  show Go κ mL (eLw κ) 1074 (lL i) [vr 1202, vi (sc κ (i + 2)), vi (sc κ (i + 1)), vr 172, vi r] (ms false τ σ')
  refine G_iload_n 3 rfl rfl dL_law_1074 ?_
  show Go κ mL (eLw κ) 1075 (lL i) [vi i, vr 1202, vi (sc κ (i + 2)), vi (sc κ (i + 1)), vr 172, vi r] (ms false τ σ')
  refine G_iconst dL_law_1075 ?_
  show Go κ mL (eLw κ) 1076 (lL i) [vi 3, vi i, vr 1202, vi (sc κ (i + 2)), vi (sc κ (i + 1)), vr 172, vi r] (ms false τ σ')
  refine G_iadd dL_law_1076 ?_
  show Go κ mL (eLw κ) 1077 (lL i) [vi (i + 3), vr 1202, vi (sc κ (i + 2)), vi (sc κ (i + 1)), vr 172, vi r] (ms false τ σ')
  refine G_scr ⟨by omega, by omega⟩ hn dL_law_1077 ?_
  show Go κ mL (eLw κ) 1078 (lL i) [vi (sc κ (i + 3)), vi (sc κ (i + 2)), vi (sc κ (i + 1)), vr 172, vi r] (ms false τ σ')
  rw [ms_sw]
  refine lwI [vi (sc κ (i + 1)), vi (sc κ (i + 2)), vi (sc κ (i + 3))] [vi r] lk132 dL_law_1078 rfl rfl (Nat.le_of_ble_eq_true rfl) (k_Mo_deletes (sc κ (i + 1)) (sc κ (i + 2)) (sc κ (i + 3)) τ (scInR _) (scInR _) (scInR _) hp) e2 (fun hr hp' => ?_)
  show Go κ mL (eLw κ) 1081 (lL i) [vi r, vi r] (ms true σ' τ')
  refine G_icmp_eq dL_law_1081 ⟨hr, hr⟩ (tgt := 1329) (by decide) (fun _ => ?_) (fun z => absurd rfl z)
  rw [← ms_sw]
  exact K _ _ h' ho' hp'
theorem lc28 (hn : κ.2.2.2.2.2.1 ≤ 3072) (hi : 0 ≤ i ∧ i + 6 ≤ (κ.2.2.2.2.2.1 : Int)) (K : ∀ σ τ, Inv σ τ → okS σ → okS τ → Go κ mL (eLw κ) 1329 (lL i) [] (ms false τ σ)) (h : Inv σ τ) (ho : okS σ) (hp : okS τ) : Go κ mL (eLw κ) 1086 (lL i) [] (ms false τ σ) := by
  obtain ⟨r, σ', τ', e1, e2, h'⟩ := p_thread h (sc κ (i + 1))
  show Go κ mL (eLw κ) 1086 (lL i) [] (ms false τ σ)
  refine G_aload_n 1 rfl rfl dL_law_1086 ?_
  show Go κ mL (eLw κ) 1087 (lL i) [vr 0] (ms false τ σ)
  refine G_aload_n 0 rfl rfl dL_law_1087 ?_
  show Go κ mL (eLw κ) 1088 (lL i) [vr 1202, vr 0] (ms false τ σ)
  refine G_iload_n 3 rfl rfl dL_law_1088 ?_
  show Go κ mL (eLw κ) 1089 (lL i) [vi i, vr 1202, vr 0] (ms false τ σ)
  refine G_iconst dL_law_1089 ?_
  show Go κ mL (eLw κ) 1090 (lL i) [vi 1, vi i, vr 1202, vr 0] (ms false τ σ)
  refine G_iadd dL_law_1090 ?_
  show Go κ mL (eLw κ) 1091 (lL i) [vi (i + 1), vr 1202, vr 0] (ms false τ σ)
  refine G_scr ⟨by omega, by omega⟩ hn dL_law_1091 ?_
  show Go κ mL (eLw κ) 1092 (lL i) [vi (sc κ (i + 1)), vr 0] (ms false τ σ)
  refine lwI [vi (sc κ (i + 1))] [] lk133 dL_law_1092 rfl rfl (Nat.le_of_ble_eq_true rfl) (k_Td_thread (sc κ (i + 1)) σ (scInR _) ho) e1 (fun hr ho' => ?_)
  show Go κ mL (eLw κ) 1095 (lL i) [vi r] (ms false τ σ')
  refine G_aload_n 2 rfl rfl dL_law_1095 ?_
  show Go κ mL (eLw κ) 1096 (lL i) [vr 172, vi r] (ms false τ σ')
  refine G_aload_n 0 rfl rfl dL_law_1096 ?_
  show Go κ mL (eLw κ) 1097 (lL i) [vr 1202, vr 172, vi r] (ms false τ σ')
  refine G_iload_n 3 rfl rfl dL_law_1097 ?_
  show Go κ mL (eLw κ) 1098 (lL i) [vi i, vr 1202, vr 172, vi r] (ms false τ σ')
  refine G_iconst dL_law_1098 ?_
  show Go κ mL (eLw κ) 1099 (lL i) [vi 1, vi i, vr 1202, vr 172, vi r] (ms false τ σ')
  refine G_iadd dL_law_1099 ?_
  show Go κ mL (eLw κ) 1100 (lL i) [vi (i + 1), vr 1202, vr 172, vi r] (ms false τ σ')
  refine G_scr ⟨by omega, by omega⟩ hn dL_law_1100 ?_
  show Go κ mL (eLw κ) 1101 (lL i) [vi (sc κ (i + 1)), vr 172, vi r] (ms false τ σ')
  rw [ms_sw]
  refine lwI [vi (sc κ (i + 1))] [vi r] lk136 dL_law_1101 rfl rfl (Nat.le_of_ble_eq_true rfl) (k_Mo_thread (sc κ (i + 1)) τ (scInR _) hp) e2 (fun hr hp' => ?_)
  show Go κ mL (eLw κ) 1104 (lL i) [vi r, vi r] (ms true σ' τ')
  refine G_icmp_eq dL_law_1104 ⟨hr, hr⟩ (tgt := 1329) (by decide) (fun _ => ?_) (fun z => absurd rfl z)
  rw [← ms_sw]
  exact K _ _ h' ho' hp'
theorem lc29 (hn : κ.2.2.2.2.2.1 ≤ 3072) (hi : 0 ≤ i ∧ i + 6 ≤ (κ.2.2.2.2.2.1 : Int)) (K : ∀ σ τ, Inv σ τ → okS σ → okS τ → Go κ mL (eLw κ) 1329 (lL i) [] (ms false τ σ)) (h : Inv σ τ) (ho : okS σ) (hp : okS τ) : Go κ mL (eLw κ) 1109 (lL i) [] (ms false τ σ) := by
  obtain ⟨r, e1, e2⟩ := p_crossed h
  show Go κ mL (eLw κ) 1109 (lL i) [] (ms false τ σ)
  refine G_aload_n 1 rfl rfl dL_law_1109 ?_
  show Go κ mL (eLw κ) 1110 (lL i) [vr 0] (ms false τ σ)
  refine lwRI [] [] lk137 dL_law_1110 rfl rfl (Nat.le_of_ble_eq_true rfl) (k_Td_crossed σ  ho) e1 (fun hr => ?_)
  show Go κ mL (eLw κ) 1113 (lL i) [vi r] (ms false τ σ)
  refine G_aload_n 2 rfl rfl dL_law_1113 ?_
  show Go κ mL (eLw κ) 1114 (lL i) [vr 172, vi r] (ms false τ σ)
  rw [ms_sw]
  refine lwRI [] [vi r] lk140 dL_law_1114 rfl rfl (Nat.le_of_ble_eq_true rfl) (k_Mo_crossed τ  hp) e2 (fun hr => ?_)
  show Go κ mL (eLw κ) 1117 (lL i) [vi r, vi r] (ms true σ τ)
  refine G_icmp_eq dL_law_1117 ⟨hr, hr⟩ (tgt := 1329) (by decide) (fun _ => ?_) (fun z => absurd rfl z)
  rw [← ms_sw]
  exact K _ _ h ho hp
theorem lc30 (hn : κ.2.2.2.2.2.1 ≤ 3072) (hi : 0 ≤ i ∧ i + 6 ≤ (κ.2.2.2.2.2.1 : Int)) (K : ∀ σ τ, Inv σ τ → okS σ → okS τ → Go κ mL (eLw κ) 1329 (lL i) [] (ms false τ σ)) (h : Inv σ τ) (ho : okS σ) (hp : okS τ) : Go κ mL (eLw κ) 1122 (lL i) [] (ms false τ σ) := by
  obtain ⟨r, e1, e2⟩ := p_awake h (sc κ (i + 1)) (sc κ (i + 2))
  show Go κ mL (eLw κ) 1122 (lL i) [] (ms false τ σ)
  refine G_aload_n 1 rfl rfl dL_law_1122 ?_
  show Go κ mL (eLw κ) 1123 (lL i) [vr 0] (ms false τ σ)
  refine G_aload_n 0 rfl rfl dL_law_1123 ?_
  show Go κ mL (eLw κ) 1124 (lL i) [vr 1202, vr 0] (ms false τ σ)
  refine G_iload_n 3 rfl rfl dL_law_1124 ?_
  show Go κ mL (eLw κ) 1125 (lL i) [vi i, vr 1202, vr 0] (ms false τ σ)
  refine G_iconst dL_law_1125 ?_
  show Go κ mL (eLw κ) 1126 (lL i) [vi 1, vi i, vr 1202, vr 0] (ms false τ σ)
  refine G_iadd dL_law_1126 ?_
  show Go κ mL (eLw κ) 1127 (lL i) [vi (i + 1), vr 1202, vr 0] (ms false τ σ)
  refine G_scr ⟨by omega, by omega⟩ hn dL_law_1127 ?_
  show Go κ mL (eLw κ) 1128 (lL i) [vi (sc κ (i + 1)), vr 0] (ms false τ σ)
  refine G_aload_n 0 rfl rfl dL_law_1128 ?_
  show Go κ mL (eLw κ) 1129 (lL i) [vr 1202, vi (sc κ (i + 1)), vr 0] (ms false τ σ)
  refine G_iload_n 3 rfl rfl dL_law_1129 ?_
  show Go κ mL (eLw κ) 1130 (lL i) [vi i, vr 1202, vi (sc κ (i + 1)), vr 0] (ms false τ σ)
  refine G_iconst dL_law_1130 ?_
  show Go κ mL (eLw κ) 1131 (lL i) [vi 2, vi i, vr 1202, vi (sc κ (i + 1)), vr 0] (ms false τ σ)
  refine G_iadd dL_law_1131 ?_
  show Go κ mL (eLw κ) 1132 (lL i) [vi (i + 2), vr 1202, vi (sc κ (i + 1)), vr 0] (ms false τ σ)
  refine G_scr ⟨by omega, by omega⟩ hn dL_law_1132 ?_
  show Go κ mL (eLw κ) 1133 (lL i) [vi (sc κ (i + 2)), vi (sc κ (i + 1)), vr 0] (ms false τ σ)
  refine lwRI [vi (sc κ (i + 1)), vi (sc κ (i + 2))] [] lk141 dL_law_1133 rfl rfl (Nat.le_of_ble_eq_true rfl) (k_Td_awake (sc κ (i + 1)) (sc κ (i + 2)) σ (scInR _) (scInR _) ho) e1 (fun hr => ?_)
  show Go κ mL (eLw κ) 1136 (lL i) [vi r] (ms false τ σ)
  refine G_aload_n 2 rfl rfl dL_law_1136 ?_
  show Go κ mL (eLw κ) 1137 (lL i) [vr 172, vi r] (ms false τ σ)
  refine G_aload_n 0 rfl rfl dL_law_1137 ?_
  show Go κ mL (eLw κ) 1138 (lL i) [vr 1202, vr 172, vi r] (ms false τ σ)
  refine G_iload_n 3 rfl rfl dL_law_1138 ?_
  show Go κ mL (eLw κ) 1139 (lL i) [vi i, vr 1202, vr 172, vi r] (ms false τ σ)
  refine G_iconst dL_law_1139 ?_
  show Go κ mL (eLw κ) 1140 (lL i) [vi 1, vi i, vr 1202, vr 172, vi r] (ms false τ σ)
  refine G_iadd dL_law_1140 ?_
  show Go κ mL (eLw κ) 1141 (lL i) [vi (i + 1), vr 1202, vr 172, vi r] (ms false τ σ)
  refine G_scr ⟨by omega, by omega⟩ hn dL_law_1141 ?_
  show Go κ mL (eLw κ) 1142 (lL i) [vi (sc κ (i + 1)), vr 172, vi r] (ms false τ σ)
  refine G_aload_n 0 rfl rfl dL_law_1142 ?_
  show Go κ mL (eLw κ) 1143 (lL i) [vr 1202, vi (sc κ (i + 1)), vr 172, vi r] (ms false τ σ)
  refine G_iload_n 3 rfl rfl dL_law_1143 ?_
  show Go κ mL (eLw κ) 1144 (lL i) [vi i, vr 1202, vi (sc κ (i + 1)), vr 172, vi r] (ms false τ σ)
  refine G_iconst dL_law_1144 ?_
  show Go κ mL (eLw κ) 1145 (lL i) [vi 2, vi i, vr 1202, vi (sc κ (i + 1)), vr 172, vi r] (ms false τ σ)
  refine G_iadd dL_law_1145 ?_
  show Go κ mL (eLw κ) 1146 (lL i) [vi (i + 2), vr 1202, vi (sc κ (i + 1)), vr 172, vi r] (ms false τ σ)
  refine G_scr ⟨by omega, by omega⟩ hn dL_law_1146 ?_
  show Go κ mL (eLw κ) 1147 (lL i) [vi (sc κ (i + 2)), vi (sc κ (i + 1)), vr 172, vi r] (ms false τ σ)
  rw [ms_sw]
  refine lwRI [vi (sc κ (i + 1)), vi (sc κ (i + 2))] [vi r] lk144 dL_law_1147 rfl rfl (Nat.le_of_ble_eq_true rfl) (k_Mo_awake (sc κ (i + 1)) (sc κ (i + 2)) τ (scInR _) (scInR _) hp) e2 (fun hr => ?_)
  show Go κ mL (eLw κ) 1150 (lL i) [vi r, vi r] (ms true σ τ)
  refine G_icmp_eq dL_law_1150 ⟨hr, hr⟩ (tgt := 1329) (by decide) (fun _ => ?_) (fun z => absurd rfl z)
  rw [← ms_sw]
  exact K _ _ h ho hp
theorem lc31 (hn : κ.2.2.2.2.2.1 ≤ 3072) (hi : 0 ≤ i ∧ i + 6 ≤ (κ.2.2.2.2.2.1 : Int)) (K : ∀ σ τ, Inv σ τ → okS σ → okS τ → Go κ mL (eLw κ) 1329 (lL i) [] (ms false τ σ)) (h : Inv σ τ) (ho : okS σ) (hp : okS τ) : Go κ mL (eLw κ) 1155 (lL i) [] (ms false τ σ) := by
  obtain ⟨r, σ', τ', e1, e2, h'⟩ := p_mirrors h (sc κ (i + 1)) (sc κ (i + 2))
  show Go κ mL (eLw κ) 1155 (lL i) [] (ms false τ σ)
  refine G_aload_n 1 rfl rfl dL_law_1155 ?_
  show Go κ mL (eLw κ) 1156 (lL i) [vr 0] (ms false τ σ)
  refine G_aload_n 0 rfl rfl dL_law_1156 ?_
  show Go κ mL (eLw κ) 1157 (lL i) [vr 1202, vr 0] (ms false τ σ)
  refine G_iload_n 3 rfl rfl dL_law_1157 ?_
  show Go κ mL (eLw κ) 1158 (lL i) [vi i, vr 1202, vr 0] (ms false τ σ)
  refine G_iconst dL_law_1158 ?_
  show Go κ mL (eLw κ) 1159 (lL i) [vi 1, vi i, vr 1202, vr 0] (ms false τ σ)
  refine G_iadd dL_law_1159 ?_
  show Go κ mL (eLw κ) 1160 (lL i) [vi (i + 1), vr 1202, vr 0] (ms false τ σ)
  refine G_scr ⟨by omega, by omega⟩ hn dL_law_1160 ?_
  show Go κ mL (eLw κ) 1161 (lL i) [vi (sc κ (i + 1)), vr 0] (ms false τ σ)
  refine G_aload_n 0 rfl rfl dL_law_1161 ?_
  show Go κ mL (eLw κ) 1162 (lL i) [vr 1202, vi (sc κ (i + 1)), vr 0] (ms false τ σ)
  refine G_iload_n 3 rfl rfl dL_law_1162 ?_
  show Go κ mL (eLw κ) 1163 (lL i) [vi i, vr 1202, vi (sc κ (i + 1)), vr 0] (ms false τ σ)
  refine G_iconst dL_law_1163 ?_
  show Go κ mL (eLw κ) 1164 (lL i) [vi 2, vi i, vr 1202, vi (sc κ (i + 1)), vr 0] (ms false τ σ)
  refine G_iadd dL_law_1164 ?_
  show Go κ mL (eLw κ) 1165 (lL i) [vi (i + 2), vr 1202, vi (sc κ (i + 1)), vr 0] (ms false τ σ)
  refine G_scr ⟨by omega, by omega⟩ hn dL_law_1165 ?_
  show Go κ mL (eLw κ) 1166 (lL i) [vi (sc κ (i + 2)), vi (sc κ (i + 1)), vr 0] (ms false τ σ)
  refine lwI [vi (sc κ (i + 1)), vi (sc κ (i + 2))] [] lk145 dL_law_1166 rfl rfl (Nat.le_of_ble_eq_true rfl) (k_Td_mirrors (sc κ (i + 1)) (sc κ (i + 2)) σ (scInR _) (scInR _) ho) e1 (fun hr ho' => ?_)
  show Go κ mL (eLw κ) 1169 (lL i) [vi r] (ms false τ σ')
  refine G_aload_n 2 rfl rfl dL_law_1169 ?_
  show Go κ mL (eLw κ) 1170 (lL i) [vr 172, vi r] (ms false τ σ')
  refine G_aload_n 0 rfl rfl dL_law_1170 ?_
  show Go κ mL (eLw κ) 1171 (lL i) [vr 1202, vr 172, vi r] (ms false τ σ')
  refine G_iload_n 3 rfl rfl dL_law_1171 ?_
  show Go κ mL (eLw κ) 1172 (lL i) [vi i, vr 1202, vr 172, vi r] (ms false τ σ')
  refine G_iconst dL_law_1172 ?_
  show Go κ mL (eLw κ) 1173 (lL i) [vi 1, vi i, vr 1202, vr 172, vi r] (ms false τ σ')
  refine G_iadd dL_law_1173 ?_
  show Go κ mL (eLw κ) 1174 (lL i) [vi (i + 1), vr 1202, vr 172, vi r] (ms false τ σ')
  refine G_scr ⟨by omega, by omega⟩ hn dL_law_1174 ?_
  show Go κ mL (eLw κ) 1175 (lL i) [vi (sc κ (i + 1)), vr 172, vi r] (ms false τ σ')
  refine G_aload_n 0 rfl rfl dL_law_1175 ?_
  show Go κ mL (eLw κ) 1176 (lL i) [vr 1202, vi (sc κ (i + 1)), vr 172, vi r] (ms false τ σ')
  refine G_iload_n 3 rfl rfl dL_law_1176 ?_
  show Go κ mL (eLw κ) 1177 (lL i) [vi i, vr 1202, vi (sc κ (i + 1)), vr 172, vi r] (ms false τ σ')
  refine G_iconst dL_law_1177 ?_
  show Go κ mL (eLw κ) 1178 (lL i) [vi 2, vi i, vr 1202, vi (sc κ (i + 1)), vr 172, vi r] (ms false τ σ')
  refine G_iadd dL_law_1178 ?_
  show Go κ mL (eLw κ) 1179 (lL i) [vi (i + 2), vr 1202, vi (sc κ (i + 1)), vr 172, vi r] (ms false τ σ')
  refine G_scr ⟨by omega, by omega⟩ hn dL_law_1179 ?_
  show Go κ mL (eLw κ) 1180 (lL i) [vi (sc κ (i + 2)), vi (sc κ (i + 1)), vr 172, vi r] (ms false τ σ')
  rw [ms_sw]
  refine lwI [vi (sc κ (i + 1)), vi (sc κ (i + 2))] [vi r] lk148 dL_law_1180 rfl rfl (Nat.le_of_ble_eq_true rfl) (k_Mo_mirrors (sc κ (i + 1)) (sc κ (i + 2)) τ (scInR _) (scInR _) hp) e2 (fun hr hp' => ?_)
  show Go κ mL (eLw κ) 1183 (lL i) [vi r, vi r] (ms true σ' τ')
  refine G_icmp_eq dL_law_1183 ⟨hr, hr⟩ (tgt := 1329) (by decide) (fun _ => ?_) (fun z => absurd rfl z)
  rw [← ms_sw]
  exact K _ _ h' ho' hp'
theorem lc32 (hn : κ.2.2.2.2.2.1 ≤ 3072) (hi : 0 ≤ i ∧ i + 6 ≤ (κ.2.2.2.2.2.1 : Int)) (K : ∀ σ τ, Inv σ τ → okS σ → okS τ → Go κ mL (eLw κ) 1329 (lL i) [] (ms false τ σ)) (h : Inv σ τ) (ho : okS σ) (hp : okS τ) : Go κ mL (eLw κ) 1188 (lL i) [] (ms false τ σ) := by
  obtain ⟨r, σ', τ', e1, e2, h'⟩ := p_ease h (sc κ (i + 1)) (sc κ (i + 2)) (sc κ (i + 3))
  show Go κ mL (eLw κ) 1188 (lL i) [] (ms false τ σ)
  refine G_aload_n 1 rfl rfl dL_law_1188 ?_
  show Go κ mL (eLw κ) 1189 (lL i) [vr 0] (ms false τ σ)
  refine G_aload_n 0 rfl rfl dL_law_1189 ?_
  show Go κ mL (eLw κ) 1190 (lL i) [vr 1202, vr 0] (ms false τ σ)
  refine G_iload_n 3 rfl rfl dL_law_1190 ?_
  show Go κ mL (eLw κ) 1191 (lL i) [vi i, vr 1202, vr 0] (ms false τ σ)
  refine G_iconst dL_law_1191 ?_
  show Go κ mL (eLw κ) 1192 (lL i) [vi 1, vi i, vr 1202, vr 0] (ms false τ σ)
  refine G_iadd dL_law_1192 ?_
  show Go κ mL (eLw κ) 1193 (lL i) [vi (i + 1), vr 1202, vr 0] (ms false τ σ)
  refine G_scr ⟨by omega, by omega⟩ hn dL_law_1193 ?_
  show Go κ mL (eLw κ) 1194 (lL i) [vi (sc κ (i + 1)), vr 0] (ms false τ σ)
  refine G_aload_n 0 rfl rfl dL_law_1194 ?_
  show Go κ mL (eLw κ) 1195 (lL i) [vr 1202, vi (sc κ (i + 1)), vr 0] (ms false τ σ)
  refine G_iload_n 3 rfl rfl dL_law_1195 ?_
  show Go κ mL (eLw κ) 1196 (lL i) [vi i, vr 1202, vi (sc κ (i + 1)), vr 0] (ms false τ σ)
  refine G_iconst dL_law_1196 ?_
  show Go κ mL (eLw κ) 1197 (lL i) [vi 2, vi i, vr 1202, vi (sc κ (i + 1)), vr 0] (ms false τ σ)
  refine G_iadd dL_law_1197 ?_
  show Go κ mL (eLw κ) 1198 (lL i) [vi (i + 2), vr 1202, vi (sc κ (i + 1)), vr 0] (ms false τ σ)
  refine G_scr ⟨by omega, by omega⟩ hn dL_law_1198 ?_
  show Go κ mL (eLw κ) 1199 (lL i) [vi (sc κ (i + 2)), vi (sc κ (i + 1)), vr 0] (ms false τ σ)
  refine G_aload_n 0 rfl rfl dL_law_1199 ?_
  show Go κ mL (eLw κ) 1200 (lL i) [vr 1202, vi (sc κ (i + 2)), vi (sc κ (i + 1)), vr 0] (ms false τ σ)
  refine G_iload_n 3 rfl rfl dL_law_1200 ?_
  show Go κ mL (eLw κ) 1201 (lL i) [vi i, vr 1202, vi (sc κ (i + 2)), vi (sc κ (i + 1)), vr 0] (ms false τ σ)
  refine G_iconst dL_law_1201 ?_
  show Go κ mL (eLw κ) 1202 (lL i) [vi 3, vi i, vr 1202, vi (sc κ (i + 2)), vi (sc κ (i + 1)), vr 0] (ms false τ σ)
  refine G_iadd dL_law_1202 ?_
  show Go κ mL (eLw κ) 1203 (lL i) [vi (i + 3), vr 1202, vi (sc κ (i + 2)), vi (sc κ (i + 1)), vr 0] (ms false τ σ)
  refine G_scr ⟨by omega, by omega⟩ hn dL_law_1203 ?_
  show Go κ mL (eLw κ) 1204 (lL i) [vi (sc κ (i + 3)), vi (sc κ (i + 2)), vi (sc κ (i + 1)), vr 0] (ms false τ σ)
  refine lwI [vi (sc κ (i + 1)), vi (sc κ (i + 2)), vi (sc κ (i + 3))] [] lk149 dL_law_1204 rfl rfl (Nat.le_of_ble_eq_true rfl) (k_Td_ease (sc κ (i + 1)) (sc κ (i + 2)) (sc κ (i + 3)) σ (scInR _) (scInR _) (scInR _) ho) e1 (fun hr ho' => ?_)
  show Go κ mL (eLw κ) 1207 (lL i) [vi r] (ms false τ σ')
  refine G_aload_n 2 rfl rfl dL_law_1207 ?_
  show Go κ mL (eLw κ) 1208 (lL i) [vr 172, vi r] (ms false τ σ')
  refine G_aload_n 0 rfl rfl dL_law_1208 ?_
  show Go κ mL (eLw κ) 1209 (lL i) [vr 1202, vr 172, vi r] (ms false τ σ')
  refine G_iload_n 3 rfl rfl dL_law_1209 ?_
  show Go κ mL (eLw κ) 1210 (lL i) [vi i, vr 1202, vr 172, vi r] (ms false τ σ')
  refine G_iconst dL_law_1210 ?_
  show Go κ mL (eLw κ) 1211 (lL i) [vi 1, vi i, vr 1202, vr 172, vi r] (ms false τ σ')
  refine G_iadd dL_law_1211 ?_
  show Go κ mL (eLw κ) 1212 (lL i) [vi (i + 1), vr 1202, vr 172, vi r] (ms false τ σ')
  refine G_scr ⟨by omega, by omega⟩ hn dL_law_1212 ?_
  show Go κ mL (eLw κ) 1213 (lL i) [vi (sc κ (i + 1)), vr 172, vi r] (ms false τ σ')
  refine G_aload_n 0 rfl rfl dL_law_1213 ?_
  show Go κ mL (eLw κ) 1214 (lL i) [vr 1202, vi (sc κ (i + 1)), vr 172, vi r] (ms false τ σ')
  refine G_iload_n 3 rfl rfl dL_law_1214 ?_
  show Go κ mL (eLw κ) 1215 (lL i) [vi i, vr 1202, vi (sc κ (i + 1)), vr 172, vi r] (ms false τ σ')
  refine G_iconst dL_law_1215 ?_
  show Go κ mL (eLw κ) 1216 (lL i) [vi 2, vi i, vr 1202, vi (sc κ (i + 1)), vr 172, vi r] (ms false τ σ')
  refine G_iadd dL_law_1216 ?_
  show Go κ mL (eLw κ) 1217 (lL i) [vi (i + 2), vr 1202, vi (sc κ (i + 1)), vr 172, vi r] (ms false τ σ')
  refine G_scr ⟨by omega, by omega⟩ hn dL_law_1217 ?_
  show Go κ mL (eLw κ) 1218 (lL i) [vi (sc κ (i + 2)), vi (sc κ (i + 1)), vr 172, vi r] (ms false τ σ')
  refine G_aload_n 0 rfl rfl dL_law_1218 ?_
  show Go κ mL (eLw κ) 1219 (lL i) [vr 1202, vi (sc κ (i + 2)), vi (sc κ (i + 1)), vr 172, vi r] (ms false τ σ')
  refine G_iload_n 3 rfl rfl dL_law_1219 ?_
  show Go κ mL (eLw κ) 1220 (lL i) [vi i, vr 1202, vi (sc κ (i + 2)), vi (sc κ (i + 1)), vr 172, vi r] (ms false τ σ')
  refine G_iconst dL_law_1220 ?_
  show Go κ mL (eLw κ) 1221 (lL i) [vi 3, vi i, vr 1202, vi (sc κ (i + 2)), vi (sc κ (i + 1)), vr 172, vi r] (ms false τ σ')
  refine G_iadd dL_law_1221 ?_
  show Go κ mL (eLw κ) 1222 (lL i) [vi (i + 3), vr 1202, vi (sc κ (i + 2)), vi (sc κ (i + 1)), vr 172, vi r] (ms false τ σ')
  refine G_scr ⟨by omega, by omega⟩ hn dL_law_1222 ?_
  show Go κ mL (eLw κ) 1223 (lL i) [vi (sc κ (i + 3)), vi (sc κ (i + 2)), vi (sc κ (i + 1)), vr 172, vi r] (ms false τ σ')
  rw [ms_sw]
  refine lwI [vi (sc κ (i + 1)), vi (sc κ (i + 2)), vi (sc κ (i + 3))] [vi r] lk152 dL_law_1223 rfl rfl (Nat.le_of_ble_eq_true rfl) (k_Mo_ease (sc κ (i + 1)) (sc κ (i + 2)) (sc κ (i + 3)) τ (scInR _) (scInR _) (scInR _) hp) e2 (fun hr hp' => ?_)
  show Go κ mL (eLw κ) 1226 (lL i) [vi r, vi r] (ms true σ' τ')
  refine G_icmp_eq dL_law_1226 ⟨hr, hr⟩ (tgt := 1329) (by decide) (fun _ => ?_) (fun z => absurd rfl z)
  rw [← ms_sw]
  exact K _ _ h' ho' hp'
theorem lc33 (hn : κ.2.2.2.2.2.1 ≤ 3072) (hi : 0 ≤ i ∧ i + 6 ≤ (κ.2.2.2.2.2.1 : Int)) (K : ∀ σ τ, Inv σ τ → okS σ → okS τ → Go κ mL (eLw κ) 1329 (lL i) [] (ms false τ σ)) (h : Inv σ τ) (ho : okS σ) (hp : okS τ) : Go κ mL (eLw κ) 1231 (lL i) [] (ms false τ σ) := by
  obtain ⟨r, σ', τ', e1, e2, h'⟩ := p_split h (sc κ (i + 1))
  show Go κ mL (eLw κ) 1231 (lL i) [] (ms false τ σ)
  refine G_aload_n 1 rfl rfl dL_law_1231 ?_
  show Go κ mL (eLw κ) 1232 (lL i) [vr 0] (ms false τ σ)
  refine G_aload_n 0 rfl rfl dL_law_1232 ?_
  show Go κ mL (eLw κ) 1233 (lL i) [vr 1202, vr 0] (ms false τ σ)
  refine G_iload_n 3 rfl rfl dL_law_1233 ?_
  show Go κ mL (eLw κ) 1234 (lL i) [vi i, vr 1202, vr 0] (ms false τ σ)
  refine G_iconst dL_law_1234 ?_
  show Go κ mL (eLw κ) 1235 (lL i) [vi 1, vi i, vr 1202, vr 0] (ms false τ σ)
  refine G_iadd dL_law_1235 ?_
  show Go κ mL (eLw κ) 1236 (lL i) [vi (i + 1), vr 1202, vr 0] (ms false τ σ)
  refine G_scr ⟨by omega, by omega⟩ hn dL_law_1236 ?_
  show Go κ mL (eLw κ) 1237 (lL i) [vi (sc κ (i + 1)), vr 0] (ms false τ σ)
  refine lwI [vi (sc κ (i + 1))] [] lk153 dL_law_1237 rfl rfl (Nat.le_of_ble_eq_true rfl) (k_Td_split (sc κ (i + 1)) σ (scInR _) ho) e1 (fun hr ho' => ?_)
  show Go κ mL (eLw κ) 1240 (lL i) [vi r] (ms false τ σ')
  refine G_aload_n 2 rfl rfl dL_law_1240 ?_
  show Go κ mL (eLw κ) 1241 (lL i) [vr 172, vi r] (ms false τ σ')
  refine G_aload_n 0 rfl rfl dL_law_1241 ?_
  show Go κ mL (eLw κ) 1242 (lL i) [vr 1202, vr 172, vi r] (ms false τ σ')
  refine G_iload_n 3 rfl rfl dL_law_1242 ?_
  show Go κ mL (eLw κ) 1243 (lL i) [vi i, vr 1202, vr 172, vi r] (ms false τ σ')
  refine G_iconst dL_law_1243 ?_
  show Go κ mL (eLw κ) 1244 (lL i) [vi 1, vi i, vr 1202, vr 172, vi r] (ms false τ σ')
  refine G_iadd dL_law_1244 ?_
  show Go κ mL (eLw κ) 1245 (lL i) [vi (i + 1), vr 1202, vr 172, vi r] (ms false τ σ')
  refine G_scr ⟨by omega, by omega⟩ hn dL_law_1245 ?_
  show Go κ mL (eLw κ) 1246 (lL i) [vi (sc κ (i + 1)), vr 172, vi r] (ms false τ σ')
  rw [ms_sw]
  refine lwI [vi (sc κ (i + 1))] [vi r] lk156 dL_law_1246 rfl rfl (Nat.le_of_ble_eq_true rfl) (k_Mo_split (sc κ (i + 1)) τ (scInR _) hp) e2 (fun hr hp' => ?_)
  show Go κ mL (eLw κ) 1249 (lL i) [vi r, vi r] (ms true σ' τ')
  refine G_icmp_eq dL_law_1249 ⟨hr, hr⟩ (tgt := 1329) (by decide) (fun _ => ?_) (fun z => absurd rfl z)
  rw [← ms_sw]
  exact K _ _ h' ho' hp'
theorem lc34 (hn : κ.2.2.2.2.2.1 ≤ 3072) (hi : 0 ≤ i ∧ i + 6 ≤ (κ.2.2.2.2.2.1 : Int)) (K : ∀ σ τ, Inv σ τ → okS σ → okS τ → Go κ mL (eLw κ) 1329 (lL i) [] (ms false τ σ)) (h : Inv σ τ) (ho : okS σ) (hp : okS τ) : Go κ mL (eLw κ) 1254 (lL i) [] (ms false τ σ) := by
  obtain ⟨r, σ', τ', e1, e2, h'⟩ := p_undo h
  show Go κ mL (eLw κ) 1254 (lL i) [] (ms false τ σ)
  refine G_aload_n 1 rfl rfl dL_law_1254 ?_
  show Go κ mL (eLw κ) 1255 (lL i) [vr 0] (ms false τ σ)
  refine lwZ [] [] lk157 dL_law_1255 rfl rfl (Nat.le_of_ble_eq_true rfl) (k_Td_undo σ  ho) e1 (fun hr ho' => ?_)
  show Go κ mL (eLw κ) 1258 (lL i) [vi r] (ms false τ σ')
  refine G_aload_n 2 rfl rfl dL_law_1258 ?_
  show Go κ mL (eLw κ) 1259 (lL i) [vr 172, vi r] (ms false τ σ')
  rw [ms_sw]
  refine lwZ [] [vi r] lk161 dL_law_1259 rfl rfl (Nat.le_of_ble_eq_true rfl) (k_Mo_undo τ  hp) e2 (fun hr hp' => ?_)
  show Go κ mL (eLw κ) 1262 (lL i) [vi r, vi r] (ms true σ' τ')
  refine G_icmp_eq dL_law_1262 ⟨hr, hr⟩ (tgt := 1329) (by decide) (fun _ => ?_) (fun z => absurd rfl z)
  rw [← ms_sw]
  exact K _ _ h' ho' hp'
theorem lc35_1 (hn : κ.2.2.2.2.2.1 ≤ 3072) (hi : 0 ≤ i ∧ i + 6 ≤ (κ.2.2.2.2.2.1 : Int)) (hz : ¬ sc κ (i + 1) = 0) (K : ∀ σ τ, Inv σ τ → okS σ → okS τ → Go κ mL (eLw κ) 1329 (lL i) [] (ms false τ σ)) (h : Inv σ τ) (ho : okS σ) (hp : okS τ) : Go κ mL (eLw κ) 1267 (lL i) [] (ms false τ σ) := by
  obtain ⟨r, σ', τ', e1, e2, h'⟩ := p_image h 1
  show Go κ mL (eLw κ) 1267 (lL i) [] (ms false τ σ)
  refine G_aload_n 1 rfl rfl dL_law_1267 ?_
  show Go κ mL (eLw κ) 1268 (lL i) [vr 0] (ms false τ σ)
  refine G_aload_n 0 rfl rfl dL_law_1268 ?_
  show Go κ mL (eLw κ) 1269 (lL i) [vr 1202, vr 0] (ms false τ σ)
  refine G_iload_n 3 rfl rfl dL_law_1269 ?_
  show Go κ mL (eLw κ) 1270 (lL i) [vi i, vr 1202, vr 0] (ms false τ σ)
  refine G_iconst dL_law_1270 ?_
  show Go κ mL (eLw κ) 1271 (lL i) [vi 1, vi i, vr 1202, vr 0] (ms false τ σ)
  refine G_iadd dL_law_1271 ?_
  show Go κ mL (eLw κ) 1272 (lL i) [vi (i + 1), vr 1202, vr 0] (ms false τ σ)
  refine G_scr ⟨by omega, by omega⟩ hn dL_law_1272 ?_
  show Go κ mL (eLw κ) 1273 (lL i) [vi (sc κ (i + 1)), vr 0] (ms false τ σ)
  refine G_if_eq dL_law_1273 (scInR _) (tgt := 1280) (by decide) (fun z => absurd z hz) (fun _ => ?_)
  show Go κ mL (eLw κ) 1276 (lL i) [vr 0] (ms false τ σ)
  refine G_iconst dL_law_1276 ?_
  show Go κ mL (eLw κ) 1277 (lL i) [vi 1, vr 0] (ms false τ σ)
  refine G_goto dL_law_1277 (tgt := 1281) (by decide) ?_
  show Go κ mL (eLw κ) 1281 (lL i) [vi 1, vr 0] (ms false τ σ)
  refine lwZ [vi 1] [] lk162 dL_law_1281 rfl rfl (Nat.le_of_ble_eq_true rfl) (k_Td_image 1 σ (inRk 1 rfl) ho) e1 (fun hr ho' => ?_)
  show Go κ mL (eLw κ) 1284 (lL i) [vi r] (ms false τ σ')
  refine G_aload_n 2 rfl rfl dL_law_1284 ?_
  show Go κ mL (eLw κ) 1285 (lL i) [vr 172, vi r] (ms false τ σ')
  refine G_aload_n 0 rfl rfl dL_law_1285 ?_
  show Go κ mL (eLw κ) 1286 (lL i) [vr 1202, vr 172, vi r] (ms false τ σ')
  refine G_iload_n 3 rfl rfl dL_law_1286 ?_
  show Go κ mL (eLw κ) 1287 (lL i) [vi i, vr 1202, vr 172, vi r] (ms false τ σ')
  refine G_iconst dL_law_1287 ?_
  show Go κ mL (eLw κ) 1288 (lL i) [vi 1, vi i, vr 1202, vr 172, vi r] (ms false τ σ')
  refine G_iadd dL_law_1288 ?_
  show Go κ mL (eLw κ) 1289 (lL i) [vi (i + 1), vr 1202, vr 172, vi r] (ms false τ σ')
  refine G_scr ⟨by omega, by omega⟩ hn dL_law_1289 ?_
  show Go κ mL (eLw κ) 1290 (lL i) [vi (sc κ (i + 1)), vr 172, vi r] (ms false τ σ')
  refine G_if_eq dL_law_1290 (scInR _) (tgt := 1297) (by decide) (fun z => absurd z hz) (fun _ => ?_)
  show Go κ mL (eLw κ) 1293 (lL i) [vr 172, vi r] (ms false τ σ')
  refine G_iconst dL_law_1293 ?_
  show Go κ mL (eLw κ) 1294 (lL i) [vi 1, vr 172, vi r] (ms false τ σ')
  refine G_goto dL_law_1294 (tgt := 1298) (by decide) ?_
  show Go κ mL (eLw κ) 1298 (lL i) [vi 1, vr 172, vi r] (ms false τ σ')
  rw [ms_sw]
  refine lwZ [vi 1] [vi r] lk166 dL_law_1298 rfl rfl (Nat.le_of_ble_eq_true rfl) (k_Mo_image 1 τ (inRk 1 rfl) hp) e2 (fun hr hp' => ?_)
  show Go κ mL (eLw κ) 1301 (lL i) [vi r, vi r] (ms true σ' τ')
  refine G_icmp_eq dL_law_1301 ⟨hr, hr⟩ (tgt := 1329) (by decide) (fun _ => ?_) (fun z => absurd rfl z)
  rw [← ms_sw]
  exact K _ _ h' ho' hp'
theorem lc35_0 (hn : κ.2.2.2.2.2.1 ≤ 3072) (hi : 0 ≤ i ∧ i + 6 ≤ (κ.2.2.2.2.2.1 : Int)) (hz : sc κ (i + 1) = 0) (K : ∀ σ τ, Inv σ τ → okS σ → okS τ → Go κ mL (eLw κ) 1329 (lL i) [] (ms false τ σ)) (h : Inv σ τ) (ho : okS σ) (hp : okS τ) : Go κ mL (eLw κ) 1267 (lL i) [] (ms false τ σ) := by
  obtain ⟨r, σ', τ', e1, e2, h'⟩ := p_image h 0
  show Go κ mL (eLw κ) 1267 (lL i) [] (ms false τ σ)
  refine G_aload_n 1 rfl rfl dL_law_1267 ?_
  show Go κ mL (eLw κ) 1268 (lL i) [vr 0] (ms false τ σ)
  refine G_aload_n 0 rfl rfl dL_law_1268 ?_
  show Go κ mL (eLw κ) 1269 (lL i) [vr 1202, vr 0] (ms false τ σ)
  refine G_iload_n 3 rfl rfl dL_law_1269 ?_
  show Go κ mL (eLw κ) 1270 (lL i) [vi i, vr 1202, vr 0] (ms false τ σ)
  refine G_iconst dL_law_1270 ?_
  show Go κ mL (eLw κ) 1271 (lL i) [vi 1, vi i, vr 1202, vr 0] (ms false τ σ)
  refine G_iadd dL_law_1271 ?_
  show Go κ mL (eLw κ) 1272 (lL i) [vi (i + 1), vr 1202, vr 0] (ms false τ σ)
  refine G_scr ⟨by omega, by omega⟩ hn dL_law_1272 ?_
  show Go κ mL (eLw κ) 1273 (lL i) [vi (sc κ (i + 1)), vr 0] (ms false τ σ)
  refine G_if_eq dL_law_1273 (scInR _) (tgt := 1280) (by decide) (fun _ => ?_) (fun z => absurd hz z)
  show Go κ mL (eLw κ) 1280 (lL i) [vr 0] (ms false τ σ)
  refine G_iconst dL_law_1280 ?_
  show Go κ mL (eLw κ) 1281 (lL i) [vi 0, vr 0] (ms false τ σ)
  refine lwZ [vi 0] [] lk162 dL_law_1281 rfl rfl (Nat.le_of_ble_eq_true rfl) (k_Td_image 0 σ (inRk 0 rfl) ho) e1 (fun hr ho' => ?_)
  show Go κ mL (eLw κ) 1284 (lL i) [vi r] (ms false τ σ')
  refine G_aload_n 2 rfl rfl dL_law_1284 ?_
  show Go κ mL (eLw κ) 1285 (lL i) [vr 172, vi r] (ms false τ σ')
  refine G_aload_n 0 rfl rfl dL_law_1285 ?_
  show Go κ mL (eLw κ) 1286 (lL i) [vr 1202, vr 172, vi r] (ms false τ σ')
  refine G_iload_n 3 rfl rfl dL_law_1286 ?_
  show Go κ mL (eLw κ) 1287 (lL i) [vi i, vr 1202, vr 172, vi r] (ms false τ σ')
  refine G_iconst dL_law_1287 ?_
  show Go κ mL (eLw κ) 1288 (lL i) [vi 1, vi i, vr 1202, vr 172, vi r] (ms false τ σ')
  refine G_iadd dL_law_1288 ?_
  show Go κ mL (eLw κ) 1289 (lL i) [vi (i + 1), vr 1202, vr 172, vi r] (ms false τ σ')
  refine G_scr ⟨by omega, by omega⟩ hn dL_law_1289 ?_
  show Go κ mL (eLw κ) 1290 (lL i) [vi (sc κ (i + 1)), vr 172, vi r] (ms false τ σ')
  refine G_if_eq dL_law_1290 (scInR _) (tgt := 1297) (by decide) (fun _ => ?_) (fun z => absurd hz z)
  show Go κ mL (eLw κ) 1297 (lL i) [vr 172, vi r] (ms false τ σ')
  refine G_iconst dL_law_1297 ?_
  show Go κ mL (eLw κ) 1298 (lL i) [vi 0, vr 172, vi r] (ms false τ σ')
  rw [ms_sw]
  refine lwZ [vi 0] [vi r] lk166 dL_law_1298 rfl rfl (Nat.le_of_ble_eq_true rfl) (k_Mo_image 0 τ (inRk 0 rfl) hp) e2 (fun hr hp' => ?_)
  show Go κ mL (eLw κ) 1301 (lL i) [vi r, vi r] (ms true σ' τ')
  refine G_icmp_eq dL_law_1301 ⟨hr, hr⟩ (tgt := 1329) (by decide) (fun _ => ?_) (fun z => absurd rfl z)
  rw [← ms_sw]
  exact K _ _ h' ho' hp'
theorem lc35 (hn : κ.2.2.2.2.2.1 ≤ 3072) (hi : 0 ≤ i ∧ i + 6 ≤ (κ.2.2.2.2.2.1 : Int)) (K : ∀ σ τ, Inv σ τ → okS σ → okS τ → Go κ mL (eLw κ) 1329 (lL i) [] (ms false τ σ)) (h : Inv σ τ) (ho : okS σ) (hp : okS τ) : Go κ mL (eLw κ) 1267 (lL i) [] (ms false τ σ) := by
  by_cases hz : sc κ (i + 1) = 0
  · exact lc35_0 hn hi hz K h ho hp
  · exact lc35_1 hn hi hz K h ho hp
theorem lc36 (hn : κ.2.2.2.2.2.1 ≤ 3072) (hi : 0 ≤ i ∧ i + 6 ≤ (κ.2.2.2.2.2.1 : Int)) (K : ∀ σ τ, Inv σ τ → okS σ → okS τ → Go κ mL (eLw κ) 1329 (lL i) [] (ms false τ σ)) (h : Inv σ τ) (ho : okS σ) (hp : okS τ) : Go κ mL (eLw κ) 1306 (lL i) [] (ms false τ σ) := by
  obtain ⟨r, e1, e2⟩ := p_look h (sc κ (i + 1))
  show Go κ mL (eLw κ) 1306 (lL i) [] (ms false τ σ)
  refine G_aload_n 1 rfl rfl dL_law_1306 ?_
  show Go κ mL (eLw κ) 1307 (lL i) [vr 0] (ms false τ σ)
  refine G_aload_n 0 rfl rfl dL_law_1307 ?_
  show Go κ mL (eLw κ) 1308 (lL i) [vr 1202, vr 0] (ms false τ σ)
  refine G_iload_n 3 rfl rfl dL_law_1308 ?_
  show Go κ mL (eLw κ) 1309 (lL i) [vi i, vr 1202, vr 0] (ms false τ σ)
  refine G_iconst dL_law_1309 ?_
  show Go κ mL (eLw κ) 1310 (lL i) [vi 1, vi i, vr 1202, vr 0] (ms false τ σ)
  refine G_iadd dL_law_1310 ?_
  show Go κ mL (eLw κ) 1311 (lL i) [vi (i + 1), vr 1202, vr 0] (ms false τ σ)
  refine G_scr ⟨by omega, by omega⟩ hn dL_law_1311 ?_
  show Go κ mL (eLw κ) 1312 (lL i) [vi (sc κ (i + 1)), vr 0] (ms false τ σ)
  refine lwRI [vi (sc κ (i + 1))] [] lk167 dL_law_1312 rfl rfl (Nat.le_of_ble_eq_true rfl) (k_Td_look (sc κ (i + 1)) σ (scInR _) ho) e1 (fun hr => ?_)
  show Go κ mL (eLw κ) 1315 (lL i) [vi r] (ms false τ σ)
  refine G_aload_n 2 rfl rfl dL_law_1315 ?_
  show Go κ mL (eLw κ) 1316 (lL i) [vr 172, vi r] (ms false τ σ)
  refine G_aload_n 0 rfl rfl dL_law_1316 ?_
  show Go κ mL (eLw κ) 1317 (lL i) [vr 1202, vr 172, vi r] (ms false τ σ)
  refine G_iload_n 3 rfl rfl dL_law_1317 ?_
  show Go κ mL (eLw κ) 1318 (lL i) [vi i, vr 1202, vr 172, vi r] (ms false τ σ)
  refine G_iconst dL_law_1318 ?_
  show Go κ mL (eLw κ) 1319 (lL i) [vi 1, vi i, vr 1202, vr 172, vi r] (ms false τ σ)
  refine G_iadd dL_law_1319 ?_
  show Go κ mL (eLw κ) 1320 (lL i) [vi (i + 1), vr 1202, vr 172, vi r] (ms false τ σ)
  refine G_scr ⟨by omega, by omega⟩ hn dL_law_1320 ?_
  show Go κ mL (eLw κ) 1321 (lL i) [vi (sc κ (i + 1)), vr 172, vi r] (ms false τ σ)
  rw [ms_sw]
  refine lwRI [vi (sc κ (i + 1))] [vi r] lk170 dL_law_1321 rfl rfl (Nat.le_of_ble_eq_true rfl) (k_Mo_look (sc κ (i + 1)) τ (scInR _) hp) e2 (fun hr => ?_)
  show Go κ mL (eLw κ) 1324 (lL i) [vi r, vi r] (ms true σ τ)
  refine G_icmp_eq dL_law_1324 ⟨hr, hr⟩ (tgt := 1329) (by decide) (fun _ => ?_) (fun z => absurd rfl z)
  rw [← ms_sw]
  exact K _ _ h ho hp
end LawCases
