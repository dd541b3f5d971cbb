theorem obI : Cond.instanceMethod Lib.objectInit ∈ gw ∧ Cond.code Lib.objectInit ⟨#[0xb1]⟩ 1 none ∈ gw := ⟨(g_t1 24 (by decide +kernel) (by decide +kernel)), (g_t1 25 (by decide +kernel) (by decide +kernel))⟩
theorem acI : Cond.arrayClass .int ∈ gw := (g_t1 138 (by decide +kernel) (by decide +kernel))
theorem mfX8_12 : FL "ThreeDots" 12 8 0 := ⟨RX8, TX8, 10, rfl, by decide, (g_t2 93 (by decide +kernel) (by decide +kernel))⟩
theorem mfX8_16 : FL "ThreeDots" 16 8 1 := ⟨RX8, TX8, 10, rfl, by decide, (g_t2 94 (by decide +kernel) (by decide +kernel))⟩
theorem mfX8_22 : FL "ThreeDots" 22 8 2 := ⟨RX8, TX8, 10, rfl, by decide, (g_t2 95 (by decide +kernel) (by decide +kernel))⟩
theorem mfX8_29 : FL "ThreeDots" 29 8 3 := ⟨RX8, TX8, 10, rfl, by decide, (g_t2 96 (by decide +kernel) (by decide +kernel))⟩
theorem mfX8_36 : FL "ThreeDots" 36 8 4 := ⟨RX8, TX8, 10, rfl, by decide, (g_t2 97 (by decide +kernel) (by decide +kernel))⟩
theorem mfX8_45 : FL "ThreeDots" 45 8 5 := ⟨RX8, TX8, 10, rfl, by decide, (g_t2 98 (by decide +kernel) (by decide +kernel))⟩
theorem mfX8_52 : FL "ThreeDots" 52 8 6 := ⟨RX8, TX8, 10, rfl, by decide, (g_t2 99 (by decide +kernel) (by decide +kernel))⟩
theorem mfX8_59 : FL "ThreeDots" 59 8 7 := ⟨RX8, TX8, 10, rfl, by decide, (g_t2 100 (by decide +kernel) (by decide +kernel))⟩
theorem mfX8_63 : FL "ThreeDots" 63 8 8 := ⟨RX8, TX8, 10, rfl, by decide, (g_t2 101 (by decide +kernel) (by decide +kernel))⟩
theorem mfX8_67 : FL "ThreeDots" 67 8 9 := ⟨RX8, TX8, 10, rfl, by decide, (g_t2 102 (by decide +kernel) (by decide +kernel))⟩
theorem mfX0_9 : FL "ThreeDots$Course" 9 0 0 := ⟨RX0, TX0, 6, rfl, by decide, (g_t2 48 (by decide +kernel) (by decide +kernel))⟩
theorem mfX0_15 : FL "ThreeDots$Course" 15 0 1 := ⟨RX0, TX0, 6, rfl, by decide, (g_t2 49 (by decide +kernel) (by decide +kernel))⟩
theorem mfX0_19 : FL "ThreeDots$Course" 19 7 0 := ⟨RX7, TX7, 6, rfl, by decide, (g_t1 174 (by decide +kernel) (by decide +kernel))⟩
theorem mfX0_25 : FL "ThreeDots$Course" 25 0 2 := ⟨RX0, TX0, 6, rfl, by decide, (g_t2 50 (by decide +kernel) (by decide +kernel))⟩
theorem mfX0_26 : FL "ThreeDots$Course" 26 0 4 := ⟨RX0, TX0, 6, rfl, by decide, (g_t2 52 (by decide +kernel) (by decide +kernel))⟩
theorem mfX1_11 : FL "ThreeDots$Glance" 11 1 0 := ⟨RX1, TX1, 5, rfl, by decide, (g_t2 75 (by decide +kernel) (by decide +kernel))⟩
theorem mfX1_17 : FL "ThreeDots$Glance" 17 1 2 := ⟨RX1, TX1, 5, rfl, by decide, (g_t2 79 (by decide +kernel) (by decide +kernel))⟩
theorem mfX1_20 : FL "ThreeDots$Glance" 20 1 3 := ⟨RX1, TX1, 5, rfl, by decide, (g_t2 80 (by decide +kernel) (by decide +kernel))⟩
theorem mfX1_23 : FL "ThreeDots$Glance" 23 1 4 := ⟨RX1, TX1, 5, rfl, by decide, (g_t2 81 (by decide +kernel) (by decide +kernel))⟩
theorem mfX2_9 : FL "ThreeDots$Judge" 9 2 0 := ⟨RX2, TX2, 3, rfl, by decide, (g_t2 30 (by decide +kernel) (by decide +kernel))⟩
theorem mfX2_13 : FL "ThreeDots$Judge" 13 2 1 := ⟨RX2, TX2, 3, rfl, by decide, (g_t2 33 (by decide +kernel) (by decide +kernel))⟩
theorem mfX3_11 : FL "ThreeDots$Past" 11 3 0 := ⟨RX3, TX3, 3, rfl, by decide, (g_t1 210 (by decide +kernel) (by decide +kernel))⟩
theorem mfX4_16 : FL "ThreeDots$Reader" 16 4 0 := ⟨RX4, TX4, 10, rfl, by decide, (g_t1 229 (by decide +kernel) (by decide +kernel))⟩
theorem mfX4_20 : FL "ThreeDots$Reader" 20 4 3 := ⟨RX4, TX4, 10, rfl, by decide, (g_t1 235 (by decide +kernel) (by decide +kernel))⟩
theorem mfX4_24 : FL "ThreeDots$Reader" 24 4 4 := ⟨RX4, TX4, 10, rfl, by decide, (g_t1 237 (by decide +kernel) (by decide +kernel))⟩
theorem mfX4_28 : FL "ThreeDots$Reader" 28 4 5 := ⟨RX4, TX4, 10, rfl, by decide, (g_t1 238 (by decide +kernel) (by decide +kernel))⟩
theorem mfX4_31 : FL "ThreeDots$Reader" 31 4 6 := ⟨RX4, TX4, 10, rfl, by decide, (g_t1 239 (by decide +kernel) (by decide +kernel))⟩
theorem mfX4_34 : FL "ThreeDots$Reader" 34 4 7 := ⟨RX4, TX4, 10, rfl, by decide, (g_t2 0 (by decide +kernel) (by decide +kernel))⟩
theorem mfX5_7 : FL "ThreeDots$Sheet" 7 5 4 := ⟨RX5, TX5, 6, rfl, by decide, (g_t1 157 (by decide +kernel) (by decide +kernel))⟩
theorem mfX5_13 : FL "ThreeDots$Sheet" 13 5 5 := ⟨RX5, TX5, 6, rfl, by decide, (g_t1 158 (by decide +kernel) (by decide +kernel))⟩
theorem mfX6_9 : FL "ThreeDots$Talk" 9 6 6 := ⟨RX6, TX6, 18, rfl, by decide, (g_t1 57 (by decide +kernel) (by decide +kernel))⟩
theorem mfX6_15 : FL "ThreeDots$Talk" 15 6 7 := ⟨RX6, TX6, 18, rfl, by decide, (g_t1 61 (by decide +kernel) (by decide +kernel))⟩
theorem mfX6_18 : FL "ThreeDots$Talk" 18 6 8 := ⟨RX6, TX6, 18, rfl, by decide, (g_t1 65 (by decide +kernel) (by decide +kernel))⟩
theorem mfX6_21 : FL "ThreeDots$Talk" 21 6 9 := ⟨RX6, TX6, 18, rfl, by decide, (g_t1 68 (by decide +kernel) (by decide +kernel))⟩
theorem mfX6_24 : FL "ThreeDots$Talk" 24 6 10 := ⟨RX6, TX6, 18, rfl, by decide, (g_t1 72 (by decide +kernel) (by decide +kernel))⟩
theorem mfX6_27 : FL "ThreeDots$Talk" 27 6 11 := ⟨RX6, TX6, 18, rfl, by decide, (g_t1 76 (by decide +kernel) (by decide +kernel))⟩
theorem mfX6_30 : FL "ThreeDots$Talk" 30 6 12 := ⟨RX6, TX6, 18, rfl, by decide, (g_t1 80 (by decide +kernel) (by decide +kernel))⟩
theorem mfX6_33 : FL "ThreeDots$Talk" 33 6 13 := ⟨RX6, TX6, 18, rfl, by decide, (g_t1 84 (by decide +kernel) (by decide +kernel))⟩
theorem mfX6_36 : FL "ThreeDots$Talk" 36 6 14 := ⟨RX6, TX6, 18, rfl, by decide, (g_t1 88 (by decide +kernel) (by decide +kernel))⟩
theorem mfX6_39 : FL "ThreeDots$Talk" 39 6 15 := ⟨RX6, TX6, 18, rfl, by decide, (g_t1 91 (by decide +kernel) (by decide +kernel))⟩
theorem mfX6_42 : FL "ThreeDots$Talk" 42 6 16 := ⟨RX6, TX6, 18, rfl, by decide, (g_t1 94 (by decide +kernel) (by decide +kernel))⟩
theorem mfX6_45 : FL "ThreeDots$Talk" 45 6 17 := ⟨RX6, TX6, 18, rfl, by decide, (g_t1 98 (by decide +kernel) (by decide +kernel))⟩
theorem mfX7_10 : FL "ThreeDots$World" 10 7 0 := ⟨RX7, TX7, 6, rfl, by decide, (g_t1 173 (by decide +kernel) (by decide +kernel))⟩
theorem mfX7_16 : FL "ThreeDots$World" 16 7 1 := ⟨RX7, TX7, 6, rfl, by decide, (g_t1 176 (by decide +kernel) (by decide +kernel))⟩
theorem mfX7_27 : FL "ThreeDots$World" 27 7 2 := ⟨RX7, TX7, 6, rfl, by decide, (g_t1 179 (by decide +kernel) (by decide +kernel))⟩
theorem mfX7_31 : FL "ThreeDots$World" 31 7 3 := ⟨RX7, TX7, 6, rfl, by decide, (g_t1 182 (by decide +kernel) (by decide +kernel))⟩
theorem mfX7_34 : FL "ThreeDots$World" 34 7 5 := ⟨RX7, TX7, 6, rfl, by decide, (g_t1 186 (by decide +kernel) (by decide +kernel))⟩
theorem mfX9_7 : FL "ThreeDotsModel" 7 9 0 := ⟨RX9, TX9, 35, rfl, by decide, (g_t5 71 (by decide +kernel) (by decide +kernel))⟩
theorem mfX9_13 : FL "ThreeDotsModel" 13 9 1 := ⟨RX9, TX9, 35, rfl, by decide, (g_t5 72 (by decide +kernel) (by decide +kernel))⟩
theorem mfX9_16 : FL "ThreeDotsModel" 16 9 2 := ⟨RX9, TX9, 35, rfl, by decide, (g_t5 73 (by decide +kernel) (by decide +kernel))⟩
theorem mfX9_19 : FL "ThreeDotsModel" 19 9 3 := ⟨RX9, TX9, 35, rfl, by decide, (g_t5 74 (by decide +kernel) (by decide +kernel))⟩
theorem mfX9_22 : FL "ThreeDotsModel" 22 9 6 := ⟨RX9, TX9, 35, rfl, by decide, (g_t5 77 (by decide +kernel) (by decide +kernel))⟩
theorem mfX9_25 : FL "ThreeDotsModel" 25 9 7 := ⟨RX9, TX9, 35, rfl, by decide, (g_t5 78 (by decide +kernel) (by decide +kernel))⟩
theorem mfX9_28 : FL "ThreeDotsModel" 28 9 8 := ⟨RX9, TX9, 35, rfl, by decide, (g_t5 79 (by decide +kernel) (by decide +kernel))⟩
theorem mfX9_31 : FL "ThreeDotsModel" 31 9 9 := ⟨RX9, TX9, 35, rfl, by decide, (g_t5 80 (by decide +kernel) (by decide +kernel))⟩
theorem mfX9_34 : FL "ThreeDotsModel" 34 9 10 := ⟨RX9, TX9, 35, rfl, by decide, (g_t5 81 (by decide +kernel) (by decide +kernel))⟩
theorem mfX9_37 : FL "ThreeDotsModel" 37 9 11 := ⟨RX9, TX9, 35, rfl, by decide, (g_t5 82 (by decide +kernel) (by decide +kernel))⟩
theorem mfX9_40 : FL "ThreeDotsModel" 40 9 25 := ⟨RX9, TX9, 35, rfl, by decide, (g_t5 96 (by decide +kernel) (by decide +kernel))⟩
theorem mfX9_44 : FL "ThreeDotsModel" 44 9 27 := ⟨RX9, TX9, 35, rfl, by decide, (g_t5 98 (by decide +kernel) (by decide +kernel))⟩
theorem mfX9_47 : FL "ThreeDotsModel" 47 9 29 := ⟨RX9, TX9, 35, rfl, by decide, (g_t5 100 (by decide +kernel) (by decide +kernel))⟩
theorem mfX9_50 : FL "ThreeDotsModel" 50 9 30 := ⟨RX9, TX9, 35, rfl, by decide, (g_t5 101 (by decide +kernel) (by decide +kernel))⟩
theorem mfX9_53 : FL "ThreeDotsModel" 53 9 31 := ⟨RX9, TX9, 35, rfl, by decide, (g_t5 102 (by decide +kernel) (by decide +kernel))⟩
theorem mfX9_56 : FL "ThreeDotsModel" 56 9 32 := ⟨RX9, TX9, 35, rfl, by decide, (g_t5 103 (by decide +kernel) (by decide +kernel))⟩
theorem mfX9_59 : FL "ThreeDotsModel" 59 9 33 := ⟨RX9, TX9, 35, rfl, by decide, (g_t5 104 (by decide +kernel) (by decide +kernel))⟩
theorem mfX9_62 : FL "ThreeDotsModel" 62 9 34 := ⟨RX9, TX9, 35, rfl, by decide, (g_t5 105 (by decide +kernel) (by decide +kernel))⟩
theorem mnX8_9 : NL "ThreeDots" 9 7 := ⟨RX7, TX7, 6, rfl, (g_t1 26 (by decide +kernel) (by decide +kernel)), (g_t1 27 (by decide +kernel) (by decide +kernel)), (g_t1 2 (by decide +kernel) (by decide +kernel))⟩
theorem mnX8_19 : NL "ThreeDots" 19 3 := ⟨RX3, TX3, 3, rfl, (g_t1 201 (by decide +kernel) (by decide +kernel)), (g_t1 202 (by decide +kernel) (by decide +kernel)), (g_t1 5 (by decide +kernel) (by decide +kernel))⟩
theorem mnX8_26 : NL "ThreeDots" 26 4 := ⟨RX4, TX4, 10, rfl, (g_t1 221 (by decide +kernel) (by decide +kernel)), (g_t1 222 (by decide +kernel) (by decide +kernel)), (g_t1 6 (by decide +kernel) (by decide +kernel))⟩
theorem mnX8_33 : NL "ThreeDots" 33 2 := ⟨RX2, TX2, 3, rfl, (g_t2 24 (by decide +kernel) (by decide +kernel)), (g_t2 25 (by decide +kernel) (by decide +kernel)), (g_t1 7 (by decide +kernel) (by decide +kernel))⟩
theorem mnX8_40 : NL "ThreeDots" 40 0 := ⟨RX0, TX0, 6, rfl, (g_t2 42 (by decide +kernel) (by decide +kernel)), (g_t2 43 (by decide +kernel) (by decide +kernel)), (g_t1 8 (by decide +kernel) (by decide +kernel))⟩
theorem mnX8_49 : NL "ThreeDots" 49 6 := ⟨RX6, TX6, 18, rfl, (g_t2 67 (by decide +kernel) (by decide +kernel)), (g_t1 33 (by decide +kernel) (by decide +kernel)), (g_t1 3 (by decide +kernel) (by decide +kernel))⟩
theorem mnX8_56 : NL "ThreeDots" 56 1 := ⟨RX1, TX1, 5, rfl, (g_t2 69 (by decide +kernel) (by decide +kernel)), (g_t2 70 (by decide +kernel) (by decide +kernel)), (g_t1 9 (by decide +kernel) (by decide +kernel))⟩
theorem mnX3_9 : NL "ThreeDots$Past" 9 6 := ⟨RX6, TX6, 18, rfl, (g_t1 207 (by decide +kernel) (by decide +kernel)), (g_t1 33 (by decide +kernel) (by decide +kernel)), (g_t1 3 (by decide +kernel) (by decide +kernel))⟩
theorem mnX4_9 : NL "ThreeDots$Reader" 9 5 := ⟨RX5, TX5, 6, rfl, (g_t1 227 (by decide +kernel) (by decide +kernel)), (g_t1 141 (by decide +kernel) (by decide +kernel)), (g_t1 4 (by decide +kernel) (by decide +kernel))⟩
theorem mnX7_7 : NL "ThreeDots$World" 7 6 := ⟨RX6, TX6, 18, rfl, (g_t1 32 (by decide +kernel) (by decide +kernel)), (g_t1 33 (by decide +kernel) (by decide +kernel)), (g_t1 3 (by decide +kernel) (by decide +kernel))⟩
theorem mnX7_20 : NL "ThreeDots$World" 20 5 := ⟨RX5, TX5, 6, rfl, (g_t1 139 (by decide +kernel) (by decide +kernel)), (g_t1 141 (by decide +kernel) (by decide +kernel)), (g_t1 4 (by decide +kernel) (by decide +kernel))⟩
theorem mnL_7 : NL "ThreeDotsLaw" 7 8 := ⟨RX8, TX8, 10, rfl, (g_t1 18 (by decide +kernel) (by decide +kernel)), (g_t1 19 (by decide +kernel) (by decide +kernel)), (g_t1 1 (by decide +kernel) (by decide +kernel))⟩
theorem mnL_10 : NL "ThreeDotsLaw" 10 9 := ⟨RX9, TX9, 35, rfl, (g_t5 65 (by decide +kernel) (by decide +kernel)), (g_t5 66 (by decide +kernel) (by decide +kernel)), (g_t1 10 (by decide +kernel) (by decide +kernel))⟩
theorem maX3_9 : Cond.classLink "ThreeDots$Past" 9 "ThreeDots$Talk" ∈ gw := (g_t1 207 (by decide +kernel) (by decide +kernel))
theorem maX7_20 : Cond.classLink "ThreeDots$World" 20 "ThreeDots$Sheet" ∈ gw := (g_t1 139 (by decide +kernel) (by decide +kernel))
theorem moX8 : Cond.methodLink "ThreeDots" 3 Lib.objectInit ∈ gw ∧ Cond.instanceMethod Lib.objectInit ∈ gw ∧ Cond.code Lib.objectInit ⟨#[0xb1]⟩ 1 none ∈ gw := ⟨(g_t1 23 (by decide +kernel) (by decide +kernel)), obI⟩
theorem moX0 : Cond.methodLink "ThreeDots$Course" 3 Lib.objectInit ∈ gw ∧ Cond.instanceMethod Lib.objectInit ∈ gw ∧ Cond.code Lib.objectInit ⟨#[0xb1]⟩ 1 none ∈ gw := ⟨(g_t2 47 (by decide +kernel) (by decide +kernel)), obI⟩
theorem moX1 : Cond.methodLink "ThreeDots$Glance" 3 Lib.objectInit ∈ gw ∧ Cond.instanceMethod Lib.objectInit ∈ gw ∧ Cond.code Lib.objectInit ⟨#[0xb1]⟩ 1 none ∈ gw := ⟨(g_t2 74 (by decide +kernel) (by decide +kernel)), obI⟩
theorem moX2 : Cond.methodLink "ThreeDots$Judge" 1 Lib.objectInit ∈ gw ∧ Cond.instanceMethod Lib.objectInit ∈ gw ∧ Cond.code Lib.objectInit ⟨#[0xb1]⟩ 1 none ∈ gw := ⟨(g_t2 29 (by decide +kernel) (by decide +kernel)), obI⟩
theorem moX3 : Cond.methodLink "ThreeDots$Past" 1 Lib.objectInit ∈ gw ∧ Cond.instanceMethod Lib.objectInit ∈ gw ∧ Cond.code Lib.objectInit ⟨#[0xb1]⟩ 1 none ∈ gw := ⟨(g_t1 206 (by decide +kernel) (by decide +kernel)), obI⟩
theorem moX4 : Cond.methodLink "ThreeDots$Reader" 3 Lib.objectInit ∈ gw ∧ Cond.instanceMethod Lib.objectInit ∈ gw ∧ Cond.code Lib.objectInit ⟨#[0xb1]⟩ 1 none ∈ gw := ⟨(g_t1 226 (by decide +kernel) (by decide +kernel)), obI⟩
theorem moX5 : Cond.methodLink "ThreeDots$Sheet" 1 Lib.objectInit ∈ gw ∧ Cond.instanceMethod Lib.objectInit ∈ gw ∧ Cond.code Lib.objectInit ⟨#[0xb1]⟩ 1 none ∈ gw := ⟨(g_t1 145 (by decide +kernel) (by decide +kernel)), obI⟩
theorem moX6 : Cond.methodLink "ThreeDots$Talk" 3 Lib.objectInit ∈ gw ∧ Cond.instanceMethod Lib.objectInit ∈ gw ∧ Cond.code Lib.objectInit ⟨#[0xb1]⟩ 1 none ∈ gw := ⟨(g_t1 37 (by decide +kernel) (by decide +kernel)), obI⟩
theorem moX7 : Cond.methodLink "ThreeDots$World" 1 Lib.objectInit ∈ gw ∧ Cond.instanceMethod Lib.objectInit ∈ gw ∧ Cond.code Lib.objectInit ⟨#[0xb1]⟩ 1 none ∈ gw := ⟨(g_t1 31 (by decide +kernel) (by decide +kernel)), obI⟩
theorem moX9 : Cond.methodLink "ThreeDotsModel" 1 Lib.objectInit ∈ gw ∧ Cond.instanceMethod Lib.objectInit ∈ gw ∧ Cond.code Lib.objectInit ⟨#[0xb1]⟩ 1 none ∈ gw := ⟨(g_t5 70 (by decide +kernel) (by decide +kernel)), obI⟩
theorem mcX8_11 : ckI "ThreeDots" 11 mX7_init 0 := ⟨⟨(g_t1 28 (by decide +kernel) (by decide +kernel)), (g_t1 2 (by decide +kernel) (by decide +kernel)), (g_t1 30 (by decide +kernel) (by decide +kernel)), by decide +kernel, by decide +kernel, by decide +kernel, by decide +kernel⟩, rfl, (g_t1 29 (by decide +kernel) (by decide +kernel)), rfl⟩
theorem mcX8_21 : ckI "ThreeDots" 21 mX3_init 0 := ⟨⟨(g_t1 203 (by decide +kernel) (by decide +kernel)), (g_t1 5 (by decide +kernel) (by decide +kernel)), (g_t1 205 (by decide +kernel) (by decide +kernel)), by decide +kernel, by decide +kernel, by decide +kernel, by decide +kernel⟩, rfl, (g_t1 204 (by decide +kernel) (by decide +kernel)), rfl⟩
theorem mcX8_28 : ckI "ThreeDots" 28 mX4_init 0 := ⟨⟨(g_t1 223 (by decide +kernel) (by decide +kernel)), (g_t1 6 (by decide +kernel) (by decide +kernel)), (g_t1 225 (by decide +kernel) (by decide +kernel)), by decide +kernel, by decide +kernel, by decide +kernel, by decide +kernel⟩, rfl, (g_t1 224 (by decide +kernel) (by decide +kernel)), rfl⟩
theorem mcX8_35 : ckI "ThreeDots" 35 mX2_init 0 := ⟨⟨(g_t2 26 (by decide +kernel) (by decide +kernel)), (g_t1 7 (by decide +kernel) (by decide +kernel)), (g_t2 28 (by decide +kernel) (by decide +kernel)), by decide +kernel, by decide +kernel, by decide +kernel, by decide +kernel⟩, rfl, (g_t2 27 (by decide +kernel) (by decide +kernel)), rfl⟩
theorem mcX8_42 : ckI "ThreeDots" 42 mX0_init 2 := ⟨⟨(g_t2 44 (by decide +kernel) (by decide +kernel)), (g_t1 8 (by decide +kernel) (by decide +kernel)), (g_t2 46 (by decide +kernel) (by decide +kernel)), by decide +kernel, by decide +kernel, by decide +kernel, by decide +kernel⟩, rfl, (g_t2 45 (by decide +kernel) (by decide +kernel)), rfl⟩
theorem mcX8_51 : ckI "ThreeDots" 51 mX6_init 0 := ⟨⟨(g_t2 68 (by decide +kernel) (by decide +kernel)), (g_t1 3 (by decide +kernel) (by decide +kernel)), (g_t1 36 (by decide +kernel) (by decide +kernel)), by decide +kernel, by decide +kernel, by decide +kernel, by decide +kernel⟩, rfl, (g_t1 35 (by decide +kernel) (by decide +kernel)), rfl⟩
theorem mcX8_58 : ckI "ThreeDots" 58 mX1_init 0 := ⟨⟨(g_t2 71 (by decide +kernel) (by decide +kernel)), (g_t1 9 (by decide +kernel) (by decide +kernel)), (g_t2 73 (by decide +kernel) (by decide +kernel)), by decide +kernel, by decide +kernel, by decide +kernel, by decide +kernel⟩, rfl, (g_t2 72 (by decide +kernel) (by decide +kernel)), rfl⟩
theorem mcX3_15 : ckI "ThreeDots$Past" 15 mX6_init 0 := ⟨⟨(g_t1 209 (by decide +kernel) (by decide +kernel)), (g_t1 3 (by decide +kernel) (by decide +kernel)), (g_t1 36 (by decide +kernel) (by decide +kernel)), by decide +kernel, by decide +kernel, by decide +kernel, by decide +kernel⟩, rfl, (g_t1 35 (by decide +kernel) (by decide +kernel)), rfl⟩
theorem mcX4_13 : ckI "ThreeDots$Reader" 13 mX5_init 2 := ⟨⟨(g_t1 228 (by decide +kernel) (by decide +kernel)), (g_t1 4 (by decide +kernel) (by decide +kernel)), (g_t1 144 (by decide +kernel) (by decide +kernel)), by decide +kernel, by decide +kernel, by decide +kernel, by decide +kernel⟩, rfl, (g_t1 143 (by decide +kernel) (by decide +kernel)), rfl⟩
theorem mcX7_9 : ckI "ThreeDots$World" 9 mX6_init 0 := ⟨⟨(g_t1 34 (by decide +kernel) (by decide +kernel)), (g_t1 3 (by decide +kernel) (by decide +kernel)), (g_t1 36 (by decide +kernel) (by decide +kernel)), by decide +kernel, by decide +kernel, by decide +kernel, by decide +kernel⟩, rfl, (g_t1 35 (by decide +kernel) (by decide +kernel)), rfl⟩
theorem mcX7_24 : ckI "ThreeDots$World" 24 mX5_init 2 := ⟨⟨(g_t1 142 (by decide +kernel) (by decide +kernel)), (g_t1 4 (by decide +kernel) (by decide +kernel)), (g_t1 144 (by decide +kernel) (by decide +kernel)), by decide +kernel, by decide +kernel, by decide +kernel, by decide +kernel⟩, rfl, (g_t1 143 (by decide +kernel) (by decide +kernel)), rfl⟩
theorem mcL_9 : ckI "ThreeDotsLaw" 9 mX8_init 0 := ⟨⟨(g_t1 20 (by decide +kernel) (by decide +kernel)), (g_t1 1 (by decide +kernel) (by decide +kernel)), (g_t1 22 (by decide +kernel) (by decide +kernel)), by decide +kernel, by decide +kernel, by decide +kernel, by decide +kernel⟩, rfl, (g_t1 21 (by decide +kernel) (by decide +kernel)), rfl⟩
theorem mcL_12 : ckI "ThreeDotsLaw" 12 mX9_init 0 := ⟨⟨(g_t5 67 (by decide +kernel) (by decide +kernel)), (g_t1 10 (by decide +kernel) (by decide +kernel)), (g_t5 69 (by decide +kernel) (by decide +kernel)), by decide +kernel, by decide +kernel, by decide +kernel, by decide +kernel⟩, rfl, (g_t5 68 (by decide +kernel) (by decide +kernel)), rfl⟩
section Make4
variable {κ : Kx} {M : Md} {R : Room} {Z : List Frame → Array Value → State → State → Prop} {cn sl pc n : Nat} {L : List (Option AV)} {st : List AV} {P : Nat → List Nat}
theorem s0Z {k : Nat} {ds : List Nat} (h : s0T.all (fun q => q.1 != k || ds.contains q.2.1) = true) (j : Nat) (hj : ds.contains j = false) : s0M k j = 0 := by
  unfold s0M
  have hn : s0T.find? (fun q => q.1 == k && q.2.1 == j) = none := by
    rw [List.find?_eq_none]
    intro q hq hc
    have h1 := List.all_eq_true.mp h q hq
    simp only [Bool.and_eq_true, beq_iff_eq] at hc
    rw [hc.1, hc.2, hj] at h1
    simp at h1
  rw [hn]; rfl
theorem Gc.arr0 {len : Nat} {x : Int} (hPn : P n = []) (hn : n < NN) (hl : lay n = (0, len)) (hx : x = (len : Int)) (hds : ∀ j, j < len → ([] : List Nat).contains j = false → s0M n j = 0) (hA0 : Cond.arrayClass .int ∈ gw) {cn' sl' : Nat} (ec : cn + 1 = cn') (es : sl + len = sl') (hc : cn' ≤ R.cells) (hs : sl' ≤ R.slots) (hd : decode M.2.1 pc = .ok (.newarray .int, 2)) (kk : Gc κ M R Z cn' sl' (pc + 2) L (vr n :: st) (n + 1) P) : Gc κ M R Z cn sl pc L (vi x :: st) n P :=
  Gc.arr [] hn hl hx hds hA0 ec es hc hs hd (by rw [pu_nil hPn]; exact kk)
theorem Gc.fin {k : Nat} (h : P k = []) (kk : Gc κ M R Z cn sl pc L st n P) : Gc κ M R Z cn sl pc L st n (pu P k []) := by rw [pu_nil h]; exact kk
theorem Gc.comm {k l : Nat} {ds es : List Nat} (h : k ≠ l) (kk : Gc κ M R Z cn sl pc L st n (pu (pu P l es) k ds)) : Gc κ M R Z cn sl pc L st n (pu (pu P k ds) l es) := by rw [pu_comm h]; exact kk
theorem tkg0 : ∀ t ∈ tkC, t + 12 < NN := by decide +kernel
theorem tkg1 : ∀ t ∈ tkC, lay t = (1, 6) := by decide +kernel
theorem tkg2 : ∀ t ∈ tkC, ∀ i, i < 4 → 1 ≤ i → lay (t + i) = (0, 2) := by decide +kernel
theorem tkg3 : ∀ t ∈ tkC, ∀ i, i < 13 → 4 ≤ i → lay (t + i) = (0, 60) := by decide +kernel
theorem tkg4 : ∀ t ∈ tkC, s0T.all (fun q => q.1 != t + 1 || [0, 1].contains q.2.1) = true := by decide +kernel
theorem tkg5 : ∀ t ∈ tkC, s0T.all (fun q => q.1 != t + 2 || ([] : List Nat).contains q.2.1) = true := by decide +kernel
theorem tkg6 : ∀ t ∈ tkC, s0T.all (fun q => q.1 != t + 3 || [0, 1].contains q.2.1) = true := by decide +kernel
theorem tkg7 : ∀ t ∈ tkC, ∀ i, i < 13 → 4 ≤ i → s0T.all (fun q => q.1 != t + i || ([] : List Nat).contains q.2.1) = true := by decide +kernel
theorem tkg8 : ∀ t ∈ tkC, ∀ j, j < 18 → 6 ≤ j → fiV t j = vr (t + (j - 5)) := by decide +kernel
theorem tkg9 : ∀ t ∈ tkC, ∀ i, i < 2 → s0M (t + 1) i = 10 := by decide +kernel
theorem tkg10 : ∀ t ∈ tkC, ∀ i, i < 2 → s0M (t + 3) i = 1 := by decide +kernel
theorem tkFc (t : Nat) (ht : t ∈ tkC) : (t + 12 < NN) ∧ (lay t = (1, 6)) ∧ (∀ i, i < 4 → 1 ≤ i → lay (t + i) = (0, 2)) ∧ (∀ i, i < 13 → 4 ≤ i → lay (t + i) = (0, 60)) ∧ (s0T.all (fun q => q.1 != t + 1 || [0, 1].contains q.2.1) = true) ∧ (s0T.all (fun q => q.1 != t + 2 || ([] : List Nat).contains q.2.1) = true) ∧ (s0T.all (fun q => q.1 != t + 3 || [0, 1].contains q.2.1) = true) ∧ (∀ i, i < 13 → 4 ≤ i → s0T.all (fun q => q.1 != t + i || ([] : List Nat).contains q.2.1) = true) ∧ (∀ j, j < 18 → 6 ≤ j → fiV t j = vr (t + (j - 5))) ∧ (∀ i, i < 2 → s0M (t + 1) i = 10) ∧ (∀ i, i < 2 → s0M (t + 3) i = 1) := ⟨tkg0 t ht, tkg1 t ht, tkg2 t ht, tkg3 t ht, tkg4 t ht, tkg5 t ht, tkg6 t ht, tkg7 t ht, tkg8 t ht, tkg9 t ht, tkg10 t ht⟩
end Make4
