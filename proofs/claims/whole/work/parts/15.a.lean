theorem kobj : Cond.instanceMethod objectInit ∈ zUU ∧ Cond.code objectInit ⟨#[0xb1]⟩ 1 none ∈ zUU := ⟨zut1 (j := 33) rfl rfl, zut1 (j := 34) rfl rfl⟩
theorem karr_byte : Cond.arrayClass .byte ∈ zUU := zut1 (j := 103) rfl rfl
theorem karr_int : Cond.arrayClass .int ∈ zUU := zut1 (j := 104) rfl rfl
theorem karr_long : Cond.arrayClass .long ∈ zUU := zut1 (j := 105) rfl rfl
theorem iX0_init : yMi mX0_init 1 := ⟨zut1 (j := 161) rfl rfl, rfl, zut1 (j := 5) rfl rfl, zut1 (j := 160) rfl rfl, rfl, ⟨by decide +kernel, by decide +kernel⟩, by decide +kernel, by decide⟩
theorem nX0_init : Cond.instantiable RX0 11 ∈ zUU ∧ Cond.initialized RX0 ∈ zUU := ⟨zut1 (j := 158) rfl rfl, zut1 (j := 5) rfl rfl⟩
theorem ydef0 : yDef 0 tyX0 := by unfold yDef; decide +kernel
theorem iX1_init : yMi mX1_init 0 := ⟨zut2 (j := 220) rfl rfl, rfl, zut1 (j := 12) rfl rfl, zut2 (j := 219) rfl rfl, rfl, ⟨by decide +kernel, by decide +kernel⟩, by decide +kernel, by decide⟩
theorem nX1_init : Cond.instantiable RX1 1 ∈ zUU ∧ Cond.initialized RX1 ∈ zUU := ⟨zut2 (j := 217) rfl rfl, zut1 (j := 12) rfl rfl⟩
theorem ydef1 : yDef 1 tyX1 := by unfold yDef; decide +kernel
theorem iX2_init : yMi mX2_init 0 := ⟨zut1 (j := 41) rfl rfl, rfl, zut1 (j := 2) rfl rfl, zut1 (j := 40) rfl rfl, rfl, ⟨by decide +kernel, by decide +kernel⟩, by decide +kernel, by decide⟩
theorem nX2_init : Cond.instantiable RX2 13 ∈ zUU ∧ Cond.initialized RX2 ∈ zUU := ⟨zut1 (j := 38) rfl rfl, zut1 (j := 2) rfl rfl⟩
theorem ydef2 : yDef 2 tyX2 := by unfold yDef; decide +kernel
theorem iX3_init : yMi mX3_init 1 := ⟨zut1 (j := 168) rfl rfl, rfl, zut1 (j := 6) rfl rfl, zut1 (j := 167) rfl rfl, rfl, ⟨by decide +kernel, by decide +kernel⟩, by decide +kernel, by decide⟩
theorem nX3_init : Cond.instantiable RX3 2 ∈ zUU ∧ Cond.initialized RX3 ∈ zUU := ⟨zut1 (j := 165) rfl rfl, zut1 (j := 6) rfl rfl⟩
theorem ydef3 : yDef 3 tyX3 := by unfold yDef; decide +kernel
theorem iX4_init : yMi mX4_init 0 := ⟨zut2 (j := 6) rfl rfl, rfl, zut1 (j := 9) rfl rfl, zut2 (j := 5) rfl rfl, rfl, ⟨by decide +kernel, by decide +kernel⟩, by decide +kernel, by decide⟩
theorem nX4_init : Cond.instantiable RX4 12 ∈ zUU ∧ Cond.initialized RX4 ∈ zUU := ⟨zut2 (j := 3) rfl rfl, zut1 (j := 9) rfl rfl⟩
theorem ydef4 : yDef 4 tyX4 := by unfold yDef; decide +kernel
theorem iX5_init : yMi mX5_init 0 := ⟨zut2 (j := 230) rfl rfl, rfl, zut1 (j := 13) rfl rfl, zut2 (j := 229) rfl rfl, rfl, ⟨by decide +kernel, by decide +kernel⟩, by decide +kernel, by decide⟩
theorem nX5_init : Cond.instantiable RX5 3 ∈ zUU ∧ Cond.initialized RX5 ∈ zUU := ⟨zut2 (j := 227) rfl rfl, zut1 (j := 13) rfl rfl⟩
theorem ydef5 : yDef 5 tyX5 := by unfold yDef; decide +kernel
theorem iX6_init : yMi mX6_init 1 := ⟨zut2 (j := 182) rfl rfl, rfl, zut1 (j := 11) rfl rfl, zut2 (j := 181) rfl rfl, rfl, ⟨by decide +kernel, by decide +kernel⟩, by decide +kernel, by decide⟩
theorem nX6_init : Cond.instantiable RX6 10 ∈ zUU ∧ Cond.initialized RX6 ∈ zUU := ⟨zut2 (j := 179) rfl rfl, zut1 (j := 11) rfl rfl⟩
theorem ydef6 : yDef 6 tyX6 := by unfold yDef; decide +kernel
theorem iX7_init : yMi mX7_init 0 := ⟨zut2 (j := 12) rfl rfl, rfl, zut1 (j := 10) rfl rfl, zut2 (j := 11) rfl rfl, rfl, ⟨by decide +kernel, by decide +kernel⟩, by decide +kernel, by decide⟩
theorem nX7_init : Cond.instantiable RX7 16 ∈ zUU ∧ Cond.initialized RX7 ∈ zUU := ⟨zut2 (j := 9) rfl rfl, zut1 (j := 10) rfl rfl⟩
theorem ydef7 : yDef 7 tyX7 := by unfold yDef; decide +kernel
theorem iX8_init : yMi mX8_init 1 := ⟨zut1 (j := 110) rfl rfl, rfl, zut1 (j := 3) rfl rfl, zut1 (j := 109) rfl rfl, rfl, ⟨by decide +kernel, by decide +kernel⟩, by decide +kernel, by decide⟩
theorem nX8_init : Cond.instantiable RX8 8 ∈ zUU ∧ Cond.initialized RX8 ∈ zUU := ⟨zut1 (j := 107) rfl rfl, zut1 (j := 3) rfl rfl⟩
theorem ydef8 : yDef 8 tyX8 := by unfold yDef; decide +kernel
theorem iX9_init : yMi mX9_init 0 := ⟨zut1 (j := 222) rfl rfl, rfl, zut1 (j := 8) rfl rfl, zut1 (j := 221) rfl rfl, rfl, ⟨by decide +kernel, by decide +kernel⟩, by decide +kernel, by decide⟩
theorem nX9_init : Cond.instantiable RX9 3 ∈ zUU ∧ Cond.initialized RX9 ∈ zUU := ⟨zut1 (j := 219) rfl rfl, zut1 (j := 8) rfl rfl⟩
theorem ydef9 : yDef 9 tyX9 := by unfold yDef; decide +kernel
theorem iX10_init : yMi mX10_init 0 := ⟨zut1 (j := 116) rfl rfl, rfl, zut1 (j := 4) rfl rfl, zut1 (j := 115) rfl rfl, rfl, ⟨by decide +kernel, by decide +kernel⟩, by decide +kernel, by decide⟩
theorem nX10_init : Cond.instantiable RX10 10 ∈ zUU ∧ Cond.initialized RX10 ∈ zUU := ⟨zut1 (j := 113) rfl rfl, zut1 (j := 4) rfl rfl⟩
theorem ydef10 : yDef 10 tyX10 := by unfold yDef; decide +kernel
theorem iX11_init : yMi mX11_init 0 := ⟨zut1 (j := 31) rfl rfl, rfl, zut1 (j := 1) rfl rfl, zut1 (j := 30) rfl rfl, rfl, ⟨by decide +kernel, by decide +kernel⟩, by decide +kernel, by decide⟩
theorem nX11_init : Cond.instantiable RX11 17 ∈ zUU ∧ Cond.initialized RX11 ∈ zUU := ⟨zut1 (j := 28) rfl rfl, zut1 (j := 1) rfl rfl⟩
theorem ydef11 : yDef 11 tyX11 := by unfold yDef; decide +kernel
theorem iX12_init : yMi mX12_init 0 := ⟨zut7 (j := 83) rfl rfl, rfl, zut1 (j := 14) rfl rfl, zut7 (j := 82) rfl rfl, rfl, ⟨by decide +kernel, by decide +kernel⟩, by decide +kernel, by decide⟩
theorem nX12_init : Cond.instantiable RX12 90 ∈ zUU ∧ Cond.initialized RX12 ∈ zUU := ⟨zut7 (j := 80) rfl rfl, zut1 (j := 14) rfl rfl⟩
theorem ydef12 : yDef 12 tyX12 := by unfold yDef; decide +kernel
theorem kcL_8 : Cond.classLink RL 8 RX11 ∈ zUU := zut1 (j := 27) rfl rfl
theorem kiL_15 : Cond.methodLink RL 15 yX11_init ∈ zUU := zut1 (j := 29) rfl rfl
theorem koX11_3 : Cond.methodLink RX11 3 objectInit ∈ zUU := zut1 (j := 32) rfl rfl
theorem kcX11_17 : Cond.classLink RX11 17 RX4 ∈ zUU := zut1 (j := 35) rfl rfl
theorem kcX11_23 : Cond.classLink RX11 23 RX2 ∈ zUU := zut1 (j := 37) rfl rfl
theorem koX2_3 : Cond.methodLink RX2 3 objectInit ∈ zUU := zut1 (j := 42) rfl rfl
theorem kcX11_30 : Cond.classLink RX11 30 RX8 ∈ zUU := zut1 (j := 106) rfl rfl
theorem kiX11_32 : Cond.methodLink RX11 32 yX8_init ∈ zUU := zut1 (j := 108) rfl rfl
theorem koX8_3 : Cond.methodLink RX8 3 objectInit ∈ zUU := zut1 (j := 111) rfl rfl
theorem kcX8_9 : Cond.classLink RX8 9 RX10 ∈ zUU := zut1 (j := 112) rfl rfl
theorem koX10_3 : Cond.methodLink RX10 3 objectInit ∈ zUU := zut1 (j := 117) rfl rfl
theorem kcX8_18 : Cond.classLink RX8 18 RX0 ∈ zUU := zut1 (j := 157) rfl rfl
theorem kiX8_20 : Cond.methodLink RX8 20 yX0_init ∈ zUU := zut1 (j := 159) rfl rfl
theorem koX0_3 : Cond.methodLink RX0 3 objectInit ∈ zUU := zut1 (j := 162) rfl rfl
theorem kcX0_11 : Cond.classLink RX0 11 RX3 ∈ zUU := zut1 (j := 163) rfl rfl
theorem kiX0_27 : Cond.methodLink RX0 27 yX3_init ∈ zUU := zut1 (j := 166) rfl rfl
theorem koX3_3 : Cond.methodLink RX3 3 objectInit ∈ zUU := zut1 (j := 169) rfl rfl
theorem kcX8_27 : Cond.classLink RX8 27 RX3 ∈ zUU := zut1 (j := 216) rfl rfl
theorem kcX8_33 : Cond.classLink RX8 33 RX4 ∈ zUU := zut1 (j := 217) rfl rfl
theorem kcX8_39 : Cond.classLink RX8 39 RX9 ∈ zUU := zut1 (j := 218) rfl rfl
theorem kiX8_41 : Cond.methodLink RX8 41 yX9_init ∈ zUU := zut1 (j := 220) rfl rfl
theorem koX9_3 : Cond.methodLink RX9 3 objectInit ∈ zUU := zut1 (j := 223) rfl rfl
theorem kcX9_9 : Cond.classLink RX9 9 RX3 ∈ zUU := zut1 (j := 224) rfl rfl
theorem kiX9_21 : Cond.methodLink RX9 21 yX3_init ∈ zUU := zut1 (j := 225) rfl rfl
theorem kiX8_50 : Cond.methodLink RX8 50 yX3_init ∈ zUU := zut2 (j := 2) rfl rfl
theorem koX4_3 : Cond.methodLink RX4 3 objectInit ∈ zUU := zut2 (j := 7) rfl rfl
theorem kcX4_31 : Cond.classLink RX4 31 RX7 ∈ zUU := zut2 (j := 8) rfl rfl
theorem koX7_3 : Cond.methodLink RX7 3 objectInit ∈ zUU := zut2 (j := 13) rfl rfl
theorem kcX11_39 : Cond.classLink RX11 39 RX6 ∈ zUU := zut2 (j := 178) rfl rfl
theorem kiX11_41 : Cond.methodLink RX11 41 yX6_init ∈ zUU := zut2 (j := 180) rfl rfl
theorem koX6_3 : Cond.methodLink RX6 3 objectInit ∈ zUU := zut2 (j := 183) rfl rfl
theorem kcX11_46 : Cond.classLink RX11 46 RX1 ∈ zUU := zut2 (j := 216) rfl rfl
theorem koX1_3 : Cond.methodLink RX1 3 objectInit ∈ zUU := zut2 (j := 221) rfl rfl
theorem kcX11_53 : Cond.classLink RX11 53 RX5 ∈ zUU := zut2 (j := 226) rfl rfl
theorem koX5_3 : Cond.methodLink RX5 3 objectInit ∈ zUU := zut2 (j := 231) rfl rfl
theorem kcX11_60 : Cond.classLink RX11 60 RX3 ∈ zUU := zut3 (j := 3) rfl rfl
theorem kiX11_62 : Cond.methodLink RX11 62 yX3_init ∈ zUU := zut3 (j := 4) rfl rfl
theorem kcX11_69 : Cond.classLink RX11 69 RX9 ∈ zUU := zut3 (j := 5) rfl rfl
theorem kiX11_71 : Cond.methodLink RX11 71 yX9_init ∈ zUU := zut3 (j := 6) rfl rfl
theorem kcL_16 : Cond.classLink RL 16 RX12 ∈ zUU := zut7 (j := 79) rfl rfl
theorem kiL_18 : Cond.methodLink RL 18 yX12_init ∈ zUU := zut7 (j := 81) rfl rfl
theorem koX12_3 : Cond.methodLink RX12 3 objectInit ∈ zUU := zut7 (j := 84) rfl rfl
theorem pX0_13 : zFP RX0 13 0 1 := ⟨RX0, TX0, 11, tyX0, zc0, by decide, zut1 (j := 183) rfl rfl, rfl, fun a h => ⟨rfl, rfl⟩, fun x h => absurd h (by decide +kernel)⟩
theorem pX0_17 : zFP RX0 17 0 2 := ⟨RX0, TX0, 11, tyX0, zc0, by decide, zut1 (j := 184) rfl rfl, rfl, fun a h => ⟨rfl, rfl⟩, fun x h => absurd h (by decide +kernel)⟩
theorem pX0_20 : zFP RX0 20 0 3 := ⟨RX0, TX0, 11, tyX0, zc0, by decide, zut1 (j := 185) rfl rfl, rfl, fun a h => ⟨rfl, rfl⟩, fun x h => absurd h (by decide +kernel)⟩
theorem pX0_24 : zFP RX0 24 0 4 := ⟨RX0, TX0, 11, tyX0, zc0, by decide, zut1 (j := 186) rfl rfl, rfl, fun a h => ⟨rfl, rfl⟩, fun x h => absurd h (by decide +kernel)⟩
theorem pX0_30 : zFP RX0 30 0 5 := ⟨RX0, TX0, 11, tyX0, zc0, by decide, zut1 (j := 187) rfl rfl, rfl, fun a h => ⟨rfl, rfl⟩, fun x h => absurd h (by decide +kernel)⟩
theorem pX0_34 : zFP RX0 34 0 6 := ⟨RX0, TX0, 11, tyX0, zc0, by decide, zut1 (j := 188) rfl rfl, rfl, fun a h => ⟨rfl, rfl⟩, fun x h => absurd h (by decide +kernel)⟩
theorem pX0_37 : zFP RX0 37 0 7 := ⟨RX0, TX0, 11, tyX0, zc0, by decide, zut1 (j := 189) rfl rfl, rfl, fun a h => ⟨rfl, rfl⟩, fun x h => absurd h (by decide +kernel)⟩
theorem pX0_40 : zFP RX0 40 0 0 := ⟨RX0, TX0, 11, tyX0, zc0, by decide, zut1 (j := 182) rfl rfl, rfl, fun a h => ⟨rfl, rfl⟩, fun x h => absurd h (by decide +kernel)⟩
theorem pX1_9 : zFP RX1 9 1 0 := ⟨RX1, TX1, 1, tyX1, zc1, by decide, zut2 (j := 222) rfl rfl, rfl, fun a h => ⟨rfl, rfl⟩, fun x h => absurd h (by decide +kernel)⟩
theorem pX2_9 : zFP RX2 9 2 0 := ⟨RX2, TX2, 13, tyX2, zc2, by decide, zut1 (j := 43) rfl rfl, rfl, fun a h => ⟨rfl, rfl⟩, fun x h => absurd h (by decide +kernel)⟩
theorem pX2_15 : zFP RX2 15 2 1 := ⟨RX2, TX2, 13, tyX2, zc2, by decide, zut1 (j := 45) rfl rfl, rfl, fun a h => ⟨rfl, rfl⟩, fun x h => absurd h (by decide +kernel)⟩
theorem pX2_18 : zFP RX2 18 2 2 := ⟨RX2, TX2, 13, tyX2, zc2, by decide, zut1 (j := 47) rfl rfl, rfl, fun a h => ⟨rfl, rfl⟩, fun x h => absurd h (by decide +kernel)⟩
theorem pX2_22 : zFP RX2 22 2 3 := ⟨RX2, TX2, 13, tyX2, zc2, by decide, zut1 (j := 48) rfl rfl, rfl, fun a h => ⟨rfl, rfl⟩, fun x h => absurd h (by decide +kernel)⟩
theorem pX2_25 : zFP RX2 25 2 4 := ⟨RX2, TX2, 13, tyX2, zc2, by decide, zut1 (j := 50) rfl rfl, rfl, fun a h => ⟨rfl, rfl⟩, fun x h => absurd h (by decide +kernel)⟩
theorem pX2_28 : zFP RX2 28 2 5 := ⟨RX2, TX2, 13, tyX2, zc2, by decide, zut1 (j := 52) rfl rfl, rfl, fun a h => ⟨rfl, rfl⟩, fun x h => absurd h (by decide +kernel)⟩
theorem pX2_31 : zFP RX2 31 2 6 := ⟨RX2, TX2, 13, tyX2, zc2, by decide, zut1 (j := 55) rfl rfl, rfl, fun a h => ⟨rfl, rfl⟩, fun x h => absurd h (by decide +kernel)⟩
theorem pX3_15 : zFP RX3 15 3 0 := ⟨RX3, TX3, 2, tyX3, zc3, by decide, zut1 (j := 173) rfl rfl, rfl, fun a h => ⟨rfl, rfl⟩, fun x h => absurd h (by decide +kernel)⟩
theorem pX4_9 : zFP RX4 9 4 0 := ⟨RX4, TX4, 12, tyX4, zc4, by decide, zut2 (j := 76) rfl rfl, rfl, fun a h => ⟨rfl, rfl⟩, fun x h => absurd h (by decide +kernel)⟩
theorem pX4_15 : zFP RX4 15 4 1 := ⟨RX4, TX4, 12, tyX4, zc4, by decide, zut2 (j := 81) rfl rfl, rfl, fun a h => ⟨rfl, rfl⟩, fun x h => absurd h (by decide +kernel)⟩
theorem pX4_18 : zFP RX4 18 4 2 := ⟨RX4, TX4, 12, tyX4, zc4, by decide, zut2 (j := 85) rfl rfl, rfl, fun a h => ⟨rfl, rfl⟩, fun x h => absurd h (by decide +kernel)⟩
theorem pX4_22 : zFP RX4 22 4 3 := ⟨RX4, TX4, 12, tyX4, zc4, by decide, zut2 (j := 86) rfl rfl, rfl, fun a h => ⟨rfl, rfl⟩, fun x h => absurd h (by decide +kernel)⟩
theorem pX4_25 : zFP RX4 25 4 4 := ⟨RX4, TX4, 12, tyX4, zc4, by decide, zut2 (j := 90) rfl rfl, rfl, fun a h => ⟨rfl, rfl⟩, fun x h => absurd h (by decide +kernel)⟩
theorem pX4_28 : zFP RX4 28 4 5 := ⟨RX4, TX4, 12, tyX4, zc4, by decide, zut2 (j := 94) rfl rfl, rfl, fun a h => ⟨rfl, rfl⟩, fun x h => absurd h (by decide +kernel)⟩
theorem pX4_34 : zFP RX4 34 4 6 := ⟨RX4, TX4, 12, tyX4, zc4, by decide, zut2 (j := 98) rfl rfl, rfl, fun a h => ⟨rfl, rfl⟩, fun x h => absurd h (by decide +kernel)⟩
theorem pX5_9 : zFP RX5 9 5 0 := ⟨RX5, TX5, 3, tyX5, zc5, by decide, zut2 (j := 232) rfl rfl, rfl, fun a h => ⟨rfl, rfl⟩, fun x h => absurd h (by decide +kernel)⟩
theorem pX5_15 : zFP RX5 15 5 1 := ⟨RX5, TX5, 3, tyX5, zc5, by decide, zut2 (j := 233) rfl rfl, rfl, fun a h => ⟨rfl, rfl⟩, fun x h => absurd h (by decide +kernel)⟩
theorem pX6_9 : zFP RX6 9 6 1 := ⟨RX6, TX6, 10, tyX6, zc6, by decide, zut2 (j := 185) rfl rfl, rfl, fun a h => ⟨rfl, rfl⟩, fun x h => absurd h (by decide +kernel)⟩
theorem pX6_15 : zFP RX6 15 6 2 := ⟨RX6, TX6, 10, tyX6, zc6, by decide, zut2 (j := 186) rfl rfl, rfl, fun a h => ⟨rfl, rfl⟩, fun x h => absurd h (by decide +kernel)⟩
theorem pX6_18 : zFP RX6 18 6 3 := ⟨RX6, TX6, 10, tyX6, zc6, by decide, zut2 (j := 187) rfl rfl, rfl, fun a h => ⟨rfl, rfl⟩, fun x h => absurd h (by decide +kernel)⟩
theorem pX6_21 : zFP RX6 21 6 4 := ⟨RX6, TX6, 10, tyX6, zc6, by decide, zut2 (j := 188) rfl rfl, rfl, fun a h => ⟨rfl, rfl⟩, fun x h => absurd h (by decide +kernel)⟩
theorem pX6_24 : zFP RX6 24 6 5 := ⟨RX6, TX6, 10, tyX6, zc6, by decide, zut2 (j := 189) rfl rfl, rfl, fun a h => ⟨rfl, rfl⟩, fun x h => absurd h (by decide +kernel)⟩
theorem pX6_27 : zFP RX6 27 6 6 := ⟨RX6, TX6, 10, tyX6, zc6, by decide, zut2 (j := 190) rfl rfl, rfl, fun a h => ⟨rfl, rfl⟩, fun x h => absurd h (by decide +kernel)⟩
theorem pX6_30 : zFP RX6 30 6 7 := ⟨RX6, TX6, 10, tyX6, zc6, by decide, zut2 (j := 192) rfl rfl, rfl, fun a h => ⟨rfl, rfl⟩, fun x h => absurd h (by decide +kernel)⟩
theorem pX6_33 : zFP RX6 33 6 8 := ⟨RX6, TX6, 10, tyX6, zc6, by decide, zut2 (j := 193) rfl rfl, rfl, fun a h => ⟨rfl, rfl⟩, fun x h => absurd h (by decide +kernel)⟩
theorem pX6_36 : zFP RX6 36 6 0 := ⟨RX6, TX6, 10, tyX6, zc6, by decide, zut2 (j := 184) rfl rfl, rfl, fun a h => ⟨rfl, rfl⟩, fun x h => absurd h (by decide +kernel)⟩
theorem pX7_9 : zFP RX7 9 7 1 := ⟨RX7, TX7, 16, tyX7, zc7, by decide, zut2 (j := 19) rfl rfl, rfl, fun a h => ⟨rfl, rfl⟩, fun x h => absurd h (by decide +kernel)⟩
theorem pX7_15 : zFP RX7 15 7 2 := ⟨RX7, TX7, 16, tyX7, zc7, by decide, zut2 (j := 21) rfl rfl, rfl, fun a h => ⟨rfl, rfl⟩, fun x h => absurd h (by decide +kernel)⟩
theorem pX7_19 : zFP RX7 19 7 3 := ⟨RX7, TX7, 16, tyX7, zc7, by decide, zut2 (j := 22) rfl rfl, rfl, fun a h => ⟨rfl, rfl⟩, fun x h => absurd h (by decide +kernel)⟩
theorem pX7_22 : zFP RX7 22 7 4 := ⟨RX7, TX7, 16, tyX7, zc7, by decide, zut2 (j := 23) rfl rfl, rfl, fun a h => ⟨rfl, rfl⟩, fun x h => absurd h (by decide +kernel)⟩
theorem pX7_25 : zFP RX7 25 7 5 := ⟨RX7, TX7, 16, tyX7, zc7, by decide, zut2 (j := 24) rfl rfl, rfl, fun a h => ⟨rfl, rfl⟩, fun x h => absurd h (by decide +kernel)⟩
theorem pX7_28 : zFP RX7 28 7 8 := ⟨RX7, TX7, 16, tyX7, zc7, by decide, zut2 (j := 29) rfl rfl, rfl, fun a h => ⟨rfl, rfl⟩, fun x h => absurd h (by decide +kernel)⟩
theorem pX7_31 : zFP RX7 31 7 9 := ⟨RX7, TX7, 16, tyX7, zc7, by decide, zut2 (j := 30) rfl rfl, rfl, fun a h => ⟨rfl, rfl⟩, fun x h => absurd h (by decide +kernel)⟩
theorem pX7_34 : zFP RX7 34 7 11 := ⟨RX7, TX7, 16, tyX7, zc7, by decide, zut2 (j := 35) rfl rfl, rfl, fun a h => ⟨rfl, rfl⟩, fun x h => absurd h (by decide +kernel)⟩
theorem pX7_37 : zFP RX7 37 7 12 := ⟨RX7, TX7, 16, tyX7, zc7, by decide, zut2 (j := 37) rfl rfl, rfl, fun a h => ⟨rfl, rfl⟩, fun x h => absurd h (by decide +kernel)⟩
theorem pX7_40 : zFP RX7 40 7 13 := ⟨RX7, TX7, 16, tyX7, zc7, by decide, zut2 (j := 39) rfl rfl, rfl, fun a h => ⟨rfl, rfl⟩, fun x h => absurd h (by decide +kernel)⟩
theorem pX7_43 : zFP RX7 43 7 14 := ⟨RX7, TX7, 16, tyX7, zc7, by decide, zut2 (j := 40) rfl rfl, rfl, fun a h => ⟨rfl, rfl⟩, fun x h => absurd h (by decide +kernel)⟩
theorem pX8_12 : zFP RX8 12 8 0 := ⟨RX8, TX8, 8, tyX8, zc8, by decide, zut2 (j := 149) rfl rfl, rfl, fun a h => ⟨rfl, rfl⟩, fun x h => absurd h (by decide +kernel)⟩
theorem pX8_23 : zFP RX8 23 8 1 := ⟨RX8, TX8, 8, tyX8, zc8, by decide, zut2 (j := 151) rfl rfl, rfl, fun a h => ⟨rfl, rfl⟩, fun x h => absurd h (by decide +kernel)⟩
theorem pX8_29 : zFP RX8 29 8 3 := ⟨RX8, TX8, 8, tyX8, zc8, by decide, zut2 (j := 153) rfl rfl, rfl, fun a h => ⟨rfl, rfl⟩, fun x h => absurd h (by decide +kernel)⟩
theorem pX8_35 : zFP RX8 35 8 4 := ⟨RX8, TX8, 8, tyX8, zc8, by decide, zut2 (j := 154) rfl rfl, rfl, fun a h => ⟨rfl, rfl⟩, fun x h => absurd h (by decide +kernel)⟩
theorem pX8_42 : zFP RX8 42 8 5 := ⟨RX8, TX8, 8, tyX8, zc8, by decide, zut2 (j := 156) rfl rfl, rfl, fun a h => ⟨rfl, rfl⟩, fun x h => absurd h (by decide +kernel)⟩
theorem pX8_46 : zFP RX8 46 8 2 := ⟨RX8, TX8, 8, tyX8, zc8, by decide, zut2 (j := 152) rfl rfl, rfl, fun a h => ⟨rfl, rfl⟩, fun x h => absurd h (by decide +kernel)⟩
theorem pX9_11 : zFP RX9 11 9 0 := ⟨RX9, TX9, 3, tyX9, zc9, by decide, zut1 (j := 226) rfl rfl, rfl, fun a h => ⟨rfl, rfl⟩, fun x h => absurd h (by decide +kernel)⟩
theorem pX9_17 : zFP RX9 17 9 1 := ⟨RX9, TX9, 3, tyX9, zc9, by decide, zut1 (j := 230) rfl rfl, rfl, fun a h => ⟨rfl, rfl⟩, fun x h => absurd h (by decide +kernel)⟩
theorem pX10_9 : zFP RX10 9 10 0 := ⟨RX10, TX10, 10, tyX10, zc10, by decide, zut1 (j := 118) rfl rfl, rfl, fun a h => ⟨rfl, rfl⟩, fun x h => absurd h (by decide +kernel)⟩
theorem pX10_15 : zFP RX10 15 10 1 := ⟨RX10, TX10, 10, tyX10, zc10, by decide, zut1 (j := 119) rfl rfl, rfl, fun a h => ⟨rfl, rfl⟩, fun x h => absurd h (by decide +kernel)⟩
theorem pX10_18 : zFP RX10 18 10 2 := ⟨RX10, TX10, 10, tyX10, zc10, by decide, zut1 (j := 120) rfl rfl, rfl, fun a h => ⟨rfl, rfl⟩, fun x h => absurd h (by decide +kernel)⟩
theorem pX11_9 : zFP RX11 9 11 0 := ⟨RX11, TX11, 17, tyX11, zc11, by decide, zut3 (j := 8) rfl rfl, rfl, fun a h => ⟨rfl, rfl⟩, fun x h => absurd h (by decide +kernel)⟩
theorem pX11_13 : zFP RX11 13 11 1 := ⟨RX11, TX11, 17, tyX11, zc11, by decide, zut3 (j := 9) rfl rfl, rfl, fun a h => ⟨rfl, rfl⟩, fun x h => absurd h (by decide +kernel)⟩
theorem pX11_19 : zFP RX11 19 11 2 := ⟨RX11, TX11, 17, tyX11, zc11, by decide, zut3 (j := 10) rfl rfl, rfl, fun a h => ⟨rfl, rfl⟩, fun x h => absurd h (by decide +kernel)⟩
theorem pX11_26 : zFP RX11 26 11 3 := ⟨RX11, TX11, 17, tyX11, zc11, by decide, zut3 (j := 11) rfl rfl, rfl, fun a h => ⟨rfl, rfl⟩, fun x h => absurd h (by decide +kernel)⟩
theorem pX11_35 : zFP RX11 35 11 4 := ⟨RX11, TX11, 17, tyX11, zc11, by decide, zut3 (j := 12) rfl rfl, rfl, fun a h => ⟨rfl, rfl⟩, fun x h => absurd h (by decide +kernel)⟩
theorem pX11_42 : zFP RX11 42 11 5 := ⟨RX11, TX11, 17, tyX11, zc11, by decide, zut3 (j := 13) rfl rfl, rfl, fun a h => ⟨rfl, rfl⟩, fun x h => absurd h (by decide +kernel)⟩
theorem pX11_49 : zFP RX11 49 11 6 := ⟨RX11, TX11, 17, tyX11, zc11, by decide, zut3 (j := 14) rfl rfl, rfl, fun a h => ⟨rfl, rfl⟩, fun x h => absurd h (by decide +kernel)⟩
theorem pX11_56 : zFP RX11 56 11 7 := ⟨RX11, TX11, 17, tyX11, zc11, by decide, zut3 (j := 15) rfl rfl, rfl, fun a h => ⟨rfl, rfl⟩, fun x h => absurd h (by decide +kernel)⟩
theorem pX11_65 : zFP RX11 65 11 8 := ⟨RX11, TX11, 17, tyX11, zc11, by decide, zut3 (j := 16) rfl rfl, rfl, fun a h => ⟨rfl, rfl⟩, fun x h => absurd h (by decide +kernel)⟩
theorem pX11_72 : zFP RX11 72 11 9 := ⟨RX11, TX11, 17, tyX11, zc11, by decide, zut3 (j := 17) rfl rfl, rfl, fun a h => ⟨rfl, rfl⟩, fun x h => absurd h (by decide +kernel)⟩
theorem pX12_9 : zFP RX12 9 12 2 := ⟨RX12, TX12, 90, tyX12, zc12, by decide, zut7 (j := 87) rfl rfl, rfl, fun a h => absurd h (by decide +kernel), fun x h => ⟨rfl, rfl⟩⟩
theorem pX12_13 : zFP RX12 13 12 3 := ⟨RX12, TX12, 90, tyX12, zc12, by decide, zut7 (j := 88) rfl rfl, rfl, fun a h => ⟨rfl, rfl⟩, fun x h => absurd h (by decide +kernel)⟩
theorem pX12_17 : zFP RX12 17 12 12 := ⟨RX12, TX12, 90, tyX12, zc12, by decide, zut7 (j := 97) rfl rfl, rfl, fun a h => ⟨rfl, rfl⟩, fun x h => absurd h (by decide +kernel)⟩
theorem pX12_21 : zFP RX12 21 12 15 := ⟨RX12, TX12, 90, tyX12, zc12, by decide, zut7 (j := 100) rfl rfl, rfl, fun a h => ⟨rfl, rfl⟩, fun x h => absurd h (by decide +kernel)⟩
theorem pX12_25 : zFP RX12 25 12 16 := ⟨RX12, TX12, 90, tyX12, zc12, by decide, zut7 (j := 101) rfl rfl, rfl, fun a h => ⟨rfl, rfl⟩, fun x h => absurd h (by decide +kernel)⟩
theorem pX12_28 : zFP RX12 28 12 18 := ⟨RX12, TX12, 90, tyX12, zc12, by decide, zut7 (j := 103) rfl rfl, rfl, fun a h => ⟨rfl, rfl⟩, fun x h => absurd h (by decide +kernel)⟩
theorem pX12_31 : zFP RX12 31 12 19 := ⟨RX12, TX12, 90, tyX12, zc12, by decide, zut7 (j := 104) rfl rfl, rfl, fun a h => ⟨rfl, rfl⟩, fun x h => absurd h (by decide +kernel)⟩
theorem pX12_34 : zFP RX12 34 12 20 := ⟨RX12, TX12, 90, tyX12, zc12, by decide, zut7 (j := 105) rfl rfl, rfl, fun a h => ⟨rfl, rfl⟩, fun x h => absurd h (by decide +kernel)⟩
theorem pX12_37 : zFP RX12 37 12 21 := ⟨RX12, TX12, 90, tyX12, zc12, by decide, zut7 (j := 106) rfl rfl, rfl, fun a h => ⟨rfl, rfl⟩, fun x h => absurd h (by decide +kernel)⟩
theorem pX12_40 : zFP RX12 40 12 24 := ⟨RX12, TX12, 90, tyX12, zc12, by decide, zut7 (j := 109) rfl rfl, rfl, fun a h => ⟨rfl, rfl⟩, fun x h => absurd h (by decide +kernel)⟩
theorem pX12_43 : zFP RX12 43 12 25 := ⟨RX12, TX12, 90, tyX12, zc12, by decide, zut7 (j := 110) rfl rfl, rfl, fun a h => ⟨rfl, rfl⟩, fun x h => absurd h (by decide +kernel)⟩
theorem pX12_46 : zFP RX12 46 12 26 := ⟨RX12, TX12, 90, tyX12, zc12, by decide, zut7 (j := 111) rfl rfl, rfl, fun a h => ⟨rfl, rfl⟩, fun x h => absurd h (by decide +kernel)⟩
theorem pX12_49 : zFP RX12 49 12 27 := ⟨RX12, TX12, 90, tyX12, zc12, by decide, zut7 (j := 112) rfl rfl, rfl, fun a h => ⟨rfl, rfl⟩, fun x h => absurd h (by decide +kernel)⟩
theorem pX12_52 : zFP RX12 52 12 28 := ⟨RX12, TX12, 90, tyX12, zc12, by decide, zut7 (j := 113) rfl rfl, rfl, fun a h => ⟨rfl, rfl⟩, fun x h => absurd h (by decide +kernel)⟩
theorem pX12_55 : zFP RX12 55 12 29 := ⟨RX12, TX12, 90, tyX12, zc12, by decide, zut7 (j := 114) rfl rfl, rfl, fun a h => ⟨rfl, rfl⟩, fun x h => absurd h (by decide +kernel)⟩
theorem pX12_58 : zFP RX12 58 12 30 := ⟨RX12, TX12, 90, tyX12, zc12, by decide, zut7 (j := 115) rfl rfl, rfl, fun a h => ⟨rfl, rfl⟩, fun x h => absurd h (by decide +kernel)⟩
theorem pX12_61 : zFP RX12 61 12 31 := ⟨RX12, TX12, 90, tyX12, zc12, by decide, zut7 (j := 116) rfl rfl, rfl, fun a h => ⟨rfl, rfl⟩, fun x h => absurd h (by decide +kernel)⟩
theorem pX12_64 : zFP RX12 64 12 32 := ⟨RX12, TX12, 90, tyX12, zc12, by decide, zut7 (j := 117) rfl rfl, rfl, fun a h => ⟨rfl, rfl⟩, fun x h => absurd h (by decide +kernel)⟩
theorem pX12_67 : zFP RX12 67 12 33 := ⟨RX12, TX12, 90, tyX12, zc12, by decide, zut7 (j := 118) rfl rfl, rfl, fun a h => ⟨rfl, rfl⟩, fun x h => absurd h (by decide +kernel)⟩
theorem pX12_70 : zFP RX12 70 12 34 := ⟨RX12, TX12, 90, tyX12, zc12, by decide, zut7 (j := 119) rfl rfl, rfl, fun a h => ⟨rfl, rfl⟩, fun x h => absurd h (by decide +kernel)⟩
theorem pX12_73 : zFP RX12 73 12 40 := ⟨RX12, TX12, 90, tyX12, zc12, by decide, zut7 (j := 125) rfl rfl, rfl, fun a h => ⟨rfl, rfl⟩, fun x h => absurd h (by decide +kernel)⟩
theorem pX12_76 : zFP RX12 76 12 41 := ⟨RX12, TX12, 90, tyX12, zc12, by decide, zut7 (j := 126) rfl rfl, rfl, fun a h => ⟨rfl, rfl⟩, fun x h => absurd h (by decide +kernel)⟩
theorem pX12_79 : zFP RX12 79 12 42 := ⟨RX12, TX12, 90, tyX12, zc12, by decide, zut7 (j := 127) rfl rfl, rfl, fun a h => ⟨rfl, rfl⟩, fun x h => absurd h (by decide +kernel)⟩
theorem pX12_82 : zFP RX12 82 12 43 := ⟨RX12, TX12, 90, tyX12, zc12, by decide, zut7 (j := 128) rfl rfl, rfl, fun a h => ⟨rfl, rfl⟩, fun x h => absurd h (by decide +kernel)⟩
theorem pX12_85 : zFP RX12 85 12 44 := ⟨RX12, TX12, 90, tyX12, zc12, by decide, zut7 (j := 129) rfl rfl, rfl, fun a h => ⟨rfl, rfl⟩, fun x h => absurd h (by decide +kernel)⟩
theorem pX12_88 : zFP RX12 88 12 45 := ⟨RX12, TX12, 90, tyX12, zc12, by decide, zut7 (j := 130) rfl rfl, rfl, fun a h => ⟨rfl, rfl⟩, fun x h => absurd h (by decide +kernel)⟩
theorem pX12_91 : zFP RX12 91 12 46 := ⟨RX12, TX12, 90, tyX12, zc12, by decide, zut7 (j := 131) rfl rfl, rfl, fun a h => ⟨rfl, rfl⟩, fun x h => absurd h (by decide +kernel)⟩
theorem pX12_94 : zFP RX12 94 12 52 := ⟨RX12, TX12, 90, tyX12, zc12, by decide, zut7 (j := 137) rfl rfl, rfl, fun a h => ⟨rfl, rfl⟩, fun x h => absurd h (by decide +kernel)⟩
theorem pX12_97 : zFP RX12 97 12 53 := ⟨RX12, TX12, 90, tyX12, zc12, by decide, zut7 (j := 138) rfl rfl, rfl, fun a h => ⟨rfl, rfl⟩, fun x h => absurd h (by decide +kernel)⟩
theorem pX12_100 : zFP RX12 100 12 54 := ⟨RX12, TX12, 90, tyX12, zc12, by decide, zut7 (j := 139) rfl rfl, rfl, fun a h => ⟨rfl, rfl⟩, fun x h => absurd h (by decide +kernel)⟩
theorem pX12_103 : zFP RX12 103 12 55 := ⟨RX12, TX12, 90, tyX12, zc12, by decide, zut7 (j := 140) rfl rfl, rfl, fun a h => ⟨rfl, rfl⟩, fun x h => absurd h (by decide +kernel)⟩
theorem pX12_106 : zFP RX12 106 12 56 := ⟨RX12, TX12, 90, tyX12, zc12, by decide, zut7 (j := 141) rfl rfl, rfl, fun a h => ⟨rfl, rfl⟩, fun x h => absurd h (by decide +kernel)⟩
theorem pX12_109 : zFP RX12 109 12 57 := ⟨RX12, TX12, 90, tyX12, zc12, by decide, zut7 (j := 142) rfl rfl, rfl, fun a h => ⟨rfl, rfl⟩, fun x h => absurd h (by decide +kernel)⟩
theorem pX12_112 : zFP RX12 112 12 58 := ⟨RX12, TX12, 90, tyX12, zc12, by decide, zut7 (j := 143) rfl rfl, rfl, fun a h => ⟨rfl, rfl⟩, fun x h => absurd h (by decide +kernel)⟩
theorem pX12_115 : zFP RX12 115 12 59 := ⟨RX12, TX12, 90, tyX12, zc12, by decide, zut7 (j := 144) rfl rfl, rfl, fun a h => ⟨rfl, rfl⟩, fun x h => absurd h (by decide +kernel)⟩
theorem pX12_118 : zFP RX12 118 12 60 := ⟨RX12, TX12, 90, tyX12, zc12, by decide, zut7 (j := 145) rfl rfl, rfl, fun a h => ⟨rfl, rfl⟩, fun x h => absurd h (by decide +kernel)⟩
theorem pX12_121 : zFP RX12 121 12 61 := ⟨RX12, TX12, 90, tyX12, zc12, by decide, zut7 (j := 146) rfl rfl, rfl, fun a h => ⟨rfl, rfl⟩, fun x h => absurd h (by decide +kernel)⟩
theorem pX12_124 : zFP RX12 124 12 62 := ⟨RX12, TX12, 90, tyX12, zc12, by decide, zut7 (j := 147) rfl rfl, rfl, fun a h => ⟨rfl, rfl⟩, fun x h => absurd h (by decide +kernel)⟩
theorem pX12_127 : zFP RX12 127 12 63 := ⟨RX12, TX12, 90, tyX12, zc12, by decide, zut7 (j := 148) rfl rfl, rfl, fun a h => ⟨rfl, rfl⟩, fun x h => absurd h (by decide +kernel)⟩
theorem pX12_130 : zFP RX12 130 12 66 := ⟨RX12, TX12, 90, tyX12, zc12, by decide, zut7 (j := 151) rfl rfl, rfl, fun a h => ⟨rfl, rfl⟩, fun x h => absurd h (by decide +kernel)⟩
theorem pX12_133 : zFP RX12 133 12 67 := ⟨RX12, TX12, 90, tyX12, zc12, by decide, zut7 (j := 152) rfl rfl, rfl, fun a h => ⟨rfl, rfl⟩, fun x h => absurd h (by decide +kernel)⟩
theorem pX12_136 : zFP RX12 136 12 68 := ⟨RX12, TX12, 90, tyX12, zc12, by decide, zut7 (j := 153) rfl rfl, rfl, fun a h => ⟨rfl, rfl⟩, fun x h => absurd h (by decide +kernel)⟩
theorem pX12_139 : zFP RX12 139 12 69 := ⟨RX12, TX12, 90, tyX12, zc12, by decide, zut7 (j := 154) rfl rfl, rfl, fun a h => ⟨rfl, rfl⟩, fun x h => absurd h (by decide +kernel)⟩
theorem pX12_142 : zFP RX12 142 12 70 := ⟨RX12, TX12, 90, tyX12, zc12, by decide, zut7 (j := 155) rfl rfl, rfl, fun a h => ⟨rfl, rfl⟩, fun x h => absurd h (by decide +kernel)⟩
theorem pX12_145 : zFP RX12 145 12 71 := ⟨RX12, TX12, 90, tyX12, zc12, by decide, zut7 (j := 156) rfl rfl, rfl, fun a h => ⟨rfl, rfl⟩, fun x h => absurd h (by decide +kernel)⟩
theorem pX12_148 : zFP RX12 148 12 72 := ⟨RX12, TX12, 90, tyX12, zc12, by decide, zut7 (j := 157) rfl rfl, rfl, fun a h => ⟨rfl, rfl⟩, fun x h => absurd h (by decide +kernel)⟩
theorem pX12_151 : zFP RX12 151 12 73 := ⟨RX12, TX12, 90, tyX12, zc12, by decide, zut7 (j := 158) rfl rfl, rfl, fun a h => ⟨rfl, rfl⟩, fun x h => absurd h (by decide +kernel)⟩
theorem pX12_154 : zFP RX12 154 12 74 := ⟨RX12, TX12, 90, tyX12, zc12, by decide, zut7 (j := 159) rfl rfl, rfl, fun a h => ⟨rfl, rfl⟩, fun x h => absurd h (by decide +kernel)⟩
theorem pX12_157 : zFP RX12 157 12 76 := ⟨RX12, TX12, 90, tyX12, zc12, by decide, zut7 (j := 161) rfl rfl, rfl, fun a h => ⟨rfl, rfl⟩, fun x h => absurd h (by decide +kernel)⟩
theorem pX12_160 : zFP RX12 160 12 78 := ⟨RX12, TX12, 90, tyX12, zc12, by decide, zut7 (j := 163) rfl rfl, rfl, fun a h => ⟨rfl, rfl⟩, fun x h => absurd h (by decide +kernel)⟩
theorem pX12_163 : zFP RX12 163 12 79 := ⟨RX12, TX12, 90, tyX12, zc12, by decide, zut7 (j := 164) rfl rfl, rfl, fun a h => ⟨rfl, rfl⟩, fun x h => absurd h (by decide +kernel)⟩
theorem pX12_166 : zFP RX12 166 12 80 := ⟨RX12, TX12, 90, tyX12, zc12, by decide, zut7 (j := 165) rfl rfl, rfl, fun a h => ⟨rfl, rfl⟩, fun x h => absurd h (by decide +kernel)⟩
theorem pX12_169 : zFP RX12 169 12 81 := ⟨RX12, TX12, 90, tyX12, zc12, by decide, zut7 (j := 166) rfl rfl, rfl, fun a h => ⟨rfl, rfl⟩, fun x h => absurd h (by decide +kernel)⟩
theorem pX12_172 : zFP RX12 172 12 82 := ⟨RX12, TX12, 90, tyX12, zc12, by decide, zut7 (j := 167) rfl rfl, rfl, fun a h => ⟨rfl, rfl⟩, fun x h => absurd h (by decide +kernel)⟩
theorem pX12_175 : zFP RX12 175 12 83 := ⟨RX12, TX12, 90, tyX12, zc12, by decide, zut7 (j := 168) rfl rfl, rfl, fun a h => ⟨rfl, rfl⟩, fun x h => absurd h (by decide +kernel)⟩
theorem pX12_178 : zFP RX12 178 12 84 := ⟨RX12, TX12, 90, tyX12, zc12, by decide, zut7 (j := 169) rfl rfl, rfl, fun a h => ⟨rfl, rfl⟩, fun x h => absurd h (by decide +kernel)⟩
theorem pX12_181 : zFP RX12 181 12 85 := ⟨RX12, TX12, 90, tyX12, zc12, by decide, zut7 (j := 170) rfl rfl, rfl, fun a h => ⟨rfl, rfl⟩, fun x h => absurd h (by decide +kernel)⟩
theorem pX12_184 : zFP RX12 184 12 86 := ⟨RX12, TX12, 90, tyX12, zc12, by decide, zut7 (j := 171) rfl rfl, rfl, fun a h => ⟨rfl, rfl⟩, fun x h => absurd h (by decide +kernel)⟩
theorem pX12_187 : zFP RX12 187 12 89 := ⟨RX12, TX12, 90, tyX12, zc12, by decide, zut7 (j := 174) rfl rfl, rfl, fun a h => ⟨rfl, rfl⟩, fun x h => absurd h (by decide +kernel)⟩
/-- what the constructors leave -/
def zIT : List (List Int) := [[1, 2, 3, 4, 12, 233, 242, 244, 247, 249, 0, 0, 0, 0, 0, 0, 0], [], [], [276, 295, 314, 333, 352, 371, 390, 409, 428, 447], [5, 6, 7, 8, 9, 10, 11, 0, 0, 0, 0, 0, 0], [], [], [], [], [], [], [], [13, 17, 4, 80, 81, 82, 0, 0], [14, 15, 16, 0, 0, 0, 0, 0, 0, 0], [], [], [], [13, 18, 19, 20, 21, 22, 24, 26, 0, 0, 0], [28, 32, 36, 40, 44, 48, 52, 56, 60, 64, 68, 72, 76], [30, 34, 38, 42, 46, 50, 54, 58, 62, 66, 70, 74, 78], [], [], [23, 0], [], [25, 0], [], [27, 0], [], [29, 0], [], [31, 0], [], [33, 0], [], [35, 0], [], [37, 0], [], [39, 0], [], [41, 0], [], [43, 0], [], [45, 0], [], [47, 0], [], [49, 0], [], [51, 0], [], [53, 0], [], [55, 0], [], [57, 0], [], [59, 0], [], [61, 0], [], [63, 0], [], [65, 0], [], [67, 0], [], [69, 0], [], [71, 0], [], [73, 0], [], [75, 0], [], [77, 0], [], [79, 0], [], [109, 111, 113, 115, 117, 119, 121, 123, 125, 127, 129, 131, 133, 135, 137, 139, 141, 143, 145, 147, 149, 151, 153, 155], [157, 176, 195, 214], [83, 84, 0], [85, 87, 89, 91, 93, 95, 97, 99, 101, 103, 105, 107], [], [86, 0], [], [88, 0], [], [90, 0], [], [92, 0], [], [94, 0], [], [96, 0], [], [98, 0], [], [100, 0], [], [102, 0], [], [104, 0], [], [106, 0], [], [108, 0], [], [110, 0], [], [112, 0], [], [114, 0], [], [116, 0], [], [118, 0], [], [120, 0], [], [122, 0], [], [124, 0], [], [126, 0], [], [128, 0], [], [130, 0], [], [132, 0], [], [134, 0], [], [136, 0], [], [138, 0], [], [140, 0], [], [142, 0], [], [144, 0], [], [146, 0], [], [148, 0], [], [150, 0], [], [152, 0], [], [154, 0], [], [156, 0], [], [158, 159, 160, 161, 162, 163, 164, 0, 0, 0, 0, 0], [], [], [], [], [], [], [0, 165, 166, 167, 168, 169, 0, 0, 170, 171, 0, 172, 173, 174, 175, 0], [], [], [], [], [], [], [], [], [], [], [], [177, 178, 179, 180, 181, 182, 183, 0, 0, 0, 0, 0], [], [], [], [], [], [], [0, 184, 185, 186, 187, 188, 0, 0, 189, 190, 0, 191, 192, 193, 194, 0], [], [], [], [], [], [], [], [], [], [], [], [196, 197, 198, 199, 200, 201, 202, 0, 0, 0, 0, 0], [], [], [], [], [], [], [0, 203, 204, 205, 206, 207, 0, 0, 208, 209, 0, 210, 211, 212, 213, 0], [], [], [], [], [], [], [], [], [], [], [], [215, 216, 217, 218, 219, 220, 221, 0, 0, 0, 0, 0], [], [], [], [], [], [], [0, 222, 223, 224, 225, 226, 0, 0, 227, 228, 0, 229, 230, 231, 232, 0], [], [], [], [], [], [], [], [], [], [], [], [4, 234, 235, 236, 237, 238, 239, 240, 241, 0], [], [], [], [], [], [], [], [], [243], [], [245, 246, 0], [], [], [248, 0], [], [250, 251, 0], [252, 254, 256, 258, 260, 262, 264, 266, 268, 270, 272, 274], [], [253, 0], [], [255, 0], [], [257, 0], [], [259, 0], [], [261, 0], [], [263, 0], [], [265, 0], [], [267, 0], [], [269, 0], [], [271, 0], [], [273, 0], [], [275, 0], [], [277, 278, 279, 280, 281, 282, 283, 0, 0, 0, 0, 0], [], [], [], [], [], [], [0, 284, 285, 286, 287, 288, 0, 0, 289, 290, 0, 291, 292, 293, 294, 0], [], [], [], [], [], [], [], [], [], [], [], [296, 297, 298, 299, 300, 301, 302, 0, 0, 0, 0, 0], [], [], [], [], [], [], [0, 303, 304, 305, 306, 307, 0, 0, 308, 309, 0, 310, 311, 312, 313, 0], [], [], [], [], [], [], [], [], [], [], [], [315, 316, 317, 318, 319, 320, 321, 0, 0, 0, 0, 0], [], [], [], [], [], [], [0, 322, 323, 324, 325, 326, 0, 0, 327, 328, 0, 329, 330, 331, 332, 0], [], [], [], [], [], [], [], [], [], [], [], [334, 335, 336, 337, 338, 339, 340, 0, 0, 0, 0, 0], [], [], [], [], [], [], [0, 341, 342, 343, 344, 345, 0, 0, 346, 347, 0, 348, 349, 350, 351, 0], [], [], [], [], [], [], [], [], [], [], [], [353, 354, 355, 356, 357, 358, 359, 0, 0, 0, 0, 0], [], [], [], [], [], [], [0, 360, 361, 362, 363, 364, 0, 0, 365, 366, 0, 367, 368, 369, 370, 0], [], [], [], [], [], [], [], [], [], [], [], [372, 373, 374, 375, 376, 377, 378, 0, 0, 0, 0, 0], [], [], [], [], [], [], [0, 379, 380, 381, 382, 383, 0, 0, 384, 385, 0, 386, 387, 388, 389, 0], [], [], [], [], [], [], [], [], [], [], [], [391, 392, 393, 394, 395, 396, 397, 0, 0, 0, 0, 0], [], [], [], [], [], [], [0, 398, 399, 400, 401, 402, 0, 0, 403, 404, 0, 405, 406, 407, 408, 0], [], [], [], [], [], [], [], [], [], [], [], [410, 411, 412, 413, 414, 415, 416, 0, 0, 0, 0, 0], [], [], [], [], [], [], [0, 417, 418, 419, 420, 421, 0, 0, 422, 423, 0, 424, 425, 426, 427, 0], [], [], [], [], [], [], [], [], [], [], [], [429, 430, 431, 432, 433, 434, 435, 0, 0, 0, 0, 0], [], [], [], [], [], [], [0, 436, 437, 438, 439, 440, 0, 0, 441, 442, 0, 443, 444, 445, 446, 0], [], [], [], [], [], [], [], [], [], [], [], [448, 449, 450, 451, 452, 453, 454, 0, 0, 0, 0, 0], [], [], [], [], [], [], [0, 455, 456, 457, 458, 459, 0, 0, 460, 461, 0, 462, 463, 464, 465, 0], [], [], [], [], [], [], [], [], [], [], [], [0, 0, (-1), 467, 0, 0, 0, 0, 0, 0, 0, 0, 468, 0, 0, 469, 470, 0, 471, 472, 473, 474, 0, 0, 475, 476, 477, 478, 479, 480, 481, 482, 483, 484, 485, 0, 0, 0, 0, 0, 486, 487, 488, 489, 490, 491, 492, 0, 0, 0, 0, 0, 493, 494, 495, 496, 497, 498, 499, 500, 501, 502, 503, 504, 0, 0, 505, 506, 507, 508, 509, 510, 511, 512, 513, 0, 514, 0, 515, 516, 517, 518, 519, 520, 521, 522, 523, 0, 0, 524], [], [], [], [], [], [], [], [], [], [], [], [], [], [], [], [], [], [], [], [], [], [], [], [], [], [], [], [], [], [], [], [], [], [], [], [], [], [], [], [], [], [], [], [], [], [], [], [], [], [], [], [], [], [], [], [], [], [], []]
def zI (a j : Int) : Int := if (zkd a < 13 ∨ zkd a = 16 ∨ zkd a = 17) ∧ 0 ≤ j ∧ j < zln a then (zIT.getD a.toNat []).getD j.toNat 0 else ybl a j
def yM (h h' : zH) : Prop := ∀ x y, h x y = zI x y → h' x y = zI x y
def yD (h : zH) (a b : Int) : Prop := ∀ x y, a ≤ x → x < b → h x y = zI x y
def yJ (h : zH) : Prop := ∀ x y, h x y = zI x y ∨ h x y = ybl x y
theorem yM_rf (h : zH) : yM h h := fun _ _ q => q
theorem yM_tr {h h1 h2 : zH} (a : yM h h1) (b : yM h1 h2) : yM h h2 := fun x y q => b x y (a x y q)
theorem zup_at (h : zH) (r i x : Int) : zup h r i x r i = x := if_pos ⟨rfl, rfl⟩
theorem yM_up {h : zH} {r i x : Int} (hx : x = zI r i) : yM h (zup h r i x) := by
  intro a b q
  unfold zup
  by_cases c : a = r ∧ b = i
  · rw [if_pos c, c.1, c.2]
    exact hx
  · rw [if_neg c]
    exact q
theorem yJ_up {h : zH} (hj : yJ h) {r i x : Int} (hx : x = zI r i) : yJ (zup h r i x) := by
  intro a b
  unfold zup
  by_cases c : a = r ∧ b = i
  · rw [if_pos c, c.1, c.2]
    exact Or.inl hx
  · rw [if_neg c]
    exact hj a b
theorem yD_M {h h' : zH} {a b : Int} (hd : yD h a b) (hm : yM h h') : yD h' a b := fun x y h1 h2 => hm x y (hd x y h1 h2)
theorem yD_app {h : zH} {a b c : Int} (h1 : yD h a b) (h2 : yD h b c) : yD h a c := fun x y q1 q2 => by
  rcases (show x < b ∨ b ≤ x by omega) with q | q
  · exact h1 x y q1 q
  · exact h2 x y q q2
/-- a row of numbers is done when it is made -/
theorem yD_num {h : zH} (hj : yJ h) {a : Nat} (hk : zkdN a = 13 ∨ zkdN a = 14 ∨ zkdN a = 15) : yD h a (a + 1) := by
  intro x y h1 h2
  have e : x = (a : Int) := by omega
  subst e
  have ez : zI (a : Int) y = ybl (a : Int) y := by
    unfold zI
    rw [if_neg]
    intro q
    have := q.1
    unfold zkd at this
    rw [Int.toNat_natCast] at this
    omega
  rcases hj (a : Int) y with q | q
  · exact q
  · rw [q, ez]
/-- an object is done when its references are set -/
theorem yD_obj {h : zH} (hj : yJ h) {a : Nat} (hs : ∀ j : Nat, j < zlnN a → h a j = zI a j ∨ zI a j = ybl a j) : yD h a (a + 1) := by
  intro x y h1 h2
  have e : x = (a : Int) := by omega
  subst e
  by_cases c : 0 ≤ y ∧ y < zln (a : Int)
  · obtain ⟨j, rfl⟩ : ∃ j : Nat, y = j := ⟨y.toNat, by omega⟩
    have hl : j < zlnN a := by
      have := c.2
      unfold zln at this
      rw [Int.toNat_natCast] at this
      omega
    rcases hs j hl with q | q
    · exact q
    · rcases hj (a : Int) (j : Int) with q2 | q2
      · exact q2
      · rw [q2, q]
  · have ez : zI (a : Int) y = ybl (a : Int) y := if_neg (fun q => c ⟨q.2.1, q.2.2⟩)
    rcases hj (a : Int) y with q | q
    · exact q
    · rw [q, ez]
