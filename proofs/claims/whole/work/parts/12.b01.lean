def tJ13_bitCount_95d88_0 (G : zG) (d : Nat) (K : Int → zH → Prop) (l0 : Int) (h : zH) : Prop := zTi G d mJ13_bitCount_95d88 K 0 [some (vl l0), none] [] h
theorem bJ13_bitCount_95d88_0 {G : zG} {d : Nat} {K : Int → zH → Prop} {l0 : Int} {h : zH} (k : zRL ((((zland (((zland (l0 - (zland (zlushr l0 1) 6148914691236517205)) 3689348814741910323) + (zland (zlushr (l0 - (zland (zlushr l0 1) 6148914691236517205)) 2) 3689348814741910323)) + (zlushr ((zland (l0 - (zland (zlushr l0 1) 6148914691236517205)) 3689348814741910323) + (zland (zlushr (l0 - (zland (zlushr l0 1) 6148914691236517205)) 2) 3689348814741910323)) 4)) 1085102592571150095) + (zlushr (zland (((zland (l0 - (zland (zlushr l0 1) 6148914691236517205)) 3689348814741910323) + (zland (zlushr (l0 - (zland (zlushr l0 1) 6148914691236517205)) 2) 3689348814741910323)) + (zlushr ((zland (l0 - (zland (zlushr l0 1) 6148914691236517205)) 3689348814741910323) + (zland (zlushr (l0 - (zland (zlushr l0 1) 6148914691236517205)) 2) 3689348814741910323)) 4)) 1085102592571150095) 8)) + (zlushr ((zland (((zland (l0 - (zland (zlushr l0 1) 6148914691236517205)) 3689348814741910323) + (zland (zlushr (l0 - (zland (zlushr l0 1) 6148914691236517205)) 2) 3689348814741910323)) + (zlushr ((zland (l0 - (zland (zlushr l0 1) 6148914691236517205)) 3689348814741910323) + (zland (zlushr (l0 - (zland (zlushr l0 1) 6148914691236517205)) 2) 3689348814741910323)) 4)) 1085102592571150095) + (zlushr (zland (((zland (l0 - (zland (zlushr l0 1) 6148914691236517205)) 3689348814741910323) + (zland (zlushr (l0 - (zland (zlushr l0 1) 6148914691236517205)) 2) 3689348814741910323)) + (zlushr ((zland (l0 - (zland (zlushr l0 1) 6148914691236517205)) 3689348814741910323) + (zland (zlushr (l0 - (zland (zlushr l0 1) 6148914691236517205)) 2) 3689348814741910323)) 4)) 1085102592571150095) 8)) 16)) + (zlushr (((zland (((zland (l0 - (zland (zlushr l0 1) 6148914691236517205)) 3689348814741910323) + (zland (zlushr (l0 - (zland (zlushr l0 1) 6148914691236517205)) 2) 3689348814741910323)) + (zlushr ((zland (l0 - (zland (zlushr l0 1) 6148914691236517205)) 3689348814741910323) + (zland (zlushr (l0 - (zland (zlushr l0 1) 6148914691236517205)) 2) 3689348814741910323)) 4)) 1085102592571150095) + (zlushr (zland (((zland (l0 - (zland (zlushr l0 1) 6148914691236517205)) 3689348814741910323) + (zland (zlushr (l0 - (zland (zlushr l0 1) 6148914691236517205)) 2) 3689348814741910323)) + (zlushr ((zland (l0 - (zland (zlushr l0 1) 6148914691236517205)) 3689348814741910323) + (zland (zlushr (l0 - (zland (zlushr l0 1) 6148914691236517205)) 2) 3689348814741910323)) 4)) 1085102592571150095) 8)) + (zlushr ((zland (((zland (l0 - (zland (zlushr l0 1) 6148914691236517205)) 3689348814741910323) + (zland (zlushr (l0 - (zland (zlushr l0 1) 6148914691236517205)) 2) 3689348814741910323)) + (zlushr ((zland (l0 - (zland (zlushr l0 1) 6148914691236517205)) 3689348814741910323) + (zland (zlushr (l0 - (zland (zlushr l0 1) 6148914691236517205)) 2) 3689348814741910323)) 4)) 1085102592571150095) + (zlushr (zland (((zland (l0 - (zland (zlushr l0 1) 6148914691236517205)) 3689348814741910323) + (zland (zlushr (l0 - (zland (zlushr l0 1) 6148914691236517205)) 2) 3689348814741910323)) + (zlushr ((zland (l0 - (zland (zlushr l0 1) 6148914691236517205)) 3689348814741910323) + (zland (zlushr (l0 - (zland (zlushr l0 1) 6148914691236517205)) 2) 3689348814741910323)) 4)) 1085102592571150095) 8)) 16)) 32)) ∧ K (ziand ((((zland (((zland (l0 - (zland (zlushr l0 1) 6148914691236517205)) 3689348814741910323) + (zland (zlushr (l0 - (zland (zlushr l0 1) 6148914691236517205)) 2) 3689348814741910323)) + (zlushr ((zland (l0 - (zland (zlushr l0 1) 6148914691236517205)) 3689348814741910323) + (zland (zlushr (l0 - (zland (zlushr l0 1) 6148914691236517205)) 2) 3689348814741910323)) 4)) 1085102592571150095) + (zlushr (zland (((zland (l0 - (zland (zlushr l0 1) 6148914691236517205)) 3689348814741910323) + (zland (zlushr (l0 - (zland (zlushr l0 1) 6148914691236517205)) 2) 3689348814741910323)) + (zlushr ((zland (l0 - (zland (zlushr l0 1) 6148914691236517205)) 3689348814741910323) + (zland (zlushr (l0 - (zland (zlushr l0 1) 6148914691236517205)) 2) 3689348814741910323)) 4)) 1085102592571150095) 8)) + (zlushr ((zland (((zland (l0 - (zland (zlushr l0 1) 6148914691236517205)) 3689348814741910323) + (zland (zlushr (l0 - (zland (zlushr l0 1) 6148914691236517205)) 2) 3689348814741910323)) + (zlushr ((zland (l0 - (zland (zlushr l0 1) 6148914691236517205)) 3689348814741910323) + (zland (zlushr (l0 - (zland (zlushr l0 1) 6148914691236517205)) 2) 3689348814741910323)) 4)) 1085102592571150095) + (zlushr (zland (((zland (l0 - (zland (zlushr l0 1) 6148914691236517205)) 3689348814741910323) + (zland (zlushr (l0 - (zland (zlushr l0 1) 6148914691236517205)) 2) 3689348814741910323)) + (zlushr ((zland (l0 - (zland (zlushr l0 1) 6148914691236517205)) 3689348814741910323) + (zland (zlushr (l0 - (zland (zlushr l0 1) 6148914691236517205)) 2) 3689348814741910323)) 4)) 1085102592571150095) 8)) 16)) + (zlushr (((zland (((zland (l0 - (zland (zlushr l0 1) 6148914691236517205)) 3689348814741910323) + (zland (zlushr (l0 - (zland (zlushr l0 1) 6148914691236517205)) 2) 3689348814741910323)) + (zlushr ((zland (l0 - (zland (zlushr l0 1) 6148914691236517205)) 3689348814741910323) + (zland (zlushr (l0 - (zland (zlushr l0 1) 6148914691236517205)) 2) 3689348814741910323)) 4)) 1085102592571150095) + (zlushr (zland (((zland (l0 - (zland (zlushr l0 1) 6148914691236517205)) 3689348814741910323) + (zland (zlushr (l0 - (zland (zlushr l0 1) 6148914691236517205)) 2) 3689348814741910323)) + (zlushr ((zland (l0 - (zland (zlushr l0 1) 6148914691236517205)) 3689348814741910323) + (zland (zlushr (l0 - (zland (zlushr l0 1) 6148914691236517205)) 2) 3689348814741910323)) 4)) 1085102592571150095) 8)) + (zlushr ((zland (((zland (l0 - (zland (zlushr l0 1) 6148914691236517205)) 3689348814741910323) + (zland (zlushr (l0 - (zland (zlushr l0 1) 6148914691236517205)) 2) 3689348814741910323)) + (zlushr ((zland (l0 - (zland (zlushr l0 1) 6148914691236517205)) 3689348814741910323) + (zland (zlushr (l0 - (zland (zlushr l0 1) 6148914691236517205)) 2) 3689348814741910323)) 4)) 1085102592571150095) + (zlushr (zland (((zland (l0 - (zland (zlushr l0 1) 6148914691236517205)) 3689348814741910323) + (zland (zlushr (l0 - (zland (zlushr l0 1) 6148914691236517205)) 2) 3689348814741910323)) + (zlushr ((zland (l0 - (zland (zlushr l0 1) 6148914691236517205)) 3689348814741910323) + (zland (zlushr (l0 - (zland (zlushr l0 1) 6148914691236517205)) 2) 3689348814741910323)) 4)) 1085102592571150095) 8)) 16)) 32)) 127) h) : tJ13_bitCount_95d88_0 G d K l0 h := by
  unfold tJ13_bitCount_95d88_0
  refine z_lload_n 0 dJ13_bitCount_95d88_0 rfl rfl rfl ?_
  refine z_lload_n 0 dJ13_bitCount_95d88_1 rfl rfl rfl ?_
  refine z_iconst dJ13_bitCount_95d88_2 rfl ?_
  refine z_lushr dJ13_bitCount_95d88_3 rfl ?_
  refine z_ldc2 (x := 6148914691236517205) cJ13_314 rfl dJ13_bitCount_95d88_4 rfl ?_
  refine z_land dJ13_bitCount_95d88_7 rfl ?_
  refine z_lsub dJ13_bitCount_95d88_8 rfl ?_
  refine z_lstore_n 0 dJ13_bitCount_95d88_9 rfl (Nat.le_of_ble_eq_true rfl) (L' := [some (vl (l0 - (zland (zlushr l0 1) 6148914691236517205))), none]) rfl rfl ?_
  refine z_lload_n 0 dJ13_bitCount_95d88_10 rfl rfl rfl ?_
  refine z_ldc2 (x := 3689348814741910323) cJ13_316 rfl dJ13_bitCount_95d88_11 rfl ?_
  refine z_land dJ13_bitCount_95d88_14 rfl ?_
  refine z_lload_n 0 dJ13_bitCount_95d88_15 rfl rfl rfl ?_
  refine z_iconst dJ13_bitCount_95d88_16 rfl ?_
  refine z_lushr dJ13_bitCount_95d88_17 rfl ?_
  refine z_ldc2 (x := 3689348814741910323) cJ13_316 rfl dJ13_bitCount_95d88_18 rfl ?_
  refine z_land dJ13_bitCount_95d88_21 rfl ?_
  refine z_ladd dJ13_bitCount_95d88_22 rfl ?_
  refine z_lstore_n 0 dJ13_bitCount_95d88_23 rfl (Nat.le_of_ble_eq_true rfl) (L' := [some (vl ((zland (l0 - (zland (zlushr l0 1) 6148914691236517205)) 3689348814741910323) + (zland (zlushr (l0 - (zland (zlushr l0 1) 6148914691236517205)) 2) 3689348814741910323))), none]) rfl rfl ?_
  refine z_lload_n 0 dJ13_bitCount_95d88_24 rfl rfl rfl ?_
  refine z_lload_n 0 dJ13_bitCount_95d88_25 rfl rfl rfl ?_
  refine z_iconst dJ13_bitCount_95d88_26 rfl ?_
  refine z_lushr dJ13_bitCount_95d88_27 rfl ?_
  refine z_ladd dJ13_bitCount_95d88_28 rfl ?_
  refine z_ldc2 (x := 1085102592571150095) cJ13_318 rfl dJ13_bitCount_95d88_29 rfl ?_
  refine z_land dJ13_bitCount_95d88_32 rfl ?_
  refine z_lstore_n 0 dJ13_bitCount_95d88_33 rfl (Nat.le_of_ble_eq_true rfl) (L' := [some (vl (zland (((zland (l0 - (zland (zlushr l0 1) 6148914691236517205)) 3689348814741910323) + (zland (zlushr (l0 - (zland (zlushr l0 1) 6148914691236517205)) 2) 3689348814741910323)) + (zlushr ((zland (l0 - (zland (zlushr l0 1) 6148914691236517205)) 3689348814741910323) + (zland (zlushr (l0 - (zland (zlushr l0 1) 6148914691236517205)) 2) 3689348814741910323)) 4)) 1085102592571150095)), none]) rfl rfl ?_
  refine z_lload_n 0 dJ13_bitCount_95d88_34 rfl rfl rfl ?_
  refine z_lload_n 0 dJ13_bitCount_95d88_35 rfl rfl rfl ?_
  refine z_bipush dJ13_bitCount_95d88_36 rfl rfl ?_
  refine z_lushr dJ13_bitCount_95d88_38 rfl ?_
  refine z_ladd dJ13_bitCount_95d88_39 rfl ?_
  refine z_lstore_n 0 dJ13_bitCount_95d88_40 rfl (Nat.le_of_ble_eq_true rfl) (L' := [some (vl ((zland (((zland (l0 - (zland (zlushr l0 1) 6148914691236517205)) 3689348814741910323) + (zland (zlushr (l0 - (zland (zlushr l0 1) 6148914691236517205)) 2) 3689348814741910323)) + (zlushr ((zland (l0 - (zland (zlushr l0 1) 6148914691236517205)) 3689348814741910323) + (zland (zlushr (l0 - (zland (zlushr l0 1) 6148914691236517205)) 2) 3689348814741910323)) 4)) 1085102592571150095) + (zlushr (zland (((zland (l0 - (zland (zlushr l0 1) 6148914691236517205)) 3689348814741910323) + (zland (zlushr (l0 - (zland (zlushr l0 1) 6148914691236517205)) 2) 3689348814741910323)) + (zlushr ((zland (l0 - (zland (zlushr l0 1) 6148914691236517205)) 3689348814741910323) + (zland (zlushr (l0 - (zland (zlushr l0 1) 6148914691236517205)) 2) 3689348814741910323)) 4)) 1085102592571150095) 8))), none]) rfl rfl ?_
  refine z_lload_n 0 dJ13_bitCount_95d88_41 rfl rfl rfl ?_
  refine z_lload_n 0 dJ13_bitCount_95d88_42 rfl rfl rfl ?_
  refine z_bipush dJ13_bitCount_95d88_43 rfl rfl ?_
  refine z_lushr dJ13_bitCount_95d88_45 rfl ?_
  refine z_ladd dJ13_bitCount_95d88_46 rfl ?_
  refine z_lstore_n 0 dJ13_bitCount_95d88_47 rfl (Nat.le_of_ble_eq_true rfl) (L' := [some (vl (((zland (((zland (l0 - (zland (zlushr l0 1) 6148914691236517205)) 3689348814741910323) + (zland (zlushr (l0 - (zland (zlushr l0 1) 6148914691236517205)) 2) 3689348814741910323)) + (zlushr ((zland (l0 - (zland (zlushr l0 1) 6148914691236517205)) 3689348814741910323) + (zland (zlushr (l0 - (zland (zlushr l0 1) 6148914691236517205)) 2) 3689348814741910323)) 4)) 1085102592571150095) + (zlushr (zland (((zland (l0 - (zland (zlushr l0 1) 6148914691236517205)) 3689348814741910323) + (zland (zlushr (l0 - (zland (zlushr l0 1) 6148914691236517205)) 2) 3689348814741910323)) + (zlushr ((zland (l0 - (zland (zlushr l0 1) 6148914691236517205)) 3689348814741910323) + (zland (zlushr (l0 - (zland (zlushr l0 1) 6148914691236517205)) 2) 3689348814741910323)) 4)) 1085102592571150095) 8)) + (zlushr ((zland (((zland (l0 - (zland (zlushr l0 1) 6148914691236517205)) 3689348814741910323) + (zland (zlushr (l0 - (zland (zlushr l0 1) 6148914691236517205)) 2) 3689348814741910323)) + (zlushr ((zland (l0 - (zland (zlushr l0 1) 6148914691236517205)) 3689348814741910323) + (zland (zlushr (l0 - (zland (zlushr l0 1) 6148914691236517205)) 2) 3689348814741910323)) 4)) 1085102592571150095) + (zlushr (zland (((zland (l0 - (zland (zlushr l0 1) 6148914691236517205)) 3689348814741910323) + (zland (zlushr (l0 - (zland (zlushr l0 1) 6148914691236517205)) 2) 3689348814741910323)) + (zlushr ((zland (l0 - (zland (zlushr l0 1) 6148914691236517205)) 3689348814741910323) + (zland (zlushr (l0 - (zland (zlushr l0 1) 6148914691236517205)) 2) 3689348814741910323)) 4)) 1085102592571150095) 8)) 16))), none]) rfl rfl ?_
  refine z_lload_n 0 dJ13_bitCount_95d88_48 rfl rfl rfl ?_
  refine z_lload_n 0 dJ13_bitCount_95d88_49 rfl rfl rfl ?_
  refine z_bipush dJ13_bitCount_95d88_50 rfl rfl ?_
  refine z_lushr dJ13_bitCount_95d88_52 rfl ?_
  refine z_ladd dJ13_bitCount_95d88_53 rfl ?_
  refine z_lstore_n 0 dJ13_bitCount_95d88_54 rfl (Nat.le_of_ble_eq_true rfl) (L' := [some (vl ((((zland (((zland (l0 - (zland (zlushr l0 1) 6148914691236517205)) 3689348814741910323) + (zland (zlushr (l0 - (zland (zlushr l0 1) 6148914691236517205)) 2) 3689348814741910323)) + (zlushr ((zland (l0 - (zland (zlushr l0 1) 6148914691236517205)) 3689348814741910323) + (zland (zlushr (l0 - (zland (zlushr l0 1) 6148914691236517205)) 2) 3689348814741910323)) 4)) 1085102592571150095) + (zlushr (zland (((zland (l0 - (zland (zlushr l0 1) 6148914691236517205)) 3689348814741910323) + (zland (zlushr (l0 - (zland (zlushr l0 1) 6148914691236517205)) 2) 3689348814741910323)) + (zlushr ((zland (l0 - (zland (zlushr l0 1) 6148914691236517205)) 3689348814741910323) + (zland (zlushr (l0 - (zland (zlushr l0 1) 6148914691236517205)) 2) 3689348814741910323)) 4)) 1085102592571150095) 8)) + (zlushr ((zland (((zland (l0 - (zland (zlushr l0 1) 6148914691236517205)) 3689348814741910323) + (zland (zlushr (l0 - (zland (zlushr l0 1) 6148914691236517205)) 2) 3689348814741910323)) + (zlushr ((zland (l0 - (zland (zlushr l0 1) 6148914691236517205)) 3689348814741910323) + (zland (zlushr (l0 - (zland (zlushr l0 1) 6148914691236517205)) 2) 3689348814741910323)) 4)) 1085102592571150095) + (zlushr (zland (((zland (l0 - (zland (zlushr l0 1) 6148914691236517205)) 3689348814741910323) + (zland (zlushr (l0 - (zland (zlushr l0 1) 6148914691236517205)) 2) 3689348814741910323)) + (zlushr ((zland (l0 - (zland (zlushr l0 1) 6148914691236517205)) 3689348814741910323) + (zland (zlushr (l0 - (zland (zlushr l0 1) 6148914691236517205)) 2) 3689348814741910323)) 4)) 1085102592571150095) 8)) 16)) + (zlushr (((zland (((zland (l0 - (zland (zlushr l0 1) 6148914691236517205)) 3689348814741910323) + (zland (zlushr (l0 - (zland (zlushr l0 1) 6148914691236517205)) 2) 3689348814741910323)) + (zlushr ((zland (l0 - (zland (zlushr l0 1) 6148914691236517205)) 3689348814741910323) + (zland (zlushr (l0 - (zland (zlushr l0 1) 6148914691236517205)) 2) 3689348814741910323)) 4)) 1085102592571150095) + (zlushr (zland (((zland (l0 - (zland (zlushr l0 1) 6148914691236517205)) 3689348814741910323) + (zland (zlushr (l0 - (zland (zlushr l0 1) 6148914691236517205)) 2) 3689348814741910323)) + (zlushr ((zland (l0 - (zland (zlushr l0 1) 6148914691236517205)) 3689348814741910323) + (zland (zlushr (l0 - (zland (zlushr l0 1) 6148914691236517205)) 2) 3689348814741910323)) 4)) 1085102592571150095) 8)) + (zlushr ((zland (((zland (l0 - (zland (zlushr l0 1) 6148914691236517205)) 3689348814741910323) + (zland (zlushr (l0 - (zland (zlushr l0 1) 6148914691236517205)) 2) 3689348814741910323)) + (zlushr ((zland (l0 - (zland (zlushr l0 1) 6148914691236517205)) 3689348814741910323) + (zland (zlushr (l0 - (zland (zlushr l0 1) 6148914691236517205)) 2) 3689348814741910323)) 4)) 1085102592571150095) + (zlushr (zland (((zland (l0 - (zland (zlushr l0 1) 6148914691236517205)) 3689348814741910323) + (zland (zlushr (l0 - (zland (zlushr l0 1) 6148914691236517205)) 2) 3689348814741910323)) + (zlushr ((zland (l0 - (zland (zlushr l0 1) 6148914691236517205)) 3689348814741910323) + (zland (zlushr (l0 - (zland (zlushr l0 1) 6148914691236517205)) 2) 3689348814741910323)) 4)) 1085102592571150095) 8)) 16)) 32))), none]) rfl rfl ?_
  refine z_lload_n 0 dJ13_bitCount_95d88_55 rfl rfl rfl ?_
  obtain ⟨r9, k⟩ := k
  refine z_l2i dJ13_bitCount_95d88_56 r9 rfl ?_
  refine z_bipush dJ13_bitCount_95d88_57 rfl rfl ?_
  refine z_iand dJ13_bitCount_95d88_59 rfl ?_
  exact z_ireturn rfl dJ13_bitCount_95d88_60 ⟨_, rfl, k⟩
theorem eJ13_bitCount_95d88 {G : zG} {d : Nat} {K : Int → zH → Prop} {l0 : Int} {h : zH} (k : tJ13_bitCount_95d88_0 G d K l0 h) : zCi G d mJ13_bitCount_95d88 [vl l0] h K := z_entry (by decide +kernel) (Nat.le_of_ble_eq_true rfl) rfl k
def tJ9_max_7cf53_0 (G : zG) (d : Nat) (K : Int → zH → Prop) (l0 : Int) (l1 : Int) (h : zH) : Prop := zTi G d mJ9_max_7cf53 K 0 [some (vi l0), some (vi l1)] [] h
theorem bJ9_max_7cf53_0 {G : zG} {d : Nat} {K : Int → zH → Prop} {l0 : Int} {l1 : Int} {h : zH} (k : zR l0 ∧ zR l1 ∧ (l0 < l1 → K l1 h) ∧ (¬ l0 < l1 → K l0 h)) : tJ9_max_7cf53_0 G d K l0 l1 h := by
  unfold tJ9_max_7cf53_0
  refine z_iload_n 0 dJ9_max_7cf53_0 rfl rfl rfl ?_
  refine z_iload_n 1 dJ9_max_7cf53_1 rfl rfl rfl ?_
  obtain ⟨r1, r2, ka, kb⟩ := k
  refine z_icmp_lt (tgt := 9) dJ9_max_7cf53_2 rfl r1 r2 rfl ⟨fun q => ?_, fun q => ?_⟩
  · have k := ka q
    refine z_iload_n 1 dJ9_max_7cf53_9 rfl rfl rfl ?_
    exact z_ireturn rfl dJ9_max_7cf53_10 ⟨_, rfl, k⟩
  · have k := kb q
    refine z_iload_n 0 dJ9_max_7cf53_5 rfl rfl rfl ?_
    refine z_goto (tgt := 10) dJ9_max_7cf53_6 rfl ?_
    exact z_ireturn rfl dJ9_max_7cf53_10 ⟨_, rfl, k⟩
theorem eJ9_max_7cf53 {G : zG} {d : Nat} {K : Int → zH → Prop} {l0 : Int} {l1 : Int} {h : zH} (k : tJ9_max_7cf53_0 G d K l0 l1 h) : zCi G d mJ9_max_7cf53 [vi l0, vi l1] h K := z_entry (by decide +kernel) (Nat.le_of_ble_eq_true rfl) rfl k
def tJ9_min_7cf53_0 (G : zG) (d : Nat) (K : Int → zH → Prop) (l0 : Int) (l1 : Int) (h : zH) : Prop := zTi G d mJ9_min_7cf53 K 0 [some (vi l0), some (vi l1)] [] h
theorem bJ9_min_7cf53_0 {G : zG} {d : Nat} {K : Int → zH → Prop} {l0 : Int} {l1 : Int} {h : zH} (k : zR l0 ∧ zR l1 ∧ (l1 < l0 → K l1 h) ∧ (¬ l1 < l0 → K l0 h)) : tJ9_min_7cf53_0 G d K l0 l1 h := by
  unfold tJ9_min_7cf53_0
  refine z_iload_n 0 dJ9_min_7cf53_0 rfl rfl rfl ?_
  refine z_iload_n 1 dJ9_min_7cf53_1 rfl rfl rfl ?_
  obtain ⟨r1, r2, ka, kb⟩ := k
  refine z_icmp_gt (tgt := 9) dJ9_min_7cf53_2 rfl r1 r2 rfl ⟨fun q => ?_, fun q => ?_⟩
  · have k := ka q
    refine z_iload_n 1 dJ9_min_7cf53_9 rfl rfl rfl ?_
    exact z_ireturn rfl dJ9_min_7cf53_10 ⟨_, rfl, k⟩
  · have k := kb q
    refine z_iload_n 0 dJ9_min_7cf53_5 rfl rfl rfl ?_
    refine z_goto (tgt := 10) dJ9_min_7cf53_6 rfl ?_
    exact z_ireturn rfl dJ9_min_7cf53_10 ⟨_, rfl, k⟩
theorem eJ9_min_7cf53 {G : zG} {d : Nat} {K : Int → zH → Prop} {l0 : Int} {l1 : Int} {h : zH} (k : tJ9_min_7cf53_0 G d K l0 l1 h) : zCi G d mJ9_min_7cf53 [vi l0, vi l1] h K := z_entry (by decide +kernel) (Nat.le_of_ble_eq_true rfl) rfl k
def tJ7_fill_d0a16_0 (G : zG) (d : Nat) (K : zH → Prop) (l0 : Int) (l1 : Int) (h : zH) : Prop := zTv G d mJ7_fill_d0a16 K 0 [some (vr 14 l0), some (vl l1), none, none, none] [] h
def tJ7_fill_d0a16_6 (G : zG) (d : Nat) (K : zH → Prop) (l0 : Int) (l1 : Int) (l3 : Int) (l4 : Int) (h : zH) : Prop := zTv G d mJ7_fill_d0a16 K 6 [some (vr 14 l0), some (vl l1), none, some (vi l3), some (vi l4)] [] h
theorem bJ7_fill_d0a16_0 {G : zG} {d : Nat} {K : zH → Prop} {l0 : Int} {l1 : Int} {h : zH} (k : tJ7_fill_d0a16_6 G d K l0 l1 0 (zln l0) h) : tJ7_fill_d0a16_0 G d K l0 l1 h := by
  unfold tJ7_fill_d0a16_0
  refine z_iconst dJ7_fill_d0a16_0 rfl ?_
  refine z_istore_n 3 dJ7_fill_d0a16_1 rfl (Nat.le_of_ble_eq_true rfl) (L' := [some (vr 14 l0), some (vl l1), none, some (vi 0), none]) rfl rfl ?_
  refine z_aload_n 0 dJ7_fill_d0a16_2 rfl rfl (Nat.le_of_ble_eq_true rfl) rfl ?_
  refine z_alen14 dJ7_fill_d0a16_3 rfl rfl ?_
  refine z_istore dJ7_fill_d0a16_4 (Nat.le_of_ble_eq_true rfl) (L' := [some (vr 14 l0), some (vl l1), none, some (vi 0), some (vi (zln l0))]) rfl rfl ?_
  exact z_sub (show zsub _ _ from ⟨rfl, ⟨rfl, ⟨rfl, ⟨rfl, trivial⟩⟩⟩⟩) k
theorem bJ7_fill_d0a16_6 {G : zG} {d : Nat} {K : zH → Prop} {l0 : Int} {l1 : Int} {l3 : Int} {l4 : Int} {h : zH} (k : zR l3 ∧ zR l4 ∧ (l4 ≤ l3 → K h) ∧ (¬ l4 ≤ l3 → (0 ≤ l3 ∧ l3 < zln l0) ∧ tJ7_fill_d0a16_6 G d K l0 l1 (l3 + 1) l4 (zup h l0 l3 l1))) : tJ7_fill_d0a16_6 G d K l0 l1 l3 l4 h := by
  unfold tJ7_fill_d0a16_6
  refine z_iload_n 3 dJ7_fill_d0a16_6 rfl rfl rfl ?_
  refine z_iload dJ7_fill_d0a16_7 rfl rfl ?_
  obtain ⟨r1, r2, ka, kb⟩ := k
  refine z_icmp_ge (tgt := 22) dJ7_fill_d0a16_9 rfl r1 r2 rfl ⟨fun q => ?_, fun q => ?_⟩
  · have k := ka q
    exact z_return rfl dJ7_fill_d0a16_22 ⟨rfl, k⟩
  · have k := kb q
    refine z_aload_n 0 dJ7_fill_d0a16_12 rfl rfl (Nat.le_of_ble_eq_true rfl) rfl ?_
    refine z_iload_n 3 dJ7_fill_d0a16_13 rfl rfl rfl ?_
    refine z_lload_n 1 dJ7_fill_d0a16_14 rfl rfl rfl ?_
    obtain ⟨i9, k⟩ := k
    refine z_last dJ7_fill_d0a16_15 i9 rfl ?_
    refine z_iinc dJ7_fill_d0a16_16 rfl (Nat.le_of_ble_eq_true rfl) (L' := [some (vr 14 l0), some (vl l1), none, some (vi (l3 + 1)), some (vi l4)]) rfl rfl ?_
    refine z_goto (tgt := 6) dJ7_fill_d0a16_19 rfl ?_
    exact z_sub (show zsub _ _ from ⟨rfl, ⟨rfl, ⟨rfl, ⟨rfl, trivial⟩⟩⟩⟩) k
theorem eJ7_fill_d0a16 {G : zG} {d : Nat} {K : zH → Prop} {l0 : Int} {l1 : Int} {h : zH} (k : tJ7_fill_d0a16_0 G d K l0 l1 h) : zCv G d mJ7_fill_d0a16 [vr 14 l0, vl l1] h K := z_entry (by decide +kernel) (Nat.le_of_ble_eq_true rfl) rfl k
def tJ7_fill_53178_0 (G : zG) (d : Nat) (K : zH → Prop) (l0 : Int) (l1 : Int) (h : zH) : Prop := zTv G d mJ7_fill_53178 K 0 [some (vr 13 l0), some (vi l1), none, none] [] h
def tJ7_fill_53178_5 (G : zG) (d : Nat) (K : zH → Prop) (l0 : Int) (l1 : Int) (l2 : Int) (l3 : Int) (h : zH) : Prop := zTv G d mJ7_fill_53178 K 5 [some (vr 13 l0), some (vi l1), some (vi l2), some (vi l3)] [] h
theorem bJ7_fill_53178_0 {G : zG} {d : Nat} {K : zH → Prop} {l0 : Int} {l1 : Int} {h : zH} (k : tJ7_fill_53178_5 G d K l0 l1 0 (zln l0) h) : tJ7_fill_53178_0 G d K l0 l1 h := by
  unfold tJ7_fill_53178_0
  refine z_iconst dJ7_fill_53178_0 rfl ?_
  refine z_istore_n 2 dJ7_fill_53178_1 rfl (Nat.le_of_ble_eq_true rfl) (L' := [some (vr 13 l0), some (vi l1), some (vi 0), none]) rfl rfl ?_
  refine z_aload_n 0 dJ7_fill_53178_2 rfl rfl (Nat.le_of_ble_eq_true rfl) rfl ?_
  refine z_alen13 dJ7_fill_53178_3 rfl rfl ?_
  refine z_istore_n 3 dJ7_fill_53178_4 rfl (Nat.le_of_ble_eq_true rfl) (L' := [some (vr 13 l0), some (vi l1), some (vi 0), some (vi (zln l0))]) rfl rfl ?_
  exact z_sub (show zsub _ _ from ⟨rfl, ⟨rfl, ⟨rfl, ⟨rfl, trivial⟩⟩⟩⟩) k
theorem bJ7_fill_53178_5 {G : zG} {d : Nat} {K : zH → Prop} {l0 : Int} {l1 : Int} {l2 : Int} {l3 : Int} {h : zH} (k : zR l2 ∧ zR l3 ∧ (l3 ≤ l2 → K h) ∧ (¬ l3 ≤ l2 → (0 ≤ l2 ∧ l2 < zln l0) ∧ tJ7_fill_53178_5 G d K l0 l1 (l2 + 1) l3 (zup h l0 l2 l1))) : tJ7_fill_53178_5 G d K l0 l1 l2 l3 h := by
  unfold tJ7_fill_53178_5
  refine z_iload_n 2 dJ7_fill_53178_5 rfl rfl rfl ?_
  refine z_iload_n 3 dJ7_fill_53178_6 rfl rfl rfl ?_
  obtain ⟨r1, r2, ka, kb⟩ := k
  refine z_icmp_ge (tgt := 20) dJ7_fill_53178_7 rfl r1 r2 rfl ⟨fun q => ?_, fun q => ?_⟩
  · have k := ka q
    exact z_return rfl dJ7_fill_53178_20 ⟨rfl, k⟩
  · have k := kb q
    refine z_aload_n 0 dJ7_fill_53178_10 rfl rfl (Nat.le_of_ble_eq_true rfl) rfl ?_
    refine z_iload_n 2 dJ7_fill_53178_11 rfl rfl rfl ?_
    refine z_iload_n 1 dJ7_fill_53178_12 rfl rfl rfl ?_
    obtain ⟨i9, k⟩ := k
    refine z_iast dJ7_fill_53178_13 i9 rfl ?_
    refine z_iinc dJ7_fill_53178_14 rfl (Nat.le_of_ble_eq_true rfl) (L' := [some (vr 13 l0), some (vi l1), some (vi (l2 + 1)), some (vi l3)]) rfl rfl ?_
    refine z_goto (tgt := 5) dJ7_fill_53178_17 rfl ?_
    exact z_sub (show zsub _ _ from ⟨rfl, ⟨rfl, ⟨rfl, ⟨rfl, trivial⟩⟩⟩⟩) k
theorem eJ7_fill_53178 {G : zG} {d : Nat} {K : zH → Prop} {l0 : Int} {l1 : Int} {h : zH} (k : tJ7_fill_53178_0 G d K l0 l1 h) : zCv G d mJ7_fill_53178 [vr 13 l0, vi l1] h K := z_entry (by decide +kernel) (Nat.le_of_ble_eq_true rfl) rfl k
def tX10_split_0 (G : zG) (d : Nat) (K : zH → Prop) (l1 : Int) (l2 : Int) (h : zH) : Prop := zTv G (d + 1) mX10_split K 0 [some (vr 10 13), some (vr 15 l1), some (vi l2), none, none, none] [] h
def tX10_split_20 (G : zG) (d : Nat) (K : zH → Prop) (l1 : Int) (l2 : Int) (l3 : Int) (l4 : Int) (h : zH) : Prop := zTv G (d + 1) mX10_split K 20 [some (vr 10 13), some (vr 15 l1), some (vi l2), some (vi l3), some (vi l4), none] [] h
theorem bX10_split_0 {G : zG} {d : Nat} {K : zH → Prop} {l1 : Int} {l2 : Int} {h : zH} (k : tX10_split_20 G d K l1 l2 0 0 (zup (zup (zup h 13 3 0) 13 8 0) 13 9 (-1))) : tX10_split_0 G d K l1 l2 h := by
  unfold tX10_split_0
  refine z_aload_n 0 dX10_split_0 rfl rfl (Nat.le_of_ble_eq_true rfl) rfl ?_
  refine z_iconst dX10_split_1 rfl ?_
  refine z_putI 10 gX10_22 dX10_split_2 rfl ?_
  refine z_aload_n 0 dX10_split_5 rfl rfl (Nat.le_of_ble_eq_true rfl) rfl ?_
  refine z_iconst dX10_split_6 rfl ?_
  refine z_putI 10 gX10_26 dX10_split_7 rfl ?_
  refine z_aload_n 0 dX10_split_10 rfl rfl (Nat.le_of_ble_eq_true rfl) rfl ?_
  refine z_iconst dX10_split_11 rfl ?_
  refine z_putI 10 gX10_29 dX10_split_12 rfl ?_
  refine z_iconst dX10_split_15 rfl ?_
  refine z_istore_n 3 dX10_split_16 rfl (Nat.le_of_ble_eq_true rfl) (L' := [some (vr 10 13), some (vr 15 l1), some (vi l2), some (vi 0), none, none]) rfl rfl ?_
  refine z_iconst dX10_split_17 rfl ?_
  refine z_istore dX10_split_18 (Nat.le_of_ble_eq_true rfl) (L' := [some (vr 10 13), some (vr 15 l1), some (vi l2), some (vi 0), some (vi 0), none]) rfl rfl ?_
  exact z_sub (show zsub _ _ from ⟨rfl, ⟨rfl, ⟨rfl, ⟨rfl, ⟨rfl, trivial⟩⟩⟩⟩⟩) k
theorem bX10_split_20 {G : zG} {d : Nat} {K : zH → Prop} {l1 : Int} {l2 : Int} {l3 : Int} {l4 : Int} {h : zH} (k : zR l4 ∧ zR l2 ∧ (l2 ≤ l4 → zR l3 ∧ zR l2 ∧ (l2 ≤ l3 → zCv G d mX10_add [vr 10 13, vi 0, vi l3, vl 0] h (fun h2 => zCv G d mX10_step [vr 10 13] (zup h2 13 4 (-1)) (fun h4 => K h4))) ∧ (¬ l2 ≤ l3 → zCv G d mX10_add [vr 10 13, vi 1, vi l3, vl 0] h (fun h6 => zCv G d mX10_step [vr 10 13] (zup h6 13 4 (-1)) (fun h8 => K h8)))) ∧ (¬ l2 ≤ l4 → zR l3 ∧ zR l2 ∧ (l2 ≤ l3 → zR l3 ∧ zR l2 ∧ (l2 ≤ l3 → zCv G d mX10_add [vr 10 13, vi 0, vi l3, vl 0] h (fun h10 => zCv G d mX10_step [vr 10 13] (zup h10 13 4 (-1)) (fun h12 => K h12))) ∧ (¬ l2 ≤ l3 → zCv G d mX10_add [vr 10 13, vi 1, vi l3, vl 0] h (fun h14 => zCv G d mX10_step [vr 10 13] (zup h14 13 4 (-1)) (fun h16 => K h16)))) ∧ (¬ l2 ≤ l3 → (0 ≤ l3 ∧ l3 < zln l1) ∧ zR (h l1 l3) ∧ (¬ (h l1 l3) = 32 → zCi G d mX10_addToken [vr 10 13, vr 15 l1, vi l3, vi l2] h (fun x17 h18 => zR x17 ∧ (¬ x17 = 0 → tX10_split_20 G d K l1 l2 (l3 + x17) (l4 + 1) h18) ∧ (x17 = 0 → zR l3 ∧ zR l2 ∧ (l2 ≤ l3 → zCv G d mX10_add [vr 10 13, vi 0, vi l3, vl 0] h18 (fun h20 => zCv G d mX10_step [vr 10 13] (zup h20 13 4 (-1)) (fun h22 => K h22))) ∧ (¬ l2 ≤ l3 → zCv G d mX10_add [vr 10 13, vi 1, vi l3, vl 0] h18 (fun h24 => zCv G d mX10_step [vr 10 13] (zup h24 13 4 (-1)) (fun h26 => K h26)))))) ∧ ((h l1 l3) = 32 → (¬ 1 = 0 → tX10_split_20 G d K l1 l2 (l3 + 1) (l4 + 1) h) ∧ (1 = 0 → zR l3 ∧ zR l2 ∧ (l2 ≤ l3 → zCv G d mX10_add [vr 10 13, vi 0, vi l3, vl 0] h (fun h28 => zCv G d mX10_step [vr 10 13] (zup h28 13 4 (-1)) (fun h30 => K h30))) ∧ (¬ l2 ≤ l3 → zCv G d mX10_add [vr 10 13, vi 1, vi l3, vl 0] h (fun h32 => zCv G d mX10_step [vr 10 13] (zup h32 13 4 (-1)) (fun h34 => K h34)))))))) : tX10_split_20 G d K l1 l2 l3 l4 h := by
  unfold tX10_split_20
  refine z_iload dX10_split_20 rfl rfl ?_
  refine z_iload_n 2 dX10_split_22 rfl rfl rfl ?_
  obtain ⟨r1, r2, ka, kb⟩ := k
  refine z_icmp_ge (tgt := 71) dX10_split_23 rfl r1 r2 rfl ⟨fun q => ?_, fun q => ?_⟩
  · have k := ka q
    refine z_aload_n 0 dX10_split_71 rfl rfl (Nat.le_of_ble_eq_true rfl) rfl ?_
    refine z_iload_n 3 dX10_split_72 rfl rfl rfl ?_
    refine z_iload_n 2 dX10_split_73 rfl rfl rfl ?_
    obtain ⟨r1, r2, ka, kb⟩ := k
    refine z_icmp_ge (tgt := 81) dX10_split_74 rfl r1 r2 rfl ⟨fun q => ?_, fun q => ?_⟩
    · have k := ka q
      refine z_iconst dX10_split_81 rfl ?_
      refine z_iload_n 3 dX10_split_82 rfl rfl rfl ?_
      refine z_lconst (x := 0) dX10_split_83 rfl rfl ?_
      refine z_callVv vX10_add kX10_36 dX10_split_84 rfl (zRo_d d) (as := [vi 0, vi l3, vl 0]) (rest := []) (Nat.le_of_ble_eq_true rfl) rfl rfl (zCv_mono (fun h2 k => ?_) k)
      refine z_aload_n 0 dX10_split_87 rfl rfl (Nat.le_of_ble_eq_true rfl) rfl ?_
      refine z_iconst dX10_split_88 rfl ?_
      refine z_putI 10 gX10_40 dX10_split_89 rfl ?_
      refine z_aload_n 0 dX10_split_92 rfl rfl (Nat.le_of_ble_eq_true rfl) rfl ?_
      refine z_callVv vX10_step kX10_43 dX10_split_93 rfl (zRo_d d) (as := []) (rest := []) (Nat.le_of_ble_eq_true rfl) rfl rfl (zCv_mono (fun h4 k => ?_) k)
      exact z_return rfl dX10_split_96 ⟨rfl, k⟩
    · have k := kb q
      refine z_iconst dX10_split_77 rfl ?_
      refine z_goto (tgt := 82) dX10_split_78 rfl ?_
      refine z_iload_n 3 dX10_split_82 rfl rfl rfl ?_
      refine z_lconst (x := 0) dX10_split_83 rfl rfl ?_
      refine z_callVv vX10_add kX10_36 dX10_split_84 rfl (zRo_d d) (as := [vi 1, vi l3, vl 0]) (rest := []) (Nat.le_of_ble_eq_true rfl) rfl rfl (zCv_mono (fun h6 k => ?_) k)
      refine z_aload_n 0 dX10_split_87 rfl rfl (Nat.le_of_ble_eq_true rfl) rfl ?_
      refine z_iconst dX10_split_88 rfl ?_
      refine z_putI 10 gX10_40 dX10_split_89 rfl ?_
      refine z_aload_n 0 dX10_split_92 rfl rfl (Nat.le_of_ble_eq_true rfl) rfl ?_
      refine z_callVv vX10_step kX10_43 dX10_split_93 rfl (zRo_d d) (as := []) (rest := []) (Nat.le_of_ble_eq_true rfl) rfl rfl (zCv_mono (fun h8 k => ?_) k)
      exact z_return rfl dX10_split_96 ⟨rfl, k⟩
  · have k := kb q
    refine z_iload_n 3 dX10_split_26 rfl rfl rfl ?_
    refine z_iload_n 2 dX10_split_27 rfl rfl rfl ?_
    obtain ⟨r1, r2, ka, kb⟩ := k
    refine z_icmp_ge (tgt := 71) dX10_split_28 rfl r1 r2 rfl ⟨fun q => ?_, fun q => ?_⟩
    · have k := ka q
      refine z_aload_n 0 dX10_split_71 rfl rfl (Nat.le_of_ble_eq_true rfl) rfl ?_
      refine z_iload_n 3 dX10_split_72 rfl rfl rfl ?_
      refine z_iload_n 2 dX10_split_73 rfl rfl rfl ?_
      obtain ⟨r1, r2, ka, kb⟩ := k
      refine z_icmp_ge (tgt := 81) dX10_split_74 rfl r1 r2 rfl ⟨fun q => ?_, fun q => ?_⟩
      · have k := ka q
        refine z_iconst dX10_split_81 rfl ?_
        refine z_iload_n 3 dX10_split_82 rfl rfl rfl ?_
        refine z_lconst (x := 0) dX10_split_83 rfl rfl ?_
        refine z_callVv vX10_add kX10_36 dX10_split_84 rfl (zRo_d d) (as := [vi 0, vi l3, vl 0]) (rest := []) (Nat.le_of_ble_eq_true rfl) rfl rfl (zCv_mono (fun h10 k => ?_) k)
        refine z_aload_n 0 dX10_split_87 rfl rfl (Nat.le_of_ble_eq_true rfl) rfl ?_
        refine z_iconst dX10_split_88 rfl ?_
        refine z_putI 10 gX10_40 dX10_split_89 rfl ?_
        refine z_aload_n 0 dX10_split_92 rfl rfl (Nat.le_of_ble_eq_true rfl) rfl ?_
        refine z_callVv vX10_step kX10_43 dX10_split_93 rfl (zRo_d d) (as := []) (rest := []) (Nat.le_of_ble_eq_true rfl) rfl rfl (zCv_mono (fun h12 k => ?_) k)
        exact z_return rfl dX10_split_96 ⟨rfl, k⟩
      · have k := kb q
        refine z_iconst dX10_split_77 rfl ?_
        refine z_goto (tgt := 82) dX10_split_78 rfl ?_
        refine z_iload_n 3 dX10_split_82 rfl rfl rfl ?_
        refine z_lconst (x := 0) dX10_split_83 rfl rfl ?_
        refine z_callVv vX10_add kX10_36 dX10_split_84 rfl (zRo_d d) (as := [vi 1, vi l3, vl 0]) (rest := []) (Nat.le_of_ble_eq_true rfl) rfl rfl (zCv_mono (fun h14 k => ?_) k)
        refine z_aload_n 0 dX10_split_87 rfl rfl (Nat.le_of_ble_eq_true rfl) rfl ?_
        refine z_iconst dX10_split_88 rfl ?_
        refine z_putI 10 gX10_40 dX10_split_89 rfl ?_
        refine z_aload_n 0 dX10_split_92 rfl rfl (Nat.le_of_ble_eq_true rfl) rfl ?_
        refine z_callVv vX10_step kX10_43 dX10_split_93 rfl (zRo_d d) (as := []) (rest := []) (Nat.le_of_ble_eq_true rfl) rfl rfl (zCv_mono (fun h16 k => ?_) k)
        exact z_return rfl dX10_split_96 ⟨rfl, k⟩
    · have k := kb q
      refine z_aload_n 1 dX10_split_31 rfl rfl (Nat.le_of_ble_eq_true rfl) rfl ?_
      refine z_iload_n 3 dX10_split_32 rfl rfl rfl ?_
      obtain ⟨i9, k⟩ := k
      refine z_bald (x := (h l1 l3)) dX10_split_33 i9 rfl rfl ?_
      refine z_bipush dX10_split_34 rfl rfl ?_
      obtain ⟨r1, ka, kb⟩ := k
      refine z_icmp_ne (tgt := 43) dX10_split_36 rfl r1 ⟨by decide, by decide⟩ rfl ⟨fun q => ?_, fun q => ?_⟩
      · have k := ka q
        refine z_aload_n 0 dX10_split_43 rfl rfl (Nat.le_of_ble_eq_true rfl) rfl ?_
        refine z_aload_n 1 dX10_split_44 rfl rfl (Nat.le_of_ble_eq_true rfl) rfl ?_
        refine z_iload_n 3 dX10_split_45 rfl rfl rfl ?_
        refine z_iload_n 2 dX10_split_46 rfl rfl rfl ?_
        refine z_callVi vX10_addToken kX10_32 dX10_split_47 rfl (zRo_d d) (as := [vr 15 l1, vi l3, vi l2]) (rest := []) (Nat.le_of_ble_eq_true rfl) rfl rfl (zCi_mono (fun x17 h18 k => ?_) k)
        refine z_istore dX10_split_50 (Nat.le_of_ble_eq_true rfl) (L' := [some (vr 10 13), some (vr 15 l1), some (vi l2), some (vi l3), some (vi l4), some (vi x17)]) rfl rfl ?_
        refine z_iload dX10_split_52 rfl rfl ?_
        obtain ⟨r1, ka, kb⟩ := k
        refine z_if_ne (tgt := 60) dX10_split_54 rfl r1 rfl ⟨fun q => ?_, fun q => ?_⟩
        · have k := ka q
          refine z_iload_n 3 dX10_split_60 rfl rfl rfl ?_
          refine z_iload dX10_split_61 rfl rfl ?_
          refine z_iadd dX10_split_63 rfl ?_
          refine z_istore_n 3 dX10_split_64 rfl (Nat.le_of_ble_eq_true rfl) (L' := [some (vr 10 13), some (vr 15 l1), some (vi l2), some (vi (l3 + x17)), some (vi l4), some (vi x17)]) rfl rfl ?_
          refine z_iinc dX10_split_65 rfl (Nat.le_of_ble_eq_true rfl) (L' := [some (vr 10 13), some (vr 15 l1), some (vi l2), some (vi (l3 + x17)), some (vi (l4 + 1)), some (vi x17)]) rfl rfl ?_
          refine z_goto (tgt := 20) dX10_split_68 rfl ?_
          exact z_sub (show zsub _ _ from ⟨rfl, ⟨rfl, ⟨rfl, ⟨rfl, ⟨rfl, trivial⟩⟩⟩⟩⟩) k
        · have k := kb q
          refine z_goto (tgt := 71) dX10_split_57 rfl ?_
          refine z_aload_n 0 dX10_split_71 rfl rfl (Nat.le_of_ble_eq_true rfl) rfl ?_
          refine z_iload_n 3 dX10_split_72 rfl rfl rfl ?_
          refine z_iload_n 2 dX10_split_73 rfl rfl rfl ?_
          obtain ⟨r1, r2, ka, kb⟩ := k
          refine z_icmp_ge (tgt := 81) dX10_split_74 rfl r1 r2 rfl ⟨fun q => ?_, fun q => ?_⟩
          · have k := ka q
            refine z_iconst dX10_split_81 rfl ?_
            refine z_iload_n 3 dX10_split_82 rfl rfl rfl ?_
            refine z_lconst (x := 0) dX10_split_83 rfl rfl ?_
            refine z_callVv vX10_add kX10_36 dX10_split_84 rfl (zRo_d d) (as := [vi 0, vi l3, vl 0]) (rest := []) (Nat.le_of_ble_eq_true rfl) rfl rfl (zCv_mono (fun h20 k => ?_) k)
            refine z_aload_n 0 dX10_split_87 rfl rfl (Nat.le_of_ble_eq_true rfl) rfl ?_
            refine z_iconst dX10_split_88 rfl ?_
            refine z_putI 10 gX10_40 dX10_split_89 rfl ?_
            refine z_aload_n 0 dX10_split_92 rfl rfl (Nat.le_of_ble_eq_true rfl) rfl ?_
            refine z_callVv vX10_step kX10_43 dX10_split_93 rfl (zRo_d d) (as := []) (rest := []) (Nat.le_of_ble_eq_true rfl) rfl rfl (zCv_mono (fun h22 k => ?_) k)
            exact z_return rfl dX10_split_96 ⟨rfl, k⟩
          · have k := kb q
            refine z_iconst dX10_split_77 rfl ?_
            refine z_goto (tgt := 82) dX10_split_78 rfl ?_
            refine z_iload_n 3 dX10_split_82 rfl rfl rfl ?_
            refine z_lconst (x := 0) dX10_split_83 rfl rfl ?_
            refine z_callVv vX10_add kX10_36 dX10_split_84 rfl (zRo_d d) (as := [vi 1, vi l3, vl 0]) (rest := []) (Nat.le_of_ble_eq_true rfl) rfl rfl (zCv_mono (fun h24 k => ?_) k)
            refine z_aload_n 0 dX10_split_87 rfl rfl (Nat.le_of_ble_eq_true rfl) rfl ?_
            refine z_iconst dX10_split_88 rfl ?_
            refine z_putI 10 gX10_40 dX10_split_89 rfl ?_
            refine z_aload_n 0 dX10_split_92 rfl rfl (Nat.le_of_ble_eq_true rfl) rfl ?_
            refine z_callVv vX10_step kX10_43 dX10_split_93 rfl (zRo_d d) (as := []) (rest := []) (Nat.le_of_ble_eq_true rfl) rfl rfl (zCv_mono (fun h26 k => ?_) k)
            exact z_return rfl dX10_split_96 ⟨rfl, k⟩
      · have k := kb q
        refine z_iconst dX10_split_39 rfl ?_
        refine z_goto (tgt := 50) dX10_split_40 rfl ?_
        refine z_istore dX10_split_50 (Nat.le_of_ble_eq_true rfl) (L' := [some (vr 10 13), some (vr 15 l1), some (vi l2), some (vi l3), some (vi l4), some (vi 1)]) rfl rfl ?_
        refine z_iload dX10_split_52 rfl rfl ?_
        obtain ⟨ka, kb⟩ := k
        refine z_if_ne (tgt := 60) dX10_split_54 rfl ⟨by decide, by decide⟩ rfl ⟨fun q => ?_, fun q => ?_⟩
        · have k := ka q
          refine z_iload_n 3 dX10_split_60 rfl rfl rfl ?_
          refine z_iload dX10_split_61 rfl rfl ?_
          refine z_iadd dX10_split_63 rfl ?_
          refine z_istore_n 3 dX10_split_64 rfl (Nat.le_of_ble_eq_true rfl) (L' := [some (vr 10 13), some (vr 15 l1), some (vi l2), some (vi (l3 + 1)), some (vi l4), some (vi 1)]) rfl rfl ?_
          refine z_iinc dX10_split_65 rfl (Nat.le_of_ble_eq_true rfl) (L' := [some (vr 10 13), some (vr 15 l1), some (vi l2), some (vi (l3 + 1)), some (vi (l4 + 1)), some (vi 1)]) rfl rfl ?_
          refine z_goto (tgt := 20) dX10_split_68 rfl ?_
          exact z_sub (show zsub _ _ from ⟨rfl, ⟨rfl, ⟨rfl, ⟨rfl, ⟨rfl, trivial⟩⟩⟩⟩⟩) k
        · have k := kb q
          refine z_goto (tgt := 71) dX10_split_57 rfl ?_
          refine z_aload_n 0 dX10_split_71 rfl rfl (Nat.le_of_ble_eq_true rfl) rfl ?_
          refine z_iload_n 3 dX10_split_72 rfl rfl rfl ?_
          refine z_iload_n 2 dX10_split_73 rfl rfl rfl ?_
          obtain ⟨r1, r2, ka, kb⟩ := k
          refine z_icmp_ge (tgt := 81) dX10_split_74 rfl r1 r2 rfl ⟨fun q => ?_, fun q => ?_⟩
          · have k := ka q
            refine z_iconst dX10_split_81 rfl ?_
            refine z_iload_n 3 dX10_split_82 rfl rfl rfl ?_
            refine z_lconst (x := 0) dX10_split_83 rfl rfl ?_
            refine z_callVv vX10_add kX10_36 dX10_split_84 rfl (zRo_d d) (as := [vi 0, vi l3, vl 0]) (rest := []) (Nat.le_of_ble_eq_true rfl) rfl rfl (zCv_mono (fun h28 k => ?_) k)
            refine z_aload_n 0 dX10_split_87 rfl rfl (Nat.le_of_ble_eq_true rfl) rfl ?_
            refine z_iconst dX10_split_88 rfl ?_
            refine z_putI 10 gX10_40 dX10_split_89 rfl ?_
            refine z_aload_n 0 dX10_split_92 rfl rfl (Nat.le_of_ble_eq_true rfl) rfl ?_
            refine z_callVv vX10_step kX10_43 dX10_split_93 rfl (zRo_d d) (as := []) (rest := []) (Nat.le_of_ble_eq_true rfl) rfl rfl (zCv_mono (fun h30 k => ?_) k)
            exact z_return rfl dX10_split_96 ⟨rfl, k⟩
          · have k := kb q
            refine z_iconst dX10_split_77 rfl ?_
            refine z_goto (tgt := 82) dX10_split_78 rfl ?_
            refine z_iload_n 3 dX10_split_82 rfl rfl rfl ?_
            refine z_lconst (x := 0) dX10_split_83 rfl rfl ?_
            refine z_callVv vX10_add kX10_36 dX10_split_84 rfl (zRo_d d) (as := [vi 1, vi l3, vl 0]) (rest := []) (Nat.le_of_ble_eq_true rfl) rfl rfl (zCv_mono (fun h32 k => ?_) k)
            refine z_aload_n 0 dX10_split_87 rfl rfl (Nat.le_of_ble_eq_true rfl) rfl ?_
            refine z_iconst dX10_split_88 rfl ?_
            refine z_putI 10 gX10_40 dX10_split_89 rfl ?_
            refine z_aload_n 0 dX10_split_92 rfl rfl (Nat.le_of_ble_eq_true rfl) rfl ?_
            refine z_callVv vX10_step kX10_43 dX10_split_93 rfl (zRo_d d) (as := []) (rest := []) (Nat.le_of_ble_eq_true rfl) rfl rfl (zCv_mono (fun h34 k => ?_) k)
            exact z_return rfl dX10_split_96 ⟨rfl, k⟩
theorem eX10_split {G : zG} {d : Nat} {K : zH → Prop} {l1 : Int} {l2 : Int} {h : zH} (k : tX10_split_0 G d K l1 l2 h) : zCv G (d + 1) mX10_split [vr 10 13, vr 15 l1, vi l2] h K := z_entry (by decide +kernel) (Nat.le_of_ble_eq_true rfl) rfl k
def tX10_step_0 (G : zG) (d : Nat) (K : zH → Prop) (h : zH) : Prop := zTv G d mX10_step K 0 [some (vr 10 13)] [] h
theorem bX10_step_0 {G : zG} {d : Nat} {K : zH → Prop} {h : zH} (k : zR ((h 13 4) + 1) ∧ zR (h 13 3) ∧ ((h 13 3) ≤ ((h 13 4) + 1) → K h) ∧ (¬ (h 13 3) ≤ ((h 13 4) + 1) → (0 ≤ ((h 13 4) + 1) ∧ ((h 13 4) + 1) < 901) ∧ (0 ≤ ((h 13 4) + 1) ∧ ((h 13 4) + 1) < 901) ∧ (0 ≤ ((h 13 4) + 1) ∧ ((h 13 4) + 1) < 901) ∧ K (zup (zup (zup (zup h 13 4 ((h 13 4) + 1)) 13 5 (h 14 ((h 13 4) + 1))) 13 6 (h 15 ((h 13 4) + 1))) 13 7 (h 16 ((h 13 4) + 1))))) : tX10_step_0 G d K h := by
  unfold tX10_step_0
  refine z_aload_n 0 dX10_step_0 rfl rfl (Nat.le_of_ble_eq_true rfl) rfl ?_
  refine z_getI 10 (x := (h 13 4)) fX10_40 rfl dX10_step_1 rfl rfl ?_
  refine z_iconst dX10_step_4 rfl ?_
  refine z_iadd dX10_step_5 rfl ?_
  refine z_aload_n 0 dX10_step_6 rfl rfl (Nat.le_of_ble_eq_true rfl) rfl ?_
  refine z_getI 10 (x := (h 13 3)) fX10_22 rfl dX10_step_7 rfl rfl ?_
  obtain ⟨r1, r2, ka, kb⟩ := k
  refine z_icmp_ge (tgt := 62) dX10_step_10 rfl r1 r2 rfl ⟨fun q => ?_, fun q => ?_⟩
  · have k := ka q
    exact z_return rfl dX10_step_62 ⟨rfl, k⟩
  · have k := kb q
    refine z_aload_n 0 dX10_step_13 rfl rfl (Nat.le_of_ble_eq_true rfl) rfl ?_
    refine z_dup dX10_step_14 (fun q => by cases q) rfl ?_
    refine z_getI 10 (x := (h 13 4)) fX10_40 rfl dX10_step_15 rfl rfl ?_
    refine z_iconst dX10_step_18 rfl ?_
    refine z_iadd dX10_step_19 rfl ?_
    refine z_putI 10 gX10_40 dX10_step_20 rfl ?_
    refine z_aload_n 0 dX10_step_23 rfl rfl (Nat.le_of_ble_eq_true rfl) rfl ?_
    refine z_aload_n 0 dX10_step_24 rfl rfl (Nat.le_of_ble_eq_true rfl) rfl ?_
    refine z_getF 10 13 (x := 14) fX10_9 rfl dX10_step_25 rfl rfl ?_
    refine z_aload_n 0 dX10_step_28 rfl rfl (Nat.le_of_ble_eq_true rfl) rfl ?_
    refine z_getI 10 (x := ((h 13 4) + 1)) fX10_40 rfl dX10_step_29 (by simp [zup]) rfl ?_
    obtain ⟨i9, k⟩ := k
    refine z_iald (x := (h 14 ((h 13 4) + 1))) dX10_step_32 (by rw [zl_14]; exact i9) (by simp [zup]) rfl ?_
    refine z_putI 10 gX10_46 dX10_step_33 rfl ?_
    refine z_aload_n 0 dX10_step_36 rfl rfl (Nat.le_of_ble_eq_true rfl) rfl ?_
    refine z_aload_n 0 dX10_step_37 rfl rfl (Nat.le_of_ble_eq_true rfl) rfl ?_
    refine z_getF 10 13 (x := 15) fX10_15 rfl dX10_step_38 rfl rfl ?_
    refine z_aload_n 0 dX10_step_41 rfl rfl (Nat.le_of_ble_eq_true rfl) rfl ?_
    refine z_getI 10 (x := ((h 13 4) + 1)) fX10_40 rfl dX10_step_42 (by simp [zup]) rfl ?_
    obtain ⟨i9, k⟩ := k
    refine z_iald (x := (h 15 ((h 13 4) + 1))) dX10_step_45 (by rw [zl_15]; exact i9) (by simp [zup]) rfl ?_
    refine z_putI 10 gX10_49 dX10_step_46 rfl ?_
    refine z_aload_n 0 dX10_step_49 rfl rfl (Nat.le_of_ble_eq_true rfl) rfl ?_
    refine z_aload_n 0 dX10_step_50 rfl rfl (Nat.le_of_ble_eq_true rfl) rfl ?_
    refine z_getF 10 14 (x := 16) fX10_18 rfl dX10_step_51 rfl rfl ?_
    refine z_aload_n 0 dX10_step_54 rfl rfl (Nat.le_of_ble_eq_true rfl) rfl ?_
    refine z_getI 10 (x := ((h 13 4) + 1)) fX10_40 rfl dX10_step_55 (by simp [zup]) rfl ?_
    obtain ⟨i9, k⟩ := k
    refine z_lald (x := (h 16 ((h 13 4) + 1))) dX10_step_58 (by rw [zl_16]; exact i9) (by simp [zup]) rfl ?_
    refine z_putL 10 gX10_52 dX10_step_59 rfl ?_
    exact z_return rfl dX10_step_62 ⟨rfl, k⟩
theorem eX10_step {G : zG} {d : Nat} {K : zH → Prop} {h : zH} (k : tX10_step_0 G d K h) : zCv G d mX10_step [vr 10 13] h K := z_entry (by decide +kernel) (Nat.le_of_ble_eq_true rfl) rfl k
def tX10_fail_0 (G : zG) (d : Nat) (K : Bool → zH → Prop) (l1 : Int) (h : zH) : Prop := zTb G d mX10_fail K 0 [some (vr 10 13), some (vi l1)] [] h
theorem bX10_fail_0 {G : zG} {d : Nat} {K : Bool → zH → Prop} {l1 : Int} {h : zH} (k : K false (zup (zup h 13 8 l1) 13 9 (h 13 6))) : tX10_fail_0 G d K l1 h := by
  unfold tX10_fail_0
  refine z_aload_n 0 dX10_fail_0 rfl rfl (Nat.le_of_ble_eq_true rfl) rfl ?_
  refine z_iload_n 1 dX10_fail_1 rfl rfl rfl ?_
  refine z_putI 10 gX10_26 dX10_fail_2 rfl ?_
  refine z_aload_n 0 dX10_fail_5 rfl rfl (Nat.le_of_ble_eq_true rfl) rfl ?_
  refine z_aload_n 0 dX10_fail_6 rfl rfl (Nat.le_of_ble_eq_true rfl) rfl ?_
  refine z_getI 10 (x := (h 13 6)) fX10_49 rfl dX10_fail_7 (by simp [zup]) rfl ?_
  refine z_putI 10 gX10_29 dX10_fail_10 rfl ?_
  refine z_iconst dX10_fail_13 rfl ?_
  exact z_zreturn rfl (Or.inl rfl) dX10_fail_14 ⟨false, rfl, k⟩
theorem eX10_fail {G : zG} {d : Nat} {K : Bool → zH → Prop} {l1 : Int} {h : zH} (k : tX10_fail_0 G d K l1 h) : zCb G d mX10_fail [vr 10 13, vi l1] h K := z_entry (by decide +kernel) (Nat.le_of_ble_eq_true rfl) rfl k
def tX10_failAt_0 (G : zG) (d : Nat) (K : Bool → zH → Prop) (l1 : Int) (l2 : Int) (h : zH) : Prop := zTb G d mX10_failAt K 0 [some (vr 10 13), some (vi l1), some (vi l2)] [] h
theorem bX10_failAt_0 {G : zG} {d : Nat} {K : Bool → zH → Prop} {l1 : Int} {l2 : Int} {h : zH} (k : K false (zup (zup h 13 8 l1) 13 9 l2)) : tX10_failAt_0 G d K l1 l2 h := by
  unfold tX10_failAt_0
  refine z_aload_n 0 dX10_failAt_0 rfl rfl (Nat.le_of_ble_eq_true rfl) rfl ?_
  refine z_iload_n 1 dX10_failAt_1 rfl rfl rfl ?_
  refine z_putI 10 gX10_26 dX10_failAt_2 rfl ?_
  refine z_aload_n 0 dX10_failAt_5 rfl rfl (Nat.le_of_ble_eq_true rfl) rfl ?_
  refine z_iload_n 2 dX10_failAt_6 rfl rfl rfl ?_
  refine z_putI 10 gX10_29 dX10_failAt_7 rfl ?_
  refine z_iconst dX10_failAt_10 rfl ?_
  exact z_zreturn rfl (Or.inl rfl) dX10_failAt_11 ⟨false, rfl, k⟩
theorem eX10_failAt {G : zG} {d : Nat} {K : Bool → zH → Prop} {l1 : Int} {l2 : Int} {h : zH} (k : tX10_failAt_0 G d K l1 l2 h) : zCb G d mX10_failAt [vr 10 13, vi l1, vi l2] h K := z_entry (by decide +kernel) (Nat.le_of_ble_eq_true rfl) rfl k
def tX10_runOf_0 (G : zG) (d : Nat) (K : Int → zH → Prop) (l0 : Int) (l1 : Int) (l2 : Int) (l3 : Int) (l4 : Int) (h : zH) : Prop := zTi G d mX10_runOf K 0 [some (vr 15 l0), some (vi l1), some (vi l2), some (vi l3), some (vi l4), none] [] h
def tX10_runOf_3 (G : zG) (d : Nat) (K : Int → zH → Prop) (l0 : Int) (l1 : Int) (l2 : Int) (l3 : Int) (l4 : Int) (l5 : Int) (h : zH) : Prop := zTi G d mX10_runOf K 3 [some (vr 15 l0), some (vi l1), some (vi l2), some (vi l3), some (vi l4), some (vi l5)] [] h
theorem bX10_runOf_0 {G : zG} {d : Nat} {K : Int → zH → Prop} {l0 : Int} {l1 : Int} {l2 : Int} {l3 : Int} {l4 : Int} {h : zH} (k : tX10_runOf_3 G d K l0 l1 l2 l3 l4 0 h) : tX10_runOf_0 G d K l0 l1 l2 l3 l4 h := by
  unfold tX10_runOf_0
  refine z_iconst dX10_runOf_0 rfl ?_
  refine z_istore dX10_runOf_1 (Nat.le_of_ble_eq_true rfl) (L' := [some (vr 15 l0), some (vi l1), some (vi l2), some (vi l3), some (vi l4), some (vi 0)]) rfl rfl ?_
  exact z_sub (show zsub _ _ from ⟨rfl, ⟨rfl, ⟨rfl, ⟨rfl, ⟨rfl, ⟨rfl, trivial⟩⟩⟩⟩⟩⟩) k
theorem bX10_runOf_3 {G : zG} {d : Nat} {K : Int → zH → Prop} {l0 : Int} {l1 : Int} {l2 : Int} {l3 : Int} {l4 : Int} {l5 : Int} {h : zH} (k : zR (l1 + l5) ∧ zR l2 ∧ (l2 ≤ (l1 + l5) → K l5 h) ∧ (¬ l2 ≤ (l1 + l5) → (0 ≤ (l1 + l5) ∧ (l1 + l5) < zln l0) ∧ zR (h l0 (l1 + l5)) ∧ zR l3 ∧ ((h l0 (l1 + l5)) < l3 → K l5 h) ∧ (¬ (h l0 (l1 + l5)) < l3 → (0 ≤ (l1 + l5) ∧ (l1 + l5) < zln l0) ∧ zR (h l0 (l1 + l5)) ∧ zR l4 ∧ (l4 < (h l0 (l1 + l5)) → K l5 h) ∧ (¬ l4 < (h l0 (l1 + l5)) → tX10_runOf_3 G d K l0 l1 l2 l3 l4 (l5 + 1) h)))) : tX10_runOf_3 G d K l0 l1 l2 l3 l4 l5 h := by
  unfold tX10_runOf_3
  refine z_iload_n 1 dX10_runOf_3 rfl rfl rfl ?_
  refine z_iload dX10_runOf_4 rfl rfl ?_
  refine z_iadd dX10_runOf_6 rfl ?_
  refine z_iload_n 2 dX10_runOf_7 rfl rfl rfl ?_
  obtain ⟨r1, r2, ka, kb⟩ := k
  refine z_icmp_ge (tgt := 38) dX10_runOf_8 rfl r1 r2 rfl ⟨fun q => ?_, fun q => ?_⟩
  · have k := ka q
    refine z_iload dX10_runOf_38 rfl rfl ?_
    exact z_ireturn rfl dX10_runOf_40 ⟨_, rfl, k⟩
  · have k := kb q
    refine z_aload_n 0 dX10_runOf_11 rfl rfl (Nat.le_of_ble_eq_true rfl) rfl ?_
    refine z_iload_n 1 dX10_runOf_12 rfl rfl rfl ?_
    refine z_iload dX10_runOf_13 rfl rfl ?_
    refine z_iadd dX10_runOf_15 rfl ?_
    obtain ⟨i9, k⟩ := k
    refine z_bald (x := (h l0 (l1 + l5))) dX10_runOf_16 i9 rfl rfl ?_
    refine z_iload_n 3 dX10_runOf_17 rfl rfl rfl ?_
    obtain ⟨r1, r2, ka, kb⟩ := k
    refine z_icmp_lt (tgt := 38) dX10_runOf_18 rfl r1 r2 rfl ⟨fun q => ?_, fun q => ?_⟩
    · have k := ka q
      refine z_iload dX10_runOf_38 rfl rfl ?_
      exact z_ireturn rfl dX10_runOf_40 ⟨_, rfl, k⟩
    · have k := kb q
      refine z_aload_n 0 dX10_runOf_21 rfl rfl (Nat.le_of_ble_eq_true rfl) rfl ?_
      refine z_iload_n 1 dX10_runOf_22 rfl rfl rfl ?_
      refine z_iload dX10_runOf_23 rfl rfl ?_
      refine z_iadd dX10_runOf_25 rfl ?_
      obtain ⟨i9, k⟩ := k
      refine z_bald (x := (h l0 (l1 + l5))) dX10_runOf_26 i9 rfl rfl ?_
      refine z_iload dX10_runOf_27 rfl rfl ?_
      obtain ⟨r1, r2, ka, kb⟩ := k
      refine z_icmp_gt (tgt := 38) dX10_runOf_29 rfl r1 r2 rfl ⟨fun q => ?_, fun q => ?_⟩
      · have k := ka q
        refine z_iload dX10_runOf_38 rfl rfl ?_
        exact z_ireturn rfl dX10_runOf_40 ⟨_, rfl, k⟩
      · have k := kb q
        refine z_iinc dX10_runOf_32 rfl (Nat.le_of_ble_eq_true rfl) (L' := [some (vr 15 l0), some (vi l1), some (vi l2), some (vi l3), some (vi l4), some (vi (l5 + 1))]) rfl rfl ?_
        refine z_goto (tgt := 3) dX10_runOf_35 rfl ?_
        exact z_sub (show zsub _ _ from ⟨rfl, ⟨rfl, ⟨rfl, ⟨rfl, ⟨rfl, ⟨rfl, trivial⟩⟩⟩⟩⟩⟩) k
theorem eX10_runOf {G : zG} {d : Nat} {K : Int → zH → Prop} {l0 : Int} {l1 : Int} {l2 : Int} {l3 : Int} {l4 : Int} {h : zH} (k : tX10_runOf_0 G d K l0 l1 l2 l3 l4 h) : zCi G d mX10_runOf [vr 15 l0, vi l1, vi l2, vi l3, vi l4] h K := z_entry (by decide +kernel) (Nat.le_of_ble_eq_true rfl) rfl k
def tX10_valueOf_0 (G : zG) (d : Nat) (K : Int → zH → Prop) (l0 : Int) (l1 : Int) (l2 : Int) (l3 : Int) (l4 : Int) (h : zH) : Prop := zTl G d mX10_valueOf K 0 [some (vr 15 l0), some (vi l1), some (vi l2), some (vi l3), some (vi l4), none, none, none] [] h
def tX10_valueOf_6 (G : zG) (d : Nat) (K : Int → zH → Prop) (l0 : Int) (l1 : Int) (l2 : Int) (l3 : Int) (l4 : Int) (l5 : Int) (l7 : Int) (h : zH) : Prop := zTl G d mX10_valueOf K 6 [some (vr 15 l0), some (vi l1), some (vi l2), some (vi l3), some (vi l4), some (vl l5), none, some (vi l7)] [] h
theorem bX10_valueOf_0 {G : zG} {d : Nat} {K : Int → zH → Prop} {l0 : Int} {l1 : Int} {l2 : Int} {l3 : Int} {l4 : Int} {h : zH} (k : tX10_valueOf_6 G d K l0 l1 l2 l3 l4 0 l1 h) : tX10_valueOf_0 G d K l0 l1 l2 l3 l4 h := by
  unfold tX10_valueOf_0
  refine z_lconst (x := 0) dX10_valueOf_0 rfl rfl ?_
  refine z_lstore dX10_valueOf_1 (Nat.le_of_ble_eq_true rfl) (L' := [some (vr 15 l0), some (vi l1), some (vi l2), some (vi l3), some (vi l4), some (vl 0), none, none]) rfl rfl ?_
  refine z_iload_n 1 dX10_valueOf_3 rfl rfl rfl ?_
  refine z_istore dX10_valueOf_4 (Nat.le_of_ble_eq_true rfl) (L' := [some (vr 15 l0), some (vi l1), some (vi l2), some (vi l3), some (vi l4), some (vl 0), none, some (vi l1)]) rfl rfl ?_
  exact z_sub (show zsub _ _ from ⟨rfl, ⟨rfl, ⟨rfl, ⟨rfl, ⟨rfl, ⟨rfl, ⟨rfl, trivial⟩⟩⟩⟩⟩⟩⟩) k
theorem bX10_valueOf_6 {G : zG} {d : Nat} {K : Int → zH → Prop} {l0 : Int} {l1 : Int} {l2 : Int} {l3 : Int} {l4 : Int} {l5 : Int} {l7 : Int} {h : zH} (k : zR l7 ∧ zR (l1 + l2) ∧ ((l1 + l2) ≤ l7 → K l5 h) ∧ (¬ (l1 + l2) ≤ l7 → zR l4 ∧ (0 ≤ l7 ∧ l7 < zln l0) ∧ zR (h l0 l7) ∧ zR l3 ∧ tX10_valueOf_6 G d K l0 l1 l2 l3 l4 (((l5 * l4) + (h l0 l7)) - l3) (l7 + 1) h)) : tX10_valueOf_6 G d K l0 l1 l2 l3 l4 l5 l7 h := by
  unfold tX10_valueOf_6
  refine z_iload dX10_valueOf_6 rfl rfl ?_
  refine z_iload_n 1 dX10_valueOf_8 rfl rfl rfl ?_
  refine z_iload_n 2 dX10_valueOf_9 rfl rfl rfl ?_
  refine z_iadd dX10_valueOf_10 rfl ?_
  obtain ⟨r1, r2, ka, kb⟩ := k
  refine z_icmp_ge (tgt := 37) dX10_valueOf_11 rfl r1 r2 rfl ⟨fun q => ?_, fun q => ?_⟩
  · have k := ka q
    refine z_lload dX10_valueOf_37 rfl rfl ?_
    exact z_lreturn rfl dX10_valueOf_39 ⟨_, rfl, k⟩
  · have k := kb q
    refine z_lload dX10_valueOf_14 rfl rfl ?_
    refine z_iload dX10_valueOf_16 rfl rfl ?_
    obtain ⟨r9, k⟩ := k
    refine z_i2l dX10_valueOf_18 r9 rfl ?_
    refine z_lmul dX10_valueOf_19 rfl ?_
    refine z_aload_n 0 dX10_valueOf_20 rfl rfl (Nat.le_of_ble_eq_true rfl) rfl ?_
    refine z_iload dX10_valueOf_21 rfl rfl ?_
    obtain ⟨i9, k⟩ := k
    refine z_bald (x := (h l0 l7)) dX10_valueOf_23 i9 rfl rfl ?_
    obtain ⟨r9, k⟩ := k
    refine z_i2l dX10_valueOf_24 r9 rfl ?_
    refine z_ladd dX10_valueOf_25 rfl ?_
    refine z_iload_n 3 dX10_valueOf_26 rfl rfl rfl ?_
    obtain ⟨r9, k⟩ := k
    refine z_i2l dX10_valueOf_27 r9 rfl ?_
    refine z_lsub dX10_valueOf_28 rfl ?_
    refine z_lstore dX10_valueOf_29 (Nat.le_of_ble_eq_true rfl) (L' := [some (vr 15 l0), some (vi l1), some (vi l2), some (vi l3), some (vi l4), some (vl (((l5 * l4) + (h l0 l7)) - l3)), none, some (vi l7)]) rfl rfl ?_
    refine z_iinc dX10_valueOf_31 rfl (Nat.le_of_ble_eq_true rfl) (L' := [some (vr 15 l0), some (vi l1), some (vi l2), some (vi l3), some (vi l4), some (vl (((l5 * l4) + (h l0 l7)) - l3)), none, some (vi (l7 + 1))]) rfl rfl ?_
    refine z_goto (tgt := 6) dX10_valueOf_34 rfl ?_
    exact z_sub (show zsub _ _ from ⟨rfl, ⟨rfl, ⟨rfl, ⟨rfl, ⟨rfl, ⟨rfl, ⟨rfl, trivial⟩⟩⟩⟩⟩⟩⟩) k
theorem eX10_valueOf {G : zG} {d : Nat} {K : Int → zH → Prop} {l0 : Int} {l1 : Int} {l2 : Int} {l3 : Int} {l4 : Int} {h : zH} (k : tX10_valueOf_0 G d K l0 l1 l2 l3 l4 h) : zCl G d mX10_valueOf [vr 15 l0, vi l1, vi l2, vi l3, vi l4] h K := z_entry (by decide +kernel) (Nat.le_of_ble_eq_true rfl) rfl k
def tX10_add_0 (G : zG) (d : Nat) (K : zH → Prop) (l1 : Int) (l2 : Int) (l3 : Int) (h : zH) : Prop := zTv G d mX10_add K 0 [some (vr 10 13), some (vi l1), some (vi l2), some (vl l3), none] [] h
theorem bX10_add_0 {G : zG} {d : Nat} {K : zH → Prop} {l1 : Int} {l2 : Int} {l3 : Int} {h : zH} (k : zR (h 13 3) ∧ (901 ≤ (h 13 3) → K h) ∧ (¬ 901 ≤ (h 13 3) → (0 ≤ (h 13 3) ∧ (h 13 3) < 901) ∧ (0 ≤ (h 13 3) ∧ (h 13 3) < 901) ∧ (0 ≤ (h 13 3) ∧ (h 13 3) < 901) ∧ K (zup (zup (zup (zup h 14 (h 13 3) l1) 15 (h 13 3) l2) 16 (h 13 3) l3) 13 3 ((h 13 3) + 1)))) : tX10_add_0 G d K l1 l2 l3 h := by
  unfold tX10_add_0
  refine z_aload_n 0 dX10_add_0 rfl rfl (Nat.le_of_ble_eq_true rfl) rfl ?_
  refine z_getI 10 (x := (h 13 3)) fX10_22 rfl dX10_add_1 rfl rfl ?_
  refine z_aload_n 0 dX10_add_4 rfl rfl (Nat.le_of_ble_eq_true rfl) rfl ?_
  refine z_getF 10 13 (x := 14) fX10_9 rfl dX10_add_5 rfl rfl ?_
  refine z_alen13 (x := 901) dX10_add_8 (zl_14) rfl ?_
  obtain ⟨r1, ka, kb⟩ := k
  refine z_icmp_ge (tgt := 52) dX10_add_9 rfl r1 ⟨by decide, by decide⟩ rfl ⟨fun q => ?_, fun q => ?_⟩
  · have k := ka q
    exact z_return rfl dX10_add_52 ⟨rfl, k⟩
  · have k := kb q
    refine z_aload_n 0 dX10_add_12 rfl rfl (Nat.le_of_ble_eq_true rfl) rfl ?_
    refine z_getF 10 13 (x := 14) fX10_9 rfl dX10_add_13 rfl rfl ?_
    refine z_aload_n 0 dX10_add_16 rfl rfl (Nat.le_of_ble_eq_true rfl) rfl ?_
    refine z_getI 10 (x := (h 13 3)) fX10_22 rfl dX10_add_17 rfl rfl ?_
    refine z_iload_n 1 dX10_add_20 rfl rfl rfl ?_
    obtain ⟨i9, k⟩ := k
    refine z_iast dX10_add_21 (by rw [zl_14]; exact i9) rfl ?_
    refine z_aload_n 0 dX10_add_22 rfl rfl (Nat.le_of_ble_eq_true rfl) rfl ?_
    refine z_getF 10 13 (x := 15) fX10_15 rfl dX10_add_23 rfl rfl ?_
    refine z_aload_n 0 dX10_add_26 rfl rfl (Nat.le_of_ble_eq_true rfl) rfl ?_
    refine z_getI 10 (x := (h 13 3)) fX10_22 rfl dX10_add_27 (by simp [zup]) rfl ?_
    refine z_iload_n 2 dX10_add_30 rfl rfl rfl ?_
    obtain ⟨i9, k⟩ := k
    refine z_iast dX10_add_31 (by rw [zl_15]; exact i9) rfl ?_
    refine z_aload_n 0 dX10_add_32 rfl rfl (Nat.le_of_ble_eq_true rfl) rfl ?_
    refine z_getF 10 14 (x := 16) fX10_18 rfl dX10_add_33 rfl rfl ?_
    refine z_aload_n 0 dX10_add_36 rfl rfl (Nat.le_of_ble_eq_true rfl) rfl ?_
    refine z_getI 10 (x := (h 13 3)) fX10_22 rfl dX10_add_37 (by simp [zup]) rfl ?_
    refine z_lload_n 3 dX10_add_40 rfl rfl rfl ?_
    obtain ⟨i9, k⟩ := k
    refine z_last dX10_add_41 (by rw [zl_16]; exact i9) rfl ?_
    refine z_aload_n 0 dX10_add_42 rfl rfl (Nat.le_of_ble_eq_true rfl) rfl ?_
    refine z_dup dX10_add_43 (fun q => by cases q) rfl ?_
    refine z_getI 10 (x := (h 13 3)) fX10_22 rfl dX10_add_44 (by simp [zup]) rfl ?_
    refine z_iconst dX10_add_47 rfl ?_
    refine z_iadd dX10_add_48 rfl ?_
    refine z_putI 10 gX10_22 dX10_add_49 rfl ?_
    exact z_return rfl dX10_add_52 ⟨rfl, k⟩
theorem eX10_add {G : zG} {d : Nat} {K : zH → Prop} {l1 : Int} {l2 : Int} {l3 : Int} {h : zH} (k : tX10_add_0 G d K l1 l2 l3 h) : zCv G d mX10_add [vr 10 13, vi l1, vi l2, vl l3] h K := z_entry (by decide +kernel) (Nat.le_of_ble_eq_true rfl) rfl k
def tX3_rangeCount_0 (G : zG) (d : Nat) (K : Int → zH → Prop) (l0 : Int) (h : zH) : Prop := zTi G d mX3_rangeCount K 0 [some (vr 3 l0)] [] h
theorem bX3_rangeCount_0 {G : zG} {d : Nat} {K : Int → zH → Prop} {l0 : Int} {h : zH} (k : (0 ≤ (h l0 1) ∧ (h l0 1) < 2147483648) ∧ K ((h l0 1) / 2) h) : tX3_rangeCount_0 G d K l0 h := by
  unfold tX3_rangeCount_0
  refine z_aload_n 0 dX3_rangeCount_0 rfl rfl (Nat.le_of_ble_eq_true rfl) rfl ?_
  refine z_getI 3 (x := (h l0 1)) fX3_21 rfl dX3_rangeCount_1 rfl rfl ?_
  refine z_iconst dX3_rangeCount_4 rfl ?_
  obtain ⟨i9, k⟩ := k
  refine z_idiv dX3_rangeCount_5 ⟨i9.1, i9.2, by decide, by decide⟩ rfl ?_
  exact z_ireturn rfl dX3_rangeCount_6 ⟨_, rfl, k⟩
theorem eX3_rangeCount {G : zG} {d : Nat} {K : Int → zH → Prop} {l0 : Int} {h : zH} (k : tX3_rangeCount_0 G d K l0 h) : zCi G d mX3_rangeCount [vr 3 l0] h K := z_entry (by decide +kernel) (Nat.le_of_ble_eq_true rfl) rfl k
def tX3_bound_0 (G : zG) (d : Nat) (K : Int → zH → Prop) (l0 : Int) (l1 : Int) (l2 : Bool) (h : zH) : Prop := zTi G (d + 1) mX3_bound K 0 [some (vr 3 l0), some (vi l1), some (vi (bi l2)), none] [] h
theorem bX3_bound_0 {G : zG} {d : Nat} {K : Int → zH → Prop} {l0 : Int} {l1 : Int} {l2 : Bool} {h : zH} (k : (l2 = false → zCb G d mX11_isIn [vi (2 * l1), vi (h l0 1)] h (fun x1 h2 => (x1 = true → (l2 = false → (0 ≤ (2 * l1) ∧ (2 * l1) < zln (l0 + 1)) ∧ K (h2 (l0 + 1) (2 * l1)) h2) ∧ (l2 = true → (0 ≤ (2 * l1) ∧ (2 * l1) < zln (l0 + 1)) ∧ K ((h2 (l0 + 1) (2 * l1)) - 1) h2)) ∧ (x1 = false → K (-1) h2))) ∧ (l2 = true → zCb G d mX11_isIn [vi ((2 * l1) + 1), vi (h l0 1)] h (fun x3 h4 => (x3 = true → (l2 = false → (0 ≤ ((2 * l1) + 1) ∧ ((2 * l1) + 1) < zln (l0 + 1)) ∧ K (h4 (l0 + 1) ((2 * l1) + 1)) h4) ∧ (l2 = true → (0 ≤ ((2 * l1) + 1) ∧ ((2 * l1) + 1) < zln (l0 + 1)) ∧ K ((h4 (l0 + 1) ((2 * l1) + 1)) - 1) h4)) ∧ (x3 = false → K (-1) h4)))) : tX3_bound_0 G d K l0 l1 l2 h := by
  unfold tX3_bound_0
  refine z_iload_n 2 dX3_bound_0 rfl rfl rfl ?_
  obtain ⟨ka, kb⟩ := k
  refine z_ifb_eq (tgt := 12) dX3_bound_1 rfl rfl ⟨fun q => ?_, fun q => ?_⟩
  · have k := ka q
    refine z_iconst dX3_bound_12 rfl ?_
    refine z_iload_n 1 dX3_bound_13 rfl rfl rfl ?_
    refine z_imul dX3_bound_14 rfl ?_
    refine z_istore_n 3 dX3_bound_15 rfl (Nat.le_of_ble_eq_true rfl) (L' := [some (vr 3 l0), some (vi l1), some (vi (bi l2)), some (vi (2 * l1))]) rfl rfl ?_
    refine z_iload_n 3 dX3_bound_16 rfl rfl rfl ?_
    refine z_aload_n 0 dX3_bound_17 rfl rfl (Nat.le_of_ble_eq_true rfl) rfl ?_
    refine z_getI 3 (x := (h l0 1)) fX3_21 rfl dX3_bound_18 rfl rfl ?_
    refine z_callSNb (host := "RangedMachines") sX11_isIn (by decide +kernel) dX3_bound_21 rfl (zRo_d d) (as := [vi (2 * l1), vi (h l0 1)]) (rest := []) (Nat.le_of_ble_eq_true rfl) rfl rfl (zCb_mono (fun x1 h2 k => ?_) k)
    obtain ⟨ka, kb⟩ := k
    refine z_ifb_ne (tgt := 29) dX3_bound_24 rfl rfl ⟨fun q => ?_, fun q => ?_⟩
    · have k := ka q
      refine z_iload_n 2 dX3_bound_29 rfl rfl rfl ?_
      obtain ⟨ka, kb⟩ := k
      refine z_ifb_eq (tgt := 44) dX3_bound_30 rfl rfl ⟨fun q => ?_, fun q => ?_⟩
      · have k := ka q
        refine z_aload_n 0 dX3_bound_44 rfl rfl (Nat.le_of_ble_eq_true rfl) rfl ?_
        refine z_getF 3 13 (x := (l0 + 1)) fX3_15 rfl dX3_bound_45 (by omega) rfl ?_
        refine z_iload_n 3 dX3_bound_48 rfl rfl rfl ?_
        obtain ⟨i9, k⟩ := k
        refine z_iald (x := (h2 (l0 + 1) (2 * l1))) dX3_bound_49 i9 rfl rfl ?_
        exact z_ireturn rfl dX3_bound_50 ⟨_, rfl, k⟩
      · have k := kb q
        refine z_aload_n 0 dX3_bound_33 rfl rfl (Nat.le_of_ble_eq_true rfl) rfl ?_
        refine z_getF 3 13 (x := (l0 + 1)) fX3_15 rfl dX3_bound_34 (by omega) rfl ?_
        refine z_iload_n 3 dX3_bound_37 rfl rfl rfl ?_
        obtain ⟨i9, k⟩ := k
        refine z_iald (x := (h2 (l0 + 1) (2 * l1))) dX3_bound_38 i9 rfl rfl ?_
        refine z_iconst dX3_bound_39 rfl ?_
        refine z_isub dX3_bound_40 rfl ?_
        refine z_goto (tgt := 50) dX3_bound_41 rfl ?_
        exact z_ireturn rfl dX3_bound_50 ⟨_, rfl, k⟩
    · have k := kb q
      refine z_iconst dX3_bound_27 rfl ?_
      exact z_ireturn rfl dX3_bound_28 ⟨_, rfl, k⟩
  · have k := kb q
    refine z_iconst dX3_bound_4 rfl ?_
    refine z_iload_n 1 dX3_bound_5 rfl rfl rfl ?_
    refine z_imul dX3_bound_6 rfl ?_
    refine z_iconst dX3_bound_7 rfl ?_
    refine z_iadd dX3_bound_8 rfl ?_
    refine z_goto (tgt := 15) dX3_bound_9 rfl ?_
    refine z_istore_n 3 dX3_bound_15 rfl (Nat.le_of_ble_eq_true rfl) (L' := [some (vr 3 l0), some (vi l1), some (vi (bi l2)), some (vi ((2 * l1) + 1))]) rfl rfl ?_
    refine z_iload_n 3 dX3_bound_16 rfl rfl rfl ?_
    refine z_aload_n 0 dX3_bound_17 rfl rfl (Nat.le_of_ble_eq_true rfl) rfl ?_
    refine z_getI 3 (x := (h l0 1)) fX3_21 rfl dX3_bound_18 rfl rfl ?_
    refine z_callSNb (host := "RangedMachines") sX11_isIn (by decide +kernel) dX3_bound_21 rfl (zRo_d d) (as := [vi ((2 * l1) + 1), vi (h l0 1)]) (rest := []) (Nat.le_of_ble_eq_true rfl) rfl rfl (zCb_mono (fun x3 h4 k => ?_) k)
    obtain ⟨ka, kb⟩ := k
    refine z_ifb_ne (tgt := 29) dX3_bound_24 rfl rfl ⟨fun q => ?_, fun q => ?_⟩
    · have k := ka q
      refine z_iload_n 2 dX3_bound_29 rfl rfl rfl ?_
      obtain ⟨ka, kb⟩ := k
      refine z_ifb_eq (tgt := 44) dX3_bound_30 rfl rfl ⟨fun q => ?_, fun q => ?_⟩
      · have k := ka q
        refine z_aload_n 0 dX3_bound_44 rfl rfl (Nat.le_of_ble_eq_true rfl) rfl ?_
        refine z_getF 3 13 (x := (l0 + 1)) fX3_15 rfl dX3_bound_45 (by omega) rfl ?_
        refine z_iload_n 3 dX3_bound_48 rfl rfl rfl ?_
        obtain ⟨i9, k⟩ := k
        refine z_iald (x := (h4 (l0 + 1) ((2 * l1) + 1))) dX3_bound_49 i9 rfl rfl ?_
        exact z_ireturn rfl dX3_bound_50 ⟨_, rfl, k⟩
      · have k := kb q
        refine z_aload_n 0 dX3_bound_33 rfl rfl (Nat.le_of_ble_eq_true rfl) rfl ?_
        refine z_getF 3 13 (x := (l0 + 1)) fX3_15 rfl dX3_bound_34 (by omega) rfl ?_
        refine z_iload_n 3 dX3_bound_37 rfl rfl rfl ?_
        obtain ⟨i9, k⟩ := k
        refine z_iald (x := (h4 (l0 + 1) ((2 * l1) + 1))) dX3_bound_38 i9 rfl rfl ?_
        refine z_iconst dX3_bound_39 rfl ?_
        refine z_isub dX3_bound_40 rfl ?_
        refine z_goto (tgt := 50) dX3_bound_41 rfl ?_
        exact z_ireturn rfl dX3_bound_50 ⟨_, rfl, k⟩
    · have k := kb q
      refine z_iconst dX3_bound_27 rfl ?_
      exact z_ireturn rfl dX3_bound_28 ⟨_, rfl, k⟩
theorem eX3_bound {G : zG} {d : Nat} {K : Int → zH → Prop} {l0 : Int} {l1 : Int} {l2 : Bool} {h : zH} (k : tX3_bound_0 G d K l0 l1 l2 h) : zCi G (d + 1) mX3_bound [vr 3 l0, vi l1, vi (bi l2)] h K := z_entry (by decide +kernel) (Nat.le_of_ble_eq_true rfl) rfl k
def tX3_amount_0 (G : zG) (d : Nat) (K : Int → zH → Prop) (l0 : Int) (h : zH) : Prop := zTi G d mX3_amount K 0 [some (vr 3 l0), none, none] [] h
def tX3_amount_4 (G : zG) (d : Nat) (K : Int → zH → Prop) (l0 : Int) (l1 : Int) (l2 : Int) (h : zH) : Prop := zTi G d mX3_amount K 4 [some (vr 3 l0), some (vi l1), some (vi l2)] [] h
theorem bX3_amount_0 {G : zG} {d : Nat} {K : Int → zH → Prop} {l0 : Int} {h : zH} (k : tX3_amount_4 G d K l0 0 0 h) : tX3_amount_0 G d K l0 h := by
  unfold tX3_amount_0
  refine z_iconst dX3_amount_0 rfl ?_
  refine z_istore_n 1 dX3_amount_1 rfl (Nat.le_of_ble_eq_true rfl) (L' := [some (vr 3 l0), some (vi 0), none]) rfl rfl ?_
  refine z_iconst dX3_amount_2 rfl ?_
  refine z_istore_n 2 dX3_amount_3 rfl (Nat.le_of_ble_eq_true rfl) (L' := [some (vr 3 l0), some (vi 0), some (vi 0)]) rfl rfl ?_
  exact z_sub (show zsub _ _ from ⟨rfl, ⟨rfl, ⟨rfl, trivial⟩⟩⟩) k
theorem bX3_amount_4 {G : zG} {d : Nat} {K : Int → zH → Prop} {l0 : Int} {l1 : Int} {l2 : Int} {h : zH} (k : zR (l2 + 1) ∧ zR (h l0 1) ∧ ((h l0 1) ≤ (l2 + 1) → K l1 h) ∧ (¬ (h l0 1) ≤ (l2 + 1) → (0 ≤ (l2 + 1) ∧ (l2 + 1) < zln (l0 + 1)) ∧ (0 ≤ l2 ∧ l2 < zln (l0 + 1)) ∧ tX3_amount_4 G d K l0 (l1 + ((h (l0 + 1) (l2 + 1)) - (h (l0 + 1) l2))) (l2 + 2) h)) : tX3_amount_4 G d K l0 l1 l2 h := by
  unfold tX3_amount_4
  refine z_iload_n 2 dX3_amount_4 rfl rfl rfl ?_
  refine z_iconst dX3_amount_5 rfl ?_
  refine z_iadd dX3_amount_6 rfl ?_
  refine z_aload_n 0 dX3_amount_7 rfl rfl (Nat.le_of_ble_eq_true rfl) rfl ?_
  refine z_getI 3 (x := (h l0 1)) fX3_21 rfl dX3_amount_8 rfl rfl ?_
  obtain ⟨r1, r2, ka, kb⟩ := k
  refine z_icmp_ge (tgt := 38) dX3_amount_11 rfl r1 r2 rfl ⟨fun q => ?_, fun q => ?_⟩
  · have k := ka q
    refine z_iload_n 1 dX3_amount_38 rfl rfl rfl ?_
    exact z_ireturn rfl dX3_amount_39 ⟨_, rfl, k⟩
  · have k := kb q
    refine z_iload_n 1 dX3_amount_14 rfl rfl rfl ?_
    refine z_aload_n 0 dX3_amount_15 rfl rfl (Nat.le_of_ble_eq_true rfl) rfl ?_
    refine z_getF 3 13 (x := (l0 + 1)) fX3_15 rfl dX3_amount_16 (by omega) rfl ?_
    refine z_iload_n 2 dX3_amount_19 rfl rfl rfl ?_
    refine z_iconst dX3_amount_20 rfl ?_
    refine z_iadd dX3_amount_21 rfl ?_
    obtain ⟨i9, k⟩ := k
    refine z_iald (x := (h (l0 + 1) (l2 + 1))) dX3_amount_22 i9 rfl rfl ?_
    refine z_aload_n 0 dX3_amount_23 rfl rfl (Nat.le_of_ble_eq_true rfl) rfl ?_
    refine z_getF 3 13 (x := (l0 + 1)) fX3_15 rfl dX3_amount_24 (by omega) rfl ?_
    refine z_iload_n 2 dX3_amount_27 rfl rfl rfl ?_
    obtain ⟨i9, k⟩ := k
    refine z_iald (x := (h (l0 + 1) l2)) dX3_amount_28 i9 rfl rfl ?_
    refine z_isub dX3_amount_29 rfl ?_
    refine z_iadd dX3_amount_30 rfl ?_
    refine z_istore_n 1 dX3_amount_31 rfl (Nat.le_of_ble_eq_true rfl) (L' := [some (vr 3 l0), some (vi (l1 + ((h (l0 + 1) (l2 + 1)) - (h (l0 + 1) l2)))), some (vi l2)]) rfl rfl ?_
    refine z_iinc dX3_amount_32 rfl (Nat.le_of_ble_eq_true rfl) (L' := [some (vr 3 l0), some (vi (l1 + ((h (l0 + 1) (l2 + 1)) - (h (l0 + 1) l2)))), some (vi (l2 + 2))]) rfl rfl ?_
    refine z_goto (tgt := 4) dX3_amount_35 rfl ?_
    exact z_sub (show zsub _ _ from ⟨rfl, ⟨rfl, ⟨rfl, trivial⟩⟩⟩) k
theorem eX3_amount {G : zG} {d : Nat} {K : Int → zH → Prop} {l0 : Int} {h : zH} (k : tX3_amount_0 G d K l0 h) : zCi G d mX3_amount [vr 3 l0] h K := z_entry (by decide +kernel) (Nat.le_of_ble_eq_true rfl) rfl k
def tX3_holds_0 (G : zG) (d : Nat) (K : Bool → zH → Prop) (l0 : Int) (l1 : Int) (h : zH) : Prop := zTb G d mX3_holds K 0 [some (vr 3 l0), some (vi l1), none] [] h
def tX3_holds_2 (G : zG) (d : Nat) (K : Bool → zH → Prop) (l0 : Int) (l1 : Int) (l2 : Int) (h : zH) : Prop := zTb G d mX3_holds K 2 [some (vr 3 l0), some (vi l1), some (vi l2)] [] h
theorem bX3_holds_0 {G : zG} {d : Nat} {K : Bool → zH → Prop} {l0 : Int} {l1 : Int} {h : zH} (k : tX3_holds_2 G d K l0 l1 0 h) : tX3_holds_0 G d K l0 l1 h := by
  unfold tX3_holds_0
  refine z_iconst dX3_holds_0 rfl ?_
  refine z_istore_n 2 dX3_holds_1 rfl (Nat.le_of_ble_eq_true rfl) (L' := [some (vr 3 l0), some (vi l1), some (vi 0)]) rfl rfl ?_
  exact z_sub (show zsub _ _ from ⟨rfl, ⟨rfl, ⟨rfl, trivial⟩⟩⟩) k
theorem bX3_holds_2 {G : zG} {d : Nat} {K : Bool → zH → Prop} {l0 : Int} {l1 : Int} {l2 : Int} {h : zH} (k : zR l2 ∧ zR (h l0 1) ∧ ((h l0 1) ≤ l2 → (0 ≤ l2 ∧ l2 < 2147483648) ∧ zR (l2 % 2) ∧ (¬ (l2 % 2) = 1 → K false h) ∧ ((l2 % 2) = 1 → K true h)) ∧ (¬ (h l0 1) ≤ l2 → (0 ≤ l2 ∧ l2 < zln (l0 + 1)) ∧ zR (h (l0 + 1) l2) ∧ zR l1 ∧ (l1 < (h (l0 + 1) l2) → (0 ≤ l2 ∧ l2 < 2147483648) ∧ zR (l2 % 2) ∧ (¬ (l2 % 2) = 1 → K false h) ∧ ((l2 % 2) = 1 → K true h)) ∧ (¬ l1 < (h (l0 + 1) l2) → tX3_holds_2 G d K l0 l1 (l2 + 1) h))) : tX3_holds_2 G d K l0 l1 l2 h := by
  unfold tX3_holds_2
  refine z_iload_n 2 dX3_holds_2 rfl rfl rfl ?_
  refine z_aload_n 0 dX3_holds_3 rfl rfl (Nat.le_of_ble_eq_true rfl) rfl ?_
  refine z_getI 3 (x := (h l0 1)) fX3_21 rfl dX3_holds_4 rfl rfl ?_
  obtain ⟨r1, r2, ka, kb⟩ := k
  refine z_icmp_ge (tgt := 26) dX3_holds_7 rfl r1 r2 rfl ⟨fun q => ?_, fun q => ?_⟩
  · have k := ka q
    refine z_iload_n 2 dX3_holds_26 rfl rfl rfl ?_
    refine z_iconst dX3_holds_27 rfl ?_
    obtain ⟨i9, k⟩ := k
    refine z_irem dX3_holds_28 ⟨i9.1, i9.2, by decide, by decide⟩ rfl ?_
    refine z_iconst dX3_holds_29 rfl ?_
    obtain ⟨r1, ka, kb⟩ := k
    refine z_icmp_ne (tgt := 37) dX3_holds_30 rfl r1 ⟨by decide, by decide⟩ rfl ⟨fun q => ?_, fun q => ?_⟩
    · have k := ka q
      refine z_iconst dX3_holds_37 rfl ?_
      exact z_zreturn rfl (Or.inl rfl) dX3_holds_38 ⟨false, rfl, k⟩
    · have k := kb q
      refine z_iconst dX3_holds_33 rfl ?_
      refine z_goto (tgt := 38) dX3_holds_34 rfl ?_
      exact z_zreturn rfl (Or.inr rfl) dX3_holds_38 ⟨true, rfl, k⟩
  · have k := kb q
    refine z_aload_n 0 dX3_holds_10 rfl rfl (Nat.le_of_ble_eq_true rfl) rfl ?_
    refine z_getF 3 13 (x := (l0 + 1)) fX3_15 rfl dX3_holds_11 (by omega) rfl ?_
    refine z_iload_n 2 dX3_holds_14 rfl rfl rfl ?_
    obtain ⟨i9, k⟩ := k
    refine z_iald (x := (h (l0 + 1) l2)) dX3_holds_15 i9 rfl rfl ?_
    refine z_iload_n 1 dX3_holds_16 rfl rfl rfl ?_
    obtain ⟨r1, r2, ka, kb⟩ := k
    refine z_icmp_gt (tgt := 26) dX3_holds_17 rfl r1 r2 rfl ⟨fun q => ?_, fun q => ?_⟩
    · have k := ka q
      refine z_iload_n 2 dX3_holds_26 rfl rfl rfl ?_
      refine z_iconst dX3_holds_27 rfl ?_
      obtain ⟨i9, k⟩ := k
      refine z_irem dX3_holds_28 ⟨i9.1, i9.2, by decide, by decide⟩ rfl ?_
      refine z_iconst dX3_holds_29 rfl ?_
      obtain ⟨r1, ka, kb⟩ := k
      refine z_icmp_ne (tgt := 37) dX3_holds_30 rfl r1 ⟨by decide, by decide⟩ rfl ⟨fun q => ?_, fun q => ?_⟩
      · have k := ka q
        refine z_iconst dX3_holds_37 rfl ?_
        exact z_zreturn rfl (Or.inl rfl) dX3_holds_38 ⟨false, rfl, k⟩
      · have k := kb q
        refine z_iconst dX3_holds_33 rfl ?_
        refine z_goto (tgt := 38) dX3_holds_34 rfl ?_
        exact z_zreturn rfl (Or.inr rfl) dX3_holds_38 ⟨true, rfl, k⟩
    · have k := kb q
      refine z_iinc dX3_holds_20 rfl (Nat.le_of_ble_eq_true rfl) (L' := [some (vr 3 l0), some (vi l1), some (vi (l2 + 1))]) rfl rfl ?_
      refine z_goto (tgt := 2) dX3_holds_23 rfl ?_
      exact z_sub (show zsub _ _ from ⟨rfl, ⟨rfl, ⟨rfl, trivial⟩⟩⟩) k
theorem eX3_holds {G : zG} {d : Nat} {K : Bool → zH → Prop} {l0 : Int} {l1 : Int} {h : zH} (k : tX3_holds_0 G d K l0 l1 h) : zCb G d mX3_holds [vr 3 l0, vi l1] h K := z_entry (by decide +kernel) (Nat.le_of_ble_eq_true rfl) rfl k
def tX3_clear_0 (G : zG) (d : Nat) (K : zH → Prop) (l0 : Int) (h : zH) : Prop := zTv G d mX3_clear K 0 [some (vr 3 l0)] [] h
theorem bX3_clear_0 {G : zG} {d : Nat} {K : zH → Prop} {l0 : Int} {h : zH} (k : K (zup h l0 1 0)) : tX3_clear_0 G d K l0 h := by
  unfold tX3_clear_0
  refine z_aload_n 0 dX3_clear_0 rfl rfl (Nat.le_of_ble_eq_true rfl) rfl ?_
  refine z_iconst dX3_clear_1 rfl ?_
  refine z_putI 3 gX3_21 dX3_clear_2 rfl ?_
  exact z_return rfl dX3_clear_5 ⟨rfl, k⟩
theorem eX3_clear {G : zG} {d : Nat} {K : zH → Prop} {l0 : Int} {h : zH} (k : tX3_clear_0 G d K l0 h) : zCv G d mX3_clear [vr 3 l0] h K := z_entry (by decide +kernel) (Nat.le_of_ble_eq_true rfl) rfl k
def tX3_become_0 (G : zG) (d : Nat) (K : zH → Prop) (l0 : Int) (l1 : Int) (l2 : Int) (h : zH) : Prop := zTv G d mX3_become K 0 [some (vr 3 l0), some (vi l1), some (vi l2)] [] h
theorem bX3_become_0 {G : zG} {d : Nat} {K : zH → Prop} {l0 : Int} {l1 : Int} {l2 : Int} {h : zH} (k : zR (zln (l0 + 1)) ∧ ((zln (l0 + 1)) < 2 → K (zup h l0 1 0)) ∧ (¬ (zln (l0 + 1)) < 2 → (0 ≤ 0 ∧ 0 < zln (l0 + 1)) ∧ (0 ≤ 1 ∧ 1 < zln (l0 + 1)) ∧ K (zup (zup (zup (zup h l0 1 0) (l0 + 1) 0 l1) (l0 + 1) 1 (l2 + 1)) l0 1 2))) : tX3_become_0 G d K l0 l1 l2 h := by
  unfold tX3_become_0
  refine z_aload_n 0 dX3_become_0 rfl rfl (Nat.le_of_ble_eq_true rfl) rfl ?_
  refine z_iconst dX3_become_1 rfl ?_
  refine z_putI 3 gX3_21 dX3_become_2 rfl ?_
  refine z_aload_n 0 dX3_become_5 rfl rfl (Nat.le_of_ble_eq_true rfl) rfl ?_
  refine z_getF 3 13 (x := (l0 + 1)) fX3_15 rfl dX3_become_6 (by omega) rfl ?_
  refine z_alen13 dX3_become_9 rfl rfl ?_
  refine z_iconst dX3_become_10 rfl ?_
  obtain ⟨r1, ka, kb⟩ := k
  refine z_icmp_lt (tgt := 35) dX3_become_11 rfl r1 ⟨by decide, by decide⟩ rfl ⟨fun q => ?_, fun q => ?_⟩
  · have k := ka q
    exact z_return rfl dX3_become_35 ⟨rfl, k⟩
  · have k := kb q
    refine z_aload_n 0 dX3_become_14 rfl rfl (Nat.le_of_ble_eq_true rfl) rfl ?_
    refine z_getF 3 13 (x := (l0 + 1)) fX3_15 rfl dX3_become_15 (by omega) rfl ?_
    refine z_iconst dX3_become_18 rfl ?_
    refine z_iload_n 1 dX3_become_19 rfl rfl rfl ?_
    obtain ⟨i9, k⟩ := k
    refine z_iast dX3_become_20 i9 rfl ?_
    refine z_aload_n 0 dX3_become_21 rfl rfl (Nat.le_of_ble_eq_true rfl) rfl ?_
    refine z_getF 3 13 (x := (l0 + 1)) fX3_15 rfl dX3_become_22 (by omega) rfl ?_
    refine z_iconst dX3_become_25 rfl ?_
    refine z_iload_n 2 dX3_become_26 rfl rfl rfl ?_
    refine z_iconst dX3_become_27 rfl ?_
    refine z_iadd dX3_become_28 rfl ?_
    obtain ⟨i9, k⟩ := k
    refine z_iast dX3_become_29 i9 rfl ?_
    refine z_aload_n 0 dX3_become_30 rfl rfl (Nat.le_of_ble_eq_true rfl) rfl ?_
    refine z_iconst dX3_become_31 rfl ?_
    refine z_putI 3 gX3_21 dX3_become_32 rfl ?_
    exact z_return rfl dX3_become_35 ⟨rfl, k⟩
theorem eX3_become {G : zG} {d : Nat} {K : zH → Prop} {l0 : Int} {l1 : Int} {l2 : Int} {h : zH} (k : tX3_become_0 G d K l0 l1 l2 h) : zCv G d mX3_become [vr 3 l0, vi l1, vi l2] h K := z_entry (by decide +kernel) (Nat.le_of_ble_eq_true rfl) rfl k
def tX3_copy_0 (G : zG) (d : Nat) (K : zH → Prop) (l0 : Int) (l1 : Int) (h : zH) : Prop := zTv G (d + 1) mX3_copy K 0 [some (vr 3 l0), some (vr 3 l1), none] [] h
def tX3_copy_7 (G : zG) (d : Nat) (K : zH → Prop) (l0 : Int) (l1 : Int) (l2 : Int) (h : zH) : Prop := zTv G (d + 1) mX3_copy K 7 [some (vr 3 l0), some (vr 3 l1), some (vi l2)] [] h
theorem bX3_copy_0 {G : zG} {d : Nat} {K : zH → Prop} {l0 : Int} {l1 : Int} {h : zH} (k : tX3_copy_7 G d K l0 l1 0 (zup h l0 1 0)) : tX3_copy_0 G d K l0 l1 h := by
  unfold tX3_copy_0
  refine z_aload_n 0 dX3_copy_0 rfl rfl (Nat.le_of_ble_eq_true rfl) rfl ?_
  refine z_iconst dX3_copy_1 rfl ?_
  refine z_putI 3 gX3_21 dX3_copy_2 rfl ?_
  refine z_iconst dX3_copy_5 rfl ?_
  refine z_istore_n 2 dX3_copy_6 rfl (Nat.le_of_ble_eq_true rfl) (L' := [some (vr 3 l0), some (vr 3 l1), some (vi 0)]) rfl rfl ?_
  exact z_sub (show zsub _ _ from ⟨rfl, ⟨rfl, ⟨rfl, trivial⟩⟩⟩) k
theorem bX3_copy_7 {G : zG} {d : Nat} {K : zH → Prop} {l0 : Int} {l1 : Int} {l2 : Int} {h : zH} (k : zR l2 ∧ zR (h l1 1) ∧ ((h l1 1) ≤ l2 → K h) ∧ (¬ (h l1 1) ≤ l2 → (0 ≤ l2 ∧ l2 < zln (l1 + 1)) ∧ zCv G d mX3_addCut [vr 3 l0, vi (h (l1 + 1) l2)] h (fun h2 => tX3_copy_7 G d K l0 l1 (l2 + 1) h2))) : tX3_copy_7 G d K l0 l1 l2 h := by
  unfold tX3_copy_7
  refine z_iload_n 2 dX3_copy_7 rfl rfl rfl ?_
  refine z_aload_n 1 dX3_copy_8 rfl rfl (Nat.le_of_ble_eq_true rfl) rfl ?_
  refine z_getI 3 (x := (h l1 1)) fX3_21 rfl dX3_copy_9 rfl rfl ?_
  obtain ⟨r1, r2, ka, kb⟩ := k
  refine z_icmp_ge (tgt := 31) dX3_copy_12 rfl r1 r2 rfl ⟨fun q => ?_, fun q => ?_⟩
  · have k := ka q
    exact z_return rfl dX3_copy_31 ⟨rfl, k⟩
  · have k := kb q
    refine z_aload_n 0 dX3_copy_15 rfl rfl (Nat.le_of_ble_eq_true rfl) rfl ?_
    refine z_aload_n 1 dX3_copy_16 rfl rfl (Nat.le_of_ble_eq_true rfl) rfl ?_
    refine z_getF 3 13 (x := (l1 + 1)) fX3_15 rfl dX3_copy_17 (by omega) rfl ?_
    refine z_iload_n 2 dX3_copy_20 rfl rfl rfl ?_
    obtain ⟨i9, k⟩ := k
    refine z_iald (x := (h (l1 + 1) l2)) dX3_copy_21 i9 rfl rfl ?_
    refine z_callVv vX3_addCut kX3_29 dX3_copy_22 rfl (zRo_d d) (as := [vi (h (l1 + 1) l2)]) (rest := []) (Nat.le_of_ble_eq_true rfl) rfl rfl (zCv_mono (fun h2 k => ?_) k)
    refine z_iinc dX3_copy_25 rfl (Nat.le_of_ble_eq_true rfl) (L' := [some (vr 3 l0), some (vr 3 l1), some (vi (l2 + 1))]) rfl rfl ?_
    refine z_goto (tgt := 7) dX3_copy_28 rfl ?_
    exact z_sub (show zsub _ _ from ⟨rfl, ⟨rfl, ⟨rfl, trivial⟩⟩⟩) k
theorem eX3_copy {G : zG} {d : Nat} {K : zH → Prop} {l0 : Int} {l1 : Int} {h : zH} (k : tX3_copy_0 G d K l0 l1 h) : zCv G (d + 1) mX3_copy [vr 3 l0, vr 3 l1] h K := z_entry (by decide +kernel) (Nat.le_of_ble_eq_true rfl) rfl k
def tX3_combine_0 (G : zG) (d : Nat) (K : zH → Prop) (l0 : Int) (l1 : Int) (l2 : Int) (l3 : Int) (h : zH) : Prop := zTv G (d + 1) mX3_combine K 0 [some (vr 3 l0), some (vr 3 l1), some (vr 3 l2), some (vi l3), none, none, none, none, none, none, none] [] h
def tX3_combine_20 (G : zG) (d : Nat) (K : zH → Prop) (l0 : Int) (l1 : Int) (l2 : Int) (l3 : Int) (l4 : Int) (l5 : Int) (l6 : Int) (l7 : Int) (l8 : Int) (h : zH) : Prop := zTv G (d + 1) mX3_combine K 20 [some (vr 3 l0), some (vr 3 l1), some (vr 3 l2), some (vi l3), some (vi l4), some (vi l5), some (vi l6), some (vi l7), some (vi l8), none, none] [] h
def tX3_combine_65 (G : zG) (d : Nat) (K : zH → Prop) (l0 : Int) (l1 : Int) (l2 : Int) (l3 : Int) (l4 : Int) (l5 : Int) (l6 : Int) (l7 : Int) (l8 : Int) (h : zH) : Prop := zTv G (d + 1) mX3_combine K 65 [some (vr 3 l0), some (vr 3 l1), some (vr 3 l2), some (vi l3), some (vi l4), some (vi l5), some (vi l6), some (vi l7), some (vi l8), none, none] [] h
def tX3_combine_89 (G : zG) (d : Nat) (K : zH → Prop) (l0 : Int) (l1 : Int) (l2 : Int) (l3 : Int) (l4 : Int) (l5 : Int) (l6 : Int) (l7 : Int) (l8 : Int) (h : zH) : Prop := zTv G (d + 1) mX3_combine K 89 [some (vr 3 l0), some (vr 3 l1), some (vr 3 l2), some (vi l3), some (vi l4), some (vi l5), some (vi l6), some (vi l7), some (vi l8), none, none] [] h
def tX3_combine_142 (G : zG) (d : Nat) (K : zH → Prop) (l0 : Int) (l1 : Int) (l2 : Int) (l3 : Int) (l4 : Int) (l5 : Int) (l7 : Int) (l8 : Int) (h : zH) : Prop := zTv G (d + 1) mX3_combine K 142 [some (vr 3 l0), some (vr 3 l1), some (vr 3 l2), some (vi l3), some (vi l4), some (vi l5), none, some (vi l7), some (vi l8), none, none] [] h
def tX3_combine_203 (G : zG) (d : Nat) (K : zH → Prop) (l0 : Int) (l7 : Int) (h : zH) : Prop := zTv G (d + 1) mX3_combine K 203 [some (vr 3 l0), none, none, none, none, none, none, some (vi l7), none, none, none] [] h
def tX3_combine_214 (G : zG) (d : Nat) (K : zH → Prop) (h : zH) : Prop := zTv G (d + 1) mX3_combine K 214 [none, none, none, none, none, none, none, none, none, none, none] [] h
theorem bX3_combine_0 {G : zG} {d : Nat} {K : zH → Prop} {l0 : Int} {l1 : Int} {l2 : Int} {l3 : Int} {h : zH} (k : tX3_combine_20 G d K l0 l1 l2 l3 0 0 0 0 0 (zup h l0 1 0)) : tX3_combine_0 G d K l0 l1 l2 l3 h := by
  unfold tX3_combine_0
  refine z_aload_n 0 dX3_combine_0 rfl rfl (Nat.le_of_ble_eq_true rfl) rfl ?_
  refine z_iconst dX3_combine_1 rfl ?_
  refine z_putI 3 gX3_21 dX3_combine_2 rfl ?_
  refine z_iconst dX3_combine_5 rfl ?_
  refine z_istore dX3_combine_6 (Nat.le_of_ble_eq_true rfl) (L' := [some (vr 3 l0), some (vr 3 l1), some (vr 3 l2), some (vi l3), some (vi 0), none, none, none, none, none, none]) rfl rfl ?_
  refine z_iconst dX3_combine_8 rfl ?_
  refine z_istore dX3_combine_9 (Nat.le_of_ble_eq_true rfl) (L' := [some (vr 3 l0), some (vr 3 l1), some (vr 3 l2), some (vi l3), some (vi 0), some (vi 0), none, none, none, none, none]) rfl rfl ?_
  refine z_iconst dX3_combine_11 rfl ?_
  refine z_istore dX3_combine_12 (Nat.le_of_ble_eq_true rfl) (L' := [some (vr 3 l0), some (vr 3 l1), some (vr 3 l2), some (vi l3), some (vi 0), some (vi 0), some (vi 0), none, none, none, none]) rfl rfl ?_
  refine z_iconst dX3_combine_14 rfl ?_
  refine z_istore dX3_combine_15 (Nat.le_of_ble_eq_true rfl) (L' := [some (vr 3 l0), some (vr 3 l1), some (vr 3 l2), some (vi l3), some (vi 0), some (vi 0), some (vi 0), some (vi 0), none, none, none]) rfl rfl ?_
  refine z_iconst dX3_combine_17 rfl ?_
  refine z_istore dX3_combine_18 (Nat.le_of_ble_eq_true rfl) (L' := [some (vr 3 l0), some (vr 3 l1), some (vr 3 l2), some (vi l3), some (vi 0), some (vi 0), some (vi 0), some (vi 0), some (vi 0), none, none]) rfl rfl ?_
  exact z_sub (show zsub _ _ from ⟨rfl, ⟨rfl, ⟨rfl, ⟨rfl, ⟨rfl, ⟨rfl, ⟨rfl, ⟨rfl, ⟨rfl, trivial⟩⟩⟩⟩⟩⟩⟩⟩⟩) k
theorem bX3_combine_20 {G : zG} {d : Nat} {K : zH → Prop} {l0 : Int} {l1 : Int} {l2 : Int} {l3 : Int} {l4 : Int} {l5 : Int} {l6 : Int} {l7 : Int} {l8 : Int} {h : zH} (k : zR l8 ∧ zR ((h l1 1) + (h l2 1)) ∧ (((h l1 1) + (h l2 1)) < l8 → tX3_combine_203 G d K l0 l7 h) ∧ (¬ ((h l1 1) + (h l2 1)) < l8 → zR l6 ∧ (65536 ≤ l6 → tX3_combine_203 G d K l0 l7 h) ∧ (¬ 65536 ≤ l6 → zR l4 ∧ zR (h l1 1) ∧ ((h l1 1) ≤ l4 → tX3_combine_65 G d K l0 l1 l2 l3 l4 l5 l6 l7 l8 h) ∧ (¬ (h l1 1) ≤ l4 → (0 ≤ l4 ∧ l4 < zln (l1 + 1)) ∧ zR (h (l1 + 1) l4) ∧ zR l6 ∧ (¬ (h (l1 + 1) l4) = l6 → tX3_combine_65 G d K l0 l1 l2 l3 l4 l5 l6 l7 l8 h) ∧ ((h (l1 + 1) l4) = l6 → tX3_combine_65 G d K l0 l1 l2 l3 (l4 + 1) l5 l6 l7 l8 h))))) : tX3_combine_20 G d K l0 l1 l2 l3 l4 l5 l6 l7 l8 h := by
  unfold tX3_combine_20
  refine z_iload dX3_combine_20 rfl rfl ?_
  refine z_aload_n 1 dX3_combine_22 rfl rfl (Nat.le_of_ble_eq_true rfl) rfl ?_
  refine z_getI 3 (x := (h l1 1)) fX3_21 rfl dX3_combine_23 rfl rfl ?_
  refine z_aload_n 2 dX3_combine_26 rfl rfl (Nat.le_of_ble_eq_true rfl) rfl ?_
  refine z_getI 3 (x := (h l2 1)) fX3_21 rfl dX3_combine_27 rfl rfl ?_
  refine z_iadd dX3_combine_30 rfl ?_
  obtain ⟨r1, r2, ka, kb⟩ := k
  refine z_icmp_gt (tgt := 203) dX3_combine_31 rfl r1 r2 rfl ⟨fun q => ?_, fun q => ?_⟩
  · have k := ka q
    exact z_sub (show zsub _ _ from ⟨rfl, ⟨rfl, trivial⟩⟩) k
  · have k := kb q
    refine z_iload dX3_combine_34 rfl rfl ?_
    refine z_ldc (x := 65536) cX3_33 rfl dX3_combine_36 rfl ?_
    obtain ⟨r1, ka, kb⟩ := k
    refine z_icmp_ge (tgt := 203) dX3_combine_38 rfl r1 ⟨by decide, by decide⟩ rfl ⟨fun q => ?_, fun q => ?_⟩
    · have k := ka q
      exact z_sub (show zsub _ _ from ⟨rfl, ⟨rfl, trivial⟩⟩) k
    · have k := kb q
      refine z_iload dX3_combine_41 rfl rfl ?_
      refine z_aload_n 1 dX3_combine_43 rfl rfl (Nat.le_of_ble_eq_true rfl) rfl ?_
      refine z_getI 3 (x := (h l1 1)) fX3_21 rfl dX3_combine_44 rfl rfl ?_
      obtain ⟨r1, r2, ka, kb⟩ := k
      refine z_icmp_ge (tgt := 65) dX3_combine_47 rfl r1 r2 rfl ⟨fun q => ?_, fun q => ?_⟩
      · have k := ka q
        exact z_sub (show zsub _ _ from ⟨rfl, ⟨rfl, ⟨rfl, ⟨rfl, ⟨rfl, ⟨rfl, ⟨rfl, ⟨rfl, ⟨rfl, trivial⟩⟩⟩⟩⟩⟩⟩⟩⟩) k
      · have k := kb q
        refine z_aload_n 1 dX3_combine_50 rfl rfl (Nat.le_of_ble_eq_true rfl) rfl ?_
        refine z_getF 3 13 (x := (l1 + 1)) fX3_15 rfl dX3_combine_51 (by omega) rfl ?_
        refine z_iload dX3_combine_54 rfl rfl ?_
        obtain ⟨i9, k⟩ := k
        refine z_iald (x := (h (l1 + 1) l4)) dX3_combine_56 i9 rfl rfl ?_
        refine z_iload dX3_combine_57 rfl rfl ?_
        obtain ⟨r1, r2, ka, kb⟩ := k
        refine z_icmp_ne (tgt := 65) dX3_combine_59 rfl r1 r2 rfl ⟨fun q => ?_, fun q => ?_⟩
        · have k := ka q
          exact z_sub (show zsub _ _ from ⟨rfl, ⟨rfl, ⟨rfl, ⟨rfl, ⟨rfl, ⟨rfl, ⟨rfl, ⟨rfl, ⟨rfl, trivial⟩⟩⟩⟩⟩⟩⟩⟩⟩) k
        · have k := kb q
          refine z_iinc dX3_combine_62 rfl (Nat.le_of_ble_eq_true rfl) (L' := [some (vr 3 l0), some (vr 3 l1), some (vr 3 l2), some (vi l3), some (vi (l4 + 1)), some (vi l5), some (vi l6), some (vi l7), some (vi l8), none, none]) rfl rfl ?_
          exact z_sub (show zsub _ _ from ⟨rfl, ⟨rfl, ⟨rfl, ⟨rfl, ⟨rfl, ⟨rfl, ⟨rfl, ⟨rfl, ⟨rfl, trivial⟩⟩⟩⟩⟩⟩⟩⟩⟩) k
theorem bX3_combine_65 {G : zG} {d : Nat} {K : zH → Prop} {l0 : Int} {l1 : Int} {l2 : Int} {l3 : Int} {l4 : Int} {l5 : Int} {l6 : Int} {l7 : Int} {l8 : Int} {h : zH} (k : zR l5 ∧ zR (h l2 1) ∧ ((h l2 1) ≤ l5 → tX3_combine_89 G d K l0 l1 l2 l3 l4 l5 l6 l7 l8 h) ∧ (¬ (h l2 1) ≤ l5 → (0 ≤ l5 ∧ l5 < zln (l2 + 1)) ∧ zR (h (l2 + 1) l5) ∧ zR l6 ∧ (¬ (h (l2 + 1) l5) = l6 → tX3_combine_89 G d K l0 l1 l2 l3 l4 l5 l6 l7 l8 h) ∧ ((h (l2 + 1) l5) = l6 → tX3_combine_89 G d K l0 l1 l2 l3 l4 (l5 + 1) l6 l7 l8 h))) : tX3_combine_65 G d K l0 l1 l2 l3 l4 l5 l6 l7 l8 h := by
  unfold tX3_combine_65
  refine z_iload dX3_combine_65 rfl rfl ?_
  refine z_aload_n 2 dX3_combine_67 rfl rfl (Nat.le_of_ble_eq_true rfl) rfl ?_
  refine z_getI 3 (x := (h l2 1)) fX3_21 rfl dX3_combine_68 rfl rfl ?_
  obtain ⟨r1, r2, ka, kb⟩ := k
  refine z_icmp_ge (tgt := 89) dX3_combine_71 rfl r1 r2 rfl ⟨fun q => ?_, fun q => ?_⟩
  · have k := ka q
    exact z_sub (show zsub _ _ from ⟨rfl, ⟨rfl, ⟨rfl, ⟨rfl, ⟨rfl, ⟨rfl, ⟨rfl, ⟨rfl, ⟨rfl, trivial⟩⟩⟩⟩⟩⟩⟩⟩⟩) k
  · have k := kb q
    refine z_aload_n 2 dX3_combine_74 rfl rfl (Nat.le_of_ble_eq_true rfl) rfl ?_
    refine z_getF 3 13 (x := (l2 + 1)) fX3_15 rfl dX3_combine_75 (by omega) rfl ?_
    refine z_iload dX3_combine_78 rfl rfl ?_
    obtain ⟨i9, k⟩ := k
    refine z_iald (x := (h (l2 + 1) l5)) dX3_combine_80 i9 rfl rfl ?_
    refine z_iload dX3_combine_81 rfl rfl ?_
    obtain ⟨r1, r2, ka, kb⟩ := k
    refine z_icmp_ne (tgt := 89) dX3_combine_83 rfl r1 r2 rfl ⟨fun q => ?_, fun q => ?_⟩
    · have k := ka q
      exact z_sub (show zsub _ _ from ⟨rfl, ⟨rfl, ⟨rfl, ⟨rfl, ⟨rfl, ⟨rfl, ⟨rfl, ⟨rfl, ⟨rfl, trivial⟩⟩⟩⟩⟩⟩⟩⟩⟩) k
    · have k := kb q
      refine z_iinc dX3_combine_86 rfl (Nat.le_of_ble_eq_true rfl) (L' := [some (vr 3 l0), some (vr 3 l1), some (vr 3 l2), some (vi l3), some (vi l4), some (vi (l5 + 1)), some (vi l6), some (vi l7), some (vi l8), none, none]) rfl rfl ?_
      exact z_sub (show zsub _ _ from ⟨rfl, ⟨rfl, ⟨rfl, ⟨rfl, ⟨rfl, ⟨rfl, ⟨rfl, ⟨rfl, ⟨rfl, trivial⟩⟩⟩⟩⟩⟩⟩⟩⟩) k
theorem bX3_combine_89 {G : zG} {d : Nat} {K : zH → Prop} {l0 : Int} {l1 : Int} {l2 : Int} {l3 : Int} {l4 : Int} {l5 : Int} {l6 : Int} {l7 : Int} {l8 : Int} {h : zH} (k : (0 ≤ l4 ∧ l4 < 2147483648) ∧ zR (l4 % 2) ∧ (¬ (l4 % 2) = 1 → (0 ≤ l5 ∧ l5 < 2147483648) ∧ zR (l5 % 2) ∧ (¬ (l5 % 2) = 1 → zCb G d mX11_isTrue [vi l3, vi (bi false), vi (bi false)] h (fun x1 h2 => zR l7 ∧ (bi x1 = l7 → tX3_combine_142 G d K l0 l1 l2 l3 l4 l5 l7 l8 h2) ∧ (¬ bi x1 = l7 → zR l7 ∧ (¬ l7 = 0 → zCv G d mX3_addCut [vr 3 l0, vi l6] h2 (fun h4 => tX3_combine_142 G d K l0 l1 l2 l3 l4 l5 0 l8 h4)) ∧ (l7 = 0 → zCv G d mX3_addCut [vr 3 l0, vi l6] h2 (fun h6 => tX3_combine_142 G d K l0 l1 l2 l3 l4 l5 1 l8 h6))))) ∧ ((l5 % 2) = 1 → zCb G d mX11_isTrue [vi l3, vi (bi false), vi (bi true)] h (fun x7 h8 => zR l7 ∧ (bi x7 = l7 → tX3_combine_142 G d K l0 l1 l2 l3 l4 l5 l7 l8 h8) ∧ (¬ bi x7 = l7 → zR l7 ∧ (¬ l7 = 0 → zCv G d mX3_addCut [vr 3 l0, vi l6] h8 (fun h10 => tX3_combine_142 G d K l0 l1 l2 l3 l4 l5 0 l8 h10)) ∧ (l7 = 0 → zCv G d mX3_addCut [vr 3 l0, vi l6] h8 (fun h12 => tX3_combine_142 G d K l0 l1 l2 l3 l4 l5 1 l8 h12)))))) ∧ ((l4 % 2) = 1 → (0 ≤ l5 ∧ l5 < 2147483648) ∧ zR (l5 % 2) ∧ (¬ (l5 % 2) = 1 → zCb G d mX11_isTrue [vi l3, vi (bi true), vi (bi false)] h (fun x13 h14 => zR l7 ∧ (bi x13 = l7 → tX3_combine_142 G d K l0 l1 l2 l3 l4 l5 l7 l8 h14) ∧ (¬ bi x13 = l7 → zR l7 ∧ (¬ l7 = 0 → zCv G d mX3_addCut [vr 3 l0, vi l6] h14 (fun h16 => tX3_combine_142 G d K l0 l1 l2 l3 l4 l5 0 l8 h16)) ∧ (l7 = 0 → zCv G d mX3_addCut [vr 3 l0, vi l6] h14 (fun h18 => tX3_combine_142 G d K l0 l1 l2 l3 l4 l5 1 l8 h18))))) ∧ ((l5 % 2) = 1 → zCb G d mX11_isTrue [vi l3, vi (bi true), vi (bi true)] h (fun x19 h20 => zR l7 ∧ (bi x19 = l7 → tX3_combine_142 G d K l0 l1 l2 l3 l4 l5 l7 l8 h20) ∧ (¬ bi x19 = l7 → zR l7 ∧ (¬ l7 = 0 → zCv G d mX3_addCut [vr 3 l0, vi l6] h20 (fun h22 => tX3_combine_142 G d K l0 l1 l2 l3 l4 l5 0 l8 h22)) ∧ (l7 = 0 → zCv G d mX3_addCut [vr 3 l0, vi l6] h20 (fun h24 => tX3_combine_142 G d K l0 l1 l2 l3 l4 l5 1 l8 h24))))))) : tX3_combine_89 G d K l0 l1 l2 l3 l4 l5 l6 l7 l8 h := by
  unfold tX3_combine_89
  refine z_iload_n 3 dX3_combine_89 rfl rfl rfl ?_
  refine z_iload dX3_combine_90 rfl rfl ?_
  refine z_iconst dX3_combine_92 rfl ?_
  obtain ⟨i9, k⟩ := k
  refine z_irem dX3_combine_93 ⟨i9.1, i9.2, by decide, by decide⟩ rfl ?_
  refine z_iconst dX3_combine_94 rfl ?_
  obtain ⟨r1, ka, kb⟩ := k
  refine z_icmp_ne (tgt := 102) dX3_combine_95 rfl r1 ⟨by decide, by decide⟩ rfl ⟨fun q => ?_, fun q => ?_⟩
  · have k := ka q
    refine z_iconst dX3_combine_102 rfl ?_
    refine z_iload dX3_combine_103 rfl rfl ?_
    refine z_iconst dX3_combine_105 rfl ?_
    obtain ⟨i9, k⟩ := k
    refine z_irem dX3_combine_106 ⟨i9.1, i9.2, by decide, by decide⟩ rfl ?_
    refine z_iconst dX3_combine_107 rfl ?_
    obtain ⟨r1, ka, kb⟩ := k
    refine z_icmp_ne (tgt := 115) dX3_combine_108 rfl r1 ⟨by decide, by decide⟩ rfl ⟨fun q => ?_, fun q => ?_⟩
    · have k := ka q
      refine z_iconst dX3_combine_115 rfl ?_
      refine z_callSNb (host := "RangedMachines") sX11_isTrue (by decide +kernel) dX3_combine_116 rfl (zRo_d d) (as := [vi l3, vi (bi false), vi (bi false)]) (rest := []) (Nat.le_of_ble_eq_true rfl) rfl rfl (zCb_mono (fun x1 h2 k => ?_) k)
      refine z_iload dX3_combine_119 rfl rfl ?_
      obtain ⟨r1, ka, kb⟩ := k
      refine z_icmp_eq (tgt := 142) dX3_combine_121 rfl (bi_R _) r1 rfl ⟨fun q => ?_, fun q => ?_⟩
      · have k := ka q
        exact z_sub (show zsub _ _ from ⟨rfl, ⟨rfl, ⟨rfl, ⟨rfl, ⟨rfl, ⟨rfl, ⟨rfl, ⟨rfl, trivial⟩⟩⟩⟩⟩⟩⟩⟩) k
      · have k := kb q
        refine z_iload dX3_combine_124 rfl rfl ?_
        obtain ⟨r1, ka, kb⟩ := k
        refine z_if_ne (tgt := 133) dX3_combine_126 rfl r1 rfl ⟨fun q => ?_, fun q => ?_⟩
        · have k := ka q
          refine z_iconst dX3_combine_133 rfl ?_
          refine z_istore dX3_combine_134 (Nat.le_of_ble_eq_true rfl) (L' := [some (vr 3 l0), some (vr 3 l1), some (vr 3 l2), some (vi l3), some (vi l4), some (vi l5), some (vi l6), some (vi 0), some (vi l8), none, none]) rfl rfl ?_
          refine z_aload_n 0 dX3_combine_136 rfl rfl (Nat.le_of_ble_eq_true rfl) rfl ?_
          refine z_iload dX3_combine_137 rfl rfl ?_
          refine z_callVv vX3_addCut kX3_29 dX3_combine_139 rfl (zRo_d d) (as := [vi l6]) (rest := []) (Nat.le_of_ble_eq_true rfl) rfl rfl (zCv_mono (fun h4 k => ?_) k)
          exact z_sub (show zsub _ _ from ⟨rfl, ⟨rfl, ⟨rfl, ⟨rfl, ⟨rfl, ⟨rfl, ⟨rfl, ⟨rfl, trivial⟩⟩⟩⟩⟩⟩⟩⟩) k
        · have k := kb q
          refine z_iconst dX3_combine_129 rfl ?_
          refine z_goto (tgt := 134) dX3_combine_130 rfl ?_
          refine z_istore dX3_combine_134 (Nat.le_of_ble_eq_true rfl) (L' := [some (vr 3 l0), some (vr 3 l1), some (vr 3 l2), some (vi l3), some (vi l4), some (vi l5), some (vi l6), some (vi 1), some (vi l8), none, none]) rfl rfl ?_
          refine z_aload_n 0 dX3_combine_136 rfl rfl (Nat.le_of_ble_eq_true rfl) rfl ?_
          refine z_iload dX3_combine_137 rfl rfl ?_
          refine z_callVv vX3_addCut kX3_29 dX3_combine_139 rfl (zRo_d d) (as := [vi l6]) (rest := []) (Nat.le_of_ble_eq_true rfl) rfl rfl (zCv_mono (fun h6 k => ?_) k)
          exact z_sub (show zsub _ _ from ⟨rfl, ⟨rfl, ⟨rfl, ⟨rfl, ⟨rfl, ⟨rfl, ⟨rfl, ⟨rfl, trivial⟩⟩⟩⟩⟩⟩⟩⟩) k
    · have k := kb q
      refine z_iconst dX3_combine_111 rfl ?_
      refine z_goto (tgt := 116) dX3_combine_112 rfl ?_
      refine z_callSNb (host := "RangedMachines") sX11_isTrue (by decide +kernel) dX3_combine_116 rfl (zRo_d d) (as := [vi l3, vi (bi false), vi (bi true)]) (rest := []) (Nat.le_of_ble_eq_true rfl) rfl rfl (zCb_mono (fun x7 h8 k => ?_) k)
      refine z_iload dX3_combine_119 rfl rfl ?_
      obtain ⟨r1, ka, kb⟩ := k
      refine z_icmp_eq (tgt := 142) dX3_combine_121 rfl (bi_R _) r1 rfl ⟨fun q => ?_, fun q => ?_⟩
      · have k := ka q
        exact z_sub (show zsub _ _ from ⟨rfl, ⟨rfl, ⟨rfl, ⟨rfl, ⟨rfl, ⟨rfl, ⟨rfl, ⟨rfl, trivial⟩⟩⟩⟩⟩⟩⟩⟩) k
      · have k := kb q
        refine z_iload dX3_combine_124 rfl rfl ?_
        obtain ⟨r1, ka, kb⟩ := k
        refine z_if_ne (tgt := 133) dX3_combine_126 rfl r1 rfl ⟨fun q => ?_, fun q => ?_⟩
        · have k := ka q
          refine z_iconst dX3_combine_133 rfl ?_
          refine z_istore dX3_combine_134 (Nat.le_of_ble_eq_true rfl) (L' := [some (vr 3 l0), some (vr 3 l1), some (vr 3 l2), some (vi l3), some (vi l4), some (vi l5), some (vi l6), some (vi 0), some (vi l8), none, none]) rfl rfl ?_
          refine z_aload_n 0 dX3_combine_136 rfl rfl (Nat.le_of_ble_eq_true rfl) rfl ?_
          refine z_iload dX3_combine_137 rfl rfl ?_
          refine z_callVv vX3_addCut kX3_29 dX3_combine_139 rfl (zRo_d d) (as := [vi l6]) (rest := []) (Nat.le_of_ble_eq_true rfl) rfl rfl (zCv_mono (fun h10 k => ?_) k)
          exact z_sub (show zsub _ _ from ⟨rfl, ⟨rfl, ⟨rfl, ⟨rfl, ⟨rfl, ⟨rfl, ⟨rfl, ⟨rfl, trivial⟩⟩⟩⟩⟩⟩⟩⟩) k
        · have k := kb q
          refine z_iconst dX3_combine_129 rfl ?_
          refine z_goto (tgt := 134) dX3_combine_130 rfl ?_
          refine z_istore dX3_combine_134 (Nat.le_of_ble_eq_true rfl) (L' := [some (vr 3 l0), some (vr 3 l1), some (vr 3 l2), some (vi l3), some (vi l4), some (vi l5), some (vi l6), some (vi 1), some (vi l8), none, none]) rfl rfl ?_
          refine z_aload_n 0 dX3_combine_136 rfl rfl (Nat.le_of_ble_eq_true rfl) rfl ?_
          refine z_iload dX3_combine_137 rfl rfl ?_
          refine z_callVv vX3_addCut kX3_29 dX3_combine_139 rfl (zRo_d d) (as := [vi l6]) (rest := []) (Nat.le_of_ble_eq_true rfl) rfl rfl (zCv_mono (fun h12 k => ?_) k)
          exact z_sub (show zsub _ _ from ⟨rfl, ⟨rfl, ⟨rfl, ⟨rfl, ⟨rfl, ⟨rfl, ⟨rfl, ⟨rfl, trivial⟩⟩⟩⟩⟩⟩⟩⟩) k
  · have k := kb q
    refine z_iconst dX3_combine_98 rfl ?_
    refine z_goto (tgt := 103) dX3_combine_99 rfl ?_
    refine z_iload dX3_combine_103 rfl rfl ?_
    refine z_iconst dX3_combine_105 rfl ?_
    obtain ⟨i9, k⟩ := k
    refine z_irem dX3_combine_106 ⟨i9.1, i9.2, by decide, by decide⟩ rfl ?_
    refine z_iconst dX3_combine_107 rfl ?_
    obtain ⟨r1, ka, kb⟩ := k
    refine z_icmp_ne (tgt := 115) dX3_combine_108 rfl r1 ⟨by decide, by decide⟩ rfl ⟨fun q => ?_, fun q => ?_⟩
    · have k := ka q
      refine z_iconst dX3_combine_115 rfl ?_
      refine z_callSNb (host := "RangedMachines") sX11_isTrue (by decide +kernel) dX3_combine_116 rfl (zRo_d d) (as := [vi l3, vi (bi true), vi (bi false)]) (rest := []) (Nat.le_of_ble_eq_true rfl) rfl rfl (zCb_mono (fun x13 h14 k => ?_) k)
      refine z_iload dX3_combine_119 rfl rfl ?_
      obtain ⟨r1, ka, kb⟩ := k
      refine z_icmp_eq (tgt := 142) dX3_combine_121 rfl (bi_R _) r1 rfl ⟨fun q => ?_, fun q => ?_⟩
      · have k := ka q
        exact z_sub (show zsub _ _ from ⟨rfl, ⟨rfl, ⟨rfl, ⟨rfl, ⟨rfl, ⟨rfl, ⟨rfl, ⟨rfl, trivial⟩⟩⟩⟩⟩⟩⟩⟩) k
      · have k := kb q
        refine z_iload dX3_combine_124 rfl rfl ?_
        obtain ⟨r1, ka, kb⟩ := k
        refine z_if_ne (tgt := 133) dX3_combine_126 rfl r1 rfl ⟨fun q => ?_, fun q => ?_⟩
        · have k := ka q
          refine z_iconst dX3_combine_133 rfl ?_
          refine z_istore dX3_combine_134 (Nat.le_of_ble_eq_true rfl) (L' := [some (vr 3 l0), some (vr 3 l1), some (vr 3 l2), some (vi l3), some (vi l4), some (vi l5), some (vi l6), some (vi 0), some (vi l8), none, none]) rfl rfl ?_
          refine z_aload_n 0 dX3_combine_136 rfl rfl (Nat.le_of_ble_eq_true rfl) rfl ?_
          refine z_iload dX3_combine_137 rfl rfl ?_
          refine z_callVv vX3_addCut kX3_29 dX3_combine_139 rfl (zRo_d d) (as := [vi l6]) (rest := []) (Nat.le_of_ble_eq_true rfl) rfl rfl (zCv_mono (fun h16 k => ?_) k)
          exact z_sub (show zsub _ _ from ⟨rfl, ⟨rfl, ⟨rfl, ⟨rfl, ⟨rfl, ⟨rfl, ⟨rfl, ⟨rfl, trivial⟩⟩⟩⟩⟩⟩⟩⟩) k
        · have k := kb q
          refine z_iconst dX3_combine_129 rfl ?_
          refine z_goto (tgt := 134) dX3_combine_130 rfl ?_
          refine z_istore dX3_combine_134 (Nat.le_of_ble_eq_true rfl) (L' := [some (vr 3 l0), some (vr 3 l1), some (vr 3 l2), some (vi l3), some (vi l4), some (vi l5), some (vi l6), some (vi 1), some (vi l8), none, none]) rfl rfl ?_
          refine z_aload_n 0 dX3_combine_136 rfl rfl (Nat.le_of_ble_eq_true rfl) rfl ?_
          refine z_iload dX3_combine_137 rfl rfl ?_
          refine z_callVv vX3_addCut kX3_29 dX3_combine_139 rfl (zRo_d d) (as := [vi l6]) (rest := []) (Nat.le_of_ble_eq_true rfl) rfl rfl (zCv_mono (fun h18 k => ?_) k)
          exact z_sub (show zsub _ _ from ⟨rfl, ⟨rfl, ⟨rfl, ⟨rfl, ⟨rfl, ⟨rfl, ⟨rfl, ⟨rfl, trivial⟩⟩⟩⟩⟩⟩⟩⟩) k
    · have k := kb q
      refine z_iconst dX3_combine_111 rfl ?_
      refine z_goto (tgt := 116) dX3_combine_112 rfl ?_
      refine z_callSNb (host := "RangedMachines") sX11_isTrue (by decide +kernel) dX3_combine_116 rfl (zRo_d d) (as := [vi l3, vi (bi true), vi (bi true)]) (rest := []) (Nat.le_of_ble_eq_true rfl) rfl rfl (zCb_mono (fun x19 h20 k => ?_) k)
      refine z_iload dX3_combine_119 rfl rfl ?_
      obtain ⟨r1, ka, kb⟩ := k
      refine z_icmp_eq (tgt := 142) dX3_combine_121 rfl (bi_R _) r1 rfl ⟨fun q => ?_, fun q => ?_⟩
      · have k := ka q
        exact z_sub (show zsub _ _ from ⟨rfl, ⟨rfl, ⟨rfl, ⟨rfl, ⟨rfl, ⟨rfl, ⟨rfl, ⟨rfl, trivial⟩⟩⟩⟩⟩⟩⟩⟩) k
      · have k := kb q
        refine z_iload dX3_combine_124 rfl rfl ?_
        obtain ⟨r1, ka, kb⟩ := k
        refine z_if_ne (tgt := 133) dX3_combine_126 rfl r1 rfl ⟨fun q => ?_, fun q => ?_⟩
        · have k := ka q
          refine z_iconst dX3_combine_133 rfl ?_
          refine z_istore dX3_combine_134 (Nat.le_of_ble_eq_true rfl) (L' := [some (vr 3 l0), some (vr 3 l1), some (vr 3 l2), some (vi l3), some (vi l4), some (vi l5), some (vi l6), some (vi 0), some (vi l8), none, none]) rfl rfl ?_
          refine z_aload_n 0 dX3_combine_136 rfl rfl (Nat.le_of_ble_eq_true rfl) rfl ?_
          refine z_iload dX3_combine_137 rfl rfl ?_
          refine z_callVv vX3_addCut kX3_29 dX3_combine_139 rfl (zRo_d d) (as := [vi l6]) (rest := []) (Nat.le_of_ble_eq_true rfl) rfl rfl (zCv_mono (fun h22 k => ?_) k)
          exact z_sub (show zsub _ _ from ⟨rfl, ⟨rfl, ⟨rfl, ⟨rfl, ⟨rfl, ⟨rfl, ⟨rfl, ⟨rfl, trivial⟩⟩⟩⟩⟩⟩⟩⟩) k
        · have k := kb q
          refine z_iconst dX3_combine_129 rfl ?_
          refine z_goto (tgt := 134) dX3_combine_130 rfl ?_
          refine z_istore dX3_combine_134 (Nat.le_of_ble_eq_true rfl) (L' := [some (vr 3 l0), some (vr 3 l1), some (vr 3 l2), some (vi l3), some (vi l4), some (vi l5), some (vi l6), some (vi 1), some (vi l8), none, none]) rfl rfl ?_
          refine z_aload_n 0 dX3_combine_136 rfl rfl (Nat.le_of_ble_eq_true rfl) rfl ?_
          refine z_iload dX3_combine_137 rfl rfl ?_
          refine z_callVv vX3_addCut kX3_29 dX3_combine_139 rfl (zRo_d d) (as := [vi l6]) (rest := []) (Nat.le_of_ble_eq_true rfl) rfl rfl (zCv_mono (fun h24 k => ?_) k)
          exact z_sub (show zsub _ _ from ⟨rfl, ⟨rfl, ⟨rfl, ⟨rfl, ⟨rfl, ⟨rfl, ⟨rfl, ⟨rfl, trivial⟩⟩⟩⟩⟩⟩⟩⟩) k
theorem bX3_combine_142 {G : zG} {d : Nat} {K : zH → Prop} {l0 : Int} {l1 : Int} {l2 : Int} {l3 : Int} {l4 : Int} {l5 : Int} {l7 : Int} {l8 : Int} {h : zH} (k : zR l4 ∧ zR (h l1 1) ∧ ((h l1 1) ≤ l4 → zR l5 ∧ zR (h l2 1) ∧ ((h l2 1) ≤ l5 → zCi G d mJ9_min_7cf53 [vi 65536, vi 65536] h (fun x1 h2 => tX3_combine_20 G d K l0 l1 l2 l3 l4 l5 x1 l7 (l8 + 1) h2)) ∧ (¬ (h l2 1) ≤ l5 → (0 ≤ l5 ∧ l5 < zln (l2 + 1)) ∧ zCi G d mJ9_min_7cf53 [vi 65536, vi (h (l2 + 1) l5)] h (fun x3 h4 => tX3_combine_20 G d K l0 l1 l2 l3 l4 l5 x3 l7 (l8 + 1) h4))) ∧ (¬ (h l1 1) ≤ l4 → (0 ≤ l4 ∧ l4 < zln (l1 + 1)) ∧ zR l5 ∧ zR (h l2 1) ∧ ((h l2 1) ≤ l5 → zCi G d mJ9_min_7cf53 [vi (h (l1 + 1) l4), vi 65536] h (fun x5 h6 => tX3_combine_20 G d K l0 l1 l2 l3 l4 l5 x5 l7 (l8 + 1) h6)) ∧ (¬ (h l2 1) ≤ l5 → (0 ≤ l5 ∧ l5 < zln (l2 + 1)) ∧ zCi G d mJ9_min_7cf53 [vi (h (l1 + 1) l4), vi (h (l2 + 1) l5)] h (fun x7 h8 => tX3_combine_20 G d K l0 l1 l2 l3 l4 l5 x7 l7 (l8 + 1) h8)))) : tX3_combine_142 G d K l0 l1 l2 l3 l4 l5 l7 l8 h := by
  unfold tX3_combine_142
  refine z_iload dX3_combine_142 rfl rfl ?_
  refine z_aload_n 1 dX3_combine_144 rfl rfl (Nat.le_of_ble_eq_true rfl) rfl ?_
  refine z_getI 3 (x := (h l1 1)) fX3_21 rfl dX3_combine_145 rfl rfl ?_
  obtain ⟨r1, r2, ka, kb⟩ := k
  refine z_icmp_ge (tgt := 161) dX3_combine_148 rfl r1 r2 rfl ⟨fun q => ?_, fun q => ?_⟩
  · have k := ka q
    refine z_ldc (x := 65536) cX3_33 rfl dX3_combine_161 rfl ?_
    refine z_istore dX3_combine_163 (Nat.le_of_ble_eq_true rfl) (L' := [some (vr 3 l0), some (vr 3 l1), some (vr 3 l2), some (vi l3), some (vi l4), some (vi l5), none, some (vi l7), some (vi l8), some (vi 65536), none]) rfl rfl ?_
    refine z_iload dX3_combine_165 rfl rfl ?_
    refine z_aload_n 2 dX3_combine_167 rfl rfl (Nat.le_of_ble_eq_true rfl) rfl ?_
    refine z_getI 3 (x := (h l2 1)) fX3_21 rfl dX3_combine_168 rfl rfl ?_
    obtain ⟨r1, r2, ka, kb⟩ := k
    refine z_icmp_ge (tgt := 184) dX3_combine_171 rfl r1 r2 rfl ⟨fun q => ?_, fun q => ?_⟩
    · have k := ka q
      refine z_ldc (x := 65536) cX3_33 rfl dX3_combine_184 rfl ?_
      refine z_istore dX3_combine_186 (Nat.le_of_ble_eq_true rfl) (L' := [some (vr 3 l0), some (vr 3 l1), some (vr 3 l2), some (vi l3), some (vi l4), some (vi l5), none, some (vi l7), some (vi l8), some (vi 65536), some (vi 65536)]) rfl rfl ?_
      refine z_iload dX3_combine_188 rfl rfl ?_
      refine z_iload dX3_combine_190 rfl rfl ?_
      refine z_callSi sJ9_min_7cf53 kX3_38 dX3_combine_192 rfl (zRo_d d) (as := [vi 65536, vi 65536]) (rest := []) (Nat.le_of_ble_eq_true rfl) rfl rfl (zCi_mono (fun x1 h2 k => ?_) k)
      refine z_istore dX3_combine_195 (Nat.le_of_ble_eq_true rfl) (L' := [some (vr 3 l0), some (vr 3 l1), some (vr 3 l2), some (vi l3), some (vi l4), some (vi l5), some (vi x1), some (vi l7), some (vi l8), some (vi 65536), some (vi 65536)]) rfl rfl ?_
      refine z_iinc dX3_combine_197 rfl (Nat.le_of_ble_eq_true rfl) (L' := [some (vr 3 l0), some (vr 3 l1), some (vr 3 l2), some (vi l3), some (vi l4), some (vi l5), some (vi x1), some (vi l7), some (vi (l8 + 1)), some (vi 65536), some (vi 65536)]) rfl rfl ?_
      refine z_goto (tgt := 20) dX3_combine_200 rfl ?_
      exact z_sub (show zsub _ _ from ⟨rfl, ⟨rfl, ⟨rfl, ⟨rfl, ⟨rfl, ⟨rfl, ⟨rfl, ⟨rfl, ⟨rfl, trivial⟩⟩⟩⟩⟩⟩⟩⟩⟩) k
    · have k := kb q
      refine z_aload_n 2 dX3_combine_174 rfl rfl (Nat.le_of_ble_eq_true rfl) rfl ?_
      refine z_getF 3 13 (x := (l2 + 1)) fX3_15 rfl dX3_combine_175 (by omega) rfl ?_
      refine z_iload dX3_combine_178 rfl rfl ?_
      obtain ⟨i9, k⟩ := k
      refine z_iald (x := (h (l2 + 1) l5)) dX3_combine_180 i9 rfl rfl ?_
      refine z_goto (tgt := 186) dX3_combine_181 rfl ?_
      refine z_istore dX3_combine_186 (Nat.le_of_ble_eq_true rfl) (L' := [some (vr 3 l0), some (vr 3 l1), some (vr 3 l2), some (vi l3), some (vi l4), some (vi l5), none, some (vi l7), some (vi l8), some (vi 65536), some (vi (h (l2 + 1) l5))]) rfl rfl ?_
      refine z_iload dX3_combine_188 rfl rfl ?_
      refine z_iload dX3_combine_190 rfl rfl ?_
      refine z_callSi sJ9_min_7cf53 kX3_38 dX3_combine_192 rfl (zRo_d d) (as := [vi 65536, vi (h (l2 + 1) l5)]) (rest := []) (Nat.le_of_ble_eq_true rfl) rfl rfl (zCi_mono (fun x3 h4 k => ?_) k)
      refine z_istore dX3_combine_195 (Nat.le_of_ble_eq_true rfl) (L' := [some (vr 3 l0), some (vr 3 l1), some (vr 3 l2), some (vi l3), some (vi l4), some (vi l5), some (vi x3), some (vi l7), some (vi l8), some (vi 65536), some (vi (h (l2 + 1) l5))]) rfl rfl ?_
      refine z_iinc dX3_combine_197 rfl (Nat.le_of_ble_eq_true rfl) (L' := [some (vr 3 l0), some (vr 3 l1), some (vr 3 l2), some (vi l3), some (vi l4), some (vi l5), some (vi x3), some (vi l7), some (vi (l8 + 1)), some (vi 65536), some (vi (h (l2 + 1) l5))]) rfl rfl ?_
      refine z_goto (tgt := 20) dX3_combine_200 rfl ?_
      exact z_sub (show zsub _ _ from ⟨rfl, ⟨rfl, ⟨rfl, ⟨rfl, ⟨rfl, ⟨rfl, ⟨rfl, ⟨rfl, ⟨rfl, trivial⟩⟩⟩⟩⟩⟩⟩⟩⟩) k
  · have k := kb q
    refine z_aload_n 1 dX3_combine_151 rfl rfl (Nat.le_of_ble_eq_true rfl) rfl ?_
    refine z_getF 3 13 (x := (l1 + 1)) fX3_15 rfl dX3_combine_152 (by omega) rfl ?_
    refine z_iload dX3_combine_155 rfl rfl ?_
    obtain ⟨i9, k⟩ := k
    refine z_iald (x := (h (l1 + 1) l4)) dX3_combine_157 i9 rfl rfl ?_
    refine z_goto (tgt := 163) dX3_combine_158 rfl ?_
    refine z_istore dX3_combine_163 (Nat.le_of_ble_eq_true rfl) (L' := [some (vr 3 l0), some (vr 3 l1), some (vr 3 l2), some (vi l3), some (vi l4), some (vi l5), none, some (vi l7), some (vi l8), some (vi (h (l1 + 1) l4)), none]) rfl rfl ?_
    refine z_iload dX3_combine_165 rfl rfl ?_
    refine z_aload_n 2 dX3_combine_167 rfl rfl (Nat.le_of_ble_eq_true rfl) rfl ?_
    refine z_getI 3 (x := (h l2 1)) fX3_21 rfl dX3_combine_168 rfl rfl ?_
    obtain ⟨r1, r2, ka, kb⟩ := k
    refine z_icmp_ge (tgt := 184) dX3_combine_171 rfl r1 r2 rfl ⟨fun q => ?_, fun q => ?_⟩
    · have k := ka q
      refine z_ldc (x := 65536) cX3_33 rfl dX3_combine_184 rfl ?_
      refine z_istore dX3_combine_186 (Nat.le_of_ble_eq_true rfl) (L' := [some (vr 3 l0), some (vr 3 l1), some (vr 3 l2), some (vi l3), some (vi l4), some (vi l5), none, some (vi l7), some (vi l8), some (vi (h (l1 + 1) l4)), some (vi 65536)]) rfl rfl ?_
      refine z_iload dX3_combine_188 rfl rfl ?_
      refine z_iload dX3_combine_190 rfl rfl ?_
      refine z_callSi sJ9_min_7cf53 kX3_38 dX3_combine_192 rfl (zRo_d d) (as := [vi (h (l1 + 1) l4), vi 65536]) (rest := []) (Nat.le_of_ble_eq_true rfl) rfl rfl (zCi_mono (fun x5 h6 k => ?_) k)
      refine z_istore dX3_combine_195 (Nat.le_of_ble_eq_true rfl) (L' := [some (vr 3 l0), some (vr 3 l1), some (vr 3 l2), some (vi l3), some (vi l4), some (vi l5), some (vi x5), some (vi l7), some (vi l8), some (vi (h (l1 + 1) l4)), some (vi 65536)]) rfl rfl ?_
      refine z_iinc dX3_combine_197 rfl (Nat.le_of_ble_eq_true rfl) (L' := [some (vr 3 l0), some (vr 3 l1), some (vr 3 l2), some (vi l3), some (vi l4), some (vi l5), some (vi x5), some (vi l7), some (vi (l8 + 1)), some (vi (h (l1 + 1) l4)), some (vi 65536)]) rfl rfl ?_
      refine z_goto (tgt := 20) dX3_combine_200 rfl ?_
      exact z_sub (show zsub _ _ from ⟨rfl, ⟨rfl, ⟨rfl, ⟨rfl, ⟨rfl, ⟨rfl, ⟨rfl, ⟨rfl, ⟨rfl, trivial⟩⟩⟩⟩⟩⟩⟩⟩⟩) k
    · have k := kb q
      refine z_aload_n 2 dX3_combine_174 rfl rfl (Nat.le_of_ble_eq_true rfl) rfl ?_
      refine z_getF 3 13 (x := (l2 + 1)) fX3_15 rfl dX3_combine_175 (by omega) rfl ?_
      refine z_iload dX3_combine_178 rfl rfl ?_
      obtain ⟨i9, k⟩ := k
      refine z_iald (x := (h (l2 + 1) l5)) dX3_combine_180 i9 rfl rfl ?_
      refine z_goto (tgt := 186) dX3_combine_181 rfl ?_
      refine z_istore dX3_combine_186 (Nat.le_of_ble_eq_true rfl) (L' := [some (vr 3 l0), some (vr 3 l1), some (vr 3 l2), some (vi l3), some (vi l4), some (vi l5), none, some (vi l7), some (vi l8), some (vi (h (l1 + 1) l4)), some (vi (h (l2 + 1) l5))]) rfl rfl ?_
      refine z_iload dX3_combine_188 rfl rfl ?_
      refine z_iload dX3_combine_190 rfl rfl ?_
      refine z_callSi sJ9_min_7cf53 kX3_38 dX3_combine_192 rfl (zRo_d d) (as := [vi (h (l1 + 1) l4), vi (h (l2 + 1) l5)]) (rest := []) (Nat.le_of_ble_eq_true rfl) rfl rfl (zCi_mono (fun x7 h8 k => ?_) k)
      refine z_istore dX3_combine_195 (Nat.le_of_ble_eq_true rfl) (L' := [some (vr 3 l0), some (vr 3 l1), some (vr 3 l2), some (vi l3), some (vi l4), some (vi l5), some (vi x7), some (vi l7), some (vi l8), some (vi (h (l1 + 1) l4)), some (vi (h (l2 + 1) l5))]) rfl rfl ?_
      refine z_iinc dX3_combine_197 rfl (Nat.le_of_ble_eq_true rfl) (L' := [some (vr 3 l0), some (vr 3 l1), some (vr 3 l2), some (vi l3), some (vi l4), some (vi l5), some (vi x7), some (vi l7), some (vi (l8 + 1)), some (vi (h (l1 + 1) l4)), some (vi (h (l2 + 1) l5))]) rfl rfl ?_
      refine z_goto (tgt := 20) dX3_combine_200 rfl ?_
      exact z_sub (show zsub _ _ from ⟨rfl, ⟨rfl, ⟨rfl, ⟨rfl, ⟨rfl, ⟨rfl, ⟨rfl, ⟨rfl, ⟨rfl, trivial⟩⟩⟩⟩⟩⟩⟩⟩⟩) k
theorem bX3_combine_203 {G : zG} {d : Nat} {K : zH → Prop} {l0 : Int} {l7 : Int} {h : zH} (k : zR l7 ∧ (l7 = 0 → tX3_combine_214 G d K h) ∧ (¬ l7 = 0 → zCv G d mX3_addCut [vr 3 l0, vi 65536] h (fun h2 => tX3_combine_214 G d K h2))) : tX3_combine_203 G d K l0 l7 h := by
  unfold tX3_combine_203
  refine z_iload dX3_combine_203 rfl rfl ?_
  obtain ⟨r1, ka, kb⟩ := k
  refine z_if_eq (tgt := 214) dX3_combine_205 rfl r1 rfl ⟨fun q => ?_, fun q => ?_⟩
  · have k := ka q
    exact z_sub (show zsub _ _ from trivial) k
  · have k := kb q
    refine z_aload_n 0 dX3_combine_208 rfl rfl (Nat.le_of_ble_eq_true rfl) rfl ?_
    refine z_ldc (x := 65536) cX3_33 rfl dX3_combine_209 rfl ?_
    refine z_callVv vX3_addCut kX3_29 dX3_combine_211 rfl (zRo_d d) (as := [vi 65536]) (rest := []) (Nat.le_of_ble_eq_true rfl) rfl rfl (zCv_mono (fun h2 k => ?_) k)
    exact z_sub (show zsub _ _ from trivial) k
theorem bX3_combine_214 {G : zG} {d : Nat} {K : zH → Prop} {h : zH} (k : K h) : tX3_combine_214 G d K h := by
  unfold tX3_combine_214
  exact z_return rfl dX3_combine_214 ⟨rfl, k⟩
theorem eX3_combine {G : zG} {d : Nat} {K : zH → Prop} {l0 : Int} {l1 : Int} {l2 : Int} {l3 : Int} {h : zH} (k : tX3_combine_0 G d K l0 l1 l2 l3 h) : zCv G (d + 1) mX3_combine [vr 3 l0, vr 3 l1, vr 3 l2, vi l3] h K := z_entry (by decide +kernel) (Nat.le_of_ble_eq_true rfl) rfl k
def tX3_addCut_0 (G : zG) (d : Nat) (K : zH → Prop) (l0 : Int) (l1 : Int) (h : zH) : Prop := zTv G d mX3_addCut K 0 [some (vr 3 l0), some (vi l1)] [] h
theorem bX3_addCut_0 {G : zG} {d : Nat} {K : zH → Prop} {l0 : Int} {l1 : Int} {h : zH} (k : zR (h l0 1) ∧ zR (zln (l0 + 1)) ∧ ((zln (l0 + 1)) ≤ (h l0 1) → K h) ∧ (¬ (zln (l0 + 1)) ≤ (h l0 1) → (0 ≤ (h l0 1) ∧ (h l0 1) < zln (l0 + 1)) ∧ K (zup (zup h (l0 + 1) (h l0 1) l1) l0 1 (((zup h (l0 + 1) (h l0 1) l1) l0 1) + 1)))) : tX3_addCut_0 G d K l0 l1 h := by
  unfold tX3_addCut_0
  refine z_aload_n 0 dX3_addCut_0 rfl rfl (Nat.le_of_ble_eq_true rfl) rfl ?_
  refine z_getI 3 (x := (h l0 1)) fX3_21 rfl dX3_addCut_1 rfl rfl ?_
  refine z_aload_n 0 dX3_addCut_4 rfl rfl (Nat.le_of_ble_eq_true rfl) rfl ?_
  refine z_getF 3 13 (x := (l0 + 1)) fX3_15 rfl dX3_addCut_5 (by omega) rfl ?_
  refine z_alen13 dX3_addCut_8 rfl rfl ?_
  obtain ⟨r1, r2, ka, kb⟩ := k
  refine z_icmp_ge (tgt := 32) dX3_addCut_9 rfl r1 r2 rfl ⟨fun q => ?_, fun q => ?_⟩
  · have k := ka q
    exact z_return rfl dX3_addCut_32 ⟨rfl, k⟩
  · have k := kb q
    refine z_aload_n 0 dX3_addCut_12 rfl rfl (Nat.le_of_ble_eq_true rfl) rfl ?_
    refine z_getF 3 13 (x := (l0 + 1)) fX3_15 rfl dX3_addCut_13 (by omega) rfl ?_
    refine z_aload_n 0 dX3_addCut_16 rfl rfl (Nat.le_of_ble_eq_true rfl) rfl ?_
    refine z_getI 3 (x := (h l0 1)) fX3_21 rfl dX3_addCut_17 rfl rfl ?_
    refine z_iload_n 1 dX3_addCut_20 rfl rfl rfl ?_
    obtain ⟨i9, k⟩ := k
    refine z_iast dX3_addCut_21 i9 rfl ?_
    refine z_aload_n 0 dX3_addCut_22 rfl rfl (Nat.le_of_ble_eq_true rfl) rfl ?_
    refine z_dup dX3_addCut_23 (fun q => by cases q) rfl ?_
    refine z_getI 3 (x := ((zup h (l0 + 1) (h l0 1) l1) l0 1)) fX3_21 rfl dX3_addCut_24 rfl rfl ?_
    refine z_iconst dX3_addCut_27 rfl ?_
    refine z_iadd dX3_addCut_28 rfl ?_
    refine z_putI 3 gX3_21 dX3_addCut_29 rfl ?_
    exact z_return rfl dX3_addCut_32 ⟨rfl, k⟩
theorem eX3_addCut {G : zG} {d : Nat} {K : zH → Prop} {l0 : Int} {l1 : Int} {h : zH} (k : tX3_addCut_0 G d K l0 l1 h) : zCv G d mX3_addCut [vr 3 l0, vi l1] h K := z_entry (by decide +kernel) (Nat.le_of_ble_eq_true rfl) rfl k
def tX9_numberOf_0 (G : zG) (d : Nat) (K : Int → zH → Prop) (l0 : Int) (l1 : Int) (h : zH) : Prop := zTi G d mX9_numberOf K 0 [some (vr 9 l0), some (vl l1), none, none] [] h
def tX9_numberOf_2 (G : zG) (d : Nat) (K : Int → zH → Prop) (l0 : Int) (l1 : Int) (l3 : Int) (h : zH) : Prop := zTi G d mX9_numberOf K 2 [some (vr 9 l0), some (vl l1), none, some (vi l3)] [] h
theorem bX9_numberOf_0 {G : zG} {d : Nat} {K : Int → zH → Prop} {l0 : Int} {l1 : Int} {h : zH} (k : tX9_numberOf_2 G d K l0 l1 0 h) : tX9_numberOf_0 G d K l0 l1 h := by
  unfold tX9_numberOf_0
  refine z_iconst dX9_numberOf_0 rfl ?_
  refine z_istore_n 3 dX9_numberOf_1 rfl (Nat.le_of_ble_eq_true rfl) (L' := [some (vr 9 l0), some (vl l1), none, some (vi 0)]) rfl rfl ?_
  exact z_sub (show zsub _ _ from ⟨rfl, ⟨rfl, ⟨rfl, trivial⟩⟩⟩) k
theorem bX9_numberOf_2 {G : zG} {d : Nat} {K : Int → zH → Prop} {l0 : Int} {l1 : Int} {l3 : Int} {h : zH} (k : zR l3 ∧ zR (h l0 2) ∧ ((h l0 2) ≤ l3 → K (-1) h) ∧ (¬ (h l0 2) ≤ l3 → zR l3 ∧ (12 ≤ l3 → K (-1) h) ∧ (¬ 12 ≤ l3 → (0 ≤ l3 ∧ l3 < 12) ∧ (¬ (zcmp (h (l0 + 2) l3) l1) = 0 → tX9_numberOf_2 G d K l0 l1 (l3 + 1) h) ∧ ((zcmp (h (l0 + 2) l3) l1) = 0 → K l3 h)))) : tX9_numberOf_2 G d K l0 l1 l3 h := by
  unfold tX9_numberOf_2
  refine z_know (fun zo zs zv => ?_)
  have w_l0 : zvok (vr 9 l0) := zv _ (List.mem_of_getElem? (i := 0) rfl)
  refine z_iload_n 3 dX9_numberOf_2 rfl rfl rfl ?_
  refine z_aload_n 0 dX9_numberOf_3 rfl rfl (Nat.le_of_ble_eq_true rfl) rfl ?_
  refine z_getI 9 (x := (h l0 2)) fX9_24 rfl dX9_numberOf_4 rfl rfl ?_
  obtain ⟨r1, r2, ka, kb⟩ := k
  refine z_icmp_ge (tgt := 35) dX9_numberOf_7 rfl r1 r2 rfl ⟨fun q => ?_, fun q => ?_⟩
  · have k := ka q
    refine z_iconst dX9_numberOf_35 rfl ?_
    exact z_ireturn rfl dX9_numberOf_36 ⟨_, rfl, k⟩
  · have k := kb q
    refine z_iload_n 3 dX9_numberOf_10 rfl rfl rfl ?_
    refine z_bipush dX9_numberOf_11 rfl rfl ?_
    obtain ⟨r1, ka, kb⟩ := k
    refine z_icmp_ge (tgt := 35) dX9_numberOf_13 rfl r1 ⟨by decide, by decide⟩ rfl ⟨fun q => ?_, fun q => ?_⟩
    · have k := ka q
      refine z_iconst dX9_numberOf_35 rfl ?_
      exact z_ireturn rfl dX9_numberOf_36 ⟨_, rfl, k⟩
    · have k := kb q
      refine z_aload_n 0 dX9_numberOf_16 rfl rfl (Nat.le_of_ble_eq_true rfl) rfl ?_
      refine z_getF 9 14 (x := (l0 + 2)) fX9_17 rfl dX9_numberOf_17 (by omega) rfl ?_
      refine z_iload_n 3 dX9_numberOf_20 rfl rfl rfl ?_
      obtain ⟨i9, k⟩ := k
      refine z_lald (x := (h (l0 + 2) l3)) dX9_numberOf_21 (by rw [zl9_2 w_l0]; exact i9) rfl rfl ?_
      refine z_lload_n 1 dX9_numberOf_22 rfl rfl rfl ?_
      refine z_lcmp dX9_numberOf_23 rfl ?_
      obtain ⟨ka, kb⟩ := k
      refine z_if_ne (tgt := 29) dX9_numberOf_24 rfl (zcmp_R _ _) rfl ⟨fun q => ?_, fun q => ?_⟩
      · have k := ka q
        refine z_iinc dX9_numberOf_29 rfl (Nat.le_of_ble_eq_true rfl) (L' := [some (vr 9 l0), some (vl l1), none, some (vi (l3 + 1))]) rfl rfl ?_
        refine z_goto (tgt := 2) dX9_numberOf_32 rfl ?_
        exact z_sub (show zsub _ _ from ⟨rfl, ⟨rfl, ⟨rfl, trivial⟩⟩⟩) k
      · have k := kb q
        refine z_iload_n 3 dX9_numberOf_27 rfl rfl rfl ?_
        exact z_ireturn rfl dX9_numberOf_28 ⟨_, rfl, k⟩
theorem eX9_numberOf {G : zG} {d : Nat} {K : Int → zH → Prop} {l0 : Int} {l1 : Int} {h : zH} (k : tX9_numberOf_0 G d K l0 l1 h) : zCi G d mX9_numberOf [vr 9 l0, vl l1] h K := z_entry (by decide +kernel) (Nat.le_of_ble_eq_true rfl) rfl k
def tX2_begin_0 (G : zG) (d : Nat) (K : zH → Prop) (l1 : Int) (h : zH) : Prop := zTv G d mX2_begin K 0 [some (vr 2 4), some (vi l1)] [] h
theorem bX2_begin_0 {G : zG} {d : Nat} {K : zH → Prop} {l1 : Int} {h : zH} (k : zR l1 ∧ (l1 ≤ 40 → K (zup (zup (zup (zup (zup (zup (zup h 4 7 l1) 4 8 0) 4 9 0) 4 10 0) 4 11 1) 10 0 0) 4 12 0)) ∧ (¬ l1 ≤ 40 → K (zup (zup (zup (zup (zup (zup (zup h 4 7 l1) 4 8 0) 4 9 0) 4 10 0) 4 11 1) 10 0 0) 4 12 1))) : tX2_begin_0 G d K l1 h := by
  unfold tX2_begin_0
  refine z_aload_n 0 dX2_begin_0 rfl rfl (Nat.le_of_ble_eq_true rfl) rfl ?_
  refine z_iload_n 1 dX2_begin_1 rfl rfl rfl ?_
  refine z_putI 2 gX2_34 dX2_begin_2 rfl ?_
  refine z_aload_n 0 dX2_begin_5 rfl rfl (Nat.le_of_ble_eq_true rfl) rfl ?_
  refine z_lconst (x := 0) dX2_begin_6 rfl rfl ?_
  refine z_putL 2 gX2_38 dX2_begin_7 rfl ?_
  refine z_aload_n 0 dX2_begin_10 rfl rfl (Nat.le_of_ble_eq_true rfl) rfl ?_
  refine z_iconst dX2_begin_11 rfl ?_
  refine z_putI 2 gX2_42 dX2_begin_12 rfl ?_
  refine z_aload_n 0 dX2_begin_15 rfl rfl (Nat.le_of_ble_eq_true rfl) rfl ?_
  refine z_iconst dX2_begin_16 rfl ?_
  refine z_putI 2 gX2_45 dX2_begin_17 rfl ?_
  refine z_aload_n 0 dX2_begin_20 rfl rfl (Nat.le_of_ble_eq_true rfl) rfl ?_
  refine z_iconst dX2_begin_21 rfl ?_
  refine z_putI 2 gX2_48 dX2_begin_22 rfl ?_
  refine z_aload_n 0 dX2_begin_25 rfl rfl (Nat.le_of_ble_eq_true rfl) rfl ?_
  refine z_getF 2 13 (x := 10) fX2_28 rfl dX2_begin_26 rfl rfl ?_
  refine z_iconst dX2_begin_29 rfl ?_
  refine z_iconst dX2_begin_30 rfl ?_
  refine z_iast dX2_begin_31 (by rw [zl_10]; decide) rfl ?_
  refine z_aload_n 0 dX2_begin_32 rfl rfl (Nat.le_of_ble_eq_true rfl) rfl ?_
  refine z_iload_n 1 dX2_begin_33 rfl rfl rfl ?_
  refine z_bipush dX2_begin_34 rfl rfl ?_
  obtain ⟨r1, ka, kb⟩ := k
  refine z_icmp_le (tgt := 43) dX2_begin_36 rfl r1 ⟨by decide, by decide⟩ rfl ⟨fun q => ?_, fun q => ?_⟩
  · have k := ka q
    refine z_iconst dX2_begin_43 rfl ?_
    refine z_putZ 2 gX2_51 (Or.inl rfl) dX2_begin_44 rfl ?_
    exact z_return rfl dX2_begin_47 ⟨rfl, k⟩
  · have k := kb q
    refine z_iconst dX2_begin_39 rfl ?_
    refine z_goto (tgt := 44) dX2_begin_40 rfl ?_
    refine z_putZ 2 gX2_51 (Or.inr rfl) dX2_begin_44 rfl ?_
    exact z_return rfl dX2_begin_47 ⟨rfl, k⟩
theorem eX2_begin {G : zG} {d : Nat} {K : zH → Prop} {l1 : Int} {h : zH} (k : tX2_begin_0 G d K l1 h) : zCv G d mX2_begin [vr 2 4, vi l1] h K := z_entry (by decide +kernel) (Nat.le_of_ble_eq_true rfl) rfl k
def tX2_cut_0 (G : zG) (d : Nat) (K : zH → Prop) (l1 : Int) (h : zH) : Prop := zTv G d mX2_cut K 0 [some (vr 2 4), some (vi l1), none, none] [] h
def tX2_cut_5 (G : zG) (d : Nat) (K : zH → Prop) (l1 : Int) (l2 : Int) (h : zH) : Prop := zTv G d mX2_cut K 5 [some (vr 2 4), some (vi l1), some (vi l2), none] [] h
def tX2_cut_71 (G : zG) (d : Nat) (K : zH → Prop) (l1 : Int) (l2 : Int) (l3 : Int) (h : zH) : Prop := zTv G d mX2_cut K 71 [some (vr 2 4), some (vi l1), some (vi l2), some (vi l3)] [] h
theorem bX2_cut_0 {G : zG} {d : Nat} {K : zH → Prop} {l1 : Int} {h : zH} (k : tX2_cut_5 G d K l1 (h 4 11) h) : tX2_cut_0 G d K l1 h := by
  unfold tX2_cut_0
  refine z_aload_n 0 dX2_cut_0 rfl rfl (Nat.le_of_ble_eq_true rfl) rfl ?_
  refine z_getI 2 (x := (h 4 11)) fX2_48 rfl dX2_cut_1 rfl rfl ?_
  refine z_istore_n 2 dX2_cut_4 rfl (Nat.le_of_ble_eq_true rfl) (L' := [some (vr 2 4), some (vi l1), some (vi (h 4 11)), none]) rfl rfl ?_
  exact z_sub (show zsub _ _ from ⟨rfl, ⟨rfl, ⟨rfl, trivial⟩⟩⟩) k
theorem bX2_cut_5 {G : zG} {d : Nat} {K : zH → Prop} {l1 : Int} {l2 : Int} {h : zH} (k : zR l2 ∧ (l2 ≤ 0 → zR l1 ∧ (65536 ≤ l1 → K h) ∧ (¬ 65536 ≤ l1 → zR l2 ∧ (l2 = 0 → K h) ∧ (¬ l2 = 0 → (0 ≤ (l2 - 1) ∧ (l2 - 1) < 256) ∧ zR (h 10 (l2 - 1)) ∧ zR l1 ∧ (¬ (h 10 (l2 - 1)) = l1 → zR (h 4 11) ∧ ((h 4 11) < 256 → tX2_cut_71 G d K l1 l2 (h 4 11) h) ∧ (¬ (h 4 11) < 256 → K (zup h 4 12 1))) ∧ ((h 10 (l2 - 1)) = l1 → K h)))) ∧ (¬ l2 ≤ 0 → (0 ≤ (l2 - 1) ∧ (l2 - 1) < 256) ∧ zR (h 10 (l2 - 1)) ∧ zR l1 ∧ ((h 10 (l2 - 1)) ≤ l1 → zR l1 ∧ (65536 ≤ l1 → K h) ∧ (¬ 65536 ≤ l1 → zR l2 ∧ (l2 = 0 → K h) ∧ (¬ l2 = 0 → (0 ≤ (l2 - 1) ∧ (l2 - 1) < 256) ∧ zR (h 10 (l2 - 1)) ∧ zR l1 ∧ (¬ (h 10 (l2 - 1)) = l1 → zR (h 4 11) ∧ ((h 4 11) < 256 → tX2_cut_71 G d K l1 l2 (h 4 11) h) ∧ (¬ (h 4 11) < 256 → K (zup h 4 12 1))) ∧ ((h 10 (l2 - 1)) = l1 → K h)))) ∧ (¬ (h 10 (l2 - 1)) ≤ l1 → tX2_cut_5 G d K l1 (l2 + (-1)) h))) : tX2_cut_5 G d K l1 l2 h := by
  unfold tX2_cut_5
  refine z_iload_n 2 dX2_cut_5 rfl rfl rfl ?_
  obtain ⟨r1, ka, kb⟩ := k
  refine z_if_le (tgt := 27) dX2_cut_6 rfl r1 rfl ⟨fun q => ?_, fun q => ?_⟩
  · have k := ka q
    refine z_iload_n 1 dX2_cut_27 rfl rfl rfl ?_
    refine z_ldc (x := 65536) cX2_55 rfl dX2_cut_28 rfl ?_
    obtain ⟨r1, ka, kb⟩ := k
    refine z_icmp_ge (tgt := 49) dX2_cut_30 rfl r1 ⟨by decide, by decide⟩ rfl ⟨fun q => ?_, fun q => ?_⟩
    · have k := ka q
      exact z_return rfl dX2_cut_49 ⟨rfl, k⟩
    · have k := kb q
      refine z_iload_n 2 dX2_cut_33 rfl rfl rfl ?_
      obtain ⟨r1, ka, kb⟩ := k
      refine z_if_eq (tgt := 49) dX2_cut_34 rfl r1 rfl ⟨fun q => ?_, fun q => ?_⟩
      · have k := ka q
        exact z_return rfl dX2_cut_49 ⟨rfl, k⟩
      · have k := kb q
        refine z_aload_n 0 dX2_cut_37 rfl rfl (Nat.le_of_ble_eq_true rfl) rfl ?_
        refine z_getF 2 13 (x := 10) fX2_28 rfl dX2_cut_38 rfl rfl ?_
        refine z_iload_n 2 dX2_cut_41 rfl rfl rfl ?_
        refine z_iconst dX2_cut_42 rfl ?_
        refine z_isub dX2_cut_43 rfl ?_
        obtain ⟨i9, k⟩ := k
        refine z_iald (x := (h 10 (l2 - 1))) dX2_cut_44 (by rw [zl_10]; exact i9) rfl rfl ?_
        refine z_iload_n 1 dX2_cut_45 rfl rfl rfl ?_
        obtain ⟨r1, r2, ka, kb⟩ := k
        refine z_icmp_ne (tgt := 50) dX2_cut_46 rfl r1 r2 rfl ⟨fun q => ?_, fun q => ?_⟩
        · have k := ka q
          refine z_aload_n 0 dX2_cut_50 rfl rfl (Nat.le_of_ble_eq_true rfl) rfl ?_
          refine z_getI 2 (x := (h 4 11)) fX2_48 rfl dX2_cut_51 rfl rfl ?_
          refine z_sipush dX2_cut_54 rfl rfl ?_
          obtain ⟨r1, ka, kb⟩ := k
          refine z_icmp_lt (tgt := 66) dX2_cut_57 rfl r1 ⟨by decide, by decide⟩ rfl ⟨fun q => ?_, fun q => ?_⟩
          · have k := ka q
            refine z_aload_n 0 dX2_cut_66 rfl rfl (Nat.le_of_ble_eq_true rfl) rfl ?_
            refine z_getI 2 (x := (h 4 11)) fX2_48 rfl dX2_cut_67 rfl rfl ?_
            refine z_istore_n 3 dX2_cut_70 rfl (Nat.le_of_ble_eq_true rfl) (L' := [some (vr 2 4), some (vi l1), some (vi l2), some (vi (h 4 11))]) rfl rfl ?_
            exact z_sub (show zsub _ _ from ⟨rfl, ⟨rfl, ⟨rfl, ⟨rfl, trivial⟩⟩⟩⟩) k
          · have k := kb q
            refine z_aload_n 0 dX2_cut_60 rfl rfl (Nat.le_of_ble_eq_true rfl) rfl ?_
            refine z_iconst dX2_cut_61 rfl ?_
            refine z_putZ 2 gX2_51 (Or.inr rfl) dX2_cut_62 rfl ?_
            exact z_return rfl dX2_cut_65 ⟨rfl, k⟩
        · have k := kb q
          exact z_return rfl dX2_cut_49 ⟨rfl, k⟩
  · have k := kb q
    refine z_aload_n 0 dX2_cut_9 rfl rfl (Nat.le_of_ble_eq_true rfl) rfl ?_
    refine z_getF 2 13 (x := 10) fX2_28 rfl dX2_cut_10 rfl rfl ?_
    refine z_iload_n 2 dX2_cut_13 rfl rfl rfl ?_
    refine z_iconst dX2_cut_14 rfl ?_
    refine z_isub dX2_cut_15 rfl ?_
    obtain ⟨i9, k⟩ := k
    refine z_iald (x := (h 10 (l2 - 1))) dX2_cut_16 (by rw [zl_10]; exact i9) rfl rfl ?_
    refine z_iload_n 1 dX2_cut_17 rfl rfl rfl ?_
    obtain ⟨r1, r2, ka, kb⟩ := k
    refine z_icmp_le (tgt := 27) dX2_cut_18 rfl r1 r2 rfl ⟨fun q => ?_, fun q => ?_⟩
    · have k := ka q
      refine z_iload_n 1 dX2_cut_27 rfl rfl rfl ?_
      refine z_ldc (x := 65536) cX2_55 rfl dX2_cut_28 rfl ?_
      obtain ⟨r1, ka, kb⟩ := k
      refine z_icmp_ge (tgt := 49) dX2_cut_30 rfl r1 ⟨by decide, by decide⟩ rfl ⟨fun q => ?_, fun q => ?_⟩
      · have k := ka q
        exact z_return rfl dX2_cut_49 ⟨rfl, k⟩
      · have k := kb q
        refine z_iload_n 2 dX2_cut_33 rfl rfl rfl ?_
        obtain ⟨r1, ka, kb⟩ := k
        refine z_if_eq (tgt := 49) dX2_cut_34 rfl r1 rfl ⟨fun q => ?_, fun q => ?_⟩
        · have k := ka q
          exact z_return rfl dX2_cut_49 ⟨rfl, k⟩
        · have k := kb q
          refine z_aload_n 0 dX2_cut_37 rfl rfl (Nat.le_of_ble_eq_true rfl) rfl ?_
          refine z_getF 2 13 (x := 10) fX2_28 rfl dX2_cut_38 rfl rfl ?_
          refine z_iload_n 2 dX2_cut_41 rfl rfl rfl ?_
          refine z_iconst dX2_cut_42 rfl ?_
          refine z_isub dX2_cut_43 rfl ?_
          obtain ⟨i9, k⟩ := k
          refine z_iald (x := (h 10 (l2 - 1))) dX2_cut_44 (by rw [zl_10]; exact i9) rfl rfl ?_
          refine z_iload_n 1 dX2_cut_45 rfl rfl rfl ?_
          obtain ⟨r1, r2, ka, kb⟩ := k
          refine z_icmp_ne (tgt := 50) dX2_cut_46 rfl r1 r2 rfl ⟨fun q => ?_, fun q => ?_⟩
          · have k := ka q
            refine z_aload_n 0 dX2_cut_50 rfl rfl (Nat.le_of_ble_eq_true rfl) rfl ?_
            refine z_getI 2 (x := (h 4 11)) fX2_48 rfl dX2_cut_51 rfl rfl ?_
            refine z_sipush dX2_cut_54 rfl rfl ?_
            obtain ⟨r1, ka, kb⟩ := k
            refine z_icmp_lt (tgt := 66) dX2_cut_57 rfl r1 ⟨by decide, by decide⟩ rfl ⟨fun q => ?_, fun q => ?_⟩
            · have k := ka q
              refine z_aload_n 0 dX2_cut_66 rfl rfl (Nat.le_of_ble_eq_true rfl) rfl ?_
              refine z_getI 2 (x := (h 4 11)) fX2_48 rfl dX2_cut_67 rfl rfl ?_
              refine z_istore_n 3 dX2_cut_70 rfl (Nat.le_of_ble_eq_true rfl) (L' := [some (vr 2 4), some (vi l1), some (vi l2), some (vi (h 4 11))]) rfl rfl ?_
              exact z_sub (show zsub _ _ from ⟨rfl, ⟨rfl, ⟨rfl, ⟨rfl, trivial⟩⟩⟩⟩) k
            · have k := kb q
              refine z_aload_n 0 dX2_cut_60 rfl rfl (Nat.le_of_ble_eq_true rfl) rfl ?_
              refine z_iconst dX2_cut_61 rfl ?_
              refine z_putZ 2 gX2_51 (Or.inr rfl) dX2_cut_62 rfl ?_
              exact z_return rfl dX2_cut_65 ⟨rfl, k⟩
          · have k := kb q
            exact z_return rfl dX2_cut_49 ⟨rfl, k⟩
    · have k := kb q
      refine z_iinc dX2_cut_21 rfl (Nat.le_of_ble_eq_true rfl) (L' := [some (vr 2 4), some (vi l1), some (vi (l2 + (-1))), none]) rfl rfl ?_
      refine z_goto (tgt := 5) dX2_cut_24 rfl ?_
      exact z_sub (show zsub _ _ from ⟨rfl, ⟨rfl, ⟨rfl, trivial⟩⟩⟩) k
theorem bX2_cut_71 {G : zG} {d : Nat} {K : zH → Prop} {l1 : Int} {l2 : Int} {l3 : Int} {h : zH} (k : zR l3 ∧ zR l2 ∧ (l3 ≤ l2 → (0 ≤ l2 ∧ l2 < 256) ∧ K (zup (zup h 10 l2 l1) 4 11 ((h 4 11) + 1))) ∧ (¬ l3 ≤ l2 → (0 ≤ (l3 - 1) ∧ (l3 - 1) < 256) ∧ (0 ≤ l3 ∧ l3 < 256) ∧ tX2_cut_71 G d K l1 l2 (l3 + (-1)) (zup h 10 l3 (h 10 (l3 - 1))))) : tX2_cut_71 G d K l1 l2 l3 h := by
  unfold tX2_cut_71
  refine z_iload_n 3 dX2_cut_71 rfl rfl rfl ?_
  refine z_iload_n 2 dX2_cut_72 rfl rfl rfl ?_
  obtain ⟨r1, r2, ka, kb⟩ := k
  refine z_icmp_le (tgt := 96) dX2_cut_73 rfl r1 r2 rfl ⟨fun q => ?_, fun q => ?_⟩
  · have k := ka q
    refine z_aload_n 0 dX2_cut_96 rfl rfl (Nat.le_of_ble_eq_true rfl) rfl ?_
    refine z_getF 2 13 (x := 10) fX2_28 rfl dX2_cut_97 rfl rfl ?_
    refine z_iload_n 2 dX2_cut_100 rfl rfl rfl ?_
    refine z_iload_n 1 dX2_cut_101 rfl rfl rfl ?_
    obtain ⟨i9, k⟩ := k
    refine z_iast dX2_cut_102 (by rw [zl_10]; exact i9) rfl ?_
    refine z_aload_n 0 dX2_cut_103 rfl rfl (Nat.le_of_ble_eq_true rfl) rfl ?_
    refine z_dup dX2_cut_104 (fun q => by cases q) rfl ?_
    refine z_getI 2 (x := (h 4 11)) fX2_48 rfl dX2_cut_105 (by simp [zup]) rfl ?_
    refine z_iconst dX2_cut_108 rfl ?_
    refine z_iadd dX2_cut_109 rfl ?_
    refine z_putI 2 gX2_48 dX2_cut_110 rfl ?_
    exact z_return rfl dX2_cut_113 ⟨rfl, k⟩
  · have k := kb q
    refine z_aload_n 0 dX2_cut_76 rfl rfl (Nat.le_of_ble_eq_true rfl) rfl ?_
    refine z_getF 2 13 (x := 10) fX2_28 rfl dX2_cut_77 rfl rfl ?_
    refine z_iload_n 3 dX2_cut_80 rfl rfl rfl ?_
    refine z_aload_n 0 dX2_cut_81 rfl rfl (Nat.le_of_ble_eq_true rfl) rfl ?_
    refine z_getF 2 13 (x := 10) fX2_28 rfl dX2_cut_82 rfl rfl ?_
    refine z_iload_n 3 dX2_cut_85 rfl rfl rfl ?_
    refine z_iconst dX2_cut_86 rfl ?_
    refine z_isub dX2_cut_87 rfl ?_
    obtain ⟨i9, k⟩ := k
    refine z_iald (x := (h 10 (l3 - 1))) dX2_cut_88 (by rw [zl_10]; exact i9) rfl rfl ?_
    obtain ⟨i9, k⟩ := k
    refine z_iast dX2_cut_89 (by rw [zl_10]; exact i9) rfl ?_
    refine z_iinc dX2_cut_90 rfl (Nat.le_of_ble_eq_true rfl) (L' := [some (vr 2 4), some (vi l1), some (vi l2), some (vi (l3 + (-1)))]) rfl rfl ?_
    refine z_goto (tgt := 71) dX2_cut_93 rfl ?_
    exact z_sub (show zsub _ _ from ⟨rfl, ⟨rfl, ⟨rfl, ⟨rfl, trivial⟩⟩⟩⟩) k
theorem eX2_cut {G : zG} {d : Nat} {K : zH → Prop} {l1 : Int} {h : zH} (k : tX2_cut_0 G d K l1 h) : zCv G d mX2_cut [vr 2 4, vi l1] h K := z_entry (by decide +kernel) (Nat.le_of_ble_eq_true rfl) rfl k
def tX2_cutBy_0 (G : zG) (d : Nat) (K : zH → Prop) (l1 : Int) (h : zH) : Prop := zTv G (d + 1) mX2_cutBy K 0 [some (vr 2 4), some (vr 3 l1), none] [] h
def tX2_cutBy_2 (G : zG) (d : Nat) (K : zH → Prop) (l1 : Int) (l2 : Int) (h : zH) : Prop := zTv G (d + 1) mX2_cutBy K 2 [some (vr 2 4), some (vr 3 l1), some (vi l2)] [] h
theorem bX2_cutBy_0 {G : zG} {d : Nat} {K : zH → Prop} {l1 : Int} {h : zH} (k : tX2_cutBy_2 G d K l1 0 h) : tX2_cutBy_0 G d K l1 h := by
  unfold tX2_cutBy_0
  refine z_iconst dX2_cutBy_0 rfl ?_
  refine z_istore_n 2 dX2_cutBy_1 rfl (Nat.le_of_ble_eq_true rfl) (L' := [some (vr 2 4), some (vr 3 l1), some (vi 0)]) rfl rfl ?_
  exact z_sub (show zsub _ _ from ⟨rfl, ⟨rfl, ⟨rfl, trivial⟩⟩⟩) k
theorem bX2_cutBy_2 {G : zG} {d : Nat} {K : zH → Prop} {l1 : Int} {l2 : Int} {h : zH} (k : zR l2 ∧ zR (h l1 1) ∧ ((h l1 1) ≤ l2 → K h) ∧ (¬ (h l1 1) ≤ l2 → (0 ≤ l2 ∧ l2 < zln (l1 + 1)) ∧ zCv G d mX2_cut [vr 2 4, vi (h (l1 + 1) l2)] h (fun h2 => tX2_cutBy_2 G d K l1 (l2 + 1) h2))) : tX2_cutBy_2 G d K l1 l2 h := by
  unfold tX2_cutBy_2
  refine z_iload_n 2 dX2_cutBy_2 rfl rfl rfl ?_
  refine z_aload_n 1 dX2_cutBy_3 rfl rfl (Nat.le_of_ble_eq_true rfl) rfl ?_
  refine z_getI 3 (x := (h l1 1)) fX2_56 rfl dX2_cutBy_4 rfl rfl ?_
  obtain ⟨r1, r2, ka, kb⟩ := k
  refine z_icmp_ge (tgt := 26) dX2_cutBy_7 rfl r1 r2 rfl ⟨fun q => ?_, fun q => ?_⟩
  · have k := ka q
    exact z_return rfl dX2_cutBy_26 ⟨rfl, k⟩
  · have k := kb q
    refine z_aload_n 0 dX2_cutBy_10 rfl rfl (Nat.le_of_ble_eq_true rfl) rfl ?_
    refine z_aload_n 1 dX2_cutBy_11 rfl rfl (Nat.le_of_ble_eq_true rfl) rfl ?_
    refine z_getF 3 13 (x := (l1 + 1)) fX2_61 rfl dX2_cutBy_12 (by omega) rfl ?_
    refine z_iload_n 2 dX2_cutBy_15 rfl rfl rfl ?_
    obtain ⟨i9, k⟩ := k
    refine z_iald (x := (h (l1 + 1) l2)) dX2_cutBy_16 i9 rfl rfl ?_
    refine z_callVv vX2_cut kX2_64 dX2_cutBy_17 rfl (zRo_d d) (as := [vi (h (l1 + 1) l2)]) (rest := []) (Nat.le_of_ble_eq_true rfl) rfl rfl (zCv_mono (fun h2 k => ?_) k)
    refine z_iinc dX2_cutBy_20 rfl (Nat.le_of_ble_eq_true rfl) (L' := [some (vr 2 4), some (vr 3 l1), some (vi (l2 + 1))]) rfl rfl ?_
    refine z_goto (tgt := 2) dX2_cutBy_23 rfl ?_
    exact z_sub (show zsub _ _ from ⟨rfl, ⟨rfl, ⟨rfl, trivial⟩⟩⟩) k
theorem eX2_cutBy {G : zG} {d : Nat} {K : zH → Prop} {l1 : Int} {h : zH} (k : tX2_cutBy_0 G d K l1 h) : zCv G (d + 1) mX2_cutBy [vr 2 4, vr 3 l1] h K := z_entry (by decide +kernel) (Nat.le_of_ble_eq_true rfl) rfl k
def tX2_cutLike_0 (G : zG) (d : Nat) (K : zH → Prop) (l1 : Int) (l2 : Int) (h : zH) : Prop := zTv G (d + 1) mX2_cutLike K 0 [some (vr 2 4), some (vr 4 l1), some (vi l2), none] [] h
def tX2_cutLike_2 (G : zG) (d : Nat) (K : zH → Prop) (l1 : Int) (l2 : Int) (l3 : Int) (h : zH) : Prop := zTv G (d + 1) mX2_cutLike K 2 [some (vr 2 4), some (vr 4 l1), some (vi l2), some (vi l3)] [] h
theorem bX2_cutLike_0 {G : zG} {d : Nat} {K : zH → Prop} {l1 : Int} {l2 : Int} {h : zH} (k : tX2_cutLike_2 G d K l1 l2 0 h) : tX2_cutLike_0 G d K l1 l2 h := by
  unfold tX2_cutLike_0
  refine z_iconst dX2_cutLike_0 rfl ?_
  refine z_istore_n 3 dX2_cutLike_1 rfl (Nat.le_of_ble_eq_true rfl) (L' := [some (vr 2 4), some (vr 4 l1), some (vi l2), some (vi 0)]) rfl rfl ?_
  exact z_sub (show zsub _ _ from ⟨rfl, ⟨rfl, ⟨rfl, ⟨rfl, trivial⟩⟩⟩⟩) k
theorem bX2_cutLike_2 {G : zG} {d : Nat} {K : zH → Prop} {l1 : Int} {l2 : Int} {l3 : Int} {h : zH} (k : zR l3 ∧ zR (h l1 11) ∧ ((h l1 11) ≤ l3 → zCv G d mX2_cut [vr 2 4, vi (65536 + l2)] h (fun h2 => K h2)) ∧ (¬ (h l1 11) ≤ l3 → (0 ≤ l3 ∧ l3 < 128) ∧ zCv G d mX2_cut [vr 2 4, vi ((h (l1 + 6) l3) + l2)] h (fun h4 => tX2_cutLike_2 G d K l1 l2 (l3 + 1) h4))) : tX2_cutLike_2 G d K l1 l2 l3 h := by
  unfold tX2_cutLike_2
  refine z_know (fun zo zs zv => ?_)
  have w_l1 : zvok (vr 4 l1) := zv _ (List.mem_of_getElem? (i := 1) rfl)
  refine z_iload_n 3 dX2_cutLike_2 rfl rfl rfl ?_
  refine z_aload_n 1 dX2_cutLike_3 rfl rfl (Nat.le_of_ble_eq_true rfl) rfl ?_
  refine z_getI 4 (x := (h l1 11)) fX2_68 rfl dX2_cutLike_4 rfl rfl ?_
  obtain ⟨r1, r2, ka, kb⟩ := k
  refine z_icmp_ge (tgt := 28) dX2_cutLike_7 rfl r1 r2 rfl ⟨fun q => ?_, fun q => ?_⟩
  · have k := ka q
    refine z_aload_n 0 dX2_cutLike_28 rfl rfl (Nat.le_of_ble_eq_true rfl) rfl ?_
    refine z_ldc (x := 65536) cX2_55 rfl dX2_cutLike_29 rfl ?_
    refine z_iload_n 2 dX2_cutLike_31 rfl rfl rfl ?_
    refine z_iadd dX2_cutLike_32 rfl ?_
    refine z_callVv vX2_cut kX2_64 dX2_cutLike_33 rfl (zRo_d d) (as := [vi (65536 + l2)]) (rest := []) (Nat.le_of_ble_eq_true rfl) rfl rfl (zCv_mono (fun h2 k => ?_) k)
    exact z_return rfl dX2_cutLike_36 ⟨rfl, k⟩
  · have k := kb q
    refine z_aload_n 0 dX2_cutLike_10 rfl rfl (Nat.le_of_ble_eq_true rfl) rfl ?_
    refine z_aload_n 1 dX2_cutLike_11 rfl rfl (Nat.le_of_ble_eq_true rfl) rfl ?_
    refine z_getF 4 13 (x := (l1 + 6)) fX2_71 rfl dX2_cutLike_12 (by omega) rfl ?_
    refine z_iload_n 3 dX2_cutLike_15 rfl rfl rfl ?_
    obtain ⟨i9, k⟩ := k
    refine z_iald (x := (h (l1 + 6) l3)) dX2_cutLike_16 (by rw [zl4_6 w_l1]; exact i9) rfl rfl ?_
    refine z_iload_n 2 dX2_cutLike_17 rfl rfl rfl ?_
    refine z_iadd dX2_cutLike_18 rfl ?_
    refine z_callVv vX2_cut kX2_64 dX2_cutLike_19 rfl (zRo_d d) (as := [vi ((h (l1 + 6) l3) + l2)]) (rest := []) (Nat.le_of_ble_eq_true rfl) rfl rfl (zCv_mono (fun h4 k => ?_) k)
    refine z_iinc dX2_cutLike_22 rfl (Nat.le_of_ble_eq_true rfl) (L' := [some (vr 2 4), some (vr 4 l1), some (vi l2), some (vi (l3 + 1))]) rfl rfl ?_
    refine z_goto (tgt := 2) dX2_cutLike_25 rfl ?_
    exact z_sub (show zsub _ _ from ⟨rfl, ⟨rfl, ⟨rfl, ⟨rfl, trivial⟩⟩⟩⟩) k
theorem eX2_cutLike {G : zG} {d : Nat} {K : zH → Prop} {l1 : Int} {l2 : Int} {h : zH} (k : tX2_cutLike_0 G d K l1 l2 h) : zCv G (d + 1) mX2_cutLike [vr 2 4, vr 4 l1, vi l2] h K := z_entry (by decide +kernel) (Nat.le_of_ble_eq_true rfl) rfl k
def tX2_trace_0 (G : zG) (d : Nat) (K : zH → Prop) (l1 : Int) (l2 : Int) (h : zH) : Prop := zTv G (d + 1) mX2_trace K 0 [some (vr 2 4), some (vr 4 l1), some (vi l2), none, none] [] h
def tX2_trace_2 (G : zG) (d : Nat) (K : zH → Prop) (l1 : Int) (l2 : Int) (l3 : Int) (h : zH) : Prop := zTv G (d + 1) mX2_trace K 2 [some (vr 2 4), some (vr 4 l1), some (vi l2), some (vi l3), none] [] h
theorem bX2_trace_0 {G : zG} {d : Nat} {K : zH → Prop} {l1 : Int} {l2 : Int} {h : zH} (k : tX2_trace_2 G d K l1 l2 0 h) : tX2_trace_0 G d K l1 l2 h := by
  unfold tX2_trace_0
  refine z_iconst dX2_trace_0 rfl ?_
  refine z_istore_n 3 dX2_trace_1 rfl (Nat.le_of_ble_eq_true rfl) (L' := [some (vr 2 4), some (vr 4 l1), some (vi l2), some (vi 0), none]) rfl rfl ?_
  exact z_sub (show zsub _ _ from ⟨rfl, ⟨rfl, ⟨rfl, ⟨rfl, trivial⟩⟩⟩⟩) k
theorem bX2_trace_2 {G : zG} {d : Nat} {K : zH → Prop} {l1 : Int} {l2 : Int} {l3 : Int} {h : zH} (k : zR l3 ∧ zR (h 4 11) ∧ ((h 4 11) ≤ l3 → K h) ∧ (¬ (h 4 11) ≤ l3 → (0 ≤ l3 ∧ l3 < 256) ∧ zCb G d mX11_isIn [vi ((h 10 l3) - l2), vi 65536] h (fun x1 h2 => (x1 = false → (0 ≤ l3 ∧ l3 < 256) ∧ tX2_trace_2 G d K l1 l2 (l3 + 1) (zup h2 11 l3 (-1))) ∧ (x1 = true → zCi G d mX4_blockOf [vr 4 l1, vi ((h 10 l3) - l2)] h2 (fun x3 h4 => (0 ≤ l3 ∧ l3 < 256) ∧ tX2_trace_2 G d K l1 l2 (l3 + 1) (zup h4 11 l3 x3)))))) : tX2_trace_2 G d K l1 l2 l3 h := by
  unfold tX2_trace_2
  refine z_iload_n 3 dX2_trace_2 rfl rfl rfl ?_
  refine z_aload_n 0 dX2_trace_3 rfl rfl (Nat.le_of_ble_eq_true rfl) rfl ?_
  refine z_getI 2 (x := (h 4 11)) fX2_48 rfl dX2_trace_4 rfl rfl ?_
  obtain ⟨r1, r2, ka, kb⟩ := k
  refine z_icmp_ge (tgt := 52) dX2_trace_7 rfl r1 r2 rfl ⟨fun q => ?_, fun q => ?_⟩
  · have k := ka q
    exact z_return rfl dX2_trace_52 ⟨rfl, k⟩
  · have k := kb q
    refine z_aload_n 0 dX2_trace_10 rfl rfl (Nat.le_of_ble_eq_true rfl) rfl ?_
    refine z_getF 2 13 (x := 10) fX2_28 rfl dX2_trace_11 rfl rfl ?_
    refine z_iload_n 3 dX2_trace_14 rfl rfl rfl ?_
    obtain ⟨i9, k⟩ := k
    refine z_iald (x := (h 10 l3)) dX2_trace_15 (by rw [zl_10]; exact i9) rfl rfl ?_
    refine z_iload_n 2 dX2_trace_16 rfl rfl rfl ?_
    refine z_isub dX2_trace_17 rfl ?_
    refine z_istore dX2_trace_18 (Nat.le_of_ble_eq_true rfl) (L' := [some (vr 2 4), some (vr 4 l1), some (vi l2), some (vi l3), some (vi ((h 10 l3) - l2))]) rfl rfl ?_
    refine z_aload_n 0 dX2_trace_20 rfl rfl (Nat.le_of_ble_eq_true rfl) rfl ?_
    refine z_getF 2 13 (x := 11) fX2_31 rfl dX2_trace_21 rfl rfl ?_
    refine z_iload_n 3 dX2_trace_24 rfl rfl rfl ?_
    refine z_iload dX2_trace_25 rfl rfl ?_
    refine z_ldc (x := 65536) cX2_55 rfl dX2_trace_27 rfl ?_
    refine z_callSNb (host := "RangedMachines") sX11_isIn (by decide +kernel) dX2_trace_29 rfl (zRo_d d) (as := [vi ((h 10 l3) - l2), vi 65536]) (rest := [vi l3, vr 13 11]) (Nat.le_of_ble_eq_true rfl) rfl rfl (zCb_mono (fun x1 h2 k => ?_) k)
    obtain ⟨ka, kb⟩ := k
    refine z_ifb_eq (tgt := 44) dX2_trace_32 rfl rfl ⟨fun q => ?_, fun q => ?_⟩
    · have k := ka q
      refine z_iconst dX2_trace_44 rfl ?_
      obtain ⟨i9, k⟩ := k
      refine z_iast dX2_trace_45 (by rw [zl_11]; exact i9) rfl ?_
      refine z_iinc dX2_trace_46 rfl (Nat.le_of_ble_eq_true rfl) (L' := [some (vr 2 4), some (vr 4 l1), some (vi l2), some (vi (l3 + 1)), some (vi ((h 10 l3) - l2))]) rfl rfl ?_
      refine z_goto (tgt := 2) dX2_trace_49 rfl ?_
      exact z_sub (show zsub _ _ from ⟨rfl, ⟨rfl, ⟨rfl, ⟨rfl, trivial⟩⟩⟩⟩) k
    · have k := kb q
      refine z_aload_n 1 dX2_trace_35 rfl rfl (Nat.le_of_ble_eq_true rfl) rfl ?_
      refine z_iload dX2_trace_36 rfl rfl ?_
      refine z_callVi vX4_blockOf kX2_76 dX2_trace_38 rfl (zRo_d d) (as := [vi ((h 10 l3) - l2)]) (rest := [vi l3, vr 13 11]) (Nat.le_of_ble_eq_true rfl) rfl rfl (zCi_mono (fun x3 h4 k => ?_) k)
      refine z_goto (tgt := 45) dX2_trace_41 rfl ?_
      obtain ⟨i9, k⟩ := k
      refine z_iast dX2_trace_45 (by rw [zl_11]; exact i9) rfl ?_
      refine z_iinc dX2_trace_46 rfl (Nat.le_of_ble_eq_true rfl) (L' := [some (vr 2 4), some (vr 4 l1), some (vi l2), some (vi (l3 + 1)), some (vi ((h 10 l3) - l2))]) rfl rfl ?_
      refine z_goto (tgt := 2) dX2_trace_49 rfl ?_
      exact z_sub (show zsub _ _ from ⟨rfl, ⟨rfl, ⟨rfl, ⟨rfl, trivial⟩⟩⟩⟩) k
theorem eX2_trace {G : zG} {d : Nat} {K : zH → Prop} {l1 : Int} {l2 : Int} {h : zH} (k : tX2_trace_0 G d K l1 l2 h) : zCv G (d + 1) mX2_trace [vr 2 4, vr 4 l1, vi l2] h K := z_entry (by decide +kernel) (Nat.le_of_ble_eq_true rfl) rfl k
def tX2_leaveOutside_0 (G : zG) (d : Nat) (K : zH → Prop) (l1 : Int) (h : zH) : Prop := zTv G (d + 1) mX2_leaveOutside K 0 [some (vr 2 4), some (vr 3 l1), none] [] h
def tX2_leaveOutside_2 (G : zG) (d : Nat) (K : zH → Prop) (l1 : Int) (l2 : Int) (h : zH) : Prop := zTv G (d + 1) mX2_leaveOutside K 2 [some (vr 2 4), some (vr 3 l1), some (vi l2)] [] h
theorem bX2_leaveOutside_0 {G : zG} {d : Nat} {K : zH → Prop} {l1 : Int} {h : zH} (k : tX2_leaveOutside_2 G d K l1 0 h) : tX2_leaveOutside_0 G d K l1 h := by
  unfold tX2_leaveOutside_0
  refine z_iconst dX2_leaveOutside_0 rfl ?_
  refine z_istore_n 2 dX2_leaveOutside_1 rfl (Nat.le_of_ble_eq_true rfl) (L' := [some (vr 2 4), some (vr 3 l1), some (vi 0)]) rfl rfl ?_
  exact z_sub (show zsub _ _ from ⟨rfl, ⟨rfl, ⟨rfl, trivial⟩⟩⟩) k
theorem bX2_leaveOutside_2 {G : zG} {d : Nat} {K : zH → Prop} {l1 : Int} {l2 : Int} {h : zH} (k : zR l2 ∧ zR (h 4 11) ∧ ((h 4 11) ≤ l2 → K h) ∧ (¬ (h 4 11) ≤ l2 → (0 ≤ l2 ∧ l2 < 256) ∧ zCb G d mX3_holds [vr 3 l1, vi (h 10 l2)] h (fun x1 h2 => (x1 = true → tX2_leaveOutside_2 G d K l1 (l2 + 1) h2) ∧ (x1 = false → (0 ≤ l2 ∧ l2 < 256) ∧ tX2_leaveOutside_2 G d K l1 (l2 + 1) (zup h2 11 l2 (-1)))))) : tX2_leaveOutside_2 G d K l1 l2 h := by
  unfold tX2_leaveOutside_2
  refine z_iload_n 2 dX2_leaveOutside_2 rfl rfl rfl ?_
  refine z_aload_n 0 dX2_leaveOutside_3 rfl rfl (Nat.le_of_ble_eq_true rfl) rfl ?_
  refine z_getI 2 (x := (h 4 11)) fX2_48 rfl dX2_leaveOutside_4 rfl rfl ?_
  obtain ⟨r1, r2, ka, kb⟩ := k
  refine z_icmp_ge (tgt := 36) dX2_leaveOutside_7 rfl r1 r2 rfl ⟨fun q => ?_, fun q => ?_⟩
  · have k := ka q
    exact z_return rfl dX2_leaveOutside_36 ⟨rfl, k⟩
  · have k := kb q
    refine z_aload_n 1 dX2_leaveOutside_10 rfl rfl (Nat.le_of_ble_eq_true rfl) rfl ?_
    refine z_aload_n 0 dX2_leaveOutside_11 rfl rfl (Nat.le_of_ble_eq_true rfl) rfl ?_
    refine z_getF 2 13 (x := 10) fX2_28 rfl dX2_leaveOutside_12 rfl rfl ?_
    refine z_iload_n 2 dX2_leaveOutside_15 rfl rfl rfl ?_
    obtain ⟨i9, k⟩ := k
    refine z_iald (x := (h 10 l2)) dX2_leaveOutside_16 (by rw [zl_10]; exact i9) rfl rfl ?_
    refine z_callVb vX3_holds kX2_80 dX2_leaveOutside_17 rfl (zRo_d d) (as := [vi (h 10 l2)]) (rest := []) (Nat.le_of_ble_eq_true rfl) rfl rfl (zCb_mono (fun x1 h2 k => ?_) k)
    obtain ⟨ka, kb⟩ := k
    refine z_ifb_ne (tgt := 30) dX2_leaveOutside_20 rfl rfl ⟨fun q => ?_, fun q => ?_⟩
    · have k := ka q
      refine z_iinc dX2_leaveOutside_30 rfl (Nat.le_of_ble_eq_true rfl) (L' := [some (vr 2 4), some (vr 3 l1), some (vi (l2 + 1))]) rfl rfl ?_
      refine z_goto (tgt := 2) dX2_leaveOutside_33 rfl ?_
      exact z_sub (show zsub _ _ from ⟨rfl, ⟨rfl, ⟨rfl, trivial⟩⟩⟩) k
    · have k := kb q
      refine z_aload_n 0 dX2_leaveOutside_23 rfl rfl (Nat.le_of_ble_eq_true rfl) rfl ?_
      refine z_getF 2 13 (x := 11) fX2_31 rfl dX2_leaveOutside_24 rfl rfl ?_
      refine z_iload_n 2 dX2_leaveOutside_27 rfl rfl rfl ?_
      refine z_iconst dX2_leaveOutside_28 rfl ?_
      obtain ⟨i9, k⟩ := k
      refine z_iast dX2_leaveOutside_29 (by rw [zl_11]; exact i9) rfl ?_
      refine z_iinc dX2_leaveOutside_30 rfl (Nat.le_of_ble_eq_true rfl) (L' := [some (vr 2 4), some (vr 3 l1), some (vi (l2 + 1))]) rfl rfl ?_
      refine z_goto (tgt := 2) dX2_leaveOutside_33 rfl ?_
      exact z_sub (show zsub _ _ from ⟨rfl, ⟨rfl, ⟨rfl, trivial⟩⟩⟩) k
theorem eX2_leaveOutside {G : zG} {d : Nat} {K : zH → Prop} {l1 : Int} {h : zH} (k : tX2_leaveOutside_0 G d K l1 h) : zCv G (d + 1) mX2_leaveOutside [vr 2 4, vr 3 l1] h K := z_entry (by decide +kernel) (Nat.le_of_ble_eq_true rfl) rfl k
def tX2_addEdge_0 (G : zG) (d : Nat) (K : Int → zH → Prop) (l1 : Int) (l2 : Int) (h : zH) : Prop := zTi G d mX2_addEdge K 0 [some (vr 2 4), some (vi l1), some (vi l2), none] [] h
def tX2_addEdge_39 (G : zG) (d : Nat) (K : Int → zH → Prop) (l3 : Int) (h : zH) : Prop := zTi G d mX2_addEdge K 39 [some (vr 2 4), none, none, some (vi l3)] [] h
theorem bX2_addEdge_0 {G : zG} {d : Nat} {K : Int → zH → Prop} {l1 : Int} {l2 : Int} {h : zH} (k : zR (h 4 9) ∧ ((h 4 9) < 160 → (0 ≤ (h 4 9) ∧ (h 4 9) < 160) ∧ (0 ≤ (h 4 9) ∧ (h 4 9) < 160) ∧ tX2_addEdge_39 G d K 0 (zup (zup h 5 (h 4 9) l1) 6 (h 4 9) l2)) ∧ (¬ (h 4 9) < 160 → K (-1) (zup h 4 12 1))) : tX2_addEdge_0 G d K l1 l2 h := by
  unfold tX2_addEdge_0
  refine z_aload_n 0 dX2_addEdge_0 rfl rfl (Nat.le_of_ble_eq_true rfl) rfl ?_
  refine z_getI 2 (x := (h 4 9)) fX2_42 rfl dX2_addEdge_1 rfl rfl ?_
  refine z_sipush dX2_addEdge_4 rfl rfl ?_
  obtain ⟨r1, ka, kb⟩ := k
  refine z_icmp_lt (tgt := 17) dX2_addEdge_7 rfl r1 ⟨by decide, by decide⟩ rfl ⟨fun q => ?_, fun q => ?_⟩
  · have k := ka q
    refine z_aload_n 0 dX2_addEdge_17 rfl rfl (Nat.le_of_ble_eq_true rfl) rfl ?_
    refine z_getF 2 13 (x := 5) fX2_9 rfl dX2_addEdge_18 rfl rfl ?_
    refine z_aload_n 0 dX2_addEdge_21 rfl rfl (Nat.le_of_ble_eq_true rfl) rfl ?_
    refine z_getI 2 (x := (h 4 9)) fX2_42 rfl dX2_addEdge_22 rfl rfl ?_
    refine z_iload_n 1 dX2_addEdge_25 rfl rfl rfl ?_
    obtain ⟨i9, k⟩ := k
    refine z_iast dX2_addEdge_26 (by rw [zl_5]; exact i9) rfl ?_
    refine z_aload_n 0 dX2_addEdge_27 rfl rfl (Nat.le_of_ble_eq_true rfl) rfl ?_
    refine z_getF 2 13 (x := 6) fX2_15 rfl dX2_addEdge_28 rfl rfl ?_
    refine z_aload_n 0 dX2_addEdge_31 rfl rfl (Nat.le_of_ble_eq_true rfl) rfl ?_
    refine z_getI 2 (x := (h 4 9)) fX2_42 rfl dX2_addEdge_32 (by simp [zup]) rfl ?_
    refine z_iload_n 2 dX2_addEdge_35 rfl rfl rfl ?_
    obtain ⟨i9, k⟩ := k
    refine z_iast dX2_addEdge_36 (by rw [zl_6]; exact i9) rfl ?_
    refine z_iconst dX2_addEdge_37 rfl ?_
    refine z_istore_n 3 dX2_addEdge_38 rfl (Nat.le_of_ble_eq_true rfl) (L' := [some (vr 2 4), some (vi l1), some (vi l2), some (vi 0)]) rfl rfl ?_
    exact z_sub (show zsub _ _ from ⟨rfl, ⟨rfl, trivial⟩⟩) k
  · have k := kb q
    refine z_aload_n 0 dX2_addEdge_10 rfl rfl (Nat.le_of_ble_eq_true rfl) rfl ?_
    refine z_iconst dX2_addEdge_11 rfl ?_
    refine z_putZ 2 gX2_51 (Or.inr rfl) dX2_addEdge_12 rfl ?_
    refine z_iconst dX2_addEdge_15 rfl ?_
    exact z_ireturn rfl dX2_addEdge_16 ⟨_, rfl, k⟩
theorem bX2_addEdge_39 {G : zG} {d : Nat} {K : Int → zH → Prop} {l3 : Int} {h : zH} (k : zR l3 ∧ (4 ≤ l3 → K (((h 4 9) + 1) - 1) (zup h 4 9 ((h 4 9) + 1))) ∧ (¬ 4 ≤ l3 → (0 ≤ (((h 4 9) * 4) + l3) ∧ (((h 4 9) * 4) + l3) < 640) ∧ tX2_addEdge_39 G d K (l3 + 1) (zup h 7 (((h 4 9) * 4) + l3) 0))) : tX2_addEdge_39 G d K l3 h := by
  unfold tX2_addEdge_39
  refine z_iload_n 3 dX2_addEdge_39 rfl rfl rfl ?_
  refine z_iconst dX2_addEdge_40 rfl ?_
  obtain ⟨r1, ka, kb⟩ := k
  refine z_icmp_ge (tgt := 64) dX2_addEdge_41 rfl r1 ⟨by decide, by decide⟩ rfl ⟨fun q => ?_, fun q => ?_⟩
  · have k := ka q
    refine z_aload_n 0 dX2_addEdge_64 rfl rfl (Nat.le_of_ble_eq_true rfl) rfl ?_
    refine z_dup dX2_addEdge_65 (fun q => by cases q) rfl ?_
    refine z_getI 2 (x := (h 4 9)) fX2_42 rfl dX2_addEdge_66 rfl rfl ?_
    refine z_iconst dX2_addEdge_69 rfl ?_
    refine z_iadd dX2_addEdge_70 rfl ?_
    refine z_putI 2 gX2_42 dX2_addEdge_71 rfl ?_
    refine z_aload_n 0 dX2_addEdge_74 rfl rfl (Nat.le_of_ble_eq_true rfl) rfl ?_
    refine z_getI 2 (x := ((h 4 9) + 1)) fX2_42 rfl dX2_addEdge_75 (by simp [zup]) rfl ?_
    refine z_iconst dX2_addEdge_78 rfl ?_
    refine z_isub dX2_addEdge_79 rfl ?_
    exact z_ireturn rfl dX2_addEdge_80 ⟨_, rfl, k⟩
  · have k := kb q
    refine z_aload_n 0 dX2_addEdge_44 rfl rfl (Nat.le_of_ble_eq_true rfl) rfl ?_
    refine z_getF 2 14 (x := 7) fX2_18 rfl dX2_addEdge_45 rfl rfl ?_
    refine z_aload_n 0 dX2_addEdge_48 rfl rfl (Nat.le_of_ble_eq_true rfl) rfl ?_
    refine z_getI 2 (x := (h 4 9)) fX2_42 rfl dX2_addEdge_49 rfl rfl ?_
    refine z_iconst dX2_addEdge_52 rfl ?_
    refine z_imul dX2_addEdge_53 rfl ?_
    refine z_iload_n 3 dX2_addEdge_54 rfl rfl rfl ?_
    refine z_iadd dX2_addEdge_55 rfl ?_
    refine z_lconst (x := 0) dX2_addEdge_56 rfl rfl ?_
    obtain ⟨i9, k⟩ := k
    refine z_last dX2_addEdge_57 (by rw [zl_7]; exact i9) rfl ?_
    refine z_iinc dX2_addEdge_58 rfl (Nat.le_of_ble_eq_true rfl) (L' := [some (vr 2 4), none, none, some (vi (l3 + 1))]) rfl rfl ?_
    refine z_goto (tgt := 39) dX2_addEdge_61 rfl ?_
    exact z_sub (show zsub _ _ from ⟨rfl, ⟨rfl, trivial⟩⟩) k
theorem eX2_addEdge {G : zG} {d : Nat} {K : Int → zH → Prop} {l1 : Int} {l2 : Int} {h : zH} (k : tX2_addEdge_0 G d K l1 l2 h) : zCi G d mX2_addEdge [vr 2 4, vi l1, vi l2] h K := z_entry (by decide +kernel) (Nat.le_of_ble_eq_true rfl) rfl k
def tX2_addFree_0 (G : zG) (d : Nat) (K : zH → Prop) (l1 : Int) (l2 : Int) (h : zH) : Prop := zTv G d mX2_addFree K 0 [some (vr 2 4), some (vi l1), some (vi l2)] [] h
theorem bX2_addFree_0 {G : zG} {d : Nat} {K : zH → Prop} {l1 : Int} {l2 : Int} {h : zH} (k : zR (h 4 10) ∧ ((h 4 10) < 64 → (0 ≤ (h 4 10) ∧ (h 4 10) < 64) ∧ (0 ≤ (h 4 10) ∧ (h 4 10) < 64) ∧ K (zup (zup (zup h 8 (h 4 10) l1) 9 (h 4 10) l2) 4 10 ((h 4 10) + 1))) ∧ (¬ (h 4 10) < 64 → K (zup h 4 12 1))) : tX2_addFree_0 G d K l1 l2 h := by
  unfold tX2_addFree_0
  refine z_aload_n 0 dX2_addFree_0 rfl rfl (Nat.le_of_ble_eq_true rfl) rfl ?_
  refine z_getI 2 (x := (h 4 10)) fX2_45 rfl dX2_addFree_1 rfl rfl ?_
  refine z_bipush dX2_addFree_4 rfl rfl ?_
  obtain ⟨r1, ka, kb⟩ := k
  refine z_icmp_lt (tgt := 15) dX2_addFree_6 rfl r1 ⟨by decide, by decide⟩ rfl ⟨fun q => ?_, fun q => ?_⟩
  · have k := ka q
    refine z_aload_n 0 dX2_addFree_15 rfl rfl (Nat.le_of_ble_eq_true rfl) rfl ?_
    refine z_getF 2 13 (x := 8) fX2_22 rfl dX2_addFree_16 rfl rfl ?_
    refine z_aload_n 0 dX2_addFree_19 rfl rfl (Nat.le_of_ble_eq_true rfl) rfl ?_
    refine z_getI 2 (x := (h 4 10)) fX2_45 rfl dX2_addFree_20 rfl rfl ?_
    refine z_iload_n 1 dX2_addFree_23 rfl rfl rfl ?_
    obtain ⟨i9, k⟩ := k
    refine z_iast dX2_addFree_24 (by rw [zl_8]; exact i9) rfl ?_
    refine z_aload_n 0 dX2_addFree_25 rfl rfl (Nat.le_of_ble_eq_true rfl) rfl ?_
    refine z_getF 2 13 (x := 9) fX2_25 rfl dX2_addFree_26 rfl rfl ?_
    refine z_aload_n 0 dX2_addFree_29 rfl rfl (Nat.le_of_ble_eq_true rfl) rfl ?_
    refine z_getI 2 (x := (h 4 10)) fX2_45 rfl dX2_addFree_30 (by simp [zup]) rfl ?_
    refine z_iload_n 2 dX2_addFree_33 rfl rfl rfl ?_
    obtain ⟨i9, k⟩ := k
    refine z_iast dX2_addFree_34 (by rw [zl_9]; exact i9) rfl ?_
    refine z_aload_n 0 dX2_addFree_35 rfl rfl (Nat.le_of_ble_eq_true rfl) rfl ?_
    refine z_dup dX2_addFree_36 (fun q => by cases q) rfl ?_
    refine z_getI 2 (x := (h 4 10)) fX2_45 rfl dX2_addFree_37 (by simp [zup]) rfl ?_
    refine z_iconst dX2_addFree_40 rfl ?_
    refine z_iadd dX2_addFree_41 rfl ?_
    refine z_putI 2 gX2_45 dX2_addFree_42 rfl ?_
    exact z_return rfl dX2_addFree_45 ⟨rfl, k⟩
  · have k := kb q
    refine z_aload_n 0 dX2_addFree_9 rfl rfl (Nat.le_of_ble_eq_true rfl) rfl ?_
    refine z_iconst dX2_addFree_10 rfl ?_
    refine z_putZ 2 gX2_51 (Or.inr rfl) dX2_addFree_11 rfl ?_
    exact z_return rfl dX2_addFree_14 ⟨rfl, k⟩
theorem eX2_addFree {G : zG} {d : Nat} {K : zH → Prop} {l1 : Int} {l2 : Int} {h : zH} (k : tX2_addFree_0 G d K l1 l2 h) : zCv G d mX2_addFree [vr 2 4, vi l1, vi l2] h K := z_entry (by decide +kernel) (Nat.le_of_ble_eq_true rfl) rfl k
def tX2_freeFromEach_0 (G : zG) (d : Nat) (K : zH → Prop) (l1 : Int) (l3 : Int) (l4 : Int) (h : zH) : Prop := zTv G (d + 1) mX2_freeFromEach K 0 [some (vr 2 4), some (vl l1), none, some (vi l3), some (vi l4), none] [] h
def tX2_freeFromEach_3 (G : zG) (d : Nat) (K : zH → Prop) (l1 : Int) (l3 : Int) (l4 : Int) (l5 : Int) (h : zH) : Prop := zTv G (d + 1) mX2_freeFromEach K 3 [some (vr 2 4), some (vl l1), none, some (vi l3), some (vi l4), some (vi l5)] [] h
theorem bX2_freeFromEach_0 {G : zG} {d : Nat} {K : zH → Prop} {l1 : Int} {l3 : Int} {l4 : Int} {h : zH} (k : tX2_freeFromEach_3 G d K l1 l3 l4 0 h) : tX2_freeFromEach_0 G d K l1 l3 l4 h := by
  unfold tX2_freeFromEach_0
  refine z_iconst dX2_freeFromEach_0 rfl ?_
  refine z_istore dX2_freeFromEach_1 (Nat.le_of_ble_eq_true rfl) (L' := [some (vr 2 4), some (vl l1), none, some (vi l3), some (vi l4), some (vi 0)]) rfl rfl ?_
  exact z_sub (show zsub _ _ from ⟨rfl, ⟨rfl, ⟨rfl, ⟨rfl, ⟨rfl, trivial⟩⟩⟩⟩⟩) k
theorem bX2_freeFromEach_3 {G : zG} {d : Nat} {K : zH → Prop} {l1 : Int} {l3 : Int} {l4 : Int} {l5 : Int} {h : zH} (k : zR l5 ∧ (40 ≤ l5 → K h) ∧ (¬ 40 ≤ l5 → (¬ (zcmp (zland (zlushr l1 l5) 1) 1) = 0 → tX2_freeFromEach_3 G d K l1 l3 l4 (l5 + 1) h) ∧ ((zcmp (zland (zlushr l1 l5) 1) 1) = 0 → zCv G d mX2_addFree [vr 2 4, vi (l5 + l3), vi l4] h (fun h2 => tX2_freeFromEach_3 G d K l1 l3 l4 (l5 + 1) h2)))) : tX2_freeFromEach_3 G d K l1 l3 l4 l5 h := by
  unfold tX2_freeFromEach_3
  refine z_iload dX2_freeFromEach_3 rfl rfl ?_
  refine z_bipush dX2_freeFromEach_5 rfl rfl ?_
  obtain ⟨r1, ka, kb⟩ := k
  refine z_icmp_ge (tgt := 37) dX2_freeFromEach_7 rfl r1 ⟨by decide, by decide⟩ rfl ⟨fun q => ?_, fun q => ?_⟩
  · have k := ka q
    exact z_return rfl dX2_freeFromEach_37 ⟨rfl, k⟩
  · have k := kb q
    refine z_lload_n 1 dX2_freeFromEach_10 rfl rfl rfl ?_
    refine z_iload dX2_freeFromEach_11 rfl rfl ?_
    refine z_lushr dX2_freeFromEach_13 rfl ?_
    refine z_lconst (x := 1) dX2_freeFromEach_14 rfl rfl ?_
    refine z_land dX2_freeFromEach_15 rfl ?_
    refine z_lconst (x := 1) dX2_freeFromEach_16 rfl rfl ?_
    refine z_lcmp dX2_freeFromEach_17 rfl ?_
    obtain ⟨ka, kb⟩ := k
    refine z_if_ne (tgt := 31) dX2_freeFromEach_18 rfl (zcmp_R _ _) rfl ⟨fun q => ?_, fun q => ?_⟩
    · have k := ka q
      refine z_iinc dX2_freeFromEach_31 rfl (Nat.le_of_ble_eq_true rfl) (L' := [some (vr 2 4), some (vl l1), none, some (vi l3), some (vi l4), some (vi (l5 + 1))]) rfl rfl ?_
      refine z_goto (tgt := 3) dX2_freeFromEach_34 rfl ?_
      exact z_sub (show zsub _ _ from ⟨rfl, ⟨rfl, ⟨rfl, ⟨rfl, ⟨rfl, trivial⟩⟩⟩⟩⟩) k
    · have k := kb q
      refine z_aload_n 0 dX2_freeFromEach_21 rfl rfl (Nat.le_of_ble_eq_true rfl) rfl ?_
      refine z_iload dX2_freeFromEach_22 rfl rfl ?_
      refine z_iload_n 3 dX2_freeFromEach_24 rfl rfl rfl ?_
      refine z_iadd dX2_freeFromEach_25 rfl ?_
      refine z_iload dX2_freeFromEach_26 rfl rfl ?_
      refine z_callVv vX2_addFree kX2_84 dX2_freeFromEach_28 rfl (zRo_d d) (as := [vi (l5 + l3), vi l4]) (rest := []) (Nat.le_of_ble_eq_true rfl) rfl rfl (zCv_mono (fun h2 k => ?_) k)
      refine z_iinc dX2_freeFromEach_31 rfl (Nat.le_of_ble_eq_true rfl) (L' := [some (vr 2 4), some (vl l1), none, some (vi l3), some (vi l4), some (vi (l5 + 1))]) rfl rfl ?_
      refine z_goto (tgt := 3) dX2_freeFromEach_34 rfl ?_
      exact z_sub (show zsub _ _ from ⟨rfl, ⟨rfl, ⟨rfl, ⟨rfl, ⟨rfl, trivial⟩⟩⟩⟩⟩) k
theorem eX2_freeFromEach {G : zG} {d : Nat} {K : zH → Prop} {l1 : Int} {l3 : Int} {l4 : Int} {h : zH} (k : tX2_freeFromEach_0 G d K l1 l3 l4 h) : zCv G (d + 1) mX2_freeFromEach [vr 2 4, vl l1, vi l3, vi l4] h K := z_entry (by decide +kernel) (Nat.le_of_ble_eq_true rfl) rfl k
def tX2_freeToEach_0 (G : zG) (d : Nat) (K : zH → Prop) (l1 : Int) (l3 : Int) (h : zH) : Prop := zTv G (d + 1) mX2_freeToEach K 0 [some (vr 2 4), some (vl l1), none, some (vi l3), none] [] h
def tX2_freeToEach_3 (G : zG) (d : Nat) (K : zH → Prop) (l1 : Int) (l3 : Int) (l4 : Int) (h : zH) : Prop := zTv G (d + 1) mX2_freeToEach K 3 [some (vr 2 4), some (vl l1), none, some (vi l3), some (vi l4)] [] h
theorem bX2_freeToEach_0 {G : zG} {d : Nat} {K : zH → Prop} {l1 : Int} {l3 : Int} {h : zH} (k : tX2_freeToEach_3 G d K l1 l3 0 h) : tX2_freeToEach_0 G d K l1 l3 h := by
  unfold tX2_freeToEach_0
  refine z_iconst dX2_freeToEach_0 rfl ?_
  refine z_istore dX2_freeToEach_1 (Nat.le_of_ble_eq_true rfl) (L' := [some (vr 2 4), some (vl l1), none, some (vi l3), some (vi 0)]) rfl rfl ?_
  exact z_sub (show zsub _ _ from ⟨rfl, ⟨rfl, ⟨rfl, ⟨rfl, trivial⟩⟩⟩⟩) k
theorem bX2_freeToEach_3 {G : zG} {d : Nat} {K : zH → Prop} {l1 : Int} {l3 : Int} {l4 : Int} {h : zH} (k : zR l4 ∧ (40 ≤ l4 → K h) ∧ (¬ 40 ≤ l4 → (¬ (zcmp (zland (zlushr l1 l4) 1) 1) = 0 → tX2_freeToEach_3 G d K l1 l3 (l4 + 1) h) ∧ ((zcmp (zland (zlushr l1 l4) 1) 1) = 0 → zCv G d mX2_addFree [vr 2 4, vi 0, vi (l4 + l3)] h (fun h2 => tX2_freeToEach_3 G d K l1 l3 (l4 + 1) h2)))) : tX2_freeToEach_3 G d K l1 l3 l4 h := by
  unfold tX2_freeToEach_3
  refine z_iload dX2_freeToEach_3 rfl rfl ?_
  refine z_bipush dX2_freeToEach_5 rfl rfl ?_
  obtain ⟨r1, ka, kb⟩ := k
  refine z_icmp_ge (tgt := 36) dX2_freeToEach_7 rfl r1 ⟨by decide, by decide⟩ rfl ⟨fun q => ?_, fun q => ?_⟩
  · have k := ka q
    exact z_return rfl dX2_freeToEach_36 ⟨rfl, k⟩
  · have k := kb q
    refine z_lload_n 1 dX2_freeToEach_10 rfl rfl rfl ?_
    refine z_iload dX2_freeToEach_11 rfl rfl ?_
    refine z_lushr dX2_freeToEach_13 rfl ?_
    refine z_lconst (x := 1) dX2_freeToEach_14 rfl rfl ?_
    refine z_land dX2_freeToEach_15 rfl ?_
    refine z_lconst (x := 1) dX2_freeToEach_16 rfl rfl ?_
    refine z_lcmp dX2_freeToEach_17 rfl ?_
    obtain ⟨ka, kb⟩ := k
    refine z_if_ne (tgt := 30) dX2_freeToEach_18 rfl (zcmp_R _ _) rfl ⟨fun q => ?_, fun q => ?_⟩
    · have k := ka q
      refine z_iinc dX2_freeToEach_30 rfl (Nat.le_of_ble_eq_true rfl) (L' := [some (vr 2 4), some (vl l1), none, some (vi l3), some (vi (l4 + 1))]) rfl rfl ?_
      refine z_goto (tgt := 3) dX2_freeToEach_33 rfl ?_
      exact z_sub (show zsub _ _ from ⟨rfl, ⟨rfl, ⟨rfl, ⟨rfl, trivial⟩⟩⟩⟩) k
    · have k := kb q
      refine z_aload_n 0 dX2_freeToEach_21 rfl rfl (Nat.le_of_ble_eq_true rfl) rfl ?_
      refine z_iconst dX2_freeToEach_22 rfl ?_
      refine z_iload dX2_freeToEach_23 rfl rfl ?_
      refine z_iload_n 3 dX2_freeToEach_25 rfl rfl rfl ?_
      refine z_iadd dX2_freeToEach_26 rfl ?_
      refine z_callVv vX2_addFree kX2_84 dX2_freeToEach_27 rfl (zRo_d d) (as := [vi 0, vi (l4 + l3)]) (rest := []) (Nat.le_of_ble_eq_true rfl) rfl rfl (zCv_mono (fun h2 k => ?_) k)
      refine z_iinc dX2_freeToEach_30 rfl (Nat.le_of_ble_eq_true rfl) (L' := [some (vr 2 4), some (vl l1), none, some (vi l3), some (vi (l4 + 1))]) rfl rfl ?_
      refine z_goto (tgt := 3) dX2_freeToEach_33 rfl ?_
      exact z_sub (show zsub _ _ from ⟨rfl, ⟨rfl, ⟨rfl, ⟨rfl, trivial⟩⟩⟩⟩) k
theorem eX2_freeToEach {G : zG} {d : Nat} {K : zH → Prop} {l1 : Int} {l3 : Int} {h : zH} (k : tX2_freeToEach_0 G d K l1 l3 h) : zCv G (d + 1) mX2_freeToEach [vr 2 4, vl l1, vi l3] h K := z_entry (by decide +kernel) (Nat.le_of_ble_eq_true rfl) rfl k
def tX2_isMarked_0 (G : zG) (d : Nat) (K : Bool → zH → Prop) (l1 : Int) (l2 : Int) (h : zH) : Prop := zTb G d mX2_isMarked K 0 [some (vr 2 4), some (vi l1), some (vi l2)] [] h
theorem bX2_isMarked_0 {G : zG} {d : Nat} {K : Bool → zH → Prop} {l1 : Int} {l2 : Int} {h : zH} (k : (0 ≤ l2 ∧ l2 < 2147483648) ∧ (0 ≤ ((l1 * 4) + (l2 / 64)) ∧ ((l1 * 4) + (l2 / 64)) < 640) ∧ (0 ≤ l2 ∧ l2 < 2147483648) ∧ (¬ (zcmp (zland (zlushr (h 7 ((l1 * 4) + (l2 / 64))) (l2 % 64)) 1) 1) = 0 → K false h) ∧ ((zcmp (zland (zlushr (h 7 ((l1 * 4) + (l2 / 64))) (l2 % 64)) 1) 1) = 0 → K true h)) : tX2_isMarked_0 G d K l1 l2 h := by
  unfold tX2_isMarked_0
  refine z_aload_n 0 dX2_isMarked_0 rfl rfl (Nat.le_of_ble_eq_true rfl) rfl ?_
  refine z_getF 2 14 (x := 7) fX2_18 rfl dX2_isMarked_1 rfl rfl ?_
  refine z_iload_n 1 dX2_isMarked_4 rfl rfl rfl ?_
  refine z_iconst dX2_isMarked_5 rfl ?_
  refine z_imul dX2_isMarked_6 rfl ?_
  refine z_iload_n 2 dX2_isMarked_7 rfl rfl rfl ?_
  refine z_bipush dX2_isMarked_8 rfl rfl ?_
  obtain ⟨i9, k⟩ := k
  refine z_idiv dX2_isMarked_10 ⟨i9.1, i9.2, by decide, by decide⟩ rfl ?_
  refine z_iadd dX2_isMarked_11 rfl ?_
  obtain ⟨i9, k⟩ := k
  refine z_lald (x := (h 7 ((l1 * 4) + (l2 / 64)))) dX2_isMarked_12 (by rw [zl_7]; exact i9) rfl rfl ?_
  refine z_iload_n 2 dX2_isMarked_13 rfl rfl rfl ?_
  refine z_bipush dX2_isMarked_14 rfl rfl ?_
  obtain ⟨i9, k⟩ := k
  refine z_irem dX2_isMarked_16 ⟨i9.1, i9.2, by decide, by decide⟩ rfl ?_
  refine z_lushr dX2_isMarked_17 rfl ?_
  refine z_lconst (x := 1) dX2_isMarked_18 rfl rfl ?_
  refine z_land dX2_isMarked_19 rfl ?_
  refine z_lconst (x := 1) dX2_isMarked_20 rfl rfl ?_
  refine z_lcmp dX2_isMarked_21 rfl ?_
  obtain ⟨ka, kb⟩ := k
  refine z_if_ne (tgt := 29) dX2_isMarked_22 rfl (zcmp_R _ _) rfl ⟨fun q => ?_, fun q => ?_⟩
  · have k := ka q
    refine z_iconst dX2_isMarked_29 rfl ?_
    exact z_zreturn rfl (Or.inl rfl) dX2_isMarked_30 ⟨false, rfl, k⟩
  · have k := kb q
    refine z_iconst dX2_isMarked_25 rfl ?_
    refine z_goto (tgt := 30) dX2_isMarked_26 rfl ?_
    exact z_zreturn rfl (Or.inr rfl) dX2_isMarked_30 ⟨true, rfl, k⟩
theorem eX2_isMarked {G : zG} {d : Nat} {K : Bool → zH → Prop} {l1 : Int} {l2 : Int} {h : zH} (k : tX2_isMarked_0 G d K l1 l2 h) : zCb G d mX2_isMarked [vr 2 4, vi l1, vi l2] h K := z_entry (by decide +kernel) (Nat.le_of_ble_eq_true rfl) rfl k
def tX2_mark_0 (G : zG) (d : Nat) (K : zH → Prop) (l1 : Int) (l2 : Int) (h : zH) : Prop := zTv G d mX2_mark K 0 [some (vr 2 4), some (vi l1), some (vi l2)] [] h
theorem bX2_mark_0 {G : zG} {d : Nat} {K : zH → Prop} {l1 : Int} {l2 : Int} {h : zH} (k : (0 ≤ l2 ∧ l2 < 2147483648) ∧ (0 ≤ ((l1 * 4) + (l2 / 64)) ∧ ((l1 * 4) + (l2 / 64)) < 640) ∧ (0 ≤ l2 ∧ l2 < 2147483648) ∧ (0 ≤ ((l1 * 4) + (l2 / 64)) ∧ ((l1 * 4) + (l2 / 64)) < 640) ∧ K (zup h 7 ((l1 * 4) + (l2 / 64)) (zlor (h 7 ((l1 * 4) + (l2 / 64))) (zlshl 1 (l2 % 64))))) : tX2_mark_0 G d K l1 l2 h := by
  unfold tX2_mark_0
  refine z_aload_n 0 dX2_mark_0 rfl rfl (Nat.le_of_ble_eq_true rfl) rfl ?_
  refine z_getF 2 14 (x := 7) fX2_18 rfl dX2_mark_1 rfl rfl ?_
  refine z_iload_n 1 dX2_mark_4 rfl rfl rfl ?_
  refine z_iconst dX2_mark_5 rfl ?_
  refine z_imul dX2_mark_6 rfl ?_
  refine z_iload_n 2 dX2_mark_7 rfl rfl rfl ?_
  refine z_bipush dX2_mark_8 rfl rfl ?_
  obtain ⟨i9, k⟩ := k
  refine z_idiv dX2_mark_10 ⟨i9.1, i9.2, by decide, by decide⟩ rfl ?_
  refine z_iadd dX2_mark_11 rfl ?_
  refine z_dup2 dX2_mark_12 (fun q => by cases q) (fun q => by cases q) rfl ?_
  obtain ⟨i9, k⟩ := k
  refine z_lald (x := (h 7 ((l1 * 4) + (l2 / 64)))) dX2_mark_13 (by rw [zl_7]; exact i9) rfl rfl ?_
  refine z_lconst (x := 1) dX2_mark_14 rfl rfl ?_
  refine z_iload_n 2 dX2_mark_15 rfl rfl rfl ?_
  refine z_bipush dX2_mark_16 rfl rfl ?_
  obtain ⟨i9, k⟩ := k
  refine z_irem dX2_mark_18 ⟨i9.1, i9.2, by decide, by decide⟩ rfl ?_
  refine z_lshl dX2_mark_19 rfl ?_
  refine z_lor dX2_mark_20 rfl ?_
  obtain ⟨i9, k⟩ := k
  refine z_last dX2_mark_21 (by rw [zl_7]; exact i9) rfl ?_
  exact z_return rfl dX2_mark_22 ⟨rfl, k⟩
theorem eX2_mark {G : zG} {d : Nat} {K : zH → Prop} {l1 : Int} {l2 : Int} {h : zH} (k : tX2_mark_0 G d K l1 l2 h) : zCv G d mX2_mark [vr 2 4, vi l1, vi l2] h K := z_entry (by decide +kernel) (Nat.le_of_ble_eq_true rfl) rfl k
def tX2_markSet_0 (G : zG) (d : Nat) (K : zH → Prop) (l1 : Int) (l2 : Int) (h : zH) : Prop := zTv G (d + 1) mX2_markSet K 0 [some (vr 2 4), some (vi l1), some (vr 3 l2), none] [] h
def tX2_markSet_2 (G : zG) (d : Nat) (K : zH → Prop) (l1 : Int) (l2 : Int) (l3 : Int) (h : zH) : Prop := zTv G (d + 1) mX2_markSet K 2 [some (vr 2 4), some (vi l1), some (vr 3 l2), some (vi l3)] [] h
theorem bX2_markSet_0 {G : zG} {d : Nat} {K : zH → Prop} {l1 : Int} {l2 : Int} {h : zH} (k : tX2_markSet_2 G d K l1 l2 0 h) : tX2_markSet_0 G d K l1 l2 h := by
  unfold tX2_markSet_0
  refine z_iconst dX2_markSet_0 rfl ?_
  refine z_istore_n 3 dX2_markSet_1 rfl (Nat.le_of_ble_eq_true rfl) (L' := [some (vr 2 4), some (vi l1), some (vr 3 l2), some (vi 0)]) rfl rfl ?_
  exact z_sub (show zsub _ _ from ⟨rfl, ⟨rfl, ⟨rfl, ⟨rfl, trivial⟩⟩⟩⟩) k
theorem bX2_markSet_2 {G : zG} {d : Nat} {K : zH → Prop} {l1 : Int} {l2 : Int} {l3 : Int} {h : zH} (k : zR l3 ∧ zR (h 4 11) ∧ ((h 4 11) ≤ l3 → K h) ∧ (¬ (h 4 11) ≤ l3 → (0 ≤ l3 ∧ l3 < 256) ∧ zCb G d mX3_holds [vr 3 l2, vi (h 10 l3)] h (fun x1 h2 => (x1 = false → tX2_markSet_2 G d K l1 l2 (l3 + 1) h2) ∧ (x1 = true → zCv G d mX2_mark [vr 2 4, vi l1, vi l3] h2 (fun h4 => tX2_markSet_2 G d K l1 l2 (l3 + 1) h4))))) : tX2_markSet_2 G d K l1 l2 l3 h := by
  unfold tX2_markSet_2
  refine z_iload_n 3 dX2_markSet_2 rfl rfl rfl ?_
  refine z_aload_n 0 dX2_markSet_3 rfl rfl (Nat.le_of_ble_eq_true rfl) rfl ?_
  refine z_getI 2 (x := (h 4 11)) fX2_48 rfl dX2_markSet_4 rfl rfl ?_
  obtain ⟨r1, r2, ka, kb⟩ := k
  refine z_icmp_ge (tgt := 35) dX2_markSet_7 rfl r1 r2 rfl ⟨fun q => ?_, fun q => ?_⟩
  · have k := ka q
    exact z_return rfl dX2_markSet_35 ⟨rfl, k⟩
  · have k := kb q
    refine z_aload_n 2 dX2_markSet_10 rfl rfl (Nat.le_of_ble_eq_true rfl) rfl ?_
    refine z_aload_n 0 dX2_markSet_11 rfl rfl (Nat.le_of_ble_eq_true rfl) rfl ?_
    refine z_getF 2 13 (x := 10) fX2_28 rfl dX2_markSet_12 rfl rfl ?_
    refine z_iload_n 3 dX2_markSet_15 rfl rfl rfl ?_
    obtain ⟨i9, k⟩ := k
    refine z_iald (x := (h 10 l3)) dX2_markSet_16 (by rw [zl_10]; exact i9) rfl rfl ?_
    refine z_callVb vX3_holds kX2_80 dX2_markSet_17 rfl (zRo_d d) (as := [vi (h 10 l3)]) (rest := []) (Nat.le_of_ble_eq_true rfl) rfl rfl (zCb_mono (fun x1 h2 k => ?_) k)
    obtain ⟨ka, kb⟩ := k
    refine z_ifb_eq (tgt := 29) dX2_markSet_20 rfl rfl ⟨fun q => ?_, fun q => ?_⟩
    · have k := ka q
      refine z_iinc dX2_markSet_29 rfl (Nat.le_of_ble_eq_true rfl) (L' := [some (vr 2 4), some (vi l1), some (vr 3 l2), some (vi (l3 + 1))]) rfl rfl ?_
      refine z_goto (tgt := 2) dX2_markSet_32 rfl ?_
      exact z_sub (show zsub _ _ from ⟨rfl, ⟨rfl, ⟨rfl, ⟨rfl, trivial⟩⟩⟩⟩) k
    · have k := kb q
      refine z_aload_n 0 dX2_markSet_23 rfl rfl (Nat.le_of_ble_eq_true rfl) rfl ?_
      refine z_iload_n 1 dX2_markSet_24 rfl rfl rfl ?_
      refine z_iload_n 3 dX2_markSet_25 rfl rfl rfl ?_
      refine z_callVv vX2_mark kX2_88 dX2_markSet_26 rfl (zRo_d d) (as := [vi l1, vi l3]) (rest := []) (Nat.le_of_ble_eq_true rfl) rfl rfl (zCv_mono (fun h4 k => ?_) k)
      refine z_iinc dX2_markSet_29 rfl (Nat.le_of_ble_eq_true rfl) (L' := [some (vr 2 4), some (vi l1), some (vr 3 l2), some (vi (l3 + 1))]) rfl rfl ?_
      refine z_goto (tgt := 2) dX2_markSet_32 rfl ?_
      exact z_sub (show zsub _ _ from ⟨rfl, ⟨rfl, ⟨rfl, ⟨rfl, trivial⟩⟩⟩⟩) k
theorem eX2_markSet {G : zG} {d : Nat} {K : zH → Prop} {l1 : Int} {l2 : Int} {h : zH} (k : tX2_markSet_0 G d K l1 l2 h) : zCv G (d + 1) mX2_markSet [vr 2 4, vi l1, vr 3 l2] h K := z_entry (by decide +kernel) (Nat.le_of_ble_eq_true rfl) rfl k
def tX2_lead_0 (G : zG) (d : Nat) (K : zH → Prop) (l1 : Int) (l2 : Int) (l3 : Int) (h : zH) : Prop := zTv G (d + 1) mX2_lead K 0 [some (vr 2 4), some (vi l1), some (vi l2), some (vi l3), none] [] h
def tX2_lead_8 (G : zG) (d : Nat) (K : zH → Prop) (l1 : Int) (l2 : Int) (l3 : Int) (l4 : Int) (h : zH) : Prop := zTv G (d + 1) mX2_lead K 8 [some (vr 2 4), some (vi l1), some (vi l2), some (vi l3), some (vi l4)] [] h
theorem bX2_lead_0 {G : zG} {d : Nat} {K : zH → Prop} {l1 : Int} {l2 : Int} {l3 : Int} {h : zH} (k : tX2_lead_8 G d K l1 l2 l3 ((h 4 9) - 1) h) : tX2_lead_0 G d K l1 l2 l3 h := by
  unfold tX2_lead_0
  refine z_aload_n 0 dX2_lead_0 rfl rfl (Nat.le_of_ble_eq_true rfl) rfl ?_
  refine z_getI 2 (x := (h 4 9)) fX2_42 rfl dX2_lead_1 rfl rfl ?_
  refine z_iconst dX2_lead_4 rfl ?_
  refine z_isub dX2_lead_5 rfl ?_
  refine z_istore dX2_lead_6 (Nat.le_of_ble_eq_true rfl) (L' := [some (vr 2 4), some (vi l1), some (vi l2), some (vi l3), some (vi ((h 4 9) - 1))]) rfl rfl ?_
  exact z_sub (show zsub _ _ from ⟨rfl, ⟨rfl, ⟨rfl, ⟨rfl, ⟨rfl, trivial⟩⟩⟩⟩⟩) k
theorem bX2_lead_8 {G : zG} {d : Nat} {K : zH → Prop} {l1 : Int} {l2 : Int} {l3 : Int} {l4 : Int} {h : zH} (k : zR l4 ∧ (l4 < 0 → zR l4 ∧ (l4 < 0 → zCi G d mX2_addEdge [vr 2 4, vi l1, vi l2] h (fun x1 h2 => zR x1 ∧ (x1 < 0 → K h2) ∧ (¬ x1 < 0 → zCv G d mX2_mark [vr 2 4, vi x1, vi l3] h2 (fun h4 => K h4)))) ∧ (¬ l4 < 0 → (0 ≤ l4 ∧ l4 < 160) ∧ zR (h 5 l4) ∧ zR l1 ∧ ((h 5 l4) = l1 → zR l4 ∧ (l4 < 0 → K h) ∧ (¬ l4 < 0 → zCv G d mX2_mark [vr 2 4, vi l4, vi l3] h (fun h6 => K h6))) ∧ (¬ (h 5 l4) = l1 → zCi G d mX2_addEdge [vr 2 4, vi l1, vi l2] h (fun x7 h8 => zR x7 ∧ (x7 < 0 → K h8) ∧ (¬ x7 < 0 → zCv G d mX2_mark [vr 2 4, vi x7, vi l3] h8 (fun h10 => K h10)))))) ∧ (¬ l4 < 0 → (0 ≤ l4 ∧ l4 < 160) ∧ zR (h 5 l4) ∧ zR l1 ∧ (¬ (h 5 l4) = l1 → zR l4 ∧ (l4 < 0 → zCi G d mX2_addEdge [vr 2 4, vi l1, vi l2] h (fun x11 h12 => zR x11 ∧ (x11 < 0 → K h12) ∧ (¬ x11 < 0 → zCv G d mX2_mark [vr 2 4, vi x11, vi l3] h12 (fun h14 => K h14)))) ∧ (¬ l4 < 0 → (0 ≤ l4 ∧ l4 < 160) ∧ zR (h 5 l4) ∧ zR l1 ∧ ((h 5 l4) = l1 → zR l4 ∧ (l4 < 0 → K h) ∧ (¬ l4 < 0 → zCv G d mX2_mark [vr 2 4, vi l4, vi l3] h (fun h16 => K h16))) ∧ (¬ (h 5 l4) = l1 → zCi G d mX2_addEdge [vr 2 4, vi l1, vi l2] h (fun x17 h18 => zR x17 ∧ (x17 < 0 → K h18) ∧ (¬ x17 < 0 → zCv G d mX2_mark [vr 2 4, vi x17, vi l3] h18 (fun h20 => K h20)))))) ∧ ((h 5 l4) = l1 → (0 ≤ l4 ∧ l4 < 160) ∧ zR (h 6 l4) ∧ zR l2 ∧ ((h 6 l4) = l2 → zR l4 ∧ (l4 < 0 → zCi G d mX2_addEdge [vr 2 4, vi l1, vi l2] h (fun x21 h22 => zR x21 ∧ (x21 < 0 → K h22) ∧ (¬ x21 < 0 → zCv G d mX2_mark [vr 2 4, vi x21, vi l3] h22 (fun h24 => K h24)))) ∧ (¬ l4 < 0 → (0 ≤ l4 ∧ l4 < 160) ∧ zR (h 5 l4) ∧ zR l1 ∧ ((h 5 l4) = l1 → zR l4 ∧ (l4 < 0 → K h) ∧ (¬ l4 < 0 → zCv G d mX2_mark [vr 2 4, vi l4, vi l3] h (fun h26 => K h26))) ∧ (¬ (h 5 l4) = l1 → zCi G d mX2_addEdge [vr 2 4, vi l1, vi l2] h (fun x27 h28 => zR x27 ∧ (x27 < 0 → K h28) ∧ (¬ x27 < 0 → zCv G d mX2_mark [vr 2 4, vi x27, vi l3] h28 (fun h30 => K h30)))))) ∧ (¬ (h 6 l4) = l2 → tX2_lead_8 G d K l1 l2 l3 (l4 + (-1)) h)))) : tX2_lead_8 G d K l1 l2 l3 l4 h := by
  unfold tX2_lead_8
  refine z_iload dX2_lead_8 rfl rfl ?_
  obtain ⟨r1, ka, kb⟩ := k
  refine z_if_lt (tgt := 41) dX2_lead_10 rfl r1 rfl ⟨fun q => ?_, fun q => ?_⟩
  · have k := ka q
    refine z_iload dX2_lead_41 rfl rfl ?_
    obtain ⟨r1, ka, kb⟩ := k
    refine z_if_lt (tgt := 57) dX2_lead_43 rfl r1 rfl ⟨fun q => ?_, fun q => ?_⟩
    · have k := ka q
      refine z_aload_n 0 dX2_lead_57 rfl rfl (Nat.le_of_ble_eq_true rfl) rfl ?_
      refine z_iload_n 1 dX2_lead_58 rfl rfl rfl ?_
      refine z_iload_n 2 dX2_lead_59 rfl rfl rfl ?_
      refine z_callVi vX2_addEdge kX2_91 dX2_lead_60 rfl (zRo_d d) (as := [vi l1, vi l2]) (rest := []) (Nat.le_of_ble_eq_true rfl) rfl rfl (zCi_mono (fun x1 h2 k => ?_) k)
      refine z_istore dX2_lead_63 (Nat.le_of_ble_eq_true rfl) (L' := [some (vr 2 4), some (vi l1), some (vi l2), some (vi l3), some (vi x1)]) rfl rfl ?_
      refine z_iload dX2_lead_65 rfl rfl ?_
      obtain ⟨r1, ka, kb⟩ := k
      refine z_if_lt (tgt := 77) dX2_lead_67 rfl r1 rfl ⟨fun q => ?_, fun q => ?_⟩
      · have k := ka q
        exact z_return rfl dX2_lead_77 ⟨rfl, k⟩
      · have k := kb q
        refine z_aload_n 0 dX2_lead_70 rfl rfl (Nat.le_of_ble_eq_true rfl) rfl ?_
        refine z_iload dX2_lead_71 rfl rfl ?_
        refine z_iload_n 3 dX2_lead_73 rfl rfl rfl ?_
        refine z_callVv vX2_mark kX2_88 dX2_lead_74 rfl (zRo_d d) (as := [vi x1, vi l3]) (rest := []) (Nat.le_of_ble_eq_true rfl) rfl rfl (zCv_mono (fun h4 k => ?_) k)
        exact z_return rfl dX2_lead_77 ⟨rfl, k⟩
    · have k := kb q
      refine z_aload_n 0 dX2_lead_46 rfl rfl (Nat.le_of_ble_eq_true rfl) rfl ?_
      refine z_getF 2 13 (x := 5) fX2_9 rfl dX2_lead_47 rfl rfl ?_
      refine z_iload dX2_lead_50 rfl rfl ?_
      obtain ⟨i9, k⟩ := k
      refine z_iald (x := (h 5 l4)) dX2_lead_52 (by rw [zl_5]; exact i9) rfl rfl ?_
      refine z_iload_n 1 dX2_lead_53 rfl rfl rfl ?_
      obtain ⟨r1, r2, ka, kb⟩ := k
      refine z_icmp_eq (tgt := 65) dX2_lead_54 rfl r1 r2 rfl ⟨fun q => ?_, fun q => ?_⟩
      · have k := ka q
        refine z_iload dX2_lead_65 rfl rfl ?_
        obtain ⟨r1, ka, kb⟩ := k
        refine z_if_lt (tgt := 77) dX2_lead_67 rfl r1 rfl ⟨fun q => ?_, fun q => ?_⟩
        · have k := ka q
          exact z_return rfl dX2_lead_77 ⟨rfl, k⟩
        · have k := kb q
          refine z_aload_n 0 dX2_lead_70 rfl rfl (Nat.le_of_ble_eq_true rfl) rfl ?_
          refine z_iload dX2_lead_71 rfl rfl ?_
          refine z_iload_n 3 dX2_lead_73 rfl rfl rfl ?_
          refine z_callVv vX2_mark kX2_88 dX2_lead_74 rfl (zRo_d d) (as := [vi l4, vi l3]) (rest := []) (Nat.le_of_ble_eq_true rfl) rfl rfl (zCv_mono (fun h6 k => ?_) k)
          exact z_return rfl dX2_lead_77 ⟨rfl, k⟩
      · have k := kb q
        refine z_aload_n 0 dX2_lead_57 rfl rfl (Nat.le_of_ble_eq_true rfl) rfl ?_
        refine z_iload_n 1 dX2_lead_58 rfl rfl rfl ?_
        refine z_iload_n 2 dX2_lead_59 rfl rfl rfl ?_
        refine z_callVi vX2_addEdge kX2_91 dX2_lead_60 rfl (zRo_d d) (as := [vi l1, vi l2]) (rest := []) (Nat.le_of_ble_eq_true rfl) rfl rfl (zCi_mono (fun x7 h8 k => ?_) k)
        refine z_istore dX2_lead_63 (Nat.le_of_ble_eq_true rfl) (L' := [some (vr 2 4), some (vi l1), some (vi l2), some (vi l3), some (vi x7)]) rfl rfl ?_
        refine z_iload dX2_lead_65 rfl rfl ?_
        obtain ⟨r1, ka, kb⟩ := k
        refine z_if_lt (tgt := 77) dX2_lead_67 rfl r1 rfl ⟨fun q => ?_, fun q => ?_⟩
        · have k := ka q
          exact z_return rfl dX2_lead_77 ⟨rfl, k⟩
        · have k := kb q
          refine z_aload_n 0 dX2_lead_70 rfl rfl (Nat.le_of_ble_eq_true rfl) rfl ?_
          refine z_iload dX2_lead_71 rfl rfl ?_
          refine z_iload_n 3 dX2_lead_73 rfl rfl rfl ?_
          refine z_callVv vX2_mark kX2_88 dX2_lead_74 rfl (zRo_d d) (as := [vi x7, vi l3]) (rest := []) (Nat.le_of_ble_eq_true rfl) rfl rfl (zCv_mono (fun h10 k => ?_) k)
          exact z_return rfl dX2_lead_77 ⟨rfl, k⟩
  · have k := kb q
    refine z_aload_n 0 dX2_lead_13 rfl rfl (Nat.le_of_ble_eq_true rfl) rfl ?_
    refine z_getF 2 13 (x := 5) fX2_9 rfl dX2_lead_14 rfl rfl ?_
    refine z_iload dX2_lead_17 rfl rfl ?_
    obtain ⟨i9, k⟩ := k
    refine z_iald (x := (h 5 l4)) dX2_lead_19 (by rw [zl_5]; exact i9) rfl rfl ?_
    refine z_iload_n 1 dX2_lead_20 rfl rfl rfl ?_
    obtain ⟨r1, r2, ka, kb⟩ := k
    refine z_icmp_ne (tgt := 41) dX2_lead_21 rfl r1 r2 rfl ⟨fun q => ?_, fun q => ?_⟩
    · have k := ka q
      refine z_iload dX2_lead_41 rfl rfl ?_
      obtain ⟨r1, ka, kb⟩ := k
      refine z_if_lt (tgt := 57) dX2_lead_43 rfl r1 rfl ⟨fun q => ?_, fun q => ?_⟩
      · have k := ka q
        refine z_aload_n 0 dX2_lead_57 rfl rfl (Nat.le_of_ble_eq_true rfl) rfl ?_
        refine z_iload_n 1 dX2_lead_58 rfl rfl rfl ?_
        refine z_iload_n 2 dX2_lead_59 rfl rfl rfl ?_
        refine z_callVi vX2_addEdge kX2_91 dX2_lead_60 rfl (zRo_d d) (as := [vi l1, vi l2]) (rest := []) (Nat.le_of_ble_eq_true rfl) rfl rfl (zCi_mono (fun x11 h12 k => ?_) k)
        refine z_istore dX2_lead_63 (Nat.le_of_ble_eq_true rfl) (L' := [some (vr 2 4), some (vi l1), some (vi l2), some (vi l3), some (vi x11)]) rfl rfl ?_
        refine z_iload dX2_lead_65 rfl rfl ?_
        obtain ⟨r1, ka, kb⟩ := k
        refine z_if_lt (tgt := 77) dX2_lead_67 rfl r1 rfl ⟨fun q => ?_, fun q => ?_⟩
        · have k := ka q
          exact z_return rfl dX2_lead_77 ⟨rfl, k⟩
        · have k := kb q
          refine z_aload_n 0 dX2_lead_70 rfl rfl (Nat.le_of_ble_eq_true rfl) rfl ?_
          refine z_iload dX2_lead_71 rfl rfl ?_
          refine z_iload_n 3 dX2_lead_73 rfl rfl rfl ?_
          refine z_callVv vX2_mark kX2_88 dX2_lead_74 rfl (zRo_d d) (as := [vi x11, vi l3]) (rest := []) (Nat.le_of_ble_eq_true rfl) rfl rfl (zCv_mono (fun h14 k => ?_) k)
          exact z_return rfl dX2_lead_77 ⟨rfl, k⟩
      · have k := kb q
        refine z_aload_n 0 dX2_lead_46 rfl rfl (Nat.le_of_ble_eq_true rfl) rfl ?_
        refine z_getF 2 13 (x := 5) fX2_9 rfl dX2_lead_47 rfl rfl ?_
        refine z_iload dX2_lead_50 rfl rfl ?_
        obtain ⟨i9, k⟩ := k
        refine z_iald (x := (h 5 l4)) dX2_lead_52 (by rw [zl_5]; exact i9) rfl rfl ?_
        refine z_iload_n 1 dX2_lead_53 rfl rfl rfl ?_
        obtain ⟨r1, r2, ka, kb⟩ := k
        refine z_icmp_eq (tgt := 65) dX2_lead_54 rfl r1 r2 rfl ⟨fun q => ?_, fun q => ?_⟩
        · have k := ka q
          refine z_iload dX2_lead_65 rfl rfl ?_
          obtain ⟨r1, ka, kb⟩ := k
          refine z_if_lt (tgt := 77) dX2_lead_67 rfl r1 rfl ⟨fun q => ?_, fun q => ?_⟩
          · have k := ka q
            exact z_return rfl dX2_lead_77 ⟨rfl, k⟩
          · have k := kb q
            refine z_aload_n 0 dX2_lead_70 rfl rfl (Nat.le_of_ble_eq_true rfl) rfl ?_
            refine z_iload dX2_lead_71 rfl rfl ?_
            refine z_iload_n 3 dX2_lead_73 rfl rfl rfl ?_
            refine z_callVv vX2_mark kX2_88 dX2_lead_74 rfl (zRo_d d) (as := [vi l4, vi l3]) (rest := []) (Nat.le_of_ble_eq_true rfl) rfl rfl (zCv_mono (fun h16 k => ?_) k)
            exact z_return rfl dX2_lead_77 ⟨rfl, k⟩
        · have k := kb q
          refine z_aload_n 0 dX2_lead_57 rfl rfl (Nat.le_of_ble_eq_true rfl) rfl ?_
          refine z_iload_n 1 dX2_lead_58 rfl rfl rfl ?_
          refine z_iload_n 2 dX2_lead_59 rfl rfl rfl ?_
          refine z_callVi vX2_addEdge kX2_91 dX2_lead_60 rfl (zRo_d d) (as := [vi l1, vi l2]) (rest := []) (Nat.le_of_ble_eq_true rfl) rfl rfl (zCi_mono (fun x17 h18 k => ?_) k)
          refine z_istore dX2_lead_63 (Nat.le_of_ble_eq_true rfl) (L' := [some (vr 2 4), some (vi l1), some (vi l2), some (vi l3), some (vi x17)]) rfl rfl ?_
          refine z_iload dX2_lead_65 rfl rfl ?_
          obtain ⟨r1, ka, kb⟩ := k
          refine z_if_lt (tgt := 77) dX2_lead_67 rfl r1 rfl ⟨fun q => ?_, fun q => ?_⟩
          · have k := ka q
            exact z_return rfl dX2_lead_77 ⟨rfl, k⟩
          · have k := kb q
            refine z_aload_n 0 dX2_lead_70 rfl rfl (Nat.le_of_ble_eq_true rfl) rfl ?_
            refine z_iload dX2_lead_71 rfl rfl ?_
            refine z_iload_n 3 dX2_lead_73 rfl rfl rfl ?_
            refine z_callVv vX2_mark kX2_88 dX2_lead_74 rfl (zRo_d d) (as := [vi x17, vi l3]) (rest := []) (Nat.le_of_ble_eq_true rfl) rfl rfl (zCv_mono (fun h20 k => ?_) k)
            exact z_return rfl dX2_lead_77 ⟨rfl, k⟩
    · have k := kb q
      refine z_aload_n 0 dX2_lead_24 rfl rfl (Nat.le_of_ble_eq_true rfl) rfl ?_
      refine z_getF 2 13 (x := 6) fX2_15 rfl dX2_lead_25 rfl rfl ?_
      refine z_iload dX2_lead_28 rfl rfl ?_
      obtain ⟨i9, k⟩ := k
      refine z_iald (x := (h 6 l4)) dX2_lead_30 (by rw [zl_6]; exact i9) rfl rfl ?_
      refine z_iload_n 2 dX2_lead_31 rfl rfl rfl ?_
      obtain ⟨r1, r2, ka, kb⟩ := k
      refine z_icmp_eq (tgt := 41) dX2_lead_32 rfl r1 r2 rfl ⟨fun q => ?_, fun q => ?_⟩
      · have k := ka q
        refine z_iload dX2_lead_41 rfl rfl ?_
        obtain ⟨r1, ka, kb⟩ := k
        refine z_if_lt (tgt := 57) dX2_lead_43 rfl r1 rfl ⟨fun q => ?_, fun q => ?_⟩
        · have k := ka q
          refine z_aload_n 0 dX2_lead_57 rfl rfl (Nat.le_of_ble_eq_true rfl) rfl ?_
          refine z_iload_n 1 dX2_lead_58 rfl rfl rfl ?_
          refine z_iload_n 2 dX2_lead_59 rfl rfl rfl ?_
          refine z_callVi vX2_addEdge kX2_91 dX2_lead_60 rfl (zRo_d d) (as := [vi l1, vi l2]) (rest := []) (Nat.le_of_ble_eq_true rfl) rfl rfl (zCi_mono (fun x21 h22 k => ?_) k)
          refine z_istore dX2_lead_63 (Nat.le_of_ble_eq_true rfl) (L' := [some (vr 2 4), some (vi l1), some (vi l2), some (vi l3), some (vi x21)]) rfl rfl ?_
          refine z_iload dX2_lead_65 rfl rfl ?_
          obtain ⟨r1, ka, kb⟩ := k
          refine z_if_lt (tgt := 77) dX2_lead_67 rfl r1 rfl ⟨fun q => ?_, fun q => ?_⟩
          · have k := ka q
            exact z_return rfl dX2_lead_77 ⟨rfl, k⟩
          · have k := kb q
            refine z_aload_n 0 dX2_lead_70 rfl rfl (Nat.le_of_ble_eq_true rfl) rfl ?_
            refine z_iload dX2_lead_71 rfl rfl ?_
            refine z_iload_n 3 dX2_lead_73 rfl rfl rfl ?_
            refine z_callVv vX2_mark kX2_88 dX2_lead_74 rfl (zRo_d d) (as := [vi x21, vi l3]) (rest := []) (Nat.le_of_ble_eq_true rfl) rfl rfl (zCv_mono (fun h24 k => ?_) k)
            exact z_return rfl dX2_lead_77 ⟨rfl, k⟩
        · have k := kb q
          refine z_aload_n 0 dX2_lead_46 rfl rfl (Nat.le_of_ble_eq_true rfl) rfl ?_
          refine z_getF 2 13 (x := 5) fX2_9 rfl dX2_lead_47 rfl rfl ?_
          refine z_iload dX2_lead_50 rfl rfl ?_
          obtain ⟨i9, k⟩ := k
          refine z_iald (x := (h 5 l4)) dX2_lead_52 (by rw [zl_5]; exact i9) rfl rfl ?_
          refine z_iload_n 1 dX2_lead_53 rfl rfl rfl ?_
          obtain ⟨r1, r2, ka, kb⟩ := k
          refine z_icmp_eq (tgt := 65) dX2_lead_54 rfl r1 r2 rfl ⟨fun q => ?_, fun q => ?_⟩
          · have k := ka q
            refine z_iload dX2_lead_65 rfl rfl ?_
            obtain ⟨r1, ka, kb⟩ := k
            refine z_if_lt (tgt := 77) dX2_lead_67 rfl r1 rfl ⟨fun q => ?_, fun q => ?_⟩
            · have k := ka q
              exact z_return rfl dX2_lead_77 ⟨rfl, k⟩
            · have k := kb q
              refine z_aload_n 0 dX2_lead_70 rfl rfl (Nat.le_of_ble_eq_true rfl) rfl ?_
              refine z_iload dX2_lead_71 rfl rfl ?_
              refine z_iload_n 3 dX2_lead_73 rfl rfl rfl ?_
              refine z_callVv vX2_mark kX2_88 dX2_lead_74 rfl (zRo_d d) (as := [vi l4, vi l3]) (rest := []) (Nat.le_of_ble_eq_true rfl) rfl rfl (zCv_mono (fun h26 k => ?_) k)
              exact z_return rfl dX2_lead_77 ⟨rfl, k⟩
          · have k := kb q
            refine z_aload_n 0 dX2_lead_57 rfl rfl (Nat.le_of_ble_eq_true rfl) rfl ?_
            refine z_iload_n 1 dX2_lead_58 rfl rfl rfl ?_
            refine z_iload_n 2 dX2_lead_59 rfl rfl rfl ?_
            refine z_callVi vX2_addEdge kX2_91 dX2_lead_60 rfl (zRo_d d) (as := [vi l1, vi l2]) (rest := []) (Nat.le_of_ble_eq_true rfl) rfl rfl (zCi_mono (fun x27 h28 k => ?_) k)
            refine z_istore dX2_lead_63 (Nat.le_of_ble_eq_true rfl) (L' := [some (vr 2 4), some (vi l1), some (vi l2), some (vi l3), some (vi x27)]) rfl rfl ?_
            refine z_iload dX2_lead_65 rfl rfl ?_
            obtain ⟨r1, ka, kb⟩ := k
            refine z_if_lt (tgt := 77) dX2_lead_67 rfl r1 rfl ⟨fun q => ?_, fun q => ?_⟩
            · have k := ka q
              exact z_return rfl dX2_lead_77 ⟨rfl, k⟩
            · have k := kb q
              refine z_aload_n 0 dX2_lead_70 rfl rfl (Nat.le_of_ble_eq_true rfl) rfl ?_
              refine z_iload dX2_lead_71 rfl rfl ?_
              refine z_iload_n 3 dX2_lead_73 rfl rfl rfl ?_
              refine z_callVv vX2_mark kX2_88 dX2_lead_74 rfl (zRo_d d) (as := [vi x27, vi l3]) (rest := []) (Nat.le_of_ble_eq_true rfl) rfl rfl (zCv_mono (fun h30 k => ?_) k)
              exact z_return rfl dX2_lead_77 ⟨rfl, k⟩
      · have k := kb q
        refine z_iinc dX2_lead_35 rfl (Nat.le_of_ble_eq_true rfl) (L' := [some (vr 2 4), some (vi l1), some (vi l2), some (vi l3), some (vi (l4 + (-1)))]) rfl rfl ?_
        refine z_goto (tgt := 8) dX2_lead_38 rfl ?_
        exact z_sub (show zsub _ _ from ⟨rfl, ⟨rfl, ⟨rfl, ⟨rfl, ⟨rfl, trivial⟩⟩⟩⟩⟩) k
theorem eX2_lead {G : zG} {d : Nat} {K : zH → Prop} {l1 : Int} {l2 : Int} {l3 : Int} {h : zH} (k : tX2_lead_0 G d K l1 l2 l3 h) : zCv G (d + 1) mX2_lead [vr 2 4, vi l1, vi l2, vi l3] h K := z_entry (by decide +kernel) (Nat.le_of_ble_eq_true rfl) rfl k
