def tJ13_bitCount_95d88_0 (G : zG) (d : Nat) (K : Int → zH → Prop) (l0 : Int) (h : zH) : Prop := zTi G d mJ13_bitCount_95d88 K 0 [some (vl l0), none] [] h
theorem bJ13_bitCount_95d88_0 {G : zG} {d : Nat} {K : Int → zH → Prop} {l0 : Int} {h : zH} (k : zRL ((((zland (((zland (l0 - (zland (zlushr l0 1) 6148914691236517205)) 3689348814741910323) + (zland (zlushr (l0 - (zland (zlushr l0 1) 6148914691236517205)) 2) 3689348814741910323)) + (zlushr ((zland (l0 - (zland (zlushr l0 1) 6148914691236517205)) 3689348814741910323) + (zland (zlushr (l0 - (zland (zlushr l0 1) 6148914691236517205)) 2) 3689348814741910323)) 4)) 1085102592571150095) + (zlushr (zland (((zland (l0 - (zland (zlushr l0 1) 6148914691236517205)) 3689348814741910323) + (zland (zlushr (l0 - (zland (zlushr l0 1) 6148914691236517205)) 2) 3689348814741910323)) + (zlushr ((zland (l0 - (zland (zlushr l0 1) 6148914691236517205)) 3689348814741910323) + (zland (zlushr (l0 - (zland (zlushr l0 1) 6148914691236517205)) 2) 3689348814741910323)) 4)) 1085102592571150095) 8)) + (zlushr ((zland (((zland (l0 - (zland (zlushr l0 1) 6148914691236517205)) 3689348814741910323) + (zland (zlushr (l0 - (zland (zlushr l0 1) 6148914691236517205)) 2) 3689348814741910323)) + (zlushr ((zland (l0 - (zland (zlushr l0 1) 6148914691236517205)) 3689348814741910323) + (zland (zlushr (l0 - (zland (zlushr l0 1) 6148914691236517205)) 2) 3689348814741910323)) 4)) 1085102592571150095) + (zlushr (zland (((zland (l0 - (zland (zlushr l0 1) 6148914691236517205)) 3689348814741910323) + (zland (zlushr (l0 - (zland (zlushr l0 1) 6148914691236517205)) 2) 3689348814741910323)) + (zlushr ((zland (l0 - (zland (zlushr l0 1) 6148914691236517205)) 3689348814741910323) + (zland (zlushr (l0 - (zland (zlushr l0 1) 6148914691236517205)) 2) 3689348814741910323)) 4)) 1085102592571150095) 8)) 16)) + (zlushr (((zland (((zland (l0 - (zland (zlushr l0 1) 6148914691236517205)) 3689348814741910323) + (zland (zlushr (l0 - (zland (zlushr l0 1) 6148914691236517205)) 2) 3689348814741910323)) + (zlushr ((zland (l0 - (zland (zlushr l0 1) 6148914691236517205)) 3689348814741910323) + (zland (zlushr (l0 - (zland (zlushr l0 1) 6148914691236517205)) 2) 3689348814741910323)) 4)) 1085102592571150095) + (zlushr (zland (((zland (l0 - (zland (zlushr l0 1) 6148914691236517205)) 3689348814741910323) + (zland (zlushr (l0 - (zland (zlushr l0 1) 6148914691236517205)) 2) 3689348814741910323)) + (zlushr ((zland (l0 - (zland (zlushr l0 1) 6148914691236517205)) 3689348814741910323) + (zland (zlushr (l0 - (zland (zlushr l0 1) 6148914691236517205)) 2) 3689348814741910323)) 4)) 1085102592571150095) 8)) + (zlushr ((zland (((zland (l0 - (zland (zlushr l0 1) 6148914691236517205)) 3689348814741910323) + (zland (zlushr (l0 - (zland (zlushr l0 1) 6148914691236517205)) 2) 3689348814741910323)) + (zlushr ((zland (l0 - (zland (zlushr l0 1) 6148914691236517205)) 3689348814741910323) + (zland (zlushr (l0 - (zland (zlushr l0 1) 6148914691236517205)) 2) 3689348814741910323)) 4)) 1085102592571150095) + (zlushr (zland (((zland (l0 - (zland (zlushr l0 1) 6148914691236517205)) 3689348814741910323) + (zland (zlushr (l0 - (zland (zlushr l0 1) 6148914691236517205)) 2) 3689348814741910323)) + (zlushr ((zland (l0 - (zland (zlushr l0 1) 6148914691236517205)) 3689348814741910323) + (zland (zlushr (l0 - (zland (zlushr l0 1) 6148914691236517205)) 2) 3689348814741910323)) 4)) 1085102592571150095) 8)) 16)) 32)) ∧ K (ziand ((((zland (((zland (l0 - (zland (zlushr l0 1) 6148914691236517205)) 3689348814741910323) + (zland (zlushr (l0 - (zland (zlushr l0 1) 6148914691236517205)) 2) 3689348814741910323)) + (zlushr ((zland (l0 - (zland (zlushr l0 1) 6148914691236517205)) 3689348814741910323) + (zland (zlushr (l0 - (zland (zlushr l0 1) 6148914691236517205)) 2) 3689348814741910323)) 4)) 1085102592571150095) + (zlushr (zland (((zland (l0 - (zland (zlushr l0 1) 6148914691236517205)) 3689348814741910323) + (zland (zlushr (l0 - (zland (zlushr l0 1) 6148914691236517205)) 2) 3689348814741910323)) + (zlushr ((zland (l0 - (zland (zlushr l0 1) 6148914691236517205)) 3689348814741910323) + (zland (zlushr (l0 - (zland (zlushr l0 1) 6148914691236517205)) 2) 3689348814741910323)) 4)) 1085102592571150095) 8)) + (zlushr ((zland (((zland (l0 - (zland (zlushr l0 1) 6148914691236517205)) 3689348814741910323) + (zland (zlushr (l0 - (zland (zlushr l0 1) 6148914691236517205)) 2) 3689348814741910323)) + (zlushr ((zland (l0 - (zland (zlushr l0 1) 6148914691236517205)) 3689348814741910323) + (zland (zlushr (l0 - (zland (zlushr l0 1) 6148914691236517205)) 2) 3689348814741910323)) 4)) 1085102592571150095) + (zlushr (zland (((zland (l0 - (zland (zlushr l0 1) 6148914691236517205)) 3689348814741910323) + (zland (zlushr (l0 - (zland (zlushr l0 1) 6148914691236517205)) 2) 3689348814741910323)) + (zlushr ((zland (l0 - (zland (zlushr l0 1) 6148914691236517205)) 3689348814741910323) + (zland (zlushr (l0 - (zland (zlushr l0 1) 6148914691236517205)) 2) 3689348814741910323)) 4)) 1085102592571150095) 8)) 16)) + (zlushr (((zland (((zland (l0 - (zland (zlushr l0 1) 6148914691236517205)) 3689348814741910323) + (zland (zlushr (l0 - (zland (zlushr l0 1) 6148914691236517205)) 2) 3689348814741910323)) + (zlushr ((zland (l0 - (zland (zlushr l0 1) 6148914691236517205)) 3689348814741910323) + (zland (zlushr (l0 - (zland (zlushr l0 1) 6148914691236517205)) 2) 3689348814741910323)) 4)) 1085102592571150095) + (zlushr (zland (((zland (l0 - (zland (zlushr l0 1) 6148914691236517205)) 3689348814741910323) + (zland (zlushr (l0 - (zland (zlushr l0 1) 6148914691236517205)) 2) 3689348814741910323)) + (zlushr ((zland (l0 - (zland (zlushr l0 1) 6148914691236517205)) 3689348814741910323) + (zland (zlushr (l0 - (zland (zlushr l0 1) 6148914691236517205)) 2) 3689348814741910323)) 4)) 1085102592571150095) 8)) + (zlushr ((zland (((zland (l0 - (zland (zlushr l0 1) 6148914691236517205)) 3689348814741910323) + (zland (zlushr (l0 - (zland (zlushr l0 1) 6148914691236517205)) 2) 3689348814741910323)) + (zlushr ((zland (l0 - (zland (zlushr l0 1) 6148914691236517205)) 3689348814741910323) + (zland (zlushr (l0 - (zland (zlushr l0 1) 6148914691236517205)) 2) 3689348814741910323)) 4)) 1085102592571150095) + (zlushr (zland (((zland (l0 - (zland (zlushr l0 1) 6148914691236517205)) 3689348814741910323) + (zland (zlushr (l0 - (zland (zlushr l0 1) 6148914691236517205)) 2) 3689348814741910323)) + (zlushr ((zland (l0 - (zland (zlushr l0 1) 6148914691236517205)) 3689348814741910323) + (zland (zlushr (l0 - (zland (zlushr l0 1) 6148914691236517205)) 2) 3689348814741910323)) 4)) 1085102592571150095) 8)) 16)) 32)) 127) h) : tJ13_bitCount_95d88_0 G d K l0 h := by
  unfold tJ13_bitCount_95d88_0
  refine z_lload_n 0 dJ13_bitCount_95d88_0 rfl rfl rfl ?_
  refine z_lload_n 0 dJ13_bitCount_95d88_1 rfl rfl rfl ?_
  refine z_iconst dJ13_bitCount_95d88_2 rfl ?_
  refine z_lushr dJ13_bitCount_95d88_3 rfl ?_
  refine z_ldc2 (x := 6148914691236517205) cJ13_314 rfl dJ13_bitCount_95d88_4 rfl ?_
  refine z_land dJ13_bitCount_95d88_7 rfl ?_
  refine z_lsub dJ13_bitCount_95d88_8 rfl ?_
  refine z_lstore_n 0 dJ13_bitCount_95d88_9 rfl (Nat.le_of_ble_eq_true rfl) (L' := [some (vl (l0 - (zland (zlushr l0 1) 6148914691236517205))), none]) rfl rfl ?_
  refine z_lload_n 0 dJ13_bitCount_95d88_10 rfl rfl rfl ?_
  refine z_ldc2 (x := 3689348814741910323) cJ13_316 rfl dJ13_bitCount_95d88_11 rfl ?_
  refine z_land dJ13_bitCount_95d88_14 rfl ?_
  refine z_lload_n 0 dJ13_bitCount_95d88_15 rfl rfl rfl ?_
  refine z_iconst dJ13_bitCount_95d88_16 rfl ?_
  refine z_lushr dJ13_bitCount_95d88_17 rfl ?_
  refine z_ldc2 (x := 3689348814741910323) cJ13_316 rfl dJ13_bitCount_95d88_18 rfl ?_
  refine z_land dJ13_bitCount_95d88_21 rfl ?_
  refine z_ladd dJ13_bitCount_95d88_22 rfl ?_
  refine z_lstore_n 0 dJ13_bitCount_95d88_23 rfl (Nat.le_of_ble_eq_true rfl) (L' := [some (vl ((zland (l0 - (zland (zlushr l0 1) 6148914691236517205)) 3689348814741910323) + (zland (zlushr (l0 - (zland (zlushr l0 1) 6148914691236517205)) 2) 3689348814741910323))), none]) rfl rfl ?_
  refine z_lload_n 0 dJ13_bitCount_95d88_24 rfl rfl rfl ?_
  refine z_lload_n 0 dJ13_bitCount_95d88_25 rfl rfl rfl ?_
  refine z_iconst dJ13_bitCount_95d88_26 rfl ?_
  refine z_lushr dJ13_bitCount_95d88_27 rfl ?_
  refine z_ladd dJ13_bitCount_95d88_28 rfl ?_
  refine z_ldc2 (x := 1085102592571150095) cJ13_318 rfl dJ13_bitCount_95d88_29 rfl ?_
  refine z_land dJ13_bitCount_95d88_32 rfl ?_
  refine z_lstore_n 0 dJ13_bitCount_95d88_33 rfl (Nat.le_of_ble_eq_true rfl) (L' := [some (vl (zland (((zland (l0 - (zland (zlushr l0 1) 6148914691236517205)) 3689348814741910323) + (zland (zlushr (l0 - (zland (zlushr l0 1) 6148914691236517205)) 2) 3689348814741910323)) + (zlushr ((zland (l0 - (zland (zlushr l0 1) 6148914691236517205)) 3689348814741910323) + (zland (zlushr (l0 - (zland (zlushr l0 1) 6148914691236517205)) 2) 3689348814741910323)) 4)) 1085102592571150095)), none]) rfl rfl ?_
  refine z_lload_n 0 dJ13_bitCount_95d88_34 rfl rfl rfl ?_
  refine z_lload_n 0 dJ13_bitCount_95d88_35 rfl rfl rfl ?_
  refine z_bipush dJ13_bitCount_95d88_36 rfl rfl ?_
  refine z_lushr dJ13_bitCount_95d88_38 rfl ?_
  refine z_ladd dJ13_bitCount_95d88_39 rfl ?_
  refine z_lstore_n 0 dJ13_bitCount_95d88_40 rfl (Nat.le_of_ble_eq_true rfl) (L' := [some (vl ((zland (((zland (l0 - (zland (zlushr l0 1) 6148914691236517205)) 3689348814741910323) + (zland (zlushr (l0 - (zland (zlushr l0 1) 6148914691236517205)) 2) 3689348814741910323)) + (zlushr ((zland (l0 - (zland (zlushr l0 1) 6148914691236517205)) 3689348814741910323) + (zland (zlushr (l0 - (zland (zlushr l0 1) 6148914691236517205)) 2) 3689348814741910323)) 4)) 1085102592571150095) + (zlushr (zland (((zland (l0 - (zland (zlushr l0 1) 6148914691236517205)) 3689348814741910323) + (zland (zlushr (l0 - (zland (zlushr l0 1) 6148914691236517205)) 2) 3689348814741910323)) + (zlushr ((zland (l0 - (zland (zlushr l0 1) 6148914691236517205)) 3689348814741910323) + (zland (zlushr (l0 - (zland (zlushr l0 1) 6148914691236517205)) 2) 3689348814741910323)) 4)) 1085102592571150095) 8))), none]) rfl rfl ?_
  refine z_lload_n 0 dJ13_bitCount_95d88_41 rfl rfl rfl ?_
  refine z_lload_n 0 dJ13_bitCount_95d88_42 rfl rfl rfl ?_
  refine z_bipush dJ13_bitCount_95d88_43 rfl rfl ?_
  refine z_lushr dJ13_bitCount_95d88_45 rfl ?_
  refine z_ladd dJ13_bitCount_95d88_46 rfl ?_
  refine z_lstore_n 0 dJ13_bitCount_95d88_47 rfl (Nat.le_of_ble_eq_true rfl) (L' := [some (vl (((zland (((zland (l0 - (zland (zlushr l0 1) 6148914691236517205)) 3689348814741910323) + (zland (zlushr (l0 - (zland (zlushr l0 1) 6148914691236517205)) 2) 3689348814741910323)) + (zlushr ((zland (l0 - (zland (zlushr l0 1) 6148914691236517205)) 3689348814741910323) + (zland (zlushr (l0 - (zland (zlushr l0 1) 6148914691236517205)) 2) 3689348814741910323)) 4)) 1085102592571150095) + (zlushr (zland (((zland (l0 - (zland (zlushr l0 1) 6148914691236517205)) 3689348814741910323) + (zland (zlushr (l0 - (zland (zlushr l0 1) 6148914691236517205)) 2) 3689348814741910323)) + (zlushr ((zland (l0 - (zland (zlushr l0 1) 6148914691236517205)) 3689348814741910323) + (zland (zlushr (l0 - (zland (zlushr l0 1) 6148914691236517205)) 2) 3689348814741910323)) 4)) 1085102592571150095) 8)) + (zlushr ((zland (((zland (l0 - (zland (zlushr l0 1) 6148914691236517205)) 3689348814741910323) + (zland (zlushr (l0 - (zland (zlushr l0 1) 6148914691236517205)) 2) 3689348814741910323)) + (zlushr ((zland (l0 - (zland (zlushr l0 1) 6148914691236517205)) 3689348814741910323) + (zland (zlushr (l0 - (zland (zlushr l0 1) 6148914691236517205)) 2) 3689348814741910323)) 4)) 1085102592571150095) + (zlushr (zland (((zland (l0 - (zland (zlushr l0 1) 6148914691236517205)) 3689348814741910323) + (zland (zlushr (l0 - (zland (zlushr l0 1) 6148914691236517205)) 2) 3689348814741910323)) + (zlushr ((zland (l0 - (zland (zlushr l0 1) 6148914691236517205)) 3689348814741910323) + (zland (zlushr (l0 - (zland (zlushr l0 1) 6148914691236517205)) 2) 3689348814741910323)) 4)) 1085102592571150095) 8)) 16))), none]) rfl rfl ?_
  refine z_lload_n 0 dJ13_bitCount_95d88_48 rfl rfl rfl ?_
  refine z_lload_n 0 dJ13_bitCount_95d88_49 rfl rfl rfl ?_
  refine z_bipush dJ13_bitCount_95d88_50 rfl rfl ?_
  refine z_lushr dJ13_bitCount_95d88_52 rfl ?_
  refine z_ladd dJ13_bitCount_95d88_53 rfl ?_
  refine z_lstore_n 0 dJ13_bitCount_95d88_54 rfl (Nat.le_of_ble_eq_true rfl) (L' := [some (vl ((((zland (((zland (l0 - (zland (zlushr l0 1) 6148914691236517205)) 3689348814741910323) + (zland (zlushr (l0 - (zland (zlushr l0 1) 6148914691236517205)) 2) 3689348814741910323)) + (zlushr ((zland (l0 - (zland (zlushr l0 1) 6148914691236517205)) 3689348814741910323) + (zland (zlushr (l0 - (zland (zlushr l0 1) 6148914691236517205)) 2) 3689348814741910323)) 4)) 1085102592571150095) + (zlushr (zland (((zland (l0 - (zland (zlushr l0 1) 6148914691236517205)) 3689348814741910323) + (zland (zlushr (l0 - (zland (zlushr l0 1) 6148914691236517205)) 2) 3689348814741910323)) + (zlushr ((zland (l0 - (zland (zlushr l0 1) 6148914691236517205)) 3689348814741910323) + (zland (zlushr (l0 - (zland (zlushr l0 1) 6148914691236517205)) 2) 3689348814741910323)) 4)) 1085102592571150095) 8)) + (zlushr ((zland (((zland (l0 - (zland (zlushr l0 1) 6148914691236517205)) 3689348814741910323) + (zland (zlushr (l0 - (zland (zlushr l0 1) 6148914691236517205)) 2) 3689348814741910323)) + (zlushr ((zland (l0 - (zland (zlushr l0 1) 6148914691236517205)) 3689348814741910323) + (zland (zlushr (l0 - (zland (zlushr l0 1) 6148914691236517205)) 2) 3689348814741910323)) 4)) 1085102592571150095) + (zlushr (zland (((zland (l0 - (zland (zlushr l0 1) 6148914691236517205)) 3689348814741910323) + (zland (zlushr (l0 - (zland (zlushr l0 1) 6148914691236517205)) 2) 3689348814741910323)) + (zlushr ((zland (l0 - (zland (zlushr l0 1) 6148914691236517205)) 3689348814741910323) + (zland (zlushr (l0 - (zland (zlushr l0 1) 6148914691236517205)) 2) 3689348814741910323)) 4)) 1085102592571150095) 8)) 16)) + (zlushr (((zland (((zland (l0 - (zland (zlushr l0 1) 6148914691236517205)) 3689348814741910323) + (zland (zlushr (l0 - (zland (zlushr l0 1) 6148914691236517205)) 2) 3689348814741910323)) + (zlushr ((zland (l0 - (zland (zlushr l0 1) 6148914691236517205)) 3689348814741910323) + (zland (zlushr (l0 - (zland (zlushr l0 1) 6148914691236517205)) 2) 3689348814741910323)) 4)) 1085102592571150095) + (zlushr (zland (((zland (l0 - (zland (zlushr l0 1) 6148914691236517205)) 3689348814741910323) + (zland (zlushr (l0 - (zland (zlushr l0 1) 6148914691236517205)) 2) 3689348814741910323)) + (zlushr ((zland (l0 - (zland (zlushr l0 1) 6148914691236517205)) 3689348814741910323) + (zland (zlushr (l0 - (zland (zlushr l0 1) 6148914691236517205)) 2) 3689348814741910323)) 4)) 1085102592571150095) 8)) + (zlushr ((zland (((zland (l0 - (zland (zlushr l0 1) 6148914691236517205)) 3689348814741910323) + (zland (zlushr (l0 - (zland (zlushr l0 1) 6148914691236517205)) 2) 3689348814741910323)) + (zlushr ((zland (l0 - (zland (zlushr l0 1) 6148914691236517205)) 3689348814741910323) + (zland (zlushr (l0 - (zland (zlushr l0 1) 6148914691236517205)) 2) 3689348814741910323)) 4)) 1085102592571150095) + (zlushr (zland (((zland (l0 - (zland (zlushr l0 1) 6148914691236517205)) 3689348814741910323) + (zland (zlushr (l0 - (zland (zlushr l0 1) 6148914691236517205)) 2) 3689348814741910323)) + (zlushr ((zland (l0 - (zland (zlushr l0 1) 6148914691236517205)) 3689348814741910323) + (zland (zlushr (l0 - (zland (zlushr l0 1) 6148914691236517205)) 2) 3689348814741910323)) 4)) 1085102592571150095) 8)) 16)) 32))), none]) rfl rfl ?_
  refine z_lload_n 0 dJ13_bitCount_95d88_55 rfl rfl rfl ?_
  obtain ⟨r9, k⟩ := k
  refine z_l2i dJ13_bitCount_95d88_56 r9 rfl ?_
  refine z_bipush dJ13_bitCount_95d88_57 rfl rfl ?_
  refine z_iand dJ13_bitCount_95d88_59 rfl ?_
  exact z_ireturn rfl dJ13_bitCount_95d88_60 ⟨_, rfl, k⟩
theorem eJ13_bitCount_95d88 {G : zG} {d : Nat} {K : Int → zH → Prop} {l0 : Int} {h : zH} (k : tJ13_bitCount_95d88_0 G d K l0 h) : zCi G d mJ13_bitCount_95d88 [vl l0] h K := z_entry (by decide +kernel) (Nat.le_of_ble_eq_true rfl) rfl k
def tJ0_length_8abf5_0 (G : zG) (d : Nat) (K : Int → zH → Prop) (l0 : Int) (h : zH) : Prop := zTi G (d + 1) mJ0_length_8abf5 K 0 [some ((40, l0))] [] h
theorem bJ0_length_8abf5_0 {G : zG} {d : Nat} {K : Int → zH → Prop} {l0 : Int} {h : zH} (k : zCi G d mJ0_coder_7d493 [(40, l0)] h (fun x1 h2 => K (zishr (zsl l0) x1) h2)) : tJ0_length_8abf5_0 G d K l0 h := by
  unfold tJ0_length_8abf5_0
  refine z_aload_n 0 dJ0_length_8abf5_0 rfl rfl (Nat.le_of_ble_eq_true rfl) rfl ?_
  refine z_sval qJ0_9 dJ0_length_8abf5_1 rfl ?_
  refine z_slb dJ0_length_8abf5_4 rfl rfl ?_
  refine z_aload_n 0 dJ0_length_8abf5_5 rfl rfl (Nat.le_of_ble_eq_true rfl) rfl ?_
  refine z_callTi vJ0_coder_7d493 kJ0_335 dJ0_length_8abf5_6 rfl (zRo_d d) (as := []) (rest := [vi (zsl l0)]) (Nat.le_of_ble_eq_true rfl) rfl rfl (zCi_mono (fun x1 h2 k => ?_) k)
  refine z_ishr dJ0_length_8abf5_9 rfl ?_
  exact z_ireturn rfl dJ0_length_8abf5_10 ⟨_, rfl, k⟩
theorem eJ0_length_8abf5 {G : zG} {d : Nat} {K : Int → zH → Prop} {l0 : Int} {h : zH} (k : tJ0_length_8abf5_0 G d K l0 h) : zCi G (d + 1) mJ0_length_8abf5 [(40, l0)] h K := z_entry (by decide +kernel) (Nat.le_of_ble_eq_true rfl) rfl k
def tJ0_charAt_5068e_0 (G : zG) (d : Nat) (K : Int → zH → Prop) (l0 : Int) (l1 : Int) (h : zH) : Prop := zTi G (d + 1) mJ0_charAt_5068e K 0 [some ((40, l0)), some (vi l1)] [] h
theorem bJ0_charAt_5068e_0 {G : zG} {d : Nat} {K : Int → zH → Prop} {l0 : Int} {l1 : Int} {h : zH} (k : zCb G d mJ0_isLatin1_aae02 [(40, l0)] h (fun x1 h2 => (x1 = false → False) ∧ (x1 = true → zCi G d mJ1_charAt_3b067 [(42, l0), vi l1] h2 (fun x3 h4 => (narrow .char (.int (Int32.ofInt x3)) = .int (Int32.ofInt x3)) ∧ K x3 h4)))) : tJ0_charAt_5068e_0 G d K l0 l1 h := by
  unfold tJ0_charAt_5068e_0
  refine z_aload_n 0 dJ0_charAt_5068e_0 rfl rfl (Nat.le_of_ble_eq_true rfl) rfl ?_
  refine z_callTb vJ0_isLatin1_aae02 kJ0_492 dJ0_charAt_5068e_1 rfl (zRo_d d) (as := []) (rest := []) (Nat.le_of_ble_eq_true rfl) rfl rfl (zCb_mono (fun x1 h2 k => ?_) k)
  obtain ⟨ka, kb⟩ := k
  refine z_ifb_eq (tgt := 16) dJ0_charAt_5068e_4 rfl rfl ⟨fun q => ?_, fun q => ?_⟩
  · have k := ka q
    refine z_aload_n 0 dJ0_charAt_5068e_16 rfl rfl (Nat.le_of_ble_eq_true rfl) rfl ?_
    refine z_sval qJ0_9 dJ0_charAt_5068e_17 rfl ?_
    refine z_iload_n 1 dJ0_charAt_5068e_20 rfl rfl rfl ?_
    exact k.elim
  · have k := kb q
    refine z_aload_n 0 dJ0_charAt_5068e_7 rfl rfl (Nat.le_of_ble_eq_true rfl) rfl ?_
    refine z_sval qJ0_9 dJ0_charAt_5068e_8 rfl ?_
    refine z_iload_n 1 dJ0_charAt_5068e_11 rfl rfl rfl ?_
    refine z_callSi sJ1_charAt_3b067 kJ0_495 dJ0_charAt_5068e_12 rfl (zRo_d d) (as := [(42, l0), vi l1]) (rest := []) (Nat.le_of_ble_eq_true rfl) rfl rfl (zCi_mono (fun x3 h4 k => ?_) k)
    obtain ⟨n9, k⟩ := k
    exact z_nreturn rfl n9 dJ0_charAt_5068e_15 ⟨_, rfl, k⟩
theorem eJ0_charAt_5068e {G : zG} {d : Nat} {K : Int → zH → Prop} {l0 : Int} {l1 : Int} {h : zH} (k : tJ0_charAt_5068e_0 G d K l0 l1 h) : zCi G (d + 1) mJ0_charAt_5068e [(40, l0), vi l1] h K := z_entry (by decide +kernel) (Nat.le_of_ble_eq_true rfl) rfl k
def tJ0_indexOf_0f7a4_0 (G : zG) (d : Nat) (K : Int → zH → Prop) (l0 : Int) (l1 : Int) (h : zH) : Prop := zTi G (d + 1) mJ0_indexOf_0f7a4 K 0 [some ((40, l0)), some (vi l1)] [] h
theorem bJ0_indexOf_0f7a4_0 {G : zG} {d : Nat} {K : Int → zH → Prop} {l0 : Int} {l1 : Int} {h : zH} (k : zCi G d mJ0_indexOf_7cf53 [(40, l0), vi l1, vi 0] h (fun x1 h2 => K x1 h2)) : tJ0_indexOf_0f7a4_0 G d K l0 l1 h := by
  unfold tJ0_indexOf_0f7a4_0
  refine z_aload_n 0 dJ0_indexOf_0f7a4_0 rfl rfl (Nat.le_of_ble_eq_true rfl) rfl ?_
  refine z_iload_n 1 dJ0_indexOf_0f7a4_1 rfl rfl rfl ?_
  refine z_iconst dJ0_indexOf_0f7a4_2 rfl ?_
  refine z_callTi vJ0_indexOf_7cf53 kJ0_633 dJ0_indexOf_0f7a4_3 rfl (zRo_d d) (as := [vi l1, vi 0]) (rest := []) (Nat.le_of_ble_eq_true rfl) rfl rfl (zCi_mono (fun x1 h2 k => ?_) k)
  exact z_ireturn rfl dJ0_indexOf_0f7a4_6 ⟨_, rfl, k⟩
theorem eJ0_indexOf_0f7a4 {G : zG} {d : Nat} {K : Int → zH → Prop} {l0 : Int} {l1 : Int} {h : zH} (k : tJ0_indexOf_0f7a4_0 G d K l0 l1 h) : zCi G (d + 1) mJ0_indexOf_0f7a4 [(40, l0), vi l1] h K := z_entry (by decide +kernel) (Nat.le_of_ble_eq_true rfl) rfl k
def tJ0_indexOf_7cf53_0 (G : zG) (d : Nat) (K : Int → zH → Prop) (l0 : Int) (l1 : Int) (l2 : Int) (h : zH) : Prop := zTi G (d + 1) mJ0_indexOf_7cf53 K 0 [some ((40, l0)), some (vi l1), some (vi l2)] [] h
theorem bJ0_indexOf_7cf53_0 {G : zG} {d : Nat} {K : Int → zH → Prop} {l0 : Int} {l1 : Int} {l2 : Int} {h : zH} (k : zCb G d mJ0_isLatin1_aae02 [(40, l0)] h (fun x1 h2 => (x1 = false → zCi G d mJ0_length_8abf5 [(40, l0)] h2 (fun x3 h4 => False)) ∧ (x1 = true → zCi G d mJ0_length_8abf5 [(40, l0)] h2 (fun x5 h6 => zCi G d mJ1_indexOf_4cfef [(42, l0), vi l1, vi l2, vi x5] h6 (fun x7 h8 => K x7 h8))))) : tJ0_indexOf_7cf53_0 G d K l0 l1 l2 h := by
  unfold tJ0_indexOf_7cf53_0
  refine z_aload_n 0 dJ0_indexOf_7cf53_0 rfl rfl (Nat.le_of_ble_eq_true rfl) rfl ?_
  refine z_callTb vJ0_isLatin1_aae02 kJ0_492 dJ0_indexOf_7cf53_1 rfl (zRo_d d) (as := []) (rest := []) (Nat.le_of_ble_eq_true rfl) rfl rfl (zCb_mono (fun x1 h2 k => ?_) k)
  obtain ⟨ka, kb⟩ := k
  refine z_ifb_eq (tgt := 23) dJ0_indexOf_7cf53_4 rfl rfl ⟨fun q => ?_, fun q => ?_⟩
  · have k := ka q
    refine z_aload_n 0 dJ0_indexOf_7cf53_23 rfl rfl (Nat.le_of_ble_eq_true rfl) rfl ?_
    refine z_sval qJ0_9 dJ0_indexOf_7cf53_24 rfl ?_
    refine z_iload_n 1 dJ0_indexOf_7cf53_27 rfl rfl rfl ?_
    refine z_iload_n 2 dJ0_indexOf_7cf53_28 rfl rfl rfl ?_
    refine z_aload_n 0 dJ0_indexOf_7cf53_29 rfl rfl (Nat.le_of_ble_eq_true rfl) rfl ?_
    refine z_callTi vJ0_length_8abf5 kJ0_505 dJ0_indexOf_7cf53_30 rfl (zRo_d d) (as := []) (rest := [vi l2, vi l1, (42, l0)]) (Nat.le_of_ble_eq_true rfl) rfl rfl (zCi_mono (fun x3 h4 k => ?_) k)
    exact k.elim
  · have k := kb q
    refine z_aload_n 0 dJ0_indexOf_7cf53_7 rfl rfl (Nat.le_of_ble_eq_true rfl) rfl ?_
    refine z_sval qJ0_9 dJ0_indexOf_7cf53_8 rfl ?_
    refine z_iload_n 1 dJ0_indexOf_7cf53_11 rfl rfl rfl ?_
    refine z_iload_n 2 dJ0_indexOf_7cf53_12 rfl rfl rfl ?_
    refine z_aload_n 0 dJ0_indexOf_7cf53_13 rfl rfl (Nat.le_of_ble_eq_true rfl) rfl ?_
    refine z_callTi vJ0_length_8abf5 kJ0_505 dJ0_indexOf_7cf53_14 rfl (zRo_d d) (as := []) (rest := [vi l2, vi l1, (42, l0)]) (Nat.le_of_ble_eq_true rfl) rfl rfl (zCi_mono (fun x5 h6 k => ?_) k)
    refine z_callSi sJ1_indexOf_4cfef kJ0_637 dJ0_indexOf_7cf53_17 rfl (zRo_d d) (as := [(42, l0), vi l1, vi l2, vi x5]) (rest := []) (Nat.le_of_ble_eq_true rfl) rfl rfl (zCi_mono (fun x7 h8 k => ?_) k)
    refine z_goto (tgt := 36) dJ0_indexOf_7cf53_20 rfl ?_
    exact z_ireturn rfl dJ0_indexOf_7cf53_36 ⟨_, rfl, k⟩
theorem eJ0_indexOf_7cf53 {G : zG} {d : Nat} {K : Int → zH → Prop} {l0 : Int} {l1 : Int} {l2 : Int} {h : zH} (k : tJ0_indexOf_7cf53_0 G d K l0 l1 l2 h) : zCi G (d + 1) mJ0_indexOf_7cf53 [(40, l0), vi l1, vi l2] h K := z_entry (by decide +kernel) (Nat.le_of_ble_eq_true rfl) rfl k
def tJ0_coder_7d493_0 (G : zG) (d : Nat) (K : Int → zH → Prop) (l0 : Int) (h : zH) : Prop := zTi G d mJ0_coder_7d493 K 0 [some ((40, l0))] [] h
theorem bJ0_coder_7d493_0 {G : zG} {d : Nat} {K : Int → zH → Prop} {l0 : Int} {h : zH} (k : (narrow .byte (.int (Int32.ofInt 0)) = .int (Int32.ofInt 0)) ∧ K 0 h) : tJ0_coder_7d493_0 G d K l0 h := by
  unfold tJ0_coder_7d493_0
  refine z_gcs qJ0_38 dJ0_coder_7d493_0 rfl ?_
  refine z_if_eq (tgt := 13) dJ0_coder_7d493_3 rfl ⟨by decide, by decide⟩ rfl ⟨fun q => absurd q (by decide), fun _ => ?_⟩
  refine z_aload_n 0 dJ0_coder_7d493_6 rfl rfl (Nat.le_of_ble_eq_true rfl) rfl ?_
  refine z_scod qJ0_15 dJ0_coder_7d493_7 rfl ?_
  refine z_goto (tgt := 14) dJ0_coder_7d493_10 rfl ?_
  obtain ⟨n9, k⟩ := k
  exact z_nreturn rfl n9 dJ0_coder_7d493_14 ⟨_, rfl, k⟩
theorem eJ0_coder_7d493 {G : zG} {d : Nat} {K : Int → zH → Prop} {l0 : Int} {h : zH} (k : tJ0_coder_7d493_0 G d K l0 h) : zCi G d mJ0_coder_7d493 [(40, l0)] h K := z_entry (by decide +kernel) (Nat.le_of_ble_eq_true rfl) rfl k
def tJ0_isLatin1_aae02_0 (G : zG) (d : Nat) (K : Bool → zH → Prop) (l0 : Int) (h : zH) : Prop := zTb G d mJ0_isLatin1_aae02 K 0 [some ((40, l0))] [] h
theorem bJ0_isLatin1_aae02_0 {G : zG} {d : Nat} {K : Bool → zH → Prop} {l0 : Int} {h : zH} (k : K true h) : tJ0_isLatin1_aae02_0 G d K l0 h := by
  unfold tJ0_isLatin1_aae02_0
  refine z_gcs qJ0_38 dJ0_isLatin1_aae02_0 rfl ?_
  refine z_if_eq (tgt := 17) dJ0_isLatin1_aae02_3 rfl ⟨by decide, by decide⟩ rfl ⟨fun q => absurd q (by decide), fun _ => ?_⟩
  refine z_aload_n 0 dJ0_isLatin1_aae02_6 rfl rfl (Nat.le_of_ble_eq_true rfl) rfl ?_
  refine z_scod qJ0_15 dJ0_isLatin1_aae02_7 rfl ?_
  refine z_if_ne (tgt := 17) dJ0_isLatin1_aae02_10 rfl ⟨by decide, by decide⟩ rfl ⟨fun q => absurd q (by decide), fun _ => ?_⟩
  refine z_iconst dJ0_isLatin1_aae02_13 rfl ?_
  refine z_goto (tgt := 18) dJ0_isLatin1_aae02_14 rfl ?_
  exact z_zreturn rfl (Or.inr rfl) dJ0_isLatin1_aae02_18 ⟨true, rfl, k⟩
theorem eJ0_isLatin1_aae02 {G : zG} {d : Nat} {K : Bool → zH → Prop} {l0 : Int} {h : zH} (k : tJ0_isLatin1_aae02_0 G d K l0 h) : zCb G d mJ0_isLatin1_aae02 [(40, l0)] h K := z_entry (by decide +kernel) (Nat.le_of_ble_eq_true rfl) rfl k
def tJ0_checkIndex_df160_0 (G : zG) (d : Nat) (K : zH → Prop) (l0 : Int) (l1 : Int) (h : zH) : Prop := zTv G (d + 1) mJ0_checkIndex_df160 K 0 [some (vi l0), some (vi l1)] [] h
theorem bJ0_checkIndex_df160_0 {G : zG} {d : Nat} {K : zH → Prop} {l0 : Int} {l1 : Int} {h : zH} (k : zCi G d mJ3_checkIndex_8e157 [vi l0, vi l1, (5, 0)] h (fun x1 h2 => K h2)) : tJ0_checkIndex_df160_0 G d K l0 l1 h := by
  unfold tJ0_checkIndex_df160_0
  refine z_iload_n 0 dJ0_checkIndex_df160_0 rfl rfl rfl ?_
  refine z_iload_n 1 dJ0_checkIndex_df160_1 rfl rfl rfl ?_
  refine z_gfm qJ0_1053 dJ0_checkIndex_df160_2 rfl ?_
  refine z_callSi sJ3_checkIndex_8e157 kJ0_1059 dJ0_checkIndex_df160_5 rfl (zRo_d d) (as := [vi l0, vi l1, (5, 0)]) (rest := []) (Nat.le_of_ble_eq_true rfl) rfl rfl (zCi_mono (fun x1 h2 k => ?_) k)
  refine z_pop dJ0_checkIndex_df160_8 (fun q => by cases q) rfl ?_
  exact z_return rfl dJ0_checkIndex_df160_9 ⟨rfl, k⟩
theorem eJ0_checkIndex_df160 {G : zG} {d : Nat} {K : zH → Prop} {l0 : Int} {l1 : Int} {h : zH} (k : tJ0_checkIndex_df160_0 G d K l0 l1 h) : zCv G (d + 1) mJ0_checkIndex_df160 [vi l0, vi l1] h K := z_entry (by decide +kernel) (Nat.le_of_ble_eq_true rfl) rfl k
def tJ0_checkBoundsBeginEnd_23922_0 (G : zG) (d : Nat) (K : zH → Prop) (l0 : Int) (l1 : Int) (l2 : Int) (h : zH) : Prop := zTv G (d + 1) mJ0_checkBoundsBeginEnd_23922 K 0 [some (vi l0), some (vi l1), some (vi l2)] [] h
theorem bJ0_checkBoundsBeginEnd_23922_0 {G : zG} {d : Nat} {K : zH → Prop} {l0 : Int} {l1 : Int} {l2 : Int} {h : zH} (k : zCi G d mJ3_checkFromToIndex_8c36e [vi l0, vi l1, vi l2, (5, 0)] h (fun x1 h2 => K h2)) : tJ0_checkBoundsBeginEnd_23922_0 G d K l0 l1 l2 h := by
  unfold tJ0_checkBoundsBeginEnd_23922_0
  refine z_iload_n 0 dJ0_checkBoundsBeginEnd_23922_0 rfl rfl rfl ?_
  refine z_iload_n 1 dJ0_checkBoundsBeginEnd_23922_1 rfl rfl rfl ?_
  refine z_iload_n 2 dJ0_checkBoundsBeginEnd_23922_2 rfl rfl rfl ?_
  refine z_gfm qJ0_1053 dJ0_checkBoundsBeginEnd_23922_3 rfl ?_
  refine z_callSi sJ3_checkFromToIndex_8c36e kJ0_1062 dJ0_checkBoundsBeginEnd_23922_6 rfl (zRo_d d) (as := [vi l0, vi l1, vi l2, (5, 0)]) (rest := []) (Nat.le_of_ble_eq_true rfl) rfl rfl (zCi_mono (fun x1 h2 k => ?_) k)
  refine z_pop dJ0_checkBoundsBeginEnd_23922_9 (fun q => by cases q) rfl ?_
  exact z_return rfl dJ0_checkBoundsBeginEnd_23922_10 ⟨rfl, k⟩
theorem eJ0_checkBoundsBeginEnd_23922 {G : zG} {d : Nat} {K : zH → Prop} {l0 : Int} {l1 : Int} {l2 : Int} {h : zH} (k : tJ0_checkBoundsBeginEnd_23922_0 G d K l0 l1 l2 h) : zCv G (d + 1) mJ0_checkBoundsBeginEnd_23922 [vi l0, vi l1, vi l2] h K := z_entry (by decide +kernel) (Nat.le_of_ble_eq_true rfl) rfl k
def tJ1_charAt_3b067_0 (G : zG) (d : Nat) (K : Int → zH → Prop) (l0 : Int) (l1 : Int) (h : zH) : Prop := zTi G (d + 1) mJ1_charAt_3b067 K 0 [some ((42, l0)), some (vi l1)] [] h
theorem bJ1_charAt_3b067_0 {G : zG} {d : Nat} {K : Int → zH → Prop} {l0 : Int} {l1 : Int} {h : zH} (k : zCv G d mJ0_checkIndex_df160 [vi l1, vi (zsl l0)] h (fun h2 => (0 ≤ l1 ∧ l1 < zsl l0) ∧ (narrow .char (.int (Int32.ofInt (zi2c (ziand (zsb l0 l1) 255)))) = .int (Int32.ofInt (zi2c (ziand (zsb l0 l1) 255)))) ∧ K (zi2c (ziand (zsb l0 l1) 255)) h2)) : tJ1_charAt_3b067_0 G d K l0 l1 h := by
  unfold tJ1_charAt_3b067_0
  refine z_iload_n 1 dJ1_charAt_3b067_0 rfl rfl rfl ?_
  refine z_aload_n 0 dJ1_charAt_3b067_1 rfl rfl (Nat.le_of_ble_eq_true rfl) rfl ?_
  refine z_slb dJ1_charAt_3b067_2 rfl rfl ?_
  refine z_callSv sJ0_checkIndex_df160 kJ1_9 dJ1_charAt_3b067_3 rfl (zRo_d d) (as := [vi l1, vi (zsl l0)]) (rest := []) (Nat.le_of_ble_eq_true rfl) rfl rfl (zCv_mono (fun h2 k => ?_) k)
  refine z_aload_n 0 dJ1_charAt_3b067_6 rfl rfl (Nat.le_of_ble_eq_true rfl) rfl ?_
  refine z_iload_n 1 dJ1_charAt_3b067_7 rfl rfl rfl ?_
  obtain ⟨i9, k⟩ := k
  refine z_sld8 (x := (zsb l0 l1)) dJ1_charAt_3b067_8 i9 rfl rfl ?_
  refine z_sipush dJ1_charAt_3b067_9 rfl rfl ?_
  refine z_iand dJ1_charAt_3b067_12 rfl ?_
  refine z_i2c dJ1_charAt_3b067_13 rfl ?_
  obtain ⟨n9, k⟩ := k
  exact z_nreturn rfl n9 dJ1_charAt_3b067_14 ⟨_, rfl, k⟩
theorem eJ1_charAt_3b067 {G : zG} {d : Nat} {K : Int → zH → Prop} {l0 : Int} {l1 : Int} {h : zH} (k : tJ1_charAt_3b067_0 G d K l0 l1 h) : zCi G (d + 1) mJ1_charAt_3b067 [(42, l0), vi l1] h K := z_entry (by decide +kernel) (Nat.le_of_ble_eq_true rfl) rfl k
def tJ1_canEncode_9a6ad_0 (G : zG) (d : Nat) (K : Bool → zH → Prop) (l0 : Int) (h : zH) : Prop := zTb G d mJ1_canEncode_9a6ad K 0 [some (vi l0)] [] h
theorem bJ1_canEncode_9a6ad_0 {G : zG} {d : Nat} {K : Bool → zH → Prop} {l0 : Int} {h : zH} (k : zR l0 ∧ (l0 < 0 → K false h) ∧ (¬ l0 < 0 → zR l0 ∧ (255 < l0 → K false h) ∧ (¬ 255 < l0 → K true h))) : tJ1_canEncode_9a6ad_0 G d K l0 h := by
  unfold tJ1_canEncode_9a6ad_0
  refine z_iload_n 0 dJ1_canEncode_9a6ad_0 rfl rfl rfl ?_
  obtain ⟨r1, ka, kb⟩ := k
  refine z_if_lt (tgt := 15) dJ1_canEncode_9a6ad_1 rfl r1 rfl ⟨fun q => ?_, fun q => ?_⟩
  · have k := ka q
    refine z_iconst dJ1_canEncode_9a6ad_15 rfl ?_
    exact z_zreturn rfl (Or.inl rfl) dJ1_canEncode_9a6ad_16 ⟨false, rfl, k⟩
  · have k := kb q
    refine z_iload_n 0 dJ1_canEncode_9a6ad_4 rfl rfl rfl ?_
    refine z_sipush dJ1_canEncode_9a6ad_5 rfl rfl ?_
    obtain ⟨r1, ka, kb⟩ := k
    refine z_icmp_gt (tgt := 15) dJ1_canEncode_9a6ad_8 rfl r1 ⟨by decide, by decide⟩ rfl ⟨fun q => ?_, fun q => ?_⟩
    · have k := ka q
      refine z_iconst dJ1_canEncode_9a6ad_15 rfl ?_
      exact z_zreturn rfl (Or.inl rfl) dJ1_canEncode_9a6ad_16 ⟨false, rfl, k⟩
    · have k := kb q
      refine z_iconst dJ1_canEncode_9a6ad_11 rfl ?_
      refine z_goto (tgt := 16) dJ1_canEncode_9a6ad_12 rfl ?_
      exact z_zreturn rfl (Or.inr rfl) dJ1_canEncode_9a6ad_16 ⟨true, rfl, k⟩
theorem eJ1_canEncode_9a6ad {G : zG} {d : Nat} {K : Bool → zH → Prop} {l0 : Int} {h : zH} (k : tJ1_canEncode_9a6ad_0 G d K l0 h) : zCb G d mJ1_canEncode_9a6ad [vi l0] h K := z_entry (by decide +kernel) (Nat.le_of_ble_eq_true rfl) rfl k
def tJ1_indexOf_4cfef_0 (G : zG) (d : Nat) (K : Int → zH → Prop) (l0 : Int) (l1 : Int) (l2 : Int) (l3 : Int) (h : zH) : Prop := zTi G (d + 1) mJ1_indexOf_4cfef K 0 [some ((42, l0)), some (vi l1), some (vi l2), some (vi l3)] [] h
theorem bJ1_indexOf_4cfef_0 {G : zG} {d : Nat} {K : Int → zH → Prop} {l0 : Int} {l1 : Int} {l2 : Int} {l3 : Int} {h : zH} (k : zCb G d mJ1_canEncode_9a6ad [vi l1] h (fun x1 h2 => (x1 = true → zR l2 ∧ zR l3 ∧ zR (zsl l0) ∧ zR (max l2 0) ∧ zR (min l3 (zsl l0)) ∧ ((max l2 0) < (min l3 (zsl l0)) → zCi G d mJ1_indexOfChar_4cfef [(42, l0), vi l1, vi (max l2 0), vi (min l3 (zsl l0))] h2 (fun x3 h4 => K x3 h4)) ∧ (¬ (max l2 0) < (min l3 (zsl l0)) → K (-1) h2)) ∧ (x1 = false → K (-1) h2))) : tJ1_indexOf_4cfef_0 G d K l0 l1 l2 l3 h := by
  unfold tJ1_indexOf_4cfef_0
  refine z_iload_n 1 dJ1_indexOf_4cfef_0 rfl rfl rfl ?_
  refine z_callSb sJ1_canEncode_9a6ad kJ1_88 dJ1_indexOf_4cfef_1 rfl (zRo_d d) (as := [vi l1]) (rest := []) (Nat.le_of_ble_eq_true rfl) rfl rfl (zCb_mono (fun x1 h2 k => ?_) k)
  obtain ⟨ka, kb⟩ := k
  refine z_ifb_ne (tgt := 9) dJ1_indexOf_4cfef_4 rfl rfl ⟨fun q => ?_, fun q => ?_⟩
  · have k := ka q
    refine z_iload_n 2 dJ1_indexOf_4cfef_9 rfl rfl rfl ?_
    refine z_iconst dJ1_indexOf_4cfef_10 rfl ?_
    obtain ⟨r1, k⟩ := k
    refine z_mmax (z := (max l2 0)) kJ1_92 kmax.1 kmax.2.1 kmax.2.2 dJ1_indexOf_4cfef_11 r1 ⟨by decide, by decide⟩ ⟨Nat.le_add_left 1 d, (by show _ ≤ 64 * (d + 1); rw [show zcat _ = 0 from rfl]; omega), Nat.le_refl _, Nat.le_refl _⟩ rfl rfl ?_
    refine z_istore_n 2 dJ1_indexOf_4cfef_14 rfl (Nat.le_of_ble_eq_true rfl) (L' := [some ((42, l0)), some (vi l1), some (vi (max l2 0)), some (vi l3)]) rfl rfl ?_
    refine z_iload_n 3 dJ1_indexOf_4cfef_15 rfl rfl rfl ?_
    refine z_aload_n 0 dJ1_indexOf_4cfef_16 rfl rfl (Nat.le_of_ble_eq_true rfl) rfl ?_
    refine z_slb dJ1_indexOf_4cfef_17 rfl rfl ?_
    obtain ⟨r1, r2, k⟩ := k
    refine z_mmin (z := (min l3 (zsl l0))) kJ1_38 kmin.1 kmin.2.1 kmin.2.2 dJ1_indexOf_4cfef_18 r1 r2 ⟨Nat.le_add_left 1 d, (by show _ ≤ 64 * (d + 1); rw [show zcat _ = 0 from rfl]; omega), Nat.le_refl _, Nat.le_refl _⟩ rfl rfl ?_
    refine z_istore_n 3 dJ1_indexOf_4cfef_21 rfl (Nat.le_of_ble_eq_true rfl) (L' := [some ((42, l0)), some (vi l1), some (vi (max l2 0)), some (vi (min l3 (zsl l0)))]) rfl rfl ?_
    refine z_iload_n 2 dJ1_indexOf_4cfef_22 rfl rfl rfl ?_
    refine z_iload_n 3 dJ1_indexOf_4cfef_23 rfl rfl rfl ?_
    obtain ⟨r1, r2, ka, kb⟩ := k
    refine z_icmp_lt (tgt := 29) dJ1_indexOf_4cfef_24 rfl r1 r2 rfl ⟨fun q => ?_, fun q => ?_⟩
    · have k := ka q
      refine z_aload_n 0 dJ1_indexOf_4cfef_29 rfl rfl (Nat.le_of_ble_eq_true rfl) rfl ?_
      refine z_iload_n 1 dJ1_indexOf_4cfef_30 rfl rfl rfl ?_
      refine z_iload_n 2 dJ1_indexOf_4cfef_31 rfl rfl rfl ?_
      refine z_iload_n 3 dJ1_indexOf_4cfef_32 rfl rfl rfl ?_
      refine z_callSi sJ1_indexOfChar_4cfef kJ1_95 dJ1_indexOf_4cfef_33 rfl (zRo_d d) (as := [(42, l0), vi l1, vi (max l2 0), vi (min l3 (zsl l0))]) (rest := []) (Nat.le_of_ble_eq_true rfl) rfl rfl (zCi_mono (fun x3 h4 k => ?_) k)
      exact z_ireturn rfl dJ1_indexOf_4cfef_36 ⟨_, rfl, k⟩
    · have k := kb q
      refine z_iconst dJ1_indexOf_4cfef_27 rfl ?_
      exact z_ireturn rfl dJ1_indexOf_4cfef_28 ⟨_, rfl, k⟩
  · have k := kb q
    refine z_iconst dJ1_indexOf_4cfef_7 rfl ?_
    exact z_ireturn rfl dJ1_indexOf_4cfef_8 ⟨_, rfl, k⟩
theorem eJ1_indexOf_4cfef {G : zG} {d : Nat} {K : Int → zH → Prop} {l0 : Int} {l1 : Int} {l2 : Int} {l3 : Int} {h : zH} (k : tJ1_indexOf_4cfef_0 G d K l0 l1 l2 l3 h) : zCi G (d + 1) mJ1_indexOf_4cfef [(42, l0), vi l1, vi l2, vi l3] h K := z_entry (by decide +kernel) (Nat.le_of_ble_eq_true rfl) rfl k
def tJ1_indexOfChar_4cfef_0 (G : zG) (d : Nat) (K : Int → zH → Prop) (l0 : Int) (l1 : Int) (l2 : Int) (l3 : Int) (h : zH) : Prop := zTi G d mJ1_indexOfChar_4cfef K 0 [some ((42, l0)), some (vi l1), some (vi l2), some (vi l3), none, none] [] h
def tJ1_indexOfChar_4cfef_7 (G : zG) (d : Nat) (K : Int → zH → Prop) (l0 : Int) (l3 : Int) (l4 : Int) (l5 : Int) (h : zH) : Prop := zTi G d mJ1_indexOfChar_4cfef K 7 [some ((42, l0)), none, none, some (vi l3), some (vi l4), some (vi l5)] [] h
theorem bJ1_indexOfChar_4cfef_0 {G : zG} {d : Nat} {K : Int → zH → Prop} {l0 : Int} {l1 : Int} {l2 : Int} {l3 : Int} {h : zH} (k : tJ1_indexOfChar_4cfef_7 G d K l0 l3 (zi2b l1) l2 h) : tJ1_indexOfChar_4cfef_0 G d K l0 l1 l2 l3 h := by
  unfold tJ1_indexOfChar_4cfef_0
  refine z_iload_n 1 dJ1_indexOfChar_4cfef_0 rfl rfl rfl ?_
  refine z_i2b dJ1_indexOfChar_4cfef_1 rfl ?_
  refine z_istore dJ1_indexOfChar_4cfef_2 (Nat.le_of_ble_eq_true rfl) (L' := [some ((42, l0)), some (vi l1), some (vi l2), some (vi l3), some (vi (zi2b l1)), none]) rfl rfl ?_
  refine z_iload_n 2 dJ1_indexOfChar_4cfef_4 rfl rfl rfl ?_
  refine z_istore dJ1_indexOfChar_4cfef_5 (Nat.le_of_ble_eq_true rfl) (L' := [some ((42, l0)), some (vi l1), some (vi l2), some (vi l3), some (vi (zi2b l1)), some (vi l2)]) rfl rfl ?_
  exact z_sub (L' := [some ((42, l0)), none, none, some (vi l3), some (vi (zi2b l1)), some (vi l2)]) (And.intro rfl (And.intro rfl (And.intro rfl (And.intro rfl trivial)))) k
theorem bJ1_indexOfChar_4cfef_7 {G : zG} {d : Nat} {K : Int → zH → Prop} {l0 : Int} {l3 : Int} {l4 : Int} {l5 : Int} {h : zH} (k : zR l5 ∧ zR l3 ∧ (l3 ≤ l5 → K (-1) h) ∧ (¬ l3 ≤ l5 → (0 ≤ l5 ∧ l5 < zsl l0) ∧ zR (zsb l0 l5) ∧ zR l4 ∧ (¬ (zsb l0 l5) = l4 → tJ1_indexOfChar_4cfef_7 G d K l0 l3 l4 (l5 + 1) h) ∧ ((zsb l0 l5) = l4 → K l5 h))) : tJ1_indexOfChar_4cfef_7 G d K l0 l3 l4 l5 h := by
  unfold tJ1_indexOfChar_4cfef_7
  refine z_iload dJ1_indexOfChar_4cfef_7 rfl rfl ?_
  refine z_iload_n 3 dJ1_indexOfChar_4cfef_9 rfl rfl rfl ?_
  obtain ⟨r1, r2, ka, kb⟩ := k
  refine z_icmp_ge (tgt := 31) dJ1_indexOfChar_4cfef_10 rfl r1 r2 rfl ⟨fun q => ?_, fun q => ?_⟩
  · have k := ka q
    refine z_iconst dJ1_indexOfChar_4cfef_31 rfl ?_
    exact z_ireturn rfl dJ1_indexOfChar_4cfef_32 ⟨_, rfl, k⟩
  · have k := kb q
    refine z_aload_n 0 dJ1_indexOfChar_4cfef_13 rfl rfl (Nat.le_of_ble_eq_true rfl) rfl ?_
    refine z_iload dJ1_indexOfChar_4cfef_14 rfl rfl ?_
    obtain ⟨i9, k⟩ := k
    refine z_sld8 (x := (zsb l0 l5)) dJ1_indexOfChar_4cfef_16 i9 rfl rfl ?_
    refine z_iload dJ1_indexOfChar_4cfef_17 rfl rfl ?_
    obtain ⟨r1, r2, ka, kb⟩ := k
    refine z_icmp_ne (tgt := 25) dJ1_indexOfChar_4cfef_19 rfl r1 r2 rfl ⟨fun q => ?_, fun q => ?_⟩
    · have k := ka q
      refine z_iinc dJ1_indexOfChar_4cfef_25 rfl (Nat.le_of_ble_eq_true rfl) (L' := [some ((42, l0)), none, none, some (vi l3), some (vi l4), some (vi (l5 + 1))]) rfl rfl ?_
      refine z_goto (tgt := 7) dJ1_indexOfChar_4cfef_28 rfl ?_
      exact z_sub (L' := [some ((42, l0)), none, none, some (vi l3), some (vi l4), some (vi (l5 + 1))]) (And.intro rfl (And.intro rfl (And.intro rfl (And.intro rfl trivial)))) k
    · have k := kb q
      refine z_iload dJ1_indexOfChar_4cfef_22 rfl rfl ?_
      exact z_ireturn rfl dJ1_indexOfChar_4cfef_24 ⟨_, rfl, k⟩
theorem eJ1_indexOfChar_4cfef {G : zG} {d : Nat} {K : Int → zH → Prop} {l0 : Int} {l1 : Int} {l2 : Int} {l3 : Int} {h : zH} (k : tJ1_indexOfChar_4cfef_0 G d K l0 l1 l2 l3 h) : zCi G d mJ1_indexOfChar_4cfef [(42, l0), vi l1, vi l2, vi l3] h K := z_entry (by decide +kernel) (Nat.le_of_ble_eq_true rfl) rfl k
def tJ7_fill_d0a16_0 (G : zG) (d : Nat) (K : zH → Prop) (l0 : Int) (l1 : Int) (h : zH) : Prop := zTv G d mJ7_fill_d0a16 K 0 [some (vr 14 l0), some (vl l1), none, none, none] [] h
def tJ7_fill_d0a16_6 (G : zG) (d : Nat) (K : zH → Prop) (l0 : Int) (l1 : Int) (l3 : Int) (l4 : Int) (h : zH) : Prop := zTv G d mJ7_fill_d0a16 K 6 [some (vr 14 l0), some (vl l1), none, some (vi l3), some (vi l4)] [] h
theorem bJ7_fill_d0a16_0 {G : zG} {d : Nat} {K : zH → Prop} {l0 : Int} {l1 : Int} {h : zH} (k : tJ7_fill_d0a16_6 G d K l0 l1 0 (zln l0) h) : tJ7_fill_d0a16_0 G d K l0 l1 h := by
  unfold tJ7_fill_d0a16_0
  refine z_iconst dJ7_fill_d0a16_0 rfl ?_
  refine z_istore_n 3 dJ7_fill_d0a16_1 rfl (Nat.le_of_ble_eq_true rfl) (L' := [some (vr 14 l0), some (vl l1), none, some (vi 0), none]) rfl rfl ?_
  refine z_aload_n 0 dJ7_fill_d0a16_2 rfl rfl (Nat.le_of_ble_eq_true rfl) rfl ?_
  refine z_alen14 dJ7_fill_d0a16_3 rfl rfl ?_
  refine z_istore dJ7_fill_d0a16_4 (Nat.le_of_ble_eq_true rfl) (L' := [some (vr 14 l0), some (vl l1), none, some (vi 0), some (vi (zln l0))]) rfl rfl ?_
  exact z_sub (L' := [some (vr 14 l0), some (vl l1), none, some (vi 0), some (vi (zln l0))]) (And.intro rfl (And.intro rfl (And.intro rfl (And.intro rfl trivial)))) k
theorem bJ7_fill_d0a16_6 {G : zG} {d : Nat} {K : zH → Prop} {l0 : Int} {l1 : Int} {l3 : Int} {l4 : Int} {h : zH} (k : zR l3 ∧ zR l4 ∧ (l4 ≤ l3 → K h) ∧ (¬ l4 ≤ l3 → ((0 : Int) ≤ l3 ∧ l3 < zln l0) ∧ tJ7_fill_d0a16_6 G d K l0 l1 (l3 + 1) l4 (zup h l0 l3 l1))) : tJ7_fill_d0a16_6 G d K l0 l1 l3 l4 h := by
  unfold tJ7_fill_d0a16_6
  refine z_iload_n 3 dJ7_fill_d0a16_6 rfl rfl rfl ?_
  refine z_iload dJ7_fill_d0a16_7 rfl rfl ?_
  obtain ⟨r1, r2, ka, kb⟩ := k
  refine z_icmp_ge (tgt := 22) dJ7_fill_d0a16_9 rfl r1 r2 rfl ⟨fun q => ?_, fun q => ?_⟩
  · have k := ka q
    exact z_return rfl dJ7_fill_d0a16_22 ⟨rfl, k⟩
  · have k := kb q
    refine z_aload_n 0 dJ7_fill_d0a16_12 rfl rfl (Nat.le_of_ble_eq_true rfl) rfl ?_
    refine z_iload_n 3 dJ7_fill_d0a16_13 rfl rfl rfl ?_
    refine z_lload_n 1 dJ7_fill_d0a16_14 rfl rfl rfl ?_
    obtain ⟨i9, k⟩ := k
    refine z_last dJ7_fill_d0a16_15 i9 rfl ?_
    refine z_iinc dJ7_fill_d0a16_16 rfl (Nat.le_of_ble_eq_true rfl) (L' := [some (vr 14 l0), some (vl l1), none, some (vi (l3 + 1)), some (vi l4)]) rfl rfl ?_
    refine z_goto (tgt := 6) dJ7_fill_d0a16_19 rfl ?_
    exact z_sub (L' := [some (vr 14 l0), some (vl l1), none, some (vi (l3 + 1)), some (vi l4)]) (And.intro rfl (And.intro rfl (And.intro rfl (And.intro rfl trivial)))) k
theorem eJ7_fill_d0a16 {G : zG} {d : Nat} {K : zH → Prop} {l0 : Int} {l1 : Int} {h : zH} (k : tJ7_fill_d0a16_0 G d K l0 l1 h) : zCv G d mJ7_fill_d0a16 [vr 14 l0, vl l1] h K := z_entry (by decide +kernel) (Nat.le_of_ble_eq_true rfl) rfl k
def tJ7_fill_53178_0 (G : zG) (d : Nat) (K : zH → Prop) (l0 : Int) (l1 : Int) (h : zH) : Prop := zTv G d mJ7_fill_53178 K 0 [some (vr 13 l0), some (vi l1), none, none] [] h
def tJ7_fill_53178_5 (G : zG) (d : Nat) (K : zH → Prop) (l0 : Int) (l1 : Int) (l2 : Int) (l3 : Int) (h : zH) : Prop := zTv G d mJ7_fill_53178 K 5 [some (vr 13 l0), some (vi l1), some (vi l2), some (vi l3)] [] h
theorem bJ7_fill_53178_0 {G : zG} {d : Nat} {K : zH → Prop} {l0 : Int} {l1 : Int} {h : zH} (k : tJ7_fill_53178_5 G d K l0 l1 0 (zln l0) h) : tJ7_fill_53178_0 G d K l0 l1 h := by
  unfold tJ7_fill_53178_0
  refine z_iconst dJ7_fill_53178_0 rfl ?_
  refine z_istore_n 2 dJ7_fill_53178_1 rfl (Nat.le_of_ble_eq_true rfl) (L' := [some (vr 13 l0), some (vi l1), some (vi 0), none]) rfl rfl ?_
  refine z_aload_n 0 dJ7_fill_53178_2 rfl rfl (Nat.le_of_ble_eq_true rfl) rfl ?_
  refine z_alen13 dJ7_fill_53178_3 rfl rfl ?_
  refine z_istore_n 3 dJ7_fill_53178_4 rfl (Nat.le_of_ble_eq_true rfl) (L' := [some (vr 13 l0), some (vi l1), some (vi 0), some (vi (zln l0))]) rfl rfl ?_
  exact z_sub (L' := [some (vr 13 l0), some (vi l1), some (vi 0), some (vi (zln l0))]) (And.intro rfl (And.intro rfl (And.intro rfl (And.intro rfl trivial)))) k
theorem bJ7_fill_53178_5 {G : zG} {d : Nat} {K : zH → Prop} {l0 : Int} {l1 : Int} {l2 : Int} {l3 : Int} {h : zH} (k : zR l2 ∧ zR l3 ∧ (l3 ≤ l2 → K h) ∧ (¬ l3 ≤ l2 → ((0 : Int) ≤ l2 ∧ l2 < zln l0) ∧ tJ7_fill_53178_5 G d K l0 l1 (l2 + 1) l3 (zup h l0 l2 l1))) : tJ7_fill_53178_5 G d K l0 l1 l2 l3 h := by
  unfold tJ7_fill_53178_5
  refine z_iload_n 2 dJ7_fill_53178_5 rfl rfl rfl ?_
  refine z_iload_n 3 dJ7_fill_53178_6 rfl rfl rfl ?_
  obtain ⟨r1, r2, ka, kb⟩ := k
  refine z_icmp_ge (tgt := 20) dJ7_fill_53178_7 rfl r1 r2 rfl ⟨fun q => ?_, fun q => ?_⟩
  · have k := ka q
    exact z_return rfl dJ7_fill_53178_20 ⟨rfl, k⟩
  · have k := kb q
    refine z_aload_n 0 dJ7_fill_53178_10 rfl rfl (Nat.le_of_ble_eq_true rfl) rfl ?_
    refine z_iload_n 2 dJ7_fill_53178_11 rfl rfl rfl ?_
    refine z_iload_n 1 dJ7_fill_53178_12 rfl rfl rfl ?_
    obtain ⟨i9, k⟩ := k
    refine z_iast dJ7_fill_53178_13 i9 rfl ?_
    refine z_iinc dJ7_fill_53178_14 rfl (Nat.le_of_ble_eq_true rfl) (L' := [some (vr 13 l0), some (vi l1), some (vi (l2 + 1)), some (vi l3)]) rfl rfl ?_
    refine z_goto (tgt := 5) dJ7_fill_53178_17 rfl ?_
    exact z_sub (L' := [some (vr 13 l0), some (vi l1), some (vi (l2 + 1)), some (vi l3)]) (And.intro rfl (And.intro rfl (And.intro rfl (And.intro rfl trivial)))) k
theorem eJ7_fill_53178 {G : zG} {d : Nat} {K : zH → Prop} {l0 : Int} {l1 : Int} {h : zH} (k : tJ7_fill_53178_0 G d K l0 l1 h) : zCv G d mJ7_fill_53178 [vr 13 l0, vi l1] h K := z_entry (by decide +kernel) (Nat.le_of_ble_eq_true rfl) rfl k
def tJ3_checkIndex_8e157_0 (G : zG) (d : Nat) (K : Int → zH → Prop) (l0 : Int) (l1 : Int) (h : zH) : Prop := zTi G (d + 1) mJ3_checkIndex_8e157 K 0 [some (vi l0), some (vi l1), some ((5, 0))] [] h
theorem bJ3_checkIndex_8e157_0 {G : zG} {d : Nat} {K : Int → zH → Prop} {l0 : Int} {l1 : Int} {h : zH} (k : zR l0 ∧ (l0 < 0 → False) ∧ (¬ l0 < 0 → zR l0 ∧ zR l1 ∧ (l0 < l1 → K l0 h) ∧ (¬ l0 < l1 → False))) : tJ3_checkIndex_8e157_0 G d K l0 l1 h := by
  unfold tJ3_checkIndex_8e157_0
  refine z_iload_n 0 dJ3_checkIndex_8e157_0 rfl rfl rfl ?_
  obtain ⟨r1, ka, kb⟩ := k
  refine z_if_lt (tgt := 9) dJ3_checkIndex_8e157_1 rfl r1 rfl ⟨fun q => ?_, fun q => ?_⟩
  · have k := ka q
    exact k.elim
  · have k := kb q
    refine z_iload_n 0 dJ3_checkIndex_8e157_4 rfl rfl rfl ?_
    refine z_iload_n 1 dJ3_checkIndex_8e157_5 rfl rfl rfl ?_
    obtain ⟨r1, r2, ka, kb⟩ := k
    refine z_icmp_lt (tgt := 16) dJ3_checkIndex_8e157_6 rfl r1 r2 rfl ⟨fun q => ?_, fun q => ?_⟩
    · have k := ka q
      refine z_iload_n 0 dJ3_checkIndex_8e157_16 rfl rfl rfl ?_
      exact z_ireturn rfl dJ3_checkIndex_8e157_17 ⟨_, rfl, k⟩
    · have k := kb q
      exact k.elim
theorem eJ3_checkIndex_8e157 {G : zG} {d : Nat} {K : Int → zH → Prop} {l0 : Int} {l1 : Int} {h : zH} (k : tJ3_checkIndex_8e157_0 G d K l0 l1 h) : zCi G (d + 1) mJ3_checkIndex_8e157 [vi l0, vi l1, (5, 0)] h K := z_entry (by decide +kernel) (Nat.le_of_ble_eq_true rfl) rfl k
def tJ3_checkFromToIndex_8c36e_0 (G : zG) (d : Nat) (K : Int → zH → Prop) (l0 : Int) (l1 : Int) (l2 : Int) (h : zH) : Prop := zTi G (d + 1) mJ3_checkFromToIndex_8c36e K 0 [some (vi l0), some (vi l1), some (vi l2), some ((5, 0))] [] h
theorem bJ3_checkFromToIndex_8c36e_0 {G : zG} {d : Nat} {K : Int → zH → Prop} {l0 : Int} {l1 : Int} {l2 : Int} {h : zH} (k : zR l0 ∧ (l0 < 0 → False) ∧ (¬ l0 < 0 → zR l0 ∧ zR l1 ∧ (l1 < l0 → False) ∧ (¬ l1 < l0 → zR l1 ∧ zR l2 ∧ (l1 ≤ l2 → K l0 h) ∧ (¬ l1 ≤ l2 → False)))) : tJ3_checkFromToIndex_8c36e_0 G d K l0 l1 l2 h := by
  unfold tJ3_checkFromToIndex_8c36e_0
  refine z_iload_n 0 dJ3_checkFromToIndex_8c36e_0 rfl rfl rfl ?_
  obtain ⟨r1, ka, kb⟩ := k
  refine z_if_lt (tgt := 14) dJ3_checkFromToIndex_8c36e_1 rfl r1 rfl ⟨fun q => ?_, fun q => ?_⟩
  · have k := ka q
    exact k.elim
  · have k := kb q
    refine z_iload_n 0 dJ3_checkFromToIndex_8c36e_4 rfl rfl rfl ?_
    refine z_iload_n 1 dJ3_checkFromToIndex_8c36e_5 rfl rfl rfl ?_
    obtain ⟨r1, r2, ka, kb⟩ := k
    refine z_icmp_gt (tgt := 14) dJ3_checkFromToIndex_8c36e_6 rfl r1 r2 rfl ⟨fun q => ?_, fun q => ?_⟩
    · have k := ka q
      exact k.elim
    · have k := kb q
      refine z_iload_n 1 dJ3_checkFromToIndex_8c36e_9 rfl rfl rfl ?_
      refine z_iload_n 2 dJ3_checkFromToIndex_8c36e_10 rfl rfl rfl ?_
      obtain ⟨r1, r2, ka, kb⟩ := k
      refine z_icmp_le (tgt := 22) dJ3_checkFromToIndex_8c36e_11 rfl r1 r2 rfl ⟨fun q => ?_, fun q => ?_⟩
      · have k := ka q
        refine z_iload_n 0 dJ3_checkFromToIndex_8c36e_22 rfl rfl rfl ?_
        exact z_ireturn rfl dJ3_checkFromToIndex_8c36e_23 ⟨_, rfl, k⟩
      · have k := kb q
        exact k.elim
theorem eJ3_checkFromToIndex_8c36e {G : zG} {d : Nat} {K : Int → zH → Prop} {l0 : Int} {l1 : Int} {l2 : Int} {h : zH} (k : tJ3_checkFromToIndex_8c36e_0 G d K l0 l1 l2 h) : zCi G (d + 1) mJ3_checkFromToIndex_8c36e [vi l0, vi l1, vi l2, (5, 0)] h K := z_entry (by decide +kernel) (Nat.le_of_ble_eq_true rfl) rfl k
def tX10_split_0 (G : zG) (d : Nat) (K : zH → Prop) (l1 : Int) (l2 : Int) (h : zH) : Prop := zTv G (d + 1) mX10_split K 0 [some (vr 10 13), some (vr 15 l1), some (vi l2), none, none, none] [] h
def tX10_split_20 (G : zG) (d : Nat) (K : zH → Prop) (l1 : Int) (l2 : Int) (l3 : Int) (l4 : Int) (h : zH) : Prop := zTv G (d + 1) mX10_split K 20 [some (vr 10 13), some (vr 15 l1), some (vi l2), some (vi l3), some (vi l4), none] [] h
theorem bX10_split_0 {G : zG} {d : Nat} {K : zH → Prop} {l1 : Int} {l2 : Int} {h : zH} (k : tX10_split_20 G d K l1 l2 0 0 (zup (zup (zup h 13 3 0) 13 8 0) 13 9 (-1))) : tX10_split_0 G d K l1 l2 h := by
  unfold tX10_split_0
  refine z_aload_n 0 dX10_split_0 rfl rfl (Nat.le_of_ble_eq_true rfl) rfl ?_
  refine z_iconst dX10_split_1 rfl ?_
  refine z_putI 10 gX10_22 dX10_split_2 rfl ?_
  refine z_aload_n 0 dX10_split_5 rfl rfl (Nat.le_of_ble_eq_true rfl) rfl ?_
  refine z_iconst dX10_split_6 rfl ?_
  refine z_putI 10 gX10_26 dX10_split_7 rfl ?_
  refine z_aload_n 0 dX10_split_10 rfl rfl (Nat.le_of_ble_eq_true rfl) rfl ?_
  refine z_iconst dX10_split_11 rfl ?_
  refine z_putI 10 gX10_29 dX10_split_12 rfl ?_
  refine z_iconst dX10_split_15 rfl ?_
  refine z_istore_n 3 dX10_split_16 rfl (Nat.le_of_ble_eq_true rfl) (L' := [some (vr 10 13), some (vr 15 l1), some (vi l2), some (vi 0), none, none]) rfl rfl ?_
  refine z_iconst dX10_split_17 rfl ?_
  refine z_istore dX10_split_18 (Nat.le_of_ble_eq_true rfl) (L' := [some (vr 10 13), some (vr 15 l1), some (vi l2), some (vi 0), some (vi 0), none]) rfl rfl ?_
  exact z_sub (L' := [some (vr 10 13), some (vr 15 l1), some (vi l2), some (vi 0), some (vi 0), none]) (And.intro rfl (And.intro rfl (And.intro rfl (And.intro rfl (And.intro rfl trivial))))) k
theorem bX10_split_20 {G : zG} {d : Nat} {K : zH → Prop} {l1 : Int} {l2 : Int} {l3 : Int} {l4 : Int} {h : zH} (k : zR l4 ∧ zR l2 ∧ (l2 ≤ l4 → zR l3 ∧ zR l2 ∧ (l2 ≤ l3 → zCv G d mX10_add [vr 10 13, vi 0, vi l3, vl 0] h (fun h2 => zCv G d mX10_step [vr 10 13] (zup h2 13 4 (-1)) (fun h4 => K h4))) ∧ (¬ l2 ≤ l3 → zCv G d mX10_add [vr 10 13, vi 1, vi l3, vl 0] h (fun h6 => zCv G d mX10_step [vr 10 13] (zup h6 13 4 (-1)) (fun h8 => K h8)))) ∧ (¬ l2 ≤ l4 → zR l3 ∧ zR l2 ∧ (l2 ≤ l3 → zR l3 ∧ zR l2 ∧ (l2 ≤ l3 → zCv G d mX10_add [vr 10 13, vi 0, vi l3, vl 0] h (fun h10 => zCv G d mX10_step [vr 10 13] (zup h10 13 4 (-1)) (fun h12 => K h12))) ∧ (¬ l2 ≤ l3 → zCv G d mX10_add [vr 10 13, vi 1, vi l3, vl 0] h (fun h14 => zCv G d mX10_step [vr 10 13] (zup h14 13 4 (-1)) (fun h16 => K h16)))) ∧ (¬ l2 ≤ l3 → ((0 : Int) ≤ l3 ∧ l3 < zln l1) ∧ zR (h l1 l3) ∧ (¬ (h l1 l3) = 32 → zCi G d mX10_addToken [vr 10 13, vr 15 l1, vi l3, vi l2] h (fun x17 h18 => zR x17 ∧ (¬ x17 = 0 → tX10_split_20 G d K l1 l2 (l3 + x17) (l4 + 1) h18) ∧ (x17 = 0 → zR l3 ∧ zR l2 ∧ (l2 ≤ l3 → zCv G d mX10_add [vr 10 13, vi 0, vi l3, vl 0] h18 (fun h20 => zCv G d mX10_step [vr 10 13] (zup h20 13 4 (-1)) (fun h22 => K h22))) ∧ (¬ l2 ≤ l3 → zCv G d mX10_add [vr 10 13, vi 1, vi l3, vl 0] h18 (fun h24 => zCv G d mX10_step [vr 10 13] (zup h24 13 4 (-1)) (fun h26 => K h26)))))) ∧ ((h l1 l3) = 32 → tX10_split_20 G d K l1 l2 (l3 + 1) (l4 + 1) h)))) : tX10_split_20 G d K l1 l2 l3 l4 h := by
  unfold tX10_split_20
  refine z_iload dX10_split_20 rfl rfl ?_
  refine z_iload_n 2 dX10_split_22 rfl rfl rfl ?_
  obtain ⟨r1, r2, ka, kb⟩ := k
  refine z_icmp_ge (tgt := 71) dX10_split_23 rfl r1 r2 rfl ⟨fun q => ?_, fun q => ?_⟩
  · have k := ka q
    refine z_aload_n 0 dX10_split_71 rfl rfl (Nat.le_of_ble_eq_true rfl) rfl ?_
    refine z_iload_n 3 dX10_split_72 rfl rfl rfl ?_
    refine z_iload_n 2 dX10_split_73 rfl rfl rfl ?_
    obtain ⟨r1, r2, ka, kb⟩ := k
    refine z_icmp_ge (tgt := 81) dX10_split_74 rfl r1 r2 rfl ⟨fun q => ?_, fun q => ?_⟩
    · have k := ka q
      refine z_iconst dX10_split_81 rfl ?_
      refine z_iload_n 3 dX10_split_82 rfl rfl rfl ?_
      refine z_lconst (x := 0) dX10_split_83 rfl rfl ?_
      refine z_callVv vX10_add kX10_36 dX10_split_84 rfl (zRo_d d) (as := [vi 0, vi l3, vl 0]) (rest := []) (Nat.le_of_ble_eq_true rfl) rfl rfl (zCv_mono (fun h2 k => ?_) k)
      refine z_aload_n 0 dX10_split_87 rfl rfl (Nat.le_of_ble_eq_true rfl) rfl ?_
      refine z_iconst dX10_split_88 rfl ?_
      refine z_putI 10 gX10_40 dX10_split_89 rfl ?_
      refine z_aload_n 0 dX10_split_92 rfl rfl (Nat.le_of_ble_eq_true rfl) rfl ?_
      refine z_callVv vX10_step kX10_43 dX10_split_93 rfl (zRo_d d) (as := []) (rest := []) (Nat.le_of_ble_eq_true rfl) rfl rfl (zCv_mono (fun h4 k => ?_) k)
      exact z_return rfl dX10_split_96 ⟨rfl, k⟩
    · have k := kb q
      refine z_iconst dX10_split_77 rfl ?_
      refine z_goto (tgt := 82) dX10_split_78 rfl ?_
      refine z_iload_n 3 dX10_split_82 rfl rfl rfl ?_
      refine z_lconst (x := 0) dX10_split_83 rfl rfl ?_
      refine z_callVv vX10_add kX10_36 dX10_split_84 rfl (zRo_d d) (as := [vi 1, vi l3, vl 0]) (rest := []) (Nat.le_of_ble_eq_true rfl) rfl rfl (zCv_mono (fun h6 k => ?_) k)
      refine z_aload_n 0 dX10_split_87 rfl rfl (Nat.le_of_ble_eq_true rfl) rfl ?_
      refine z_iconst dX10_split_88 rfl ?_
      refine z_putI 10 gX10_40 dX10_split_89 rfl ?_
      refine z_aload_n 0 dX10_split_92 rfl rfl (Nat.le_of_ble_eq_true rfl) rfl ?_
      refine z_callVv vX10_step kX10_43 dX10_split_93 rfl (zRo_d d) (as := []) (rest := []) (Nat.le_of_ble_eq_true rfl) rfl rfl (zCv_mono (fun h8 k => ?_) k)
      exact z_return rfl dX10_split_96 ⟨rfl, k⟩
  · have k := kb q
    refine z_iload_n 3 dX10_split_26 rfl rfl rfl ?_
    refine z_iload_n 2 dX10_split_27 rfl rfl rfl ?_
    obtain ⟨r1, r2, ka, kb⟩ := k
    refine z_icmp_ge (tgt := 71) dX10_split_28 rfl r1 r2 rfl ⟨fun q => ?_, fun q => ?_⟩
    · have k := ka q
      refine z_aload_n 0 dX10_split_71 rfl rfl (Nat.le_of_ble_eq_true rfl) rfl ?_
      refine z_iload_n 3 dX10_split_72 rfl rfl rfl ?_
      refine z_iload_n 2 dX10_split_73 rfl rfl rfl ?_
      obtain ⟨r1, r2, ka, kb⟩ := k
      refine z_icmp_ge (tgt := 81) dX10_split_74 rfl r1 r2 rfl ⟨fun q => ?_, fun q => ?_⟩
      · have k := ka q
        refine z_iconst dX10_split_81 rfl ?_
        refine z_iload_n 3 dX10_split_82 rfl rfl rfl ?_
        refine z_lconst (x := 0) dX10_split_83 rfl rfl ?_
        refine z_callVv vX10_add kX10_36 dX10_split_84 rfl (zRo_d d) (as := [vi 0, vi l3, vl 0]) (rest := []) (Nat.le_of_ble_eq_true rfl) rfl rfl (zCv_mono (fun h10 k => ?_) k)
        refine z_aload_n 0 dX10_split_87 rfl rfl (Nat.le_of_ble_eq_true rfl) rfl ?_
        refine z_iconst dX10_split_88 rfl ?_
        refine z_putI 10 gX10_40 dX10_split_89 rfl ?_
        refine z_aload_n 0 dX10_split_92 rfl rfl (Nat.le_of_ble_eq_true rfl) rfl ?_
        refine z_callVv vX10_step kX10_43 dX10_split_93 rfl (zRo_d d) (as := []) (rest := []) (Nat.le_of_ble_eq_true rfl) rfl rfl (zCv_mono (fun h12 k => ?_) k)
        exact z_return rfl dX10_split_96 ⟨rfl, k⟩
      · have k := kb q
        refine z_iconst dX10_split_77 rfl ?_
        refine z_goto (tgt := 82) dX10_split_78 rfl ?_
        refine z_iload_n 3 dX10_split_82 rfl rfl rfl ?_
        refine z_lconst (x := 0) dX10_split_83 rfl rfl ?_
        refine z_callVv vX10_add kX10_36 dX10_split_84 rfl (zRo_d d) (as := [vi 1, vi l3, vl 0]) (rest := []) (Nat.le_of_ble_eq_true rfl) rfl rfl (zCv_mono (fun h14 k => ?_) k)
        refine z_aload_n 0 dX10_split_87 rfl rfl (Nat.le_of_ble_eq_true rfl) rfl ?_
        refine z_iconst dX10_split_88 rfl ?_
        refine z_putI 10 gX10_40 dX10_split_89 rfl ?_
        refine z_aload_n 0 dX10_split_92 rfl rfl (Nat.le_of_ble_eq_true rfl) rfl ?_
        refine z_callVv vX10_step kX10_43 dX10_split_93 rfl (zRo_d d) (as := []) (rest := []) (Nat.le_of_ble_eq_true rfl) rfl rfl (zCv_mono (fun h16 k => ?_) k)
        exact z_return rfl dX10_split_96 ⟨rfl, k⟩
    · have k := kb q
      refine z_aload_n 1 dX10_split_31 rfl rfl (Nat.le_of_ble_eq_true rfl) rfl ?_
      refine z_iload_n 3 dX10_split_32 rfl rfl rfl ?_
      obtain ⟨i9, k⟩ := k
      refine z_bald (x := (h l1 l3)) dX10_split_33 i9 rfl rfl ?_
      refine z_bipush dX10_split_34 rfl rfl ?_
      obtain ⟨r1, ka, kb⟩ := k
      refine z_icmp_ne (tgt := 43) dX10_split_36 rfl r1 ⟨by decide, by decide⟩ rfl ⟨fun q => ?_, fun q => ?_⟩
      · have k := ka q
        refine z_aload_n 0 dX10_split_43 rfl rfl (Nat.le_of_ble_eq_true rfl) rfl ?_
        refine z_aload_n 1 dX10_split_44 rfl rfl (Nat.le_of_ble_eq_true rfl) rfl ?_
        refine z_iload_n 3 dX10_split_45 rfl rfl rfl ?_
        refine z_iload_n 2 dX10_split_46 rfl rfl rfl ?_
        refine z_callVi vX10_addToken kX10_32 dX10_split_47 rfl (zRo_d d) (as := [vr 15 l1, vi l3, vi l2]) (rest := []) (Nat.le_of_ble_eq_true rfl) rfl rfl (zCi_mono (fun x17 h18 k => ?_) k)
        refine z_istore dX10_split_50 (Nat.le_of_ble_eq_true rfl) (L' := [some (vr 10 13), some (vr 15 l1), some (vi l2), some (vi l3), some (vi l4), some (vi x17)]) rfl rfl ?_
        refine z_iload dX10_split_52 rfl rfl ?_
        obtain ⟨r1, ka, kb⟩ := k
        refine z_if_ne (tgt := 60) dX10_split_54 rfl r1 rfl ⟨fun q => ?_, fun q => ?_⟩
        · have k := ka q
          refine z_iload_n 3 dX10_split_60 rfl rfl rfl ?_
          refine z_iload dX10_split_61 rfl rfl ?_
          refine z_iadd dX10_split_63 rfl ?_
          refine z_istore_n 3 dX10_split_64 rfl (Nat.le_of_ble_eq_true rfl) (L' := [some (vr 10 13), some (vr 15 l1), some (vi l2), some (vi (l3 + x17)), some (vi l4), some (vi x17)]) rfl rfl ?_
          refine z_iinc dX10_split_65 rfl (Nat.le_of_ble_eq_true rfl) (L' := [some (vr 10 13), some (vr 15 l1), some (vi l2), some (vi (l3 + x17)), some (vi (l4 + 1)), some (vi x17)]) rfl rfl ?_
          refine z_goto (tgt := 20) dX10_split_68 rfl ?_
          exact z_sub (L' := [some (vr 10 13), some (vr 15 l1), some (vi l2), some (vi (l3 + x17)), some (vi (l4 + 1)), none]) (And.intro rfl (And.intro rfl (And.intro rfl (And.intro rfl (And.intro rfl trivial))))) k
        · have k := kb q
          refine z_goto (tgt := 71) dX10_split_57 rfl ?_
          refine z_aload_n 0 dX10_split_71 rfl rfl (Nat.le_of_ble_eq_true rfl) rfl ?_
          refine z_iload_n 3 dX10_split_72 rfl rfl rfl ?_
          refine z_iload_n 2 dX10_split_73 rfl rfl rfl ?_
          obtain ⟨r1, r2, ka, kb⟩ := k
          refine z_icmp_ge (tgt := 81) dX10_split_74 rfl r1 r2 rfl ⟨fun q => ?_, fun q => ?_⟩
          · have k := ka q
            refine z_iconst dX10_split_81 rfl ?_
            refine z_iload_n 3 dX10_split_82 rfl rfl rfl ?_
            refine z_lconst (x := 0) dX10_split_83 rfl rfl ?_
            refine z_callVv vX10_add kX10_36 dX10_split_84 rfl (zRo_d d) (as := [vi 0, vi l3, vl 0]) (rest := []) (Nat.le_of_ble_eq_true rfl) rfl rfl (zCv_mono (fun h20 k => ?_) k)
            refine z_aload_n 0 dX10_split_87 rfl rfl (Nat.le_of_ble_eq_true rfl) rfl ?_
            refine z_iconst dX10_split_88 rfl ?_
            refine z_putI 10 gX10_40 dX10_split_89 rfl ?_
            refine z_aload_n 0 dX10_split_92 rfl rfl (Nat.le_of_ble_eq_true rfl) rfl ?_
            refine z_callVv vX10_step kX10_43 dX10_split_93 rfl (zRo_d d) (as := []) (rest := []) (Nat.le_of_ble_eq_true rfl) rfl rfl (zCv_mono (fun h22 k => ?_) k)
            exact z_return rfl dX10_split_96 ⟨rfl, k⟩
          · have k := kb q
            refine z_iconst dX10_split_77 rfl ?_
            refine z_goto (tgt := 82) dX10_split_78 rfl ?_
            refine z_iload_n 3 dX10_split_82 rfl rfl rfl ?_
            refine z_lconst (x := 0) dX10_split_83 rfl rfl ?_
            refine z_callVv vX10_add kX10_36 dX10_split_84 rfl (zRo_d d) (as := [vi 1, vi l3, vl 0]) (rest := []) (Nat.le_of_ble_eq_true rfl) rfl rfl (zCv_mono (fun h24 k => ?_) k)
            refine z_aload_n 0 dX10_split_87 rfl rfl (Nat.le_of_ble_eq_true rfl) rfl ?_
            refine z_iconst dX10_split_88 rfl ?_
            refine z_putI 10 gX10_40 dX10_split_89 rfl ?_
            refine z_aload_n 0 dX10_split_92 rfl rfl (Nat.le_of_ble_eq_true rfl) rfl ?_
            refine z_callVv vX10_step kX10_43 dX10_split_93 rfl (zRo_d d) (as := []) (rest := []) (Nat.le_of_ble_eq_true rfl) rfl rfl (zCv_mono (fun h26 k => ?_) k)
            exact z_return rfl dX10_split_96 ⟨rfl, k⟩
      · have k := kb q
        refine z_iconst dX10_split_39 rfl ?_
        refine z_goto (tgt := 50) dX10_split_40 rfl ?_
        refine z_istore dX10_split_50 (Nat.le_of_ble_eq_true rfl) (L' := [some (vr 10 13), some (vr 15 l1), some (vi l2), some (vi l3), some (vi l4), some (vi 1)]) rfl rfl ?_
        refine z_iload dX10_split_52 rfl rfl ?_
        refine z_if_ne (tgt := 60) dX10_split_54 rfl ⟨by decide, by decide⟩ rfl ⟨fun _ => ?_, fun q => absurd q (by decide)⟩
        refine z_iload_n 3 dX10_split_60 rfl rfl rfl ?_
        refine z_iload dX10_split_61 rfl rfl ?_
        refine z_iadd dX10_split_63 rfl ?_
        refine z_istore_n 3 dX10_split_64 rfl (Nat.le_of_ble_eq_true rfl) (L' := [some (vr 10 13), some (vr 15 l1), some (vi l2), some (vi (l3 + 1)), some (vi l4), some (vi 1)]) rfl rfl ?_
        refine z_iinc dX10_split_65 rfl (Nat.le_of_ble_eq_true rfl) (L' := [some (vr 10 13), some (vr 15 l1), some (vi l2), some (vi (l3 + 1)), some (vi (l4 + 1)), some (vi 1)]) rfl rfl ?_
        refine z_goto (tgt := 20) dX10_split_68 rfl ?_
        exact z_sub (L' := [some (vr 10 13), some (vr 15 l1), some (vi l2), some (vi (l3 + 1)), some (vi (l4 + 1)), none]) (And.intro rfl (And.intro rfl (And.intro rfl (And.intro rfl (And.intro rfl trivial))))) k
theorem eX10_split {G : zG} {d : Nat} {K : zH → Prop} {l1 : Int} {l2 : Int} {h : zH} (k : tX10_split_0 G d K l1 l2 h) : zCv G (d + 1) mX10_split [vr 10 13, vr 15 l1, vi l2] h K := z_entry (by decide +kernel) (Nat.le_of_ble_eq_true rfl) rfl k
def tX10_step_0 (G : zG) (d : Nat) (K : zH → Prop) (h : zH) : Prop := zTv G d mX10_step K 0 [some (vr 10 13)] [] h
theorem bX10_step_0 {G : zG} {d : Nat} {K : zH → Prop} {h : zH} (k : zR ((h 13 4) + 1) ∧ zR (h 13 3) ∧ ((h 13 3) ≤ ((h 13 4) + 1) → K h) ∧ (¬ (h 13 3) ≤ ((h 13 4) + 1) → ((0 : Int) ≤ ((h 13 4) + 1) ∧ ((h 13 4) + 1) < 901) ∧ ((0 : Int) ≤ ((h 13 4) + 1) ∧ ((h 13 4) + 1) < 901) ∧ ((0 : Int) ≤ ((h 13 4) + 1) ∧ ((h 13 4) + 1) < 901) ∧ K (zup (zup (zup (zup h 13 4 ((h 13 4) + 1)) 13 5 (h 14 ((h 13 4) + 1))) 13 6 (h 15 ((h 13 4) + 1))) 13 7 (h 16 ((h 13 4) + 1))))) : tX10_step_0 G d K h := by
  unfold tX10_step_0
  refine z_aload_n 0 dX10_step_0 rfl rfl (Nat.le_of_ble_eq_true rfl) rfl ?_
  refine z_getI 10 (x := (h 13 4)) fX10_40 rfl dX10_step_1 rfl rfl ?_
  refine z_iconst dX10_step_4 rfl ?_
  refine z_iadd dX10_step_5 rfl ?_
  refine z_aload_n 0 dX10_step_6 rfl rfl (Nat.le_of_ble_eq_true rfl) rfl ?_
  refine z_getI 10 (x := (h 13 3)) fX10_22 rfl dX10_step_7 rfl rfl ?_
  obtain ⟨r1, r2, ka, kb⟩ := k
  refine z_icmp_ge (tgt := 62) dX10_step_10 rfl r1 r2 rfl ⟨fun q => ?_, fun q => ?_⟩
  · have k := ka q
    exact z_return rfl dX10_step_62 ⟨rfl, k⟩
  · have k := kb q
    refine z_aload_n 0 dX10_step_13 rfl rfl (Nat.le_of_ble_eq_true rfl) rfl ?_
    refine z_dup dX10_step_14 (fun q => by cases q) rfl ?_
    refine z_getI 10 (x := (h 13 4)) fX10_40 rfl dX10_step_15 rfl rfl ?_
    refine z_iconst dX10_step_18 rfl ?_
    refine z_iadd dX10_step_19 rfl ?_
    refine z_putI 10 gX10_40 dX10_step_20 rfl ?_
    refine z_aload_n 0 dX10_step_23 rfl rfl (Nat.le_of_ble_eq_true rfl) rfl ?_
    refine z_aload_n 0 dX10_step_24 rfl rfl (Nat.le_of_ble_eq_true rfl) rfl ?_
    refine z_getF 10 13 (x := 14) fX10_9 rfl dX10_step_25 rfl rfl ?_
    refine z_aload_n 0 dX10_step_28 rfl rfl (Nat.le_of_ble_eq_true rfl) rfl ?_
    refine z_getI 10 (x := ((h 13 4) + 1)) fX10_40 rfl dX10_step_29 (by simp [zup]) rfl ?_
    obtain ⟨i9, k⟩ := k
    refine z_iald (x := (h 14 ((h 13 4) + 1))) dX10_step_32 (by rw [zl_14]; exact i9) (by simp [zup]) rfl ?_
    refine z_putI 10 gX10_46 dX10_step_33 rfl ?_
    refine z_aload_n 0 dX10_step_36 rfl rfl (Nat.le_of_ble_eq_true rfl) rfl ?_
    refine z_aload_n 0 dX10_step_37 rfl rfl (Nat.le_of_ble_eq_true rfl) rfl ?_
    refine z_getF 10 13 (x := 15) fX10_15 rfl dX10_step_38 rfl rfl ?_
    refine z_aload_n 0 dX10_step_41 rfl rfl (Nat.le_of_ble_eq_true rfl) rfl ?_
    refine z_getI 10 (x := ((h 13 4) + 1)) fX10_40 rfl dX10_step_42 (by simp [zup]) rfl ?_
    obtain ⟨i9, k⟩ := k
    refine z_iald (x := (h 15 ((h 13 4) + 1))) dX10_step_45 (by rw [zl_15]; exact i9) (by simp [zup]) rfl ?_
    refine z_putI 10 gX10_49 dX10_step_46 rfl ?_
    refine z_aload_n 0 dX10_step_49 rfl rfl (Nat.le_of_ble_eq_true rfl) rfl ?_
    refine z_aload_n 0 dX10_step_50 rfl rfl (Nat.le_of_ble_eq_true rfl) rfl ?_
    refine z_getF 10 14 (x := 16) fX10_18 rfl dX10_step_51 rfl rfl ?_
    refine z_aload_n 0 dX10_step_54 rfl rfl (Nat.le_of_ble_eq_true rfl) rfl ?_
    refine z_getI 10 (x := ((h 13 4) + 1)) fX10_40 rfl dX10_step_55 (by simp [zup]) rfl ?_
    obtain ⟨i9, k⟩ := k
    refine z_lald (x := (h 16 ((h 13 4) + 1))) dX10_step_58 (by rw [zl_16]; exact i9) (by simp [zup]) rfl ?_
    refine z_putL 10 gX10_52 dX10_step_59 rfl ?_
    exact z_return rfl dX10_step_62 ⟨rfl, k⟩
theorem eX10_step {G : zG} {d : Nat} {K : zH → Prop} {h : zH} (k : tX10_step_0 G d K h) : zCv G d mX10_step [vr 10 13] h K := z_entry (by decide +kernel) (Nat.le_of_ble_eq_true rfl) rfl k
def tX10_fail_0 (G : zG) (d : Nat) (K : Bool → zH → Prop) (l1 : Int) (h : zH) : Prop := zTb G d mX10_fail K 0 [some (vr 10 13), some (vi l1)] [] h
theorem bX10_fail_0 {G : zG} {d : Nat} {K : Bool → zH → Prop} {l1 : Int} {h : zH} (k : K false (zup (zup h 13 8 l1) 13 9 (h 13 6))) : tX10_fail_0 G d K l1 h := by
  unfold tX10_fail_0
  refine z_aload_n 0 dX10_fail_0 rfl rfl (Nat.le_of_ble_eq_true rfl) rfl ?_
  refine z_iload_n 1 dX10_fail_1 rfl rfl rfl ?_
  refine z_putI 10 gX10_26 dX10_fail_2 rfl ?_
  refine z_aload_n 0 dX10_fail_5 rfl rfl (Nat.le_of_ble_eq_true rfl) rfl ?_
  refine z_aload_n 0 dX10_fail_6 rfl rfl (Nat.le_of_ble_eq_true rfl) rfl ?_
  refine z_getI 10 (x := (h 13 6)) fX10_49 rfl dX10_fail_7 (by simp [zup]) rfl ?_
  refine z_putI 10 gX10_29 dX10_fail_10 rfl ?_
  refine z_iconst dX10_fail_13 rfl ?_
  exact z_zreturn rfl (Or.inl rfl) dX10_fail_14 ⟨false, rfl, k⟩
theorem eX10_fail {G : zG} {d : Nat} {K : Bool → zH → Prop} {l1 : Int} {h : zH} (k : tX10_fail_0 G d K l1 h) : zCb G d mX10_fail [vr 10 13, vi l1] h K := z_entry (by decide +kernel) (Nat.le_of_ble_eq_true rfl) rfl k
def tX10_failAt_0 (G : zG) (d : Nat) (K : Bool → zH → Prop) (l1 : Int) (l2 : Int) (h : zH) : Prop := zTb G d mX10_failAt K 0 [some (vr 10 13), some (vi l1), some (vi l2)] [] h
theorem bX10_failAt_0 {G : zG} {d : Nat} {K : Bool → zH → Prop} {l1 : Int} {l2 : Int} {h : zH} (k : K false (zup (zup h 13 8 l1) 13 9 l2)) : tX10_failAt_0 G d K l1 l2 h := by
  unfold tX10_failAt_0
  refine z_aload_n 0 dX10_failAt_0 rfl rfl (Nat.le_of_ble_eq_true rfl) rfl ?_
  refine z_iload_n 1 dX10_failAt_1 rfl rfl rfl ?_
  refine z_putI 10 gX10_26 dX10_failAt_2 rfl ?_
  refine z_aload_n 0 dX10_failAt_5 rfl rfl (Nat.le_of_ble_eq_true rfl) rfl ?_
  refine z_iload_n 2 dX10_failAt_6 rfl rfl rfl ?_
  refine z_putI 10 gX10_29 dX10_failAt_7 rfl ?_
  refine z_iconst dX10_failAt_10 rfl ?_
  exact z_zreturn rfl (Or.inl rfl) dX10_failAt_11 ⟨false, rfl, k⟩
theorem eX10_failAt {G : zG} {d : Nat} {K : Bool → zH → Prop} {l1 : Int} {l2 : Int} {h : zH} (k : tX10_failAt_0 G d K l1 l2 h) : zCb G d mX10_failAt [vr 10 13, vi l1, vi l2] h K := z_entry (by decide +kernel) (Nat.le_of_ble_eq_true rfl) rfl k
def tX10_addToken_0 (G : zG) (d : Nat) (K : Int → zH → Prop) (l1 : Int) (l2 : Int) (l3 : Int) (h : zH) : Prop := zTi G (d + 1) mX10_addToken K 0 [some (vr 10 13), some (vr 15 l1), some (vi l2), some (vi l3), none, none, none] [] h
theorem bX10_addToken_0 {G : zG} {d : Nat} {K : Int → zH → Prop} {l1 : Int} {l2 : Int} {l3 : Int} {h : zH} (k : zCi G d mX10_runOf [vr 15 l1, vi l2, vi l3, vi 97, vi 122] h (fun x1 h2 => zR x1 ∧ (x1 ≤ 0 → zCi G d mX10_runOf [vr 15 l1, vi l2, vi l3, vi 48, vi 57] h2 (fun x3 h4 => zR x3 ∧ (x3 ≤ 0 → zCi G d mX10_runOf [vr 15 l1, vi l2, vi l3, vi 46, vi 46] h4 (fun x5 h6 => zR x5 ∧ (x5 < 2 → ((0 : Int) ≤ l2 ∧ l2 < zln l1) ∧ zR (h6 l1 l2) ∧ ((h6 l1 l2) ≤ 0 → K 0 h6) ∧ (¬ (h6 l1 l2) ≤ 0 → zCi G d mJ0_indexOf_0f7a4 [(40, 6), vi (zi2c (h6 l1 l2))] h6 (fun x7 h8 => zR x7 ∧ (x7 < 0 → K 0 h8) ∧ (¬ x7 < 0 → zCv G d mX10_add [vr 10 13, vi (h6 l1 l2), vi l2, vl 0] h8 (fun h10 => K 1 h10))))) ∧ (¬ x5 < 2 → zCv G d mX10_add [vr 10 13, vi 4, vi l2, vl 0] h6 (fun h12 => K 2 h12)))) ∧ (¬ x3 ≤ 0 → zR x3 ∧ (5 < x3 → zCi G d mX10_runOf [vr 15 l1, vi l2, vi l3, vi 46, vi 46] h4 (fun x13 h14 => zR x13 ∧ (x13 < 2 → ((0 : Int) ≤ l2 ∧ l2 < zln l1) ∧ zR (h14 l1 l2) ∧ ((h14 l1 l2) ≤ 0 → K 0 h14) ∧ (¬ (h14 l1 l2) ≤ 0 → zCi G d mJ0_indexOf_0f7a4 [(40, 6), vi (zi2c (h14 l1 l2))] h14 (fun x15 h16 => zR x15 ∧ (x15 < 0 → K 0 h16) ∧ (¬ x15 < 0 → zCv G d mX10_add [vr 10 13, vi (h14 l1 l2), vi l2, vl 0] h16 (fun h18 => K 1 h18))))) ∧ (¬ x13 < 2 → zCv G d mX10_add [vr 10 13, vi 4, vi l2, vl 0] h14 (fun h20 => K 2 h20)))) ∧ (¬ 5 < x3 → zCl G d mX10_valueOf [vr 15 l1, vi l2, vi x3, vi 48, vi 10] h4 (fun x21 h22 => zCv G d mX10_add [vr 10 13, vi 3, vi l2, vl x21] h22 (fun h24 => K x3 h24)))))) ∧ (¬ x1 ≤ 0 → zR x1 ∧ (7 < x1 → zCi G d mX10_runOf [vr 15 l1, vi l2, vi l3, vi 48, vi 57] h2 (fun x25 h26 => zR x25 ∧ (x25 ≤ 0 → zCi G d mX10_runOf [vr 15 l1, vi l2, vi l3, vi 46, vi 46] h26 (fun x27 h28 => zR x27 ∧ (x27 < 2 → ((0 : Int) ≤ l2 ∧ l2 < zln l1) ∧ zR (h28 l1 l2) ∧ ((h28 l1 l2) ≤ 0 → K 0 h28) ∧ (¬ (h28 l1 l2) ≤ 0 → zCi G d mJ0_indexOf_0f7a4 [(40, 6), vi (zi2c (h28 l1 l2))] h28 (fun x29 h30 => zR x29 ∧ (x29 < 0 → K 0 h30) ∧ (¬ x29 < 0 → zCv G d mX10_add [vr 10 13, vi (h28 l1 l2), vi l2, vl 0] h30 (fun h32 => K 1 h32))))) ∧ (¬ x27 < 2 → zCv G d mX10_add [vr 10 13, vi 4, vi l2, vl 0] h28 (fun h34 => K 2 h34)))) ∧ (¬ x25 ≤ 0 → zR x25 ∧ (5 < x25 → zCi G d mX10_runOf [vr 15 l1, vi l2, vi l3, vi 46, vi 46] h26 (fun x35 h36 => zR x35 ∧ (x35 < 2 → ((0 : Int) ≤ l2 ∧ l2 < zln l1) ∧ zR (h36 l1 l2) ∧ ((h36 l1 l2) ≤ 0 → K 0 h36) ∧ (¬ (h36 l1 l2) ≤ 0 → zCi G d mJ0_indexOf_0f7a4 [(40, 6), vi (zi2c (h36 l1 l2))] h36 (fun x37 h38 => zR x37 ∧ (x37 < 0 → K 0 h38) ∧ (¬ x37 < 0 → zCv G d mX10_add [vr 10 13, vi (h36 l1 l2), vi l2, vl 0] h38 (fun h40 => K 1 h40))))) ∧ (¬ x35 < 2 → zCv G d mX10_add [vr 10 13, vi 4, vi l2, vl 0] h36 (fun h42 => K 2 h42)))) ∧ (¬ 5 < x25 → zCl G d mX10_valueOf [vr 15 l1, vi l2, vi x25, vi 48, vi 10] h26 (fun x43 h44 => zCv G d mX10_add [vr 10 13, vi 3, vi l2, vl x43] h44 (fun h46 => K x25 h46)))))) ∧ (¬ 7 < x1 → zCl G d mX10_valueOf [vr 15 l1, vi l2, vi x1, vi 96, vi 32] h2 (fun x47 h48 => zCi G d mX10_kindOf [vl x47] h48 (fun x49 h50 => zCv G d mX10_add [vr 10 13, vi x49, vi l2, vl x47] h50 (fun h52 => K x1 h52))))))) : tX10_addToken_0 G d K l1 l2 l3 h := by
  unfold tX10_addToken_0
  refine z_aload_n 1 dX10_addToken_0 rfl rfl (Nat.le_of_ble_eq_true rfl) rfl ?_
  refine z_iload_n 2 dX10_addToken_1 rfl rfl rfl ?_
  refine z_iload_n 3 dX10_addToken_2 rfl rfl rfl ?_
  refine z_bipush dX10_addToken_3 rfl rfl ?_
  refine z_bipush dX10_addToken_5 rfl rfl ?_
  refine z_callSi sX10_runOf kX10_56 dX10_addToken_7 rfl (zRo_d d) (as := [vr 15 l1, vi l2, vi l3, vi 97, vi 122]) (rest := []) (Nat.le_of_ble_eq_true rfl) rfl rfl (zCi_mono (fun x1 h2 k => ?_) k)
  refine z_istore dX10_addToken_10 (Nat.le_of_ble_eq_true rfl) (L' := [some (vr 10 13), some (vr 15 l1), some (vi l2), some (vi l3), some (vi x1), none, none]) rfl rfl ?_
  refine z_iload dX10_addToken_12 rfl rfl ?_
  obtain ⟨r1, ka, kb⟩ := k
  refine z_if_le (tgt := 52) dX10_addToken_14 rfl r1 rfl ⟨fun q => ?_, fun q => ?_⟩
  · have k := ka q
    refine z_aload_n 1 dX10_addToken_52 rfl rfl (Nat.le_of_ble_eq_true rfl) rfl ?_
    refine z_iload_n 2 dX10_addToken_53 rfl rfl rfl ?_
    refine z_iload_n 3 dX10_addToken_54 rfl rfl rfl ?_
    refine z_bipush dX10_addToken_55 rfl rfl ?_
    refine z_bipush dX10_addToken_57 rfl rfl ?_
    refine z_callSi sX10_runOf kX10_56 dX10_addToken_59 rfl (zRo_d d) (as := [vr 15 l1, vi l2, vi l3, vi 48, vi 57]) (rest := []) (Nat.le_of_ble_eq_true rfl) rfl rfl (zCi_mono (fun x3 h4 k => ?_) k)
    refine z_istore dX10_addToken_62 (Nat.le_of_ble_eq_true rfl) (L' := [some (vr 10 13), some (vr 15 l1), some (vi l2), some (vi l3), some (vi x1), some (vi x3), none]) rfl rfl ?_
    refine z_iload dX10_addToken_64 rfl rfl ?_
    obtain ⟨r1, ka, kb⟩ := k
    refine z_if_le (tgt := 95) dX10_addToken_66 rfl r1 rfl ⟨fun q => ?_, fun q => ?_⟩
    · have k := ka q
      refine z_aload_n 1 dX10_addToken_95 rfl rfl (Nat.le_of_ble_eq_true rfl) rfl ?_
      refine z_iload_n 2 dX10_addToken_96 rfl rfl rfl ?_
      refine z_iload_n 3 dX10_addToken_97 rfl rfl rfl ?_
      refine z_bipush dX10_addToken_98 rfl rfl ?_
      refine z_bipush dX10_addToken_100 rfl rfl ?_
      refine z_callSi sX10_runOf kX10_56 dX10_addToken_102 rfl (zRo_d d) (as := [vr 15 l1, vi l2, vi l3, vi 46, vi 46]) (rest := []) (Nat.le_of_ble_eq_true rfl) rfl rfl (zCi_mono (fun x5 h6 k => ?_) k)
      refine z_iconst dX10_addToken_105 rfl ?_
      obtain ⟨r1, ka, kb⟩ := k
      refine z_icmp_lt (tgt := 118) dX10_addToken_106 rfl r1 ⟨by decide, by decide⟩ rfl ⟨fun q => ?_, fun q => ?_⟩
      · have k := ka q
        refine z_aload_n 1 dX10_addToken_118 rfl rfl (Nat.le_of_ble_eq_true rfl) rfl ?_
        refine z_iload_n 2 dX10_addToken_119 rfl rfl rfl ?_
        obtain ⟨i9, k⟩ := k
        refine z_bald (x := (h6 l1 l2)) dX10_addToken_120 i9 rfl rfl ?_
        refine z_istore dX10_addToken_121 (Nat.le_of_ble_eq_true rfl) (L' := [some (vr 10 13), some (vr 15 l1), some (vi l2), some (vi l3), some (vi x1), some (vi x3), some (vi (h6 l1 l2))]) rfl rfl ?_
        refine z_iload dX10_addToken_123 rfl rfl ?_
        obtain ⟨r1, ka, kb⟩ := k
        refine z_if_le (tgt := 149) dX10_addToken_125 rfl r1 rfl ⟨fun q => ?_, fun q => ?_⟩
        · have k := ka q
          refine z_iconst dX10_addToken_149 rfl ?_
          exact z_ireturn rfl dX10_addToken_150 ⟨_, rfl, k⟩
        · have k := kb q
          refine z_ldcS (k := 6) (tx := ";|&-!()[],") (x := 6) (by decide +kernel) (by decide) rfl dX10_addToken_128 rfl ?_
          refine z_iload dX10_addToken_130 rfl rfl ?_
          refine z_i2c dX10_addToken_132 rfl ?_
          refine z_callTi vJ0_indexOf_0f7a4 kX10_70 dX10_addToken_133 rfl (zRo_d d) (as := [vi (zi2c (h6 l1 l2))]) (rest := []) (Nat.le_of_ble_eq_true rfl) rfl rfl (zCi_mono (fun x7 h8 k => ?_) k)
          obtain ⟨r1, ka, kb⟩ := k
          refine z_if_lt (tgt := 149) dX10_addToken_136 rfl r1 rfl ⟨fun q => ?_, fun q => ?_⟩
          · have k := ka q
            refine z_iconst dX10_addToken_149 rfl ?_
            exact z_ireturn rfl dX10_addToken_150 ⟨_, rfl, k⟩
          · have k := kb q
            refine z_aload_n 0 dX10_addToken_139 rfl rfl (Nat.le_of_ble_eq_true rfl) rfl ?_
            refine z_iload dX10_addToken_140 rfl rfl ?_
            refine z_iload_n 2 dX10_addToken_142 rfl rfl rfl ?_
            refine z_lconst (x := 0) dX10_addToken_143 rfl rfl ?_
            refine z_callVv vX10_add kX10_36 dX10_addToken_144 rfl (zRo_d d) (as := [vi (h6 l1 l2), vi l2, vl 0]) (rest := []) (Nat.le_of_ble_eq_true rfl) rfl rfl (zCv_mono (fun h10 k => ?_) k)
            refine z_iconst dX10_addToken_147 rfl ?_
            exact z_ireturn rfl dX10_addToken_148 ⟨_, rfl, k⟩
      · have k := kb q
        refine z_aload_n 0 dX10_addToken_109 rfl rfl (Nat.le_of_ble_eq_true rfl) rfl ?_
        refine z_iconst dX10_addToken_110 rfl ?_
        refine z_iload_n 2 dX10_addToken_111 rfl rfl rfl ?_
        refine z_lconst (x := 0) dX10_addToken_112 rfl rfl ?_
        refine z_callVv vX10_add kX10_36 dX10_addToken_113 rfl (zRo_d d) (as := [vi 4, vi l2, vl 0]) (rest := []) (Nat.le_of_ble_eq_true rfl) rfl rfl (zCv_mono (fun h12 k => ?_) k)
        refine z_iconst dX10_addToken_116 rfl ?_
        exact z_ireturn rfl dX10_addToken_117 ⟨_, rfl, k⟩
    · have k := kb q
      refine z_iload dX10_addToken_69 rfl rfl ?_
      refine z_iconst dX10_addToken_71 rfl ?_
      obtain ⟨r1, ka, kb⟩ := k
      refine z_icmp_gt (tgt := 95) dX10_addToken_72 rfl r1 ⟨by decide, by decide⟩ rfl ⟨fun q => ?_, fun q => ?_⟩
      · have k := ka q
        refine z_aload_n 1 dX10_addToken_95 rfl rfl (Nat.le_of_ble_eq_true rfl) rfl ?_
        refine z_iload_n 2 dX10_addToken_96 rfl rfl rfl ?_
        refine z_iload_n 3 dX10_addToken_97 rfl rfl rfl ?_
        refine z_bipush dX10_addToken_98 rfl rfl ?_
        refine z_bipush dX10_addToken_100 rfl rfl ?_
        refine z_callSi sX10_runOf kX10_56 dX10_addToken_102 rfl (zRo_d d) (as := [vr 15 l1, vi l2, vi l3, vi 46, vi 46]) (rest := []) (Nat.le_of_ble_eq_true rfl) rfl rfl (zCi_mono (fun x13 h14 k => ?_) k)
        refine z_iconst dX10_addToken_105 rfl ?_
        obtain ⟨r1, ka, kb⟩ := k
        refine z_icmp_lt (tgt := 118) dX10_addToken_106 rfl r1 ⟨by decide, by decide⟩ rfl ⟨fun q => ?_, fun q => ?_⟩
        · have k := ka q
          refine z_aload_n 1 dX10_addToken_118 rfl rfl (Nat.le_of_ble_eq_true rfl) rfl ?_
          refine z_iload_n 2 dX10_addToken_119 rfl rfl rfl ?_
          obtain ⟨i9, k⟩ := k
          refine z_bald (x := (h14 l1 l2)) dX10_addToken_120 i9 rfl rfl ?_
          refine z_istore dX10_addToken_121 (Nat.le_of_ble_eq_true rfl) (L' := [some (vr 10 13), some (vr 15 l1), some (vi l2), some (vi l3), some (vi x1), some (vi x3), some (vi (h14 l1 l2))]) rfl rfl ?_
          refine z_iload dX10_addToken_123 rfl rfl ?_
          obtain ⟨r1, ka, kb⟩ := k
          refine z_if_le (tgt := 149) dX10_addToken_125 rfl r1 rfl ⟨fun q => ?_, fun q => ?_⟩
          · have k := ka q
            refine z_iconst dX10_addToken_149 rfl ?_
            exact z_ireturn rfl dX10_addToken_150 ⟨_, rfl, k⟩
          · have k := kb q
            refine z_ldcS (k := 6) (tx := ";|&-!()[],") (x := 6) (by decide +kernel) (by decide) rfl dX10_addToken_128 rfl ?_
            refine z_iload dX10_addToken_130 rfl rfl ?_
            refine z_i2c dX10_addToken_132 rfl ?_
            refine z_callTi vJ0_indexOf_0f7a4 kX10_70 dX10_addToken_133 rfl (zRo_d d) (as := [vi (zi2c (h14 l1 l2))]) (rest := []) (Nat.le_of_ble_eq_true rfl) rfl rfl (zCi_mono (fun x15 h16 k => ?_) k)
            obtain ⟨r1, ka, kb⟩ := k
            refine z_if_lt (tgt := 149) dX10_addToken_136 rfl r1 rfl ⟨fun q => ?_, fun q => ?_⟩
            · have k := ka q
              refine z_iconst dX10_addToken_149 rfl ?_
              exact z_ireturn rfl dX10_addToken_150 ⟨_, rfl, k⟩
            · have k := kb q
              refine z_aload_n 0 dX10_addToken_139 rfl rfl (Nat.le_of_ble_eq_true rfl) rfl ?_
              refine z_iload dX10_addToken_140 rfl rfl ?_
              refine z_iload_n 2 dX10_addToken_142 rfl rfl rfl ?_
              refine z_lconst (x := 0) dX10_addToken_143 rfl rfl ?_
              refine z_callVv vX10_add kX10_36 dX10_addToken_144 rfl (zRo_d d) (as := [vi (h14 l1 l2), vi l2, vl 0]) (rest := []) (Nat.le_of_ble_eq_true rfl) rfl rfl (zCv_mono (fun h18 k => ?_) k)
              refine z_iconst dX10_addToken_147 rfl ?_
              exact z_ireturn rfl dX10_addToken_148 ⟨_, rfl, k⟩
        · have k := kb q
          refine z_aload_n 0 dX10_addToken_109 rfl rfl (Nat.le_of_ble_eq_true rfl) rfl ?_
          refine z_iconst dX10_addToken_110 rfl ?_
          refine z_iload_n 2 dX10_addToken_111 rfl rfl rfl ?_
          refine z_lconst (x := 0) dX10_addToken_112 rfl rfl ?_
          refine z_callVv vX10_add kX10_36 dX10_addToken_113 rfl (zRo_d d) (as := [vi 4, vi l2, vl 0]) (rest := []) (Nat.le_of_ble_eq_true rfl) rfl rfl (zCv_mono (fun h20 k => ?_) k)
          refine z_iconst dX10_addToken_116 rfl ?_
          exact z_ireturn rfl dX10_addToken_117 ⟨_, rfl, k⟩
      · have k := kb q
        refine z_aload_n 0 dX10_addToken_75 rfl rfl (Nat.le_of_ble_eq_true rfl) rfl ?_
        refine z_iconst dX10_addToken_76 rfl ?_
        refine z_iload_n 2 dX10_addToken_77 rfl rfl rfl ?_
        refine z_aload_n 1 dX10_addToken_78 rfl rfl (Nat.le_of_ble_eq_true rfl) rfl ?_
        refine z_iload_n 2 dX10_addToken_79 rfl rfl rfl ?_
        refine z_iload dX10_addToken_80 rfl rfl ?_
        refine z_bipush dX10_addToken_82 rfl rfl ?_
        refine z_bipush dX10_addToken_84 rfl rfl ?_
        refine z_callSl sX10_valueOf kX10_60 dX10_addToken_86 rfl (zRo_d d) (as := [vr 15 l1, vi l2, vi x3, vi 48, vi 10]) (rest := [vi l2, vi 3, vr 10 13]) (Nat.le_of_ble_eq_true rfl) rfl rfl (zCl_mono (fun x21 h22 k => ?_) k)
        refine z_callVv vX10_add kX10_36 dX10_addToken_89 rfl (zRo_d d) (as := [vi 3, vi l2, vl x21]) (rest := []) (Nat.le_of_ble_eq_true rfl) rfl rfl (zCv_mono (fun h24 k => ?_) k)
        refine z_iload dX10_addToken_92 rfl rfl ?_
        exact z_ireturn rfl dX10_addToken_94 ⟨_, rfl, k⟩
  · have k := kb q
    refine z_iload dX10_addToken_17 rfl rfl ?_
    refine z_bipush dX10_addToken_19 rfl rfl ?_
    obtain ⟨r1, ka, kb⟩ := k
    refine z_icmp_gt (tgt := 52) dX10_addToken_21 rfl r1 ⟨by decide, by decide⟩ rfl ⟨fun q => ?_, fun q => ?_⟩
    · have k := ka q
      refine z_aload_n 1 dX10_addToken_52 rfl rfl (Nat.le_of_ble_eq_true rfl) rfl ?_
      refine z_iload_n 2 dX10_addToken_53 rfl rfl rfl ?_
      refine z_iload_n 3 dX10_addToken_54 rfl rfl rfl ?_
      refine z_bipush dX10_addToken_55 rfl rfl ?_
      refine z_bipush dX10_addToken_57 rfl rfl ?_
      refine z_callSi sX10_runOf kX10_56 dX10_addToken_59 rfl (zRo_d d) (as := [vr 15 l1, vi l2, vi l3, vi 48, vi 57]) (rest := []) (Nat.le_of_ble_eq_true rfl) rfl rfl (zCi_mono (fun x25 h26 k => ?_) k)
      refine z_istore dX10_addToken_62 (Nat.le_of_ble_eq_true rfl) (L' := [some (vr 10 13), some (vr 15 l1), some (vi l2), some (vi l3), some (vi x1), some (vi x25), none]) rfl rfl ?_
      refine z_iload dX10_addToken_64 rfl rfl ?_
      obtain ⟨r1, ka, kb⟩ := k
      refine z_if_le (tgt := 95) dX10_addToken_66 rfl r1 rfl ⟨fun q => ?_, fun q => ?_⟩
      · have k := ka q
        refine z_aload_n 1 dX10_addToken_95 rfl rfl (Nat.le_of_ble_eq_true rfl) rfl ?_
        refine z_iload_n 2 dX10_addToken_96 rfl rfl rfl ?_
        refine z_iload_n 3 dX10_addToken_97 rfl rfl rfl ?_
        refine z_bipush dX10_addToken_98 rfl rfl ?_
        refine z_bipush dX10_addToken_100 rfl rfl ?_
        refine z_callSi sX10_runOf kX10_56 dX10_addToken_102 rfl (zRo_d d) (as := [vr 15 l1, vi l2, vi l3, vi 46, vi 46]) (rest := []) (Nat.le_of_ble_eq_true rfl) rfl rfl (zCi_mono (fun x27 h28 k => ?_) k)
        refine z_iconst dX10_addToken_105 rfl ?_
        obtain ⟨r1, ka, kb⟩ := k
        refine z_icmp_lt (tgt := 118) dX10_addToken_106 rfl r1 ⟨by decide, by decide⟩ rfl ⟨fun q => ?_, fun q => ?_⟩
        · have k := ka q
          refine z_aload_n 1 dX10_addToken_118 rfl rfl (Nat.le_of_ble_eq_true rfl) rfl ?_
          refine z_iload_n 2 dX10_addToken_119 rfl rfl rfl ?_
          obtain ⟨i9, k⟩ := k
          refine z_bald (x := (h28 l1 l2)) dX10_addToken_120 i9 rfl rfl ?_
          refine z_istore dX10_addToken_121 (Nat.le_of_ble_eq_true rfl) (L' := [some (vr 10 13), some (vr 15 l1), some (vi l2), some (vi l3), some (vi x1), some (vi x25), some (vi (h28 l1 l2))]) rfl rfl ?_
          refine z_iload dX10_addToken_123 rfl rfl ?_
          obtain ⟨r1, ka, kb⟩ := k
          refine z_if_le (tgt := 149) dX10_addToken_125 rfl r1 rfl ⟨fun q => ?_, fun q => ?_⟩
          · have k := ka q
            refine z_iconst dX10_addToken_149 rfl ?_
            exact z_ireturn rfl dX10_addToken_150 ⟨_, rfl, k⟩
          · have k := kb q
            refine z_ldcS (k := 6) (tx := ";|&-!()[],") (x := 6) (by decide +kernel) (by decide) rfl dX10_addToken_128 rfl ?_
            refine z_iload dX10_addToken_130 rfl rfl ?_
            refine z_i2c dX10_addToken_132 rfl ?_
            refine z_callTi vJ0_indexOf_0f7a4 kX10_70 dX10_addToken_133 rfl (zRo_d d) (as := [vi (zi2c (h28 l1 l2))]) (rest := []) (Nat.le_of_ble_eq_true rfl) rfl rfl (zCi_mono (fun x29 h30 k => ?_) k)
            obtain ⟨r1, ka, kb⟩ := k
            refine z_if_lt (tgt := 149) dX10_addToken_136 rfl r1 rfl ⟨fun q => ?_, fun q => ?_⟩
            · have k := ka q
              refine z_iconst dX10_addToken_149 rfl ?_
              exact z_ireturn rfl dX10_addToken_150 ⟨_, rfl, k⟩
            · have k := kb q
              refine z_aload_n 0 dX10_addToken_139 rfl rfl (Nat.le_of_ble_eq_true rfl) rfl ?_
              refine z_iload dX10_addToken_140 rfl rfl ?_
              refine z_iload_n 2 dX10_addToken_142 rfl rfl rfl ?_
              refine z_lconst (x := 0) dX10_addToken_143 rfl rfl ?_
              refine z_callVv vX10_add kX10_36 dX10_addToken_144 rfl (zRo_d d) (as := [vi (h28 l1 l2), vi l2, vl 0]) (rest := []) (Nat.le_of_ble_eq_true rfl) rfl rfl (zCv_mono (fun h32 k => ?_) k)
              refine z_iconst dX10_addToken_147 rfl ?_
              exact z_ireturn rfl dX10_addToken_148 ⟨_, rfl, k⟩
        · have k := kb q
          refine z_aload_n 0 dX10_addToken_109 rfl rfl (Nat.le_of_ble_eq_true rfl) rfl ?_
          refine z_iconst dX10_addToken_110 rfl ?_
          refine z_iload_n 2 dX10_addToken_111 rfl rfl rfl ?_
          refine z_lconst (x := 0) dX10_addToken_112 rfl rfl ?_
          refine z_callVv vX10_add kX10_36 dX10_addToken_113 rfl (zRo_d d) (as := [vi 4, vi l2, vl 0]) (rest := []) (Nat.le_of_ble_eq_true rfl) rfl rfl (zCv_mono (fun h34 k => ?_) k)
          refine z_iconst dX10_addToken_116 rfl ?_
          exact z_ireturn rfl dX10_addToken_117 ⟨_, rfl, k⟩
      · have k := kb q
        refine z_iload dX10_addToken_69 rfl rfl ?_
        refine z_iconst dX10_addToken_71 rfl ?_
        obtain ⟨r1, ka, kb⟩ := k
        refine z_icmp_gt (tgt := 95) dX10_addToken_72 rfl r1 ⟨by decide, by decide⟩ rfl ⟨fun q => ?_, fun q => ?_⟩
        · have k := ka q
          refine z_aload_n 1 dX10_addToken_95 rfl rfl (Nat.le_of_ble_eq_true rfl) rfl ?_
          refine z_iload_n 2 dX10_addToken_96 rfl rfl rfl ?_
          refine z_iload_n 3 dX10_addToken_97 rfl rfl rfl ?_
          refine z_bipush dX10_addToken_98 rfl rfl ?_
          refine z_bipush dX10_addToken_100 rfl rfl ?_
          refine z_callSi sX10_runOf kX10_56 dX10_addToken_102 rfl (zRo_d d) (as := [vr 15 l1, vi l2, vi l3, vi 46, vi 46]) (rest := []) (Nat.le_of_ble_eq_true rfl) rfl rfl (zCi_mono (fun x35 h36 k => ?_) k)
          refine z_iconst dX10_addToken_105 rfl ?_
          obtain ⟨r1, ka, kb⟩ := k
          refine z_icmp_lt (tgt := 118) dX10_addToken_106 rfl r1 ⟨by decide, by decide⟩ rfl ⟨fun q => ?_, fun q => ?_⟩
          · have k := ka q
            refine z_aload_n 1 dX10_addToken_118 rfl rfl (Nat.le_of_ble_eq_true rfl) rfl ?_
            refine z_iload_n 2 dX10_addToken_119 rfl rfl rfl ?_
            obtain ⟨i9, k⟩ := k
            refine z_bald (x := (h36 l1 l2)) dX10_addToken_120 i9 rfl rfl ?_
            refine z_istore dX10_addToken_121 (Nat.le_of_ble_eq_true rfl) (L' := [some (vr 10 13), some (vr 15 l1), some (vi l2), some (vi l3), some (vi x1), some (vi x25), some (vi (h36 l1 l2))]) rfl rfl ?_
            refine z_iload dX10_addToken_123 rfl rfl ?_
            obtain ⟨r1, ka, kb⟩ := k
            refine z_if_le (tgt := 149) dX10_addToken_125 rfl r1 rfl ⟨fun q => ?_, fun q => ?_⟩
            · have k := ka q
              refine z_iconst dX10_addToken_149 rfl ?_
              exact z_ireturn rfl dX10_addToken_150 ⟨_, rfl, k⟩
            · have k := kb q
              refine z_ldcS (k := 6) (tx := ";|&-!()[],") (x := 6) (by decide +kernel) (by decide) rfl dX10_addToken_128 rfl ?_
              refine z_iload dX10_addToken_130 rfl rfl ?_
              refine z_i2c dX10_addToken_132 rfl ?_
              refine z_callTi vJ0_indexOf_0f7a4 kX10_70 dX10_addToken_133 rfl (zRo_d d) (as := [vi (zi2c (h36 l1 l2))]) (rest := []) (Nat.le_of_ble_eq_true rfl) rfl rfl (zCi_mono (fun x37 h38 k => ?_) k)
              obtain ⟨r1, ka, kb⟩ := k
              refine z_if_lt (tgt := 149) dX10_addToken_136 rfl r1 rfl ⟨fun q => ?_, fun q => ?_⟩
              · have k := ka q
                refine z_iconst dX10_addToken_149 rfl ?_
                exact z_ireturn rfl dX10_addToken_150 ⟨_, rfl, k⟩
              · have k := kb q
                refine z_aload_n 0 dX10_addToken_139 rfl rfl (Nat.le_of_ble_eq_true rfl) rfl ?_
                refine z_iload dX10_addToken_140 rfl rfl ?_
                refine z_iload_n 2 dX10_addToken_142 rfl rfl rfl ?_
                refine z_lconst (x := 0) dX10_addToken_143 rfl rfl ?_
                refine z_callVv vX10_add kX10_36 dX10_addToken_144 rfl (zRo_d d) (as := [vi (h36 l1 l2), vi l2, vl 0]) (rest := []) (Nat.le_of_ble_eq_true rfl) rfl rfl (zCv_mono (fun h40 k => ?_) k)
                refine z_iconst dX10_addToken_147 rfl ?_
                exact z_ireturn rfl dX10_addToken_148 ⟨_, rfl, k⟩
          · have k := kb q
            refine z_aload_n 0 dX10_addToken_109 rfl rfl (Nat.le_of_ble_eq_true rfl) rfl ?_
            refine z_iconst dX10_addToken_110 rfl ?_
            refine z_iload_n 2 dX10_addToken_111 rfl rfl rfl ?_
            refine z_lconst (x := 0) dX10_addToken_112 rfl rfl ?_
            refine z_callVv vX10_add kX10_36 dX10_addToken_113 rfl (zRo_d d) (as := [vi 4, vi l2, vl 0]) (rest := []) (Nat.le_of_ble_eq_true rfl) rfl rfl (zCv_mono (fun h42 k => ?_) k)
            refine z_iconst dX10_addToken_116 rfl ?_
            exact z_ireturn rfl dX10_addToken_117 ⟨_, rfl, k⟩
        · have k := kb q
          refine z_aload_n 0 dX10_addToken_75 rfl rfl (Nat.le_of_ble_eq_true rfl) rfl ?_
          refine z_iconst dX10_addToken_76 rfl ?_
          refine z_iload_n 2 dX10_addToken_77 rfl rfl rfl ?_
          refine z_aload_n 1 dX10_addToken_78 rfl rfl (Nat.le_of_ble_eq_true rfl) rfl ?_
          refine z_iload_n 2 dX10_addToken_79 rfl rfl rfl ?_
          refine z_iload dX10_addToken_80 rfl rfl ?_
          refine z_bipush dX10_addToken_82 rfl rfl ?_
          refine z_bipush dX10_addToken_84 rfl rfl ?_
          refine z_callSl sX10_valueOf kX10_60 dX10_addToken_86 rfl (zRo_d d) (as := [vr 15 l1, vi l2, vi x25, vi 48, vi 10]) (rest := [vi l2, vi 3, vr 10 13]) (Nat.le_of_ble_eq_true rfl) rfl rfl (zCl_mono (fun x43 h44 k => ?_) k)
          refine z_callVv vX10_add kX10_36 dX10_addToken_89 rfl (zRo_d d) (as := [vi 3, vi l2, vl x43]) (rest := []) (Nat.le_of_ble_eq_true rfl) rfl rfl (zCv_mono (fun h46 k => ?_) k)
          refine z_iload dX10_addToken_92 rfl rfl ?_
          exact z_ireturn rfl dX10_addToken_94 ⟨_, rfl, k⟩
    · have k := kb q
      refine z_aload_n 1 dX10_addToken_24 rfl rfl (Nat.le_of_ble_eq_true rfl) rfl ?_
      refine z_iload_n 2 dX10_addToken_25 rfl rfl rfl ?_
      refine z_iload dX10_addToken_26 rfl rfl ?_
      refine z_bipush dX10_addToken_28 rfl rfl ?_
      refine z_bipush dX10_addToken_30 rfl rfl ?_
      refine z_callSl sX10_valueOf kX10_60 dX10_addToken_32 rfl (zRo_d d) (as := [vr 15 l1, vi l2, vi x1, vi 96, vi 32]) (rest := []) (Nat.le_of_ble_eq_true rfl) rfl rfl (zCl_mono (fun x47 h48 k => ?_) k)
      refine z_lstore dX10_addToken_35 (Nat.le_of_ble_eq_true rfl) (L' := [some (vr 10 13), some (vr 15 l1), some (vi l2), some (vi l3), some (vi x1), some (vl x47), none]) rfl rfl ?_
      refine z_aload_n 0 dX10_addToken_37 rfl rfl (Nat.le_of_ble_eq_true rfl) rfl ?_
      refine z_lload dX10_addToken_38 rfl rfl ?_
      refine z_callSi sX10_kindOf kX10_64 dX10_addToken_40 rfl (zRo_d d) (as := [vl x47]) (rest := [vr 10 13]) (Nat.le_of_ble_eq_true rfl) rfl rfl (zCi_mono (fun x49 h50 k => ?_) k)
      refine z_iload_n 2 dX10_addToken_43 rfl rfl rfl ?_
      refine z_lload dX10_addToken_44 rfl rfl ?_
      refine z_callVv vX10_add kX10_36 dX10_addToken_46 rfl (zRo_d d) (as := [vi x49, vi l2, vl x47]) (rest := []) (Nat.le_of_ble_eq_true rfl) rfl rfl (zCv_mono (fun h52 k => ?_) k)
      refine z_iload dX10_addToken_49 rfl rfl ?_
      exact z_ireturn rfl dX10_addToken_51 ⟨_, rfl, k⟩
theorem eX10_addToken {G : zG} {d : Nat} {K : Int → zH → Prop} {l1 : Int} {l2 : Int} {l3 : Int} {h : zH} (k : tX10_addToken_0 G d K l1 l2 l3 h) : zCi G (d + 1) mX10_addToken [vr 10 13, vr 15 l1, vi l2, vi l3] h K := z_entry (by decide +kernel) (Nat.le_of_ble_eq_true rfl) rfl k
def tX10_runOf_0 (G : zG) (d : Nat) (K : Int → zH → Prop) (l0 : Int) (l1 : Int) (l2 : Int) (l3 : Int) (l4 : Int) (h : zH) : Prop := zTi G d mX10_runOf K 0 [some (vr 15 l0), some (vi l1), some (vi l2), some (vi l3), some (vi l4), none] [] h
def tX10_runOf_3 (G : zG) (d : Nat) (K : Int → zH → Prop) (l0 : Int) (l1 : Int) (l2 : Int) (l3 : Int) (l4 : Int) (l5 : Int) (h : zH) : Prop := zTi G d mX10_runOf K 3 [some (vr 15 l0), some (vi l1), some (vi l2), some (vi l3), some (vi l4), some (vi l5)] [] h
theorem bX10_runOf_0 {G : zG} {d : Nat} {K : Int → zH → Prop} {l0 : Int} {l1 : Int} {l2 : Int} {l3 : Int} {l4 : Int} {h : zH} (k : tX10_runOf_3 G d K l0 l1 l2 l3 l4 0 h) : tX10_runOf_0 G d K l0 l1 l2 l3 l4 h := by
  unfold tX10_runOf_0
  refine z_iconst dX10_runOf_0 rfl ?_
  refine z_istore dX10_runOf_1 (Nat.le_of_ble_eq_true rfl) (L' := [some (vr 15 l0), some (vi l1), some (vi l2), some (vi l3), some (vi l4), some (vi 0)]) rfl rfl ?_
  exact z_sub (L' := [some (vr 15 l0), some (vi l1), some (vi l2), some (vi l3), some (vi l4), some (vi 0)]) (And.intro rfl (And.intro rfl (And.intro rfl (And.intro rfl (And.intro rfl (And.intro rfl trivial)))))) k
theorem bX10_runOf_3 {G : zG} {d : Nat} {K : Int → zH → Prop} {l0 : Int} {l1 : Int} {l2 : Int} {l3 : Int} {l4 : Int} {l5 : Int} {h : zH} (k : zR (l1 + l5) ∧ zR l2 ∧ (l2 ≤ (l1 + l5) → K l5 h) ∧ (¬ l2 ≤ (l1 + l5) → ((0 : Int) ≤ (l1 + l5) ∧ (l1 + l5) < zln l0) ∧ zR (h l0 (l1 + l5)) ∧ zR l3 ∧ ((h l0 (l1 + l5)) < l3 → K l5 h) ∧ (¬ (h l0 (l1 + l5)) < l3 → ((0 : Int) ≤ (l1 + l5) ∧ (l1 + l5) < zln l0) ∧ zR (h l0 (l1 + l5)) ∧ zR l4 ∧ (l4 < (h l0 (l1 + l5)) → K l5 h) ∧ (¬ l4 < (h l0 (l1 + l5)) → tX10_runOf_3 G d K l0 l1 l2 l3 l4 (l5 + 1) h)))) : tX10_runOf_3 G d K l0 l1 l2 l3 l4 l5 h := by
  unfold tX10_runOf_3
  refine z_iload_n 1 dX10_runOf_3 rfl rfl rfl ?_
  refine z_iload dX10_runOf_4 rfl rfl ?_
  refine z_iadd dX10_runOf_6 rfl ?_
  refine z_iload_n 2 dX10_runOf_7 rfl rfl rfl ?_
  obtain ⟨r1, r2, ka, kb⟩ := k
  refine z_icmp_ge (tgt := 38) dX10_runOf_8 rfl r1 r2 rfl ⟨fun q => ?_, fun q => ?_⟩
  · have k := ka q
    refine z_iload dX10_runOf_38 rfl rfl ?_
    exact z_ireturn rfl dX10_runOf_40 ⟨_, rfl, k⟩
  · have k := kb q
    refine z_aload_n 0 dX10_runOf_11 rfl rfl (Nat.le_of_ble_eq_true rfl) rfl ?_
    refine z_iload_n 1 dX10_runOf_12 rfl rfl rfl ?_
    refine z_iload dX10_runOf_13 rfl rfl ?_
    refine z_iadd dX10_runOf_15 rfl ?_
    obtain ⟨i9, k⟩ := k
    refine z_bald (x := (h l0 (l1 + l5))) dX10_runOf_16 i9 rfl rfl ?_
    refine z_iload_n 3 dX10_runOf_17 rfl rfl rfl ?_
    obtain ⟨r1, r2, ka, kb⟩ := k
    refine z_icmp_lt (tgt := 38) dX10_runOf_18 rfl r1 r2 rfl ⟨fun q => ?_, fun q => ?_⟩
    · have k := ka q
      refine z_iload dX10_runOf_38 rfl rfl ?_
      exact z_ireturn rfl dX10_runOf_40 ⟨_, rfl, k⟩
    · have k := kb q
      refine z_aload_n 0 dX10_runOf_21 rfl rfl (Nat.le_of_ble_eq_true rfl) rfl ?_
      refine z_iload_n 1 dX10_runOf_22 rfl rfl rfl ?_
      refine z_iload dX10_runOf_23 rfl rfl ?_
      refine z_iadd dX10_runOf_25 rfl ?_
      obtain ⟨i9, k⟩ := k
      refine z_bald (x := (h l0 (l1 + l5))) dX10_runOf_26 i9 rfl rfl ?_
      refine z_iload dX10_runOf_27 rfl rfl ?_
      obtain ⟨r1, r2, ka, kb⟩ := k
      refine z_icmp_gt (tgt := 38) dX10_runOf_29 rfl r1 r2 rfl ⟨fun q => ?_, fun q => ?_⟩
      · have k := ka q
        refine z_iload dX10_runOf_38 rfl rfl ?_
        exact z_ireturn rfl dX10_runOf_40 ⟨_, rfl, k⟩
      · have k := kb q
        refine z_iinc dX10_runOf_32 rfl (Nat.le_of_ble_eq_true rfl) (L' := [some (vr 15 l0), some (vi l1), some (vi l2), some (vi l3), some (vi l4), some (vi (l5 + 1))]) rfl rfl ?_
        refine z_goto (tgt := 3) dX10_runOf_35 rfl ?_
        exact z_sub (L' := [some (vr 15 l0), some (vi l1), some (vi l2), some (vi l3), some (vi l4), some (vi (l5 + 1))]) (And.intro rfl (And.intro rfl (And.intro rfl (And.intro rfl (And.intro rfl (And.intro rfl trivial)))))) k
theorem eX10_runOf {G : zG} {d : Nat} {K : Int → zH → Prop} {l0 : Int} {l1 : Int} {l2 : Int} {l3 : Int} {l4 : Int} {h : zH} (k : tX10_runOf_0 G d K l0 l1 l2 l3 l4 h) : zCi G d mX10_runOf [vr 15 l0, vi l1, vi l2, vi l3, vi l4] h K := z_entry (by decide +kernel) (Nat.le_of_ble_eq_true rfl) rfl k
def tX10_valueOf_0 (G : zG) (d : Nat) (K : Int → zH → Prop) (l0 : Int) (l1 : Int) (l2 : Int) (l3 : Int) (l4 : Int) (h : zH) : Prop := zTl G d mX10_valueOf K 0 [some (vr 15 l0), some (vi l1), some (vi l2), some (vi l3), some (vi l4), none, none, none] [] h
def tX10_valueOf_6 (G : zG) (d : Nat) (K : Int → zH → Prop) (l0 : Int) (l1 : Int) (l2 : Int) (l3 : Int) (l4 : Int) (l5 : Int) (l7 : Int) (h : zH) : Prop := zTl G d mX10_valueOf K 6 [some (vr 15 l0), some (vi l1), some (vi l2), some (vi l3), some (vi l4), some (vl l5), none, some (vi l7)] [] h
theorem bX10_valueOf_0 {G : zG} {d : Nat} {K : Int → zH → Prop} {l0 : Int} {l1 : Int} {l2 : Int} {l3 : Int} {l4 : Int} {h : zH} (k : tX10_valueOf_6 G d K l0 l1 l2 l3 l4 0 l1 h) : tX10_valueOf_0 G d K l0 l1 l2 l3 l4 h := by
  unfold tX10_valueOf_0
  refine z_lconst (x := 0) dX10_valueOf_0 rfl rfl ?_
  refine z_lstore dX10_valueOf_1 (Nat.le_of_ble_eq_true rfl) (L' := [some (vr 15 l0), some (vi l1), some (vi l2), some (vi l3), some (vi l4), some (vl 0), none, none]) rfl rfl ?_
  refine z_iload_n 1 dX10_valueOf_3 rfl rfl rfl ?_
  refine z_istore dX10_valueOf_4 (Nat.le_of_ble_eq_true rfl) (L' := [some (vr 15 l0), some (vi l1), some (vi l2), some (vi l3), some (vi l4), some (vl 0), none, some (vi l1)]) rfl rfl ?_
  exact z_sub (L' := [some (vr 15 l0), some (vi l1), some (vi l2), some (vi l3), some (vi l4), some (vl 0), none, some (vi l1)]) (And.intro rfl (And.intro rfl (And.intro rfl (And.intro rfl (And.intro rfl (And.intro rfl (And.intro rfl trivial))))))) k
theorem bX10_valueOf_6 {G : zG} {d : Nat} {K : Int → zH → Prop} {l0 : Int} {l1 : Int} {l2 : Int} {l3 : Int} {l4 : Int} {l5 : Int} {l7 : Int} {h : zH} (k : zR l7 ∧ zR (l1 + l2) ∧ ((l1 + l2) ≤ l7 → K l5 h) ∧ (¬ (l1 + l2) ≤ l7 → zR l4 ∧ ((0 : Int) ≤ l7 ∧ l7 < zln l0) ∧ zR (h l0 l7) ∧ zR l3 ∧ tX10_valueOf_6 G d K l0 l1 l2 l3 l4 (((l5 * l4) + (h l0 l7)) - l3) (l7 + 1) h)) : tX10_valueOf_6 G d K l0 l1 l2 l3 l4 l5 l7 h := by
  unfold tX10_valueOf_6
  refine z_iload dX10_valueOf_6 rfl rfl ?_
  refine z_iload_n 1 dX10_valueOf_8 rfl rfl rfl ?_
  refine z_iload_n 2 dX10_valueOf_9 rfl rfl rfl ?_
  refine z_iadd dX10_valueOf_10 rfl ?_
  obtain ⟨r1, r2, ka, kb⟩ := k
  refine z_icmp_ge (tgt := 37) dX10_valueOf_11 rfl r1 r2 rfl ⟨fun q => ?_, fun q => ?_⟩
  · have k := ka q
    refine z_lload dX10_valueOf_37 rfl rfl ?_
    exact z_lreturn rfl dX10_valueOf_39 ⟨_, rfl, k⟩
  · have k := kb q
    refine z_lload dX10_valueOf_14 rfl rfl ?_
    refine z_iload dX10_valueOf_16 rfl rfl ?_
    obtain ⟨r9, k⟩ := k
    refine z_i2l dX10_valueOf_18 r9 rfl ?_
    refine z_lmul dX10_valueOf_19 rfl ?_
    refine z_aload_n 0 dX10_valueOf_20 rfl rfl (Nat.le_of_ble_eq_true rfl) rfl ?_
    refine z_iload dX10_valueOf_21 rfl rfl ?_
    obtain ⟨i9, k⟩ := k
    refine z_bald (x := (h l0 l7)) dX10_valueOf_23 i9 rfl rfl ?_
    obtain ⟨r9, k⟩ := k
    refine z_i2l dX10_valueOf_24 r9 rfl ?_
    refine z_ladd dX10_valueOf_25 rfl ?_
    refine z_iload_n 3 dX10_valueOf_26 rfl rfl rfl ?_
    obtain ⟨r9, k⟩ := k
    refine z_i2l dX10_valueOf_27 r9 rfl ?_
    refine z_lsub dX10_valueOf_28 rfl ?_
    refine z_lstore dX10_valueOf_29 (Nat.le_of_ble_eq_true rfl) (L' := [some (vr 15 l0), some (vi l1), some (vi l2), some (vi l3), some (vi l4), some (vl (((l5 * l4) + (h l0 l7)) - l3)), none, some (vi l7)]) rfl rfl ?_
    refine z_iinc dX10_valueOf_31 rfl (Nat.le_of_ble_eq_true rfl) (L' := [some (vr 15 l0), some (vi l1), some (vi l2), some (vi l3), some (vi l4), some (vl (((l5 * l4) + (h l0 l7)) - l3)), none, some (vi (l7 + 1))]) rfl rfl ?_
    refine z_goto (tgt := 6) dX10_valueOf_34 rfl ?_
    exact z_sub (L' := [some (vr 15 l0), some (vi l1), some (vi l2), some (vi l3), some (vi l4), some (vl (((l5 * l4) + (h l0 l7)) - l3)), none, some (vi (l7 + 1))]) (And.intro rfl (And.intro rfl (And.intro rfl (And.intro rfl (And.intro rfl (And.intro rfl (And.intro rfl trivial))))))) k
theorem eX10_valueOf {G : zG} {d : Nat} {K : Int → zH → Prop} {l0 : Int} {l1 : Int} {l2 : Int} {l3 : Int} {l4 : Int} {h : zH} (k : tX10_valueOf_0 G d K l0 l1 l2 l3 l4 h) : zCl G d mX10_valueOf [vr 15 l0, vi l1, vi l2, vi l3, vi l4] h K := z_entry (by decide +kernel) (Nat.le_of_ble_eq_true rfl) rfl k
def tX10_kindOf_0 (G : zG) (d : Nat) (K : Int → zH → Prop) (l0 : Int) (h : zH) : Prop := zTi G (d + 1) mX10_kindOf K 0 [some (vl l0), none] [] h
theorem bX10_kindOf_0 {G : zG} {d : Nat} {K : Int → zH → Prop} {l0 : Int} {h : zH} (k : zCl G d mX10_codeOf [(40, 0)] h (fun x1 h2 => (¬ (zcmp l0 x1) = 0 → zCl G d mX10_codeOf [(40, 1)] h2 (fun x3 h4 => (¬ (zcmp l0 x3) = 0 → zCl G d mX10_codeOf [(40, 2)] h4 (fun x5 h6 => (¬ (zcmp l0 x5) = 0 → zCl G d mX10_codeOf [(40, 3)] h6 (fun x7 h8 => (¬ (zcmp l0 x7) = 0 → zCl G d mX10_codeOf [(40, 4)] h8 (fun x9 h10 => (¬ (zcmp l0 x9) = 0 → zCl G d mX10_codeOf [(40, 5)] h10 (fun x11 h12 => (¬ (zcmp l0 x11) = 0 → K 2 h12) ∧ ((zcmp l0 x11) = 0 → K 10 h12))) ∧ ((zcmp l0 x9) = 0 → K 9 h10))) ∧ ((zcmp l0 x7) = 0 → K 8 h8))) ∧ ((zcmp l0 x5) = 0 → K 7 h6))) ∧ ((zcmp l0 x3) = 0 → K 6 h4))) ∧ ((zcmp l0 x1) = 0 → K 5 h2))) : tX10_kindOf_0 G d K l0 h := by
  unfold tX10_kindOf_0
  refine z_lload_n 0 dX10_kindOf_0 rfl rfl rfl ?_
  refine z_ldcS (k := 0) (tx := "set") (x := 0) (by decide +kernel) (by decide) rfl dX10_kindOf_1 rfl ?_
  refine z_callSl sX10_codeOf kX10_78 dX10_kindOf_3 rfl (zRo_d d) (as := [(40, 0)]) (rest := [vl l0]) (Nat.le_of_ble_eq_true rfl) rfl rfl (zCl_mono (fun x1 h2 k => ?_) k)
  refine z_lcmp dX10_kindOf_6 rfl ?_
  obtain ⟨ka, kb⟩ := k
  refine z_if_ne (tgt := 14) dX10_kindOf_7 rfl (zcmp_R _ _) rfl ⟨fun q => ?_, fun q => ?_⟩
  · have k := ka q
    refine z_lload_n 0 dX10_kindOf_14 rfl rfl rfl ?_
    refine z_ldcS (k := 1) (tx := "machine") (x := 1) (by decide +kernel) (by decide) rfl dX10_kindOf_15 rfl ?_
    refine z_callSl sX10_codeOf kX10_78 dX10_kindOf_17 rfl (zRo_d d) (as := [(40, 1)]) (rest := [vl l0]) (Nat.le_of_ble_eq_true rfl) rfl rfl (zCl_mono (fun x3 h4 k => ?_) k)
    refine z_lcmp dX10_kindOf_20 rfl ?_
    obtain ⟨ka, kb⟩ := k
    refine z_if_ne (tgt := 29) dX10_kindOf_21 rfl (zcmp_R _ _) rfl ⟨fun q => ?_, fun q => ?_⟩
    · have k := ka q
      refine z_lload_n 0 dX10_kindOf_29 rfl rfl rfl ?_
      refine z_ldcS (k := 2) (tx := "edge") (x := 2) (by decide +kernel) (by decide) rfl dX10_kindOf_30 rfl ?_
      refine z_callSl sX10_codeOf kX10_78 dX10_kindOf_32 rfl (zRo_d d) (as := [(40, 2)]) (rest := [vl l0]) (Nat.le_of_ble_eq_true rfl) rfl rfl (zCl_mono (fun x5 h6 k => ?_) k)
      refine z_lcmp dX10_kindOf_35 rfl ?_
      obtain ⟨ka, kb⟩ := k
      refine z_if_ne (tgt := 44) dX10_kindOf_36 rfl (zcmp_R _ _) rfl ⟨fun q => ?_, fun q => ?_⟩
      · have k := ka q
        refine z_lload_n 0 dX10_kindOf_44 rfl rfl rfl ?_
        refine z_ldcS (k := 3) (tx := "free") (x := 3) (by decide +kernel) (by decide) rfl dX10_kindOf_45 rfl ?_
        refine z_callSl sX10_codeOf kX10_78 dX10_kindOf_47 rfl (zRo_d d) (as := [(40, 3)]) (rest := [vl l0]) (Nat.le_of_ble_eq_true rfl) rfl rfl (zCl_mono (fun x7 h8 k => ?_) k)
        refine z_lcmp dX10_kindOf_50 rfl ?_
        obtain ⟨ka, kb⟩ := k
        refine z_if_ne (tgt := 59) dX10_kindOf_51 rfl (zcmp_R _ _) rfl ⟨fun q => ?_, fun q => ?_⟩
        · have k := ka q
          refine z_lload_n 0 dX10_kindOf_59 rfl rfl rfl ?_
          refine z_ldcS (k := 4) (tx := "end") (x := 4) (by decide +kernel) (by decide) rfl dX10_kindOf_60 rfl ?_
          refine z_callSl sX10_codeOf kX10_78 dX10_kindOf_62 rfl (zRo_d d) (as := [(40, 4)]) (rest := [vl l0]) (Nat.le_of_ble_eq_true rfl) rfl rfl (zCl_mono (fun x9 h10 k => ?_) k)
          refine z_lcmp dX10_kindOf_65 rfl ?_
          obtain ⟨ka, kb⟩ := k
          refine z_if_ne (tgt := 74) dX10_kindOf_66 rfl (zcmp_R _ _) rfl ⟨fun q => ?_, fun q => ?_⟩
          · have k := ka q
            refine z_lload_n 0 dX10_kindOf_74 rfl rfl rfl ?_
            refine z_ldcS (k := 5) (tx := "any") (x := 5) (by decide +kernel) (by decide) rfl dX10_kindOf_75 rfl ?_
            refine z_callSl sX10_codeOf kX10_78 dX10_kindOf_77 rfl (zRo_d d) (as := [(40, 5)]) (rest := [vl l0]) (Nat.le_of_ble_eq_true rfl) rfl rfl (zCl_mono (fun x11 h12 k => ?_) k)
            refine z_lcmp dX10_kindOf_80 rfl ?_
            obtain ⟨ka, kb⟩ := k
            refine z_if_ne (tgt := 89) dX10_kindOf_81 rfl (zcmp_R _ _) rfl ⟨fun q => ?_, fun q => ?_⟩
            · have k := ka q
              refine z_iconst dX10_kindOf_89 rfl ?_
              exact z_ireturn rfl dX10_kindOf_90 ⟨_, rfl, k⟩
            · have k := kb q
              refine z_bipush dX10_kindOf_84 rfl rfl ?_
              refine z_goto (tgt := 90) dX10_kindOf_86 rfl ?_
              exact z_ireturn rfl dX10_kindOf_90 ⟨_, rfl, k⟩
          · have k := kb q
            refine z_bipush dX10_kindOf_69 rfl rfl ?_
            refine z_goto (tgt := 90) dX10_kindOf_71 rfl ?_
            exact z_ireturn rfl dX10_kindOf_90 ⟨_, rfl, k⟩
        · have k := kb q
          refine z_bipush dX10_kindOf_54 rfl rfl ?_
          refine z_goto (tgt := 90) dX10_kindOf_56 rfl ?_
          exact z_ireturn rfl dX10_kindOf_90 ⟨_, rfl, k⟩
      · have k := kb q
        refine z_bipush dX10_kindOf_39 rfl rfl ?_
        refine z_goto (tgt := 90) dX10_kindOf_41 rfl ?_
        exact z_ireturn rfl dX10_kindOf_90 ⟨_, rfl, k⟩
    · have k := kb q
      refine z_bipush dX10_kindOf_24 rfl rfl ?_
      refine z_goto (tgt := 90) dX10_kindOf_26 rfl ?_
      exact z_ireturn rfl dX10_kindOf_90 ⟨_, rfl, k⟩
  · have k := kb q
    refine z_iconst dX10_kindOf_10 rfl ?_
    refine z_goto (tgt := 90) dX10_kindOf_11 rfl ?_
    exact z_ireturn rfl dX10_kindOf_90 ⟨_, rfl, k⟩
theorem eX10_kindOf {G : zG} {d : Nat} {K : Int → zH → Prop} {l0 : Int} {h : zH} (k : tX10_kindOf_0 G d K l0 h) : zCi G (d + 1) mX10_kindOf [vl l0] h K := z_entry (by decide +kernel) (Nat.le_of_ble_eq_true rfl) rfl k
def tX10_codeOf_0 (G : zG) (d : Nat) (K : Int → zH → Prop) (l0 : Int) (h : zH) : Prop := zTl G (d + 1) mX10_codeOf K 0 [some ((40, l0)), none, none, none] [] h
def tX10_codeOf_4 (G : zG) (d : Nat) (K : Int → zH → Prop) (l0 : Int) (l1 : Int) (l3 : Int) (h : zH) : Prop := zTl G (d + 1) mX10_codeOf K 4 [some ((40, l0)), some (vl l1), none, some (vi l3)] [] h
theorem bX10_codeOf_0 {G : zG} {d : Nat} {K : Int → zH → Prop} {l0 : Int} {h : zH} (k : tX10_codeOf_4 G d K l0 0 0 h) : tX10_codeOf_0 G d K l0 h := by
  unfold tX10_codeOf_0
  refine z_lconst (x := 0) dX10_codeOf_0 rfl rfl ?_
  refine z_lstore_n 1 dX10_codeOf_1 rfl (Nat.le_of_ble_eq_true rfl) (L' := [some ((40, l0)), some (vl 0), none, none]) rfl rfl ?_
  refine z_iconst dX10_codeOf_2 rfl ?_
  refine z_istore_n 3 dX10_codeOf_3 rfl (Nat.le_of_ble_eq_true rfl) (L' := [some ((40, l0)), some (vl 0), none, some (vi 0)]) rfl rfl ?_
  exact z_sub (L' := [some ((40, l0)), some (vl 0), none, some (vi 0)]) (And.intro rfl (And.intro rfl (And.intro rfl trivial))) k
theorem bX10_codeOf_4 {G : zG} {d : Nat} {K : Int → zH → Prop} {l0 : Int} {l1 : Int} {l3 : Int} {h : zH} (k : zCi G d mJ0_length_8abf5 [(40, l0)] h (fun x1 h2 => zR l3 ∧ zR x1 ∧ (x1 ≤ l3 → K l1 h2) ∧ (¬ x1 ≤ l3 → zCi G d mJ0_charAt_5068e [(40, l0), vi l3] h2 (fun x3 h4 => zR x3 ∧ tX10_codeOf_4 G d K l0 (((l1 * 32) + x3) - 96) (l3 + 1) h4)))) : tX10_codeOf_4 G d K l0 l1 l3 h := by
  unfold tX10_codeOf_4
  refine z_iload_n 3 dX10_codeOf_4 rfl rfl rfl ?_
  refine z_aload_n 0 dX10_codeOf_5 rfl rfl (Nat.le_of_ble_eq_true rfl) rfl ?_
  refine z_callTi vJ0_length_8abf5 kX10_92 dX10_codeOf_6 rfl (zRo_d d) (as := []) (rest := [vi l3]) (Nat.le_of_ble_eq_true rfl) rfl rfl (zCi_mono (fun x1 h2 k => ?_) k)
  obtain ⟨r1, r2, ka, kb⟩ := k
  refine z_icmp_ge (tgt := 35) dX10_codeOf_9 rfl r1 r2 rfl ⟨fun q => ?_, fun q => ?_⟩
  · have k := ka q
    refine z_lload_n 1 dX10_codeOf_35 rfl rfl rfl ?_
    exact z_lreturn rfl dX10_codeOf_36 ⟨_, rfl, k⟩
  · have k := kb q
    refine z_lload_n 1 dX10_codeOf_12 rfl rfl rfl ?_
    refine z_ldc2 (x := 32) cX10_96 rfl dX10_codeOf_13 rfl ?_
    refine z_lmul dX10_codeOf_16 rfl ?_
    refine z_aload_n 0 dX10_codeOf_17 rfl rfl (Nat.le_of_ble_eq_true rfl) rfl ?_
    refine z_iload_n 3 dX10_codeOf_18 rfl rfl rfl ?_
    refine z_callTi vJ0_charAt_5068e kX10_98 dX10_codeOf_19 rfl (zRo_d d) (as := [vi l3]) (rest := [vl (l1 * 32)]) (Nat.le_of_ble_eq_true rfl) rfl rfl (zCi_mono (fun x3 h4 k => ?_) k)
    obtain ⟨r9, k⟩ := k
    refine z_i2l dX10_codeOf_22 r9 rfl ?_
    refine z_ladd dX10_codeOf_23 rfl ?_
    refine z_ldc2 (x := 96) cX10_102 rfl dX10_codeOf_24 rfl ?_
    refine z_lsub dX10_codeOf_27 rfl ?_
    refine z_lstore_n 1 dX10_codeOf_28 rfl (Nat.le_of_ble_eq_true rfl) (L' := [some ((40, l0)), some (vl (((l1 * 32) + x3) - 96)), none, some (vi l3)]) rfl rfl ?_
    refine z_iinc dX10_codeOf_29 rfl (Nat.le_of_ble_eq_true rfl) (L' := [some ((40, l0)), some (vl (((l1 * 32) + x3) - 96)), none, some (vi (l3 + 1))]) rfl rfl ?_
    refine z_goto (tgt := 4) dX10_codeOf_32 rfl ?_
    exact z_sub (L' := [some ((40, l0)), some (vl (((l1 * 32) + x3) - 96)), none, some (vi (l3 + 1))]) (And.intro rfl (And.intro rfl (And.intro rfl trivial))) k
theorem eX10_codeOf {G : zG} {d : Nat} {K : Int → zH → Prop} {l0 : Int} {h : zH} (k : tX10_codeOf_0 G d K l0 h) : zCl G (d + 1) mX10_codeOf [(40, l0)] h K := z_entry (by decide +kernel) (Nat.le_of_ble_eq_true rfl) rfl k
def tX10_add_0 (G : zG) (d : Nat) (K : zH → Prop) (l1 : Int) (l2 : Int) (l3 : Int) (h : zH) : Prop := zTv G d mX10_add K 0 [some (vr 10 13), some (vi l1), some (vi l2), some (vl l3), none] [] h
theorem bX10_add_0 {G : zG} {d : Nat} {K : zH → Prop} {l1 : Int} {l2 : Int} {l3 : Int} {h : zH} (k : zR (h 13 3) ∧ (901 ≤ (h 13 3) → K h) ∧ (¬ 901 ≤ (h 13 3) → ((0 : Int) ≤ (h 13 3) ∧ (h 13 3) < 901) ∧ ((0 : Int) ≤ (h 13 3) ∧ (h 13 3) < 901) ∧ ((0 : Int) ≤ (h 13 3) ∧ (h 13 3) < 901) ∧ K (zup (zup (zup (zup h 14 (h 13 3) l1) 15 (h 13 3) l2) 16 (h 13 3) l3) 13 3 ((h 13 3) + 1)))) : tX10_add_0 G d K l1 l2 l3 h := by
  unfold tX10_add_0
  refine z_aload_n 0 dX10_add_0 rfl rfl (Nat.le_of_ble_eq_true rfl) rfl ?_
  refine z_getI 10 (x := (h 13 3)) fX10_22 rfl dX10_add_1 rfl rfl ?_
  refine z_aload_n 0 dX10_add_4 rfl rfl (Nat.le_of_ble_eq_true rfl) rfl ?_
  refine z_getF 10 13 (x := 14) fX10_9 rfl dX10_add_5 rfl rfl ?_
  refine z_alen13 (x := 901) dX10_add_8 (zl_14) rfl ?_
  obtain ⟨r1, ka, kb⟩ := k
  refine z_icmp_ge (tgt := 52) dX10_add_9 rfl r1 ⟨by decide, by decide⟩ rfl ⟨fun q => ?_, fun q => ?_⟩
  · have k := ka q
    exact z_return rfl dX10_add_52 ⟨rfl, k⟩
  · have k := kb q
    refine z_aload_n 0 dX10_add_12 rfl rfl (Nat.le_of_ble_eq_true rfl) rfl ?_
    refine z_getF 10 13 (x := 14) fX10_9 rfl dX10_add_13 rfl rfl ?_
    refine z_aload_n 0 dX10_add_16 rfl rfl (Nat.le_of_ble_eq_true rfl) rfl ?_
    refine z_getI 10 (x := (h 13 3)) fX10_22 rfl dX10_add_17 rfl rfl ?_
    refine z_iload_n 1 dX10_add_20 rfl rfl rfl ?_
    obtain ⟨i9, k⟩ := k
    refine z_iast dX10_add_21 (by rw [zl_14]; exact i9) rfl ?_
    refine z_aload_n 0 dX10_add_22 rfl rfl (Nat.le_of_ble_eq_true rfl) rfl ?_
    refine z_getF 10 13 (x := 15) fX10_15 rfl dX10_add_23 rfl rfl ?_
    refine z_aload_n 0 dX10_add_26 rfl rfl (Nat.le_of_ble_eq_true rfl) rfl ?_
    refine z_getI 10 (x := (h 13 3)) fX10_22 rfl dX10_add_27 (by simp [zup]) rfl ?_
    refine z_iload_n 2 dX10_add_30 rfl rfl rfl ?_
    obtain ⟨i9, k⟩ := k
    refine z_iast dX10_add_31 (by rw [zl_15]; exact i9) rfl ?_
    refine z_aload_n 0 dX10_add_32 rfl rfl (Nat.le_of_ble_eq_true rfl) rfl ?_
    refine z_getF 10 14 (x := 16) fX10_18 rfl dX10_add_33 rfl rfl ?_
    refine z_aload_n 0 dX10_add_36 rfl rfl (Nat.le_of_ble_eq_true rfl) rfl ?_
    refine z_getI 10 (x := (h 13 3)) fX10_22 rfl dX10_add_37 (by simp [zup]) rfl ?_
    refine z_lload_n 3 dX10_add_40 rfl rfl rfl ?_
    obtain ⟨i9, k⟩ := k
    refine z_last dX10_add_41 (by rw [zl_16]; exact i9) rfl ?_
    refine z_aload_n 0 dX10_add_42 rfl rfl (Nat.le_of_ble_eq_true rfl) rfl ?_
    refine z_dup dX10_add_43 (fun q => by cases q) rfl ?_
    refine z_getI 10 (x := (h 13 3)) fX10_22 rfl dX10_add_44 (by simp [zup]) rfl ?_
    refine z_iconst dX10_add_47 rfl ?_
    refine z_iadd dX10_add_48 rfl ?_
    refine z_putI 10 gX10_22 dX10_add_49 rfl ?_
    exact z_return rfl dX10_add_52 ⟨rfl, k⟩
theorem eX10_add {G : zG} {d : Nat} {K : zH → Prop} {l1 : Int} {l2 : Int} {l3 : Int} {h : zH} (k : tX10_add_0 G d K l1 l2 l3 h) : zCv G d mX10_add [vr 10 13, vi l1, vi l2, vl l3] h K := z_entry (by decide +kernel) (Nat.le_of_ble_eq_true rfl) rfl k
def tX3_rangeCount_0 (G : zG) (d : Nat) (K : Int → zH → Prop) (l0 : Int) (h : zH) : Prop := zTi G d mX3_rangeCount K 0 [some (vr 3 l0)] [] h
theorem bX3_rangeCount_0 {G : zG} {d : Nat} {K : Int → zH → Prop} {l0 : Int} {h : zH} (k : (0 ≤ (h l0 1) ∧ (h l0 1) < 2147483648) ∧ K ((h l0 1) / 2) h) : tX3_rangeCount_0 G d K l0 h := by
  unfold tX3_rangeCount_0
  refine z_aload_n 0 dX3_rangeCount_0 rfl rfl (Nat.le_of_ble_eq_true rfl) rfl ?_
  refine z_getI 3 (x := (h l0 1)) fX3_21 rfl dX3_rangeCount_1 rfl rfl ?_
  refine z_iconst dX3_rangeCount_4 rfl ?_
  obtain ⟨i9, k⟩ := k
  refine z_idiv dX3_rangeCount_5 ⟨i9.1, i9.2, by decide, by decide⟩ rfl ?_
  exact z_ireturn rfl dX3_rangeCount_6 ⟨_, rfl, k⟩
theorem eX3_rangeCount {G : zG} {d : Nat} {K : Int → zH → Prop} {l0 : Int} {h : zH} (k : tX3_rangeCount_0 G d K l0 h) : zCi G d mX3_rangeCount [vr 3 l0] h K := z_entry (by decide +kernel) (Nat.le_of_ble_eq_true rfl) rfl k
def tX3_bound_0 (G : zG) (d : Nat) (K : Int → zH → Prop) (l0 : Int) (l1 : Int) (l2 : Bool) (h : zH) : Prop := zTi G (d + 1) mX3_bound K 0 [some (vr 3 l0), some (vi l1), some (vi (bi l2)), none] [] h
theorem bX3_bound_0 {G : zG} {d : Nat} {K : Int → zH → Prop} {l0 : Int} {l1 : Int} {l2 : Bool} {h : zH} (k : (l2 = false → zCb G d mX11_isIn [vi (2 * l1), vi (h l0 1)] h (fun x1 h2 => (x1 = true → (l2 = false → ((0 : Int) ≤ (2 * l1) ∧ (2 * l1) < zln (l0 + 1)) ∧ K (h2 (l0 + 1) (2 * l1)) h2) ∧ (l2 = true → ((0 : Int) ≤ (2 * l1) ∧ (2 * l1) < zln (l0 + 1)) ∧ K ((h2 (l0 + 1) (2 * l1)) - 1) h2)) ∧ (x1 = false → K (-1) h2))) ∧ (l2 = true → zCb G d mX11_isIn [vi ((2 * l1) + 1), vi (h l0 1)] h (fun x3 h4 => (x3 = true → (l2 = false → ((0 : Int) ≤ ((2 * l1) + 1) ∧ ((2 * l1) + 1) < zln (l0 + 1)) ∧ K (h4 (l0 + 1) ((2 * l1) + 1)) h4) ∧ (l2 = true → ((0 : Int) ≤ ((2 * l1) + 1) ∧ ((2 * l1) + 1) < zln (l0 + 1)) ∧ K ((h4 (l0 + 1) ((2 * l1) + 1)) - 1) h4)) ∧ (x3 = false → K (-1) h4)))) : tX3_bound_0 G d K l0 l1 l2 h := by
  unfold tX3_bound_0
  refine z_iload_n 2 dX3_bound_0 rfl rfl rfl ?_
  obtain ⟨ka, kb⟩ := k
  refine z_ifb_eq (tgt := 12) dX3_bound_1 rfl rfl ⟨fun q => ?_, fun q => ?_⟩
  · have k := ka q
    refine z_iconst dX3_bound_12 rfl ?_
    refine z_iload_n 1 dX3_bound_13 rfl rfl rfl ?_
    refine z_imul dX3_bound_14 rfl ?_
    refine z_istore_n 3 dX3_bound_15 rfl (Nat.le_of_ble_eq_true rfl) (L' := [some (vr 3 l0), some (vi l1), some (vi (bi l2)), some (vi (2 * l1))]) rfl rfl ?_
    refine z_iload_n 3 dX3_bound_16 rfl rfl rfl ?_
    refine z_aload_n 0 dX3_bound_17 rfl rfl (Nat.le_of_ble_eq_true rfl) rfl ?_
    refine z_getI 3 (x := (h l0 1)) fX3_21 rfl dX3_bound_18 rfl rfl ?_
    refine z_callSNb (host := "RangedMachines") sX11_isIn (by decide +kernel) dX3_bound_21 rfl (zRo_d d) (as := [vi (2 * l1), vi (h l0 1)]) (rest := []) (Nat.le_of_ble_eq_true rfl) rfl rfl (zCb_mono (fun x1 h2 k => ?_) k)
    obtain ⟨ka, kb⟩ := k
    refine z_ifb_ne (tgt := 29) dX3_bound_24 rfl rfl ⟨fun q => ?_, fun q => ?_⟩
    · have k := ka q
      refine z_iload_n 2 dX3_bound_29 rfl rfl rfl ?_
      obtain ⟨ka, kb⟩ := k
      refine z_ifb_eq (tgt := 44) dX3_bound_30 rfl rfl ⟨fun q => ?_, fun q => ?_⟩
      · have k := ka q
        refine z_aload_n 0 dX3_bound_44 rfl rfl (Nat.le_of_ble_eq_true rfl) rfl ?_
        refine z_getF 3 13 (x := (l0 + 1)) fX3_15 rfl dX3_bound_45 (by omega) rfl ?_
        refine z_iload_n 3 dX3_bound_48 rfl rfl rfl ?_
        obtain ⟨i9, k⟩ := k
        refine z_iald (x := (h2 (l0 + 1) (2 * l1))) dX3_bound_49 i9 rfl rfl ?_
        exact z_ireturn rfl dX3_bound_50 ⟨_, rfl, k⟩
      · have k := kb q
        refine z_aload_n 0 dX3_bound_33 rfl rfl (Nat.le_of_ble_eq_true rfl) rfl ?_
        refine z_getF 3 13 (x := (l0 + 1)) fX3_15 rfl dX3_bound_34 (by omega) rfl ?_
        refine z_iload_n 3 dX3_bound_37 rfl rfl rfl ?_
        obtain ⟨i9, k⟩ := k
        refine z_iald (x := (h2 (l0 + 1) (2 * l1))) dX3_bound_38 i9 rfl rfl ?_
        refine z_iconst dX3_bound_39 rfl ?_
        refine z_isub dX3_bound_40 rfl ?_
        refine z_goto (tgt := 50) dX3_bound_41 rfl ?_
        exact z_ireturn rfl dX3_bound_50 ⟨_, rfl, k⟩
    · have k := kb q
      refine z_iconst dX3_bound_27 rfl ?_
      exact z_ireturn rfl dX3_bound_28 ⟨_, rfl, k⟩
  · have k := kb q
    refine z_iconst dX3_bound_4 rfl ?_
    refine z_iload_n 1 dX3_bound_5 rfl rfl rfl ?_
    refine z_imul dX3_bound_6 rfl ?_
    refine z_iconst dX3_bound_7 rfl ?_
    refine z_iadd dX3_bound_8 rfl ?_
    refine z_goto (tgt := 15) dX3_bound_9 rfl ?_
    refine z_istore_n 3 dX3_bound_15 rfl (Nat.le_of_ble_eq_true rfl) (L' := [some (vr 3 l0), some (vi l1), some (vi (bi l2)), some (vi ((2 * l1) + 1))]) rfl rfl ?_
    refine z_iload_n 3 dX3_bound_16 rfl rfl rfl ?_
    refine z_aload_n 0 dX3_bound_17 rfl rfl (Nat.le_of_ble_eq_true rfl) rfl ?_
    refine z_getI 3 (x := (h l0 1)) fX3_21 rfl dX3_bound_18 rfl rfl ?_
    refine z_callSNb (host := "RangedMachines") sX11_isIn (by decide +kernel) dX3_bound_21 rfl (zRo_d d) (as := [vi ((2 * l1) + 1), vi (h l0 1)]) (rest := []) (Nat.le_of_ble_eq_true rfl) rfl rfl (zCb_mono (fun x3 h4 k => ?_) k)
    obtain ⟨ka, kb⟩ := k
    refine z_ifb_ne (tgt := 29) dX3_bound_24 rfl rfl ⟨fun q => ?_, fun q => ?_⟩
    · have k := ka q
      refine z_iload_n 2 dX3_bound_29 rfl rfl rfl ?_
      obtain ⟨ka, kb⟩ := k
      refine z_ifb_eq (tgt := 44) dX3_bound_30 rfl rfl ⟨fun q => ?_, fun q => ?_⟩
      · have k := ka q
        refine z_aload_n 0 dX3_bound_44 rfl rfl (Nat.le_of_ble_eq_true rfl) rfl ?_
        refine z_getF 3 13 (x := (l0 + 1)) fX3_15 rfl dX3_bound_45 (by omega) rfl ?_
        refine z_iload_n 3 dX3_bound_48 rfl rfl rfl ?_
        obtain ⟨i9, k⟩ := k
        refine z_iald (x := (h4 (l0 + 1) ((2 * l1) + 1))) dX3_bound_49 i9 rfl rfl ?_
        exact z_ireturn rfl dX3_bound_50 ⟨_, rfl, k⟩
      · have k := kb q
        refine z_aload_n 0 dX3_bound_33 rfl rfl (Nat.le_of_ble_eq_true rfl) rfl ?_
        refine z_getF 3 13 (x := (l0 + 1)) fX3_15 rfl dX3_bound_34 (by omega) rfl ?_
        refine z_iload_n 3 dX3_bound_37 rfl rfl rfl ?_
        obtain ⟨i9, k⟩ := k
        refine z_iald (x := (h4 (l0 + 1) ((2 * l1) + 1))) dX3_bound_38 i9 rfl rfl ?_
        refine z_iconst dX3_bound_39 rfl ?_
        refine z_isub dX3_bound_40 rfl ?_
        refine z_goto (tgt := 50) dX3_bound_41 rfl ?_
        exact z_ireturn rfl dX3_bound_50 ⟨_, rfl, k⟩
    · have k := kb q
      refine z_iconst dX3_bound_27 rfl ?_
      exact z_ireturn rfl dX3_bound_28 ⟨_, rfl, k⟩
theorem eX3_bound {G : zG} {d : Nat} {K : Int → zH → Prop} {l0 : Int} {l1 : Int} {l2 : Bool} {h : zH} (k : tX3_bound_0 G d K l0 l1 l2 h) : zCi G (d + 1) mX3_bound [vr 3 l0, vi l1, vi (bi l2)] h K := z_entry (by decide +kernel) (Nat.le_of_ble_eq_true rfl) rfl k
def tX3_amount_0 (G : zG) (d : Nat) (K : Int → zH → Prop) (l0 : Int) (h : zH) : Prop := zTi G d mX3_amount K 0 [some (vr 3 l0), none, none] [] h
def tX3_amount_4 (G : zG) (d : Nat) (K : Int → zH → Prop) (l0 : Int) (l1 : Int) (l2 : Int) (h : zH) : Prop := zTi G d mX3_amount K 4 [some (vr 3 l0), some (vi l1), some (vi l2)] [] h
theorem bX3_amount_0 {G : zG} {d : Nat} {K : Int → zH → Prop} {l0 : Int} {h : zH} (k : tX3_amount_4 G d K l0 0 0 h) : tX3_amount_0 G d K l0 h := by
  unfold tX3_amount_0
  refine z_iconst dX3_amount_0 rfl ?_
  refine z_istore_n 1 dX3_amount_1 rfl (Nat.le_of_ble_eq_true rfl) (L' := [some (vr 3 l0), some (vi 0), none]) rfl rfl ?_
  refine z_iconst dX3_amount_2 rfl ?_
  refine z_istore_n 2 dX3_amount_3 rfl (Nat.le_of_ble_eq_true rfl) (L' := [some (vr 3 l0), some (vi 0), some (vi 0)]) rfl rfl ?_
  exact z_sub (L' := [some (vr 3 l0), some (vi 0), some (vi 0)]) (And.intro rfl (And.intro rfl (And.intro rfl trivial))) k
theorem bX3_amount_4 {G : zG} {d : Nat} {K : Int → zH → Prop} {l0 : Int} {l1 : Int} {l2 : Int} {h : zH} (k : zR (l2 + 1) ∧ zR (h l0 1) ∧ ((h l0 1) ≤ (l2 + 1) → K l1 h) ∧ (¬ (h l0 1) ≤ (l2 + 1) → ((0 : Int) ≤ (l2 + 1) ∧ (l2 + 1) < zln (l0 + 1)) ∧ ((0 : Int) ≤ l2 ∧ l2 < zln (l0 + 1)) ∧ tX3_amount_4 G d K l0 (l1 + ((h (l0 + 1) (l2 + 1)) - (h (l0 + 1) l2))) (l2 + 2) h)) : tX3_amount_4 G d K l0 l1 l2 h := by
  unfold tX3_amount_4
  refine z_iload_n 2 dX3_amount_4 rfl rfl rfl ?_
  refine z_iconst dX3_amount_5 rfl ?_
  refine z_iadd dX3_amount_6 rfl ?_
  refine z_aload_n 0 dX3_amount_7 rfl rfl (Nat.le_of_ble_eq_true rfl) rfl ?_
  refine z_getI 3 (x := (h l0 1)) fX3_21 rfl dX3_amount_8 rfl rfl ?_
  obtain ⟨r1, r2, ka, kb⟩ := k
  refine z_icmp_ge (tgt := 38) dX3_amount_11 rfl r1 r2 rfl ⟨fun q => ?_, fun q => ?_⟩
  · have k := ka q
    refine z_iload_n 1 dX3_amount_38 rfl rfl rfl ?_
    exact z_ireturn rfl dX3_amount_39 ⟨_, rfl, k⟩
  · have k := kb q
    refine z_iload_n 1 dX3_amount_14 rfl rfl rfl ?_
    refine z_aload_n 0 dX3_amount_15 rfl rfl (Nat.le_of_ble_eq_true rfl) rfl ?_
    refine z_getF 3 13 (x := (l0 + 1)) fX3_15 rfl dX3_amount_16 (by omega) rfl ?_
    refine z_iload_n 2 dX3_amount_19 rfl rfl rfl ?_
    refine z_iconst dX3_amount_20 rfl ?_
    refine z_iadd dX3_amount_21 rfl ?_
    obtain ⟨i9, k⟩ := k
    refine z_iald (x := (h (l0 + 1) (l2 + 1))) dX3_amount_22 i9 rfl rfl ?_
    refine z_aload_n 0 dX3_amount_23 rfl rfl (Nat.le_of_ble_eq_true rfl) rfl ?_
    refine z_getF 3 13 (x := (l0 + 1)) fX3_15 rfl dX3_amount_24 (by omega) rfl ?_
    refine z_iload_n 2 dX3_amount_27 rfl rfl rfl ?_
    obtain ⟨i9, k⟩ := k
    refine z_iald (x := (h (l0 + 1) l2)) dX3_amount_28 i9 rfl rfl ?_
    refine z_isub dX3_amount_29 rfl ?_
    refine z_iadd dX3_amount_30 rfl ?_
    refine z_istore_n 1 dX3_amount_31 rfl (Nat.le_of_ble_eq_true rfl) (L' := [some (vr 3 l0), some (vi (l1 + ((h (l0 + 1) (l2 + 1)) - (h (l0 + 1) l2)))), some (vi l2)]) rfl rfl ?_
    refine z_iinc dX3_amount_32 rfl (Nat.le_of_ble_eq_true rfl) (L' := [some (vr 3 l0), some (vi (l1 + ((h (l0 + 1) (l2 + 1)) - (h (l0 + 1) l2)))), some (vi (l2 + 2))]) rfl rfl ?_
    refine z_goto (tgt := 4) dX3_amount_35 rfl ?_
    exact z_sub (L' := [some (vr 3 l0), some (vi (l1 + ((h (l0 + 1) (l2 + 1)) - (h (l0 + 1) l2)))), some (vi (l2 + 2))]) (And.intro rfl (And.intro rfl (And.intro rfl trivial))) k
theorem eX3_amount {G : zG} {d : Nat} {K : Int → zH → Prop} {l0 : Int} {h : zH} (k : tX3_amount_0 G d K l0 h) : zCi G d mX3_amount [vr 3 l0] h K := z_entry (by decide +kernel) (Nat.le_of_ble_eq_true rfl) rfl k
def tX3_holds_0 (G : zG) (d : Nat) (K : Bool → zH → Prop) (l0 : Int) (l1 : Int) (h : zH) : Prop := zTb G d mX3_holds K 0 [some (vr 3 l0), some (vi l1), none] [] h
def tX3_holds_2 (G : zG) (d : Nat) (K : Bool → zH → Prop) (l0 : Int) (l1 : Int) (l2 : Int) (h : zH) : Prop := zTb G d mX3_holds K 2 [some (vr 3 l0), some (vi l1), some (vi l2)] [] h
theorem bX3_holds_0 {G : zG} {d : Nat} {K : Bool → zH → Prop} {l0 : Int} {l1 : Int} {h : zH} (k : tX3_holds_2 G d K l0 l1 0 h) : tX3_holds_0 G d K l0 l1 h := by
  unfold tX3_holds_0
  refine z_iconst dX3_holds_0 rfl ?_
  refine z_istore_n 2 dX3_holds_1 rfl (Nat.le_of_ble_eq_true rfl) (L' := [some (vr 3 l0), some (vi l1), some (vi 0)]) rfl rfl ?_
  exact z_sub (L' := [some (vr 3 l0), some (vi l1), some (vi 0)]) (And.intro rfl (And.intro rfl (And.intro rfl trivial))) k
theorem bX3_holds_2 {G : zG} {d : Nat} {K : Bool → zH → Prop} {l0 : Int} {l1 : Int} {l2 : Int} {h : zH} (k : zR l2 ∧ zR (h l0 1) ∧ ((h l0 1) ≤ l2 → (0 ≤ l2 ∧ l2 < 2147483648) ∧ (¬ (l2 % 2) = 1 → K false h) ∧ ((l2 % 2) = 1 → K true h)) ∧ (¬ (h l0 1) ≤ l2 → ((0 : Int) ≤ l2 ∧ l2 < zln (l0 + 1)) ∧ zR (h (l0 + 1) l2) ∧ zR l1 ∧ (l1 < (h (l0 + 1) l2) → (0 ≤ l2 ∧ l2 < 2147483648) ∧ (¬ (l2 % 2) = 1 → K false h) ∧ ((l2 % 2) = 1 → K true h)) ∧ (¬ l1 < (h (l0 + 1) l2) → tX3_holds_2 G d K l0 l1 (l2 + 1) h))) : tX3_holds_2 G d K l0 l1 l2 h := by
  unfold tX3_holds_2
  refine z_iload_n 2 dX3_holds_2 rfl rfl rfl ?_
  refine z_aload_n 0 dX3_holds_3 rfl rfl (Nat.le_of_ble_eq_true rfl) rfl ?_
  refine z_getI 3 (x := (h l0 1)) fX3_21 rfl dX3_holds_4 rfl rfl ?_
  obtain ⟨r1, r2, ka, kb⟩ := k
  refine z_icmp_ge (tgt := 26) dX3_holds_7 rfl r1 r2 rfl ⟨fun q => ?_, fun q => ?_⟩
  · have k := ka q
    refine z_iload_n 2 dX3_holds_26 rfl rfl rfl ?_
    refine z_iconst dX3_holds_27 rfl ?_
    obtain ⟨i9, k⟩ := k
    refine z_irem dX3_holds_28 ⟨i9.1, i9.2, by decide, by decide⟩ rfl ?_
    refine z_iconst dX3_holds_29 rfl ?_
    obtain ⟨ka, kb⟩ := k
    refine z_icmp_ne (tgt := 37) dX3_holds_30 rfl (zR_mod _ (by decide)) ⟨by decide, by decide⟩ rfl ⟨fun q => ?_, fun q => ?_⟩
    · have k := ka q
      refine z_iconst dX3_holds_37 rfl ?_
      exact z_zreturn rfl (Or.inl rfl) dX3_holds_38 ⟨false, rfl, k⟩
    · have k := kb q
      refine z_iconst dX3_holds_33 rfl ?_
      refine z_goto (tgt := 38) dX3_holds_34 rfl ?_
      exact z_zreturn rfl (Or.inr rfl) dX3_holds_38 ⟨true, rfl, k⟩
  · have k := kb q
    refine z_aload_n 0 dX3_holds_10 rfl rfl (Nat.le_of_ble_eq_true rfl) rfl ?_
    refine z_getF 3 13 (x := (l0 + 1)) fX3_15 rfl dX3_holds_11 (by omega) rfl ?_
    refine z_iload_n 2 dX3_holds_14 rfl rfl rfl ?_
    obtain ⟨i9, k⟩ := k
    refine z_iald (x := (h (l0 + 1) l2)) dX3_holds_15 i9 rfl rfl ?_
    refine z_iload_n 1 dX3_holds_16 rfl rfl rfl ?_
    obtain ⟨r1, r2, ka, kb⟩ := k
    refine z_icmp_gt (tgt := 26) dX3_holds_17 rfl r1 r2 rfl ⟨fun q => ?_, fun q => ?_⟩
    · have k := ka q
      refine z_iload_n 2 dX3_holds_26 rfl rfl rfl ?_
      refine z_iconst dX3_holds_27 rfl ?_
      obtain ⟨i9, k⟩ := k
      refine z_irem dX3_holds_28 ⟨i9.1, i9.2, by decide, by decide⟩ rfl ?_
      refine z_iconst dX3_holds_29 rfl ?_
      obtain ⟨ka, kb⟩ := k
      refine z_icmp_ne (tgt := 37) dX3_holds_30 rfl (zR_mod _ (by decide)) ⟨by decide, by decide⟩ rfl ⟨fun q => ?_, fun q => ?_⟩
      · have k := ka q
        refine z_iconst dX3_holds_37 rfl ?_
        exact z_zreturn rfl (Or.inl rfl) dX3_holds_38 ⟨false, rfl, k⟩
      · have k := kb q
        refine z_iconst dX3_holds_33 rfl ?_
        refine z_goto (tgt := 38) dX3_holds_34 rfl ?_
        exact z_zreturn rfl (Or.inr rfl) dX3_holds_38 ⟨true, rfl, k⟩
    · have k := kb q
      refine z_iinc dX3_holds_20 rfl (Nat.le_of_ble_eq_true rfl) (L' := [some (vr 3 l0), some (vi l1), some (vi (l2 + 1))]) rfl rfl ?_
      refine z_goto (tgt := 2) dX3_holds_23 rfl ?_
      exact z_sub (L' := [some (vr 3 l0), some (vi l1), some (vi (l2 + 1))]) (And.intro rfl (And.intro rfl (And.intro rfl trivial))) k
theorem eX3_holds {G : zG} {d : Nat} {K : Bool → zH → Prop} {l0 : Int} {l1 : Int} {h : zH} (k : tX3_holds_0 G d K l0 l1 h) : zCb G d mX3_holds [vr 3 l0, vi l1] h K := z_entry (by decide +kernel) (Nat.le_of_ble_eq_true rfl) rfl k
def tX3_clear_0 (G : zG) (d : Nat) (K : zH → Prop) (l0 : Int) (h : zH) : Prop := zTv G d mX3_clear K 0 [some (vr 3 l0)] [] h
theorem bX3_clear_0 {G : zG} {d : Nat} {K : zH → Prop} {l0 : Int} {h : zH} (k : K (zup h l0 1 0)) : tX3_clear_0 G d K l0 h := by
  unfold tX3_clear_0
  refine z_aload_n 0 dX3_clear_0 rfl rfl (Nat.le_of_ble_eq_true rfl) rfl ?_
  refine z_iconst dX3_clear_1 rfl ?_
  refine z_putI 3 gX3_21 dX3_clear_2 rfl ?_
  exact z_return rfl dX3_clear_5 ⟨rfl, k⟩
theorem eX3_clear {G : zG} {d : Nat} {K : zH → Prop} {l0 : Int} {h : zH} (k : tX3_clear_0 G d K l0 h) : zCv G d mX3_clear [vr 3 l0] h K := z_entry (by decide +kernel) (Nat.le_of_ble_eq_true rfl) rfl k
def tX3_become_0 (G : zG) (d : Nat) (K : zH → Prop) (l0 : Int) (l1 : Int) (l2 : Int) (h : zH) : Prop := zTv G d mX3_become K 0 [some (vr 3 l0), some (vi l1), some (vi l2)] [] h
theorem bX3_become_0 {G : zG} {d : Nat} {K : zH → Prop} {l0 : Int} {l1 : Int} {l2 : Int} {h : zH} (k : ((zln (l0 + 1)) < 2 → K (zup h l0 1 0)) ∧ (¬ (zln (l0 + 1)) < 2 → ((0 : Int) ≤ 0 ∧ 0 < zln (l0 + 1)) ∧ ((0 : Int) ≤ 1 ∧ 1 < zln (l0 + 1)) ∧ K (zup (zup (zup (zup h l0 1 0) (l0 + 1) 0 l1) (l0 + 1) 1 (l2 + 1)) l0 1 2))) : tX3_become_0 G d K l0 l1 l2 h := by
  unfold tX3_become_0
  refine z_aload_n 0 dX3_become_0 rfl rfl (Nat.le_of_ble_eq_true rfl) rfl ?_
  refine z_iconst dX3_become_1 rfl ?_
  refine z_putI 3 gX3_21 dX3_become_2 rfl ?_
  refine z_aload_n 0 dX3_become_5 rfl rfl (Nat.le_of_ble_eq_true rfl) rfl ?_
  refine z_getF 3 13 (x := (l0 + 1)) fX3_15 rfl dX3_become_6 (by omega) rfl ?_
  refine z_alen13 dX3_become_9 rfl rfl ?_
  refine z_iconst dX3_become_10 rfl ?_
  obtain ⟨ka, kb⟩ := k
  refine z_icmp_lt (tgt := 35) dX3_become_11 rfl (zR_zln _) ⟨by decide, by decide⟩ rfl ⟨fun q => ?_, fun q => ?_⟩
  · have k := ka q
    exact z_return rfl dX3_become_35 ⟨rfl, k⟩
  · have k := kb q
    refine z_aload_n 0 dX3_become_14 rfl rfl (Nat.le_of_ble_eq_true rfl) rfl ?_
    refine z_getF 3 13 (x := (l0 + 1)) fX3_15 rfl dX3_become_15 (by omega) rfl ?_
    refine z_iconst dX3_become_18 rfl ?_
    refine z_iload_n 1 dX3_become_19 rfl rfl rfl ?_
    obtain ⟨i9, k⟩ := k
    refine z_iast dX3_become_20 i9 rfl ?_
    refine z_aload_n 0 dX3_become_21 rfl rfl (Nat.le_of_ble_eq_true rfl) rfl ?_
    refine z_getF 3 13 (x := (l0 + 1)) fX3_15 rfl dX3_become_22 (by omega) rfl ?_
    refine z_iconst dX3_become_25 rfl ?_
    refine z_iload_n 2 dX3_become_26 rfl rfl rfl ?_
    refine z_iconst dX3_become_27 rfl ?_
    refine z_iadd dX3_become_28 rfl ?_
    obtain ⟨i9, k⟩ := k
    refine z_iast dX3_become_29 i9 rfl ?_
    refine z_aload_n 0 dX3_become_30 rfl rfl (Nat.le_of_ble_eq_true rfl) rfl ?_
    refine z_iconst dX3_become_31 rfl ?_
    refine z_putI 3 gX3_21 dX3_become_32 rfl ?_
    exact z_return rfl dX3_become_35 ⟨rfl, k⟩
theorem eX3_become {G : zG} {d : Nat} {K : zH → Prop} {l0 : Int} {l1 : Int} {l2 : Int} {h : zH} (k : tX3_become_0 G d K l0 l1 l2 h) : zCv G d mX3_become [vr 3 l0, vi l1, vi l2] h K := z_entry (by decide +kernel) (Nat.le_of_ble_eq_true rfl) rfl k
def tX3_copy_0 (G : zG) (d : Nat) (K : zH → Prop) (l0 : Int) (l1 : Int) (h : zH) : Prop := zTv G (d + 1) mX3_copy K 0 [some (vr 3 l0), some (vr 3 l1), none] [] h
def tX3_copy_7 (G : zG) (d : Nat) (K : zH → Prop) (l0 : Int) (l1 : Int) (l2 : Int) (h : zH) : Prop := zTv G (d + 1) mX3_copy K 7 [some (vr 3 l0), some (vr 3 l1), some (vi l2)] [] h
theorem bX3_copy_0 {G : zG} {d : Nat} {K : zH → Prop} {l0 : Int} {l1 : Int} {h : zH} (k : tX3_copy_7 G d K l0 l1 0 (zup h l0 1 0)) : tX3_copy_0 G d K l0 l1 h := by
  unfold tX3_copy_0
  refine z_aload_n 0 dX3_copy_0 rfl rfl (Nat.le_of_ble_eq_true rfl) rfl ?_
  refine z_iconst dX3_copy_1 rfl ?_
  refine z_putI 3 gX3_21 dX3_copy_2 rfl ?_
  refine z_iconst dX3_copy_5 rfl ?_
  refine z_istore_n 2 dX3_copy_6 rfl (Nat.le_of_ble_eq_true rfl) (L' := [some (vr 3 l0), some (vr 3 l1), some (vi 0)]) rfl rfl ?_
  exact z_sub (L' := [some (vr 3 l0), some (vr 3 l1), some (vi 0)]) (And.intro rfl (And.intro rfl (And.intro rfl trivial))) k
theorem bX3_copy_7 {G : zG} {d : Nat} {K : zH → Prop} {l0 : Int} {l1 : Int} {l2 : Int} {h : zH} (k : zR l2 ∧ zR (h l1 1) ∧ ((h l1 1) ≤ l2 → K h) ∧ (¬ (h l1 1) ≤ l2 → ((0 : Int) ≤ l2 ∧ l2 < zln (l1 + 1)) ∧ zCv G d mX3_addCut [vr 3 l0, vi (h (l1 + 1) l2)] h (fun h2 => tX3_copy_7 G d K l0 l1 (l2 + 1) h2))) : tX3_copy_7 G d K l0 l1 l2 h := by
  unfold tX3_copy_7
  refine z_iload_n 2 dX3_copy_7 rfl rfl rfl ?_
  refine z_aload_n 1 dX3_copy_8 rfl rfl (Nat.le_of_ble_eq_true rfl) rfl ?_
  refine z_getI 3 (x := (h l1 1)) fX3_21 rfl dX3_copy_9 rfl rfl ?_
  obtain ⟨r1, r2, ka, kb⟩ := k
  refine z_icmp_ge (tgt := 31) dX3_copy_12 rfl r1 r2 rfl ⟨fun q => ?_, fun q => ?_⟩
  · have k := ka q
    exact z_return rfl dX3_copy_31 ⟨rfl, k⟩
  · have k := kb q
    refine z_aload_n 0 dX3_copy_15 rfl rfl (Nat.le_of_ble_eq_true rfl) rfl ?_
    refine z_aload_n 1 dX3_copy_16 rfl rfl (Nat.le_of_ble_eq_true rfl) rfl ?_
    refine z_getF 3 13 (x := (l1 + 1)) fX3_15 rfl dX3_copy_17 (by omega) rfl ?_
    refine z_iload_n 2 dX3_copy_20 rfl rfl rfl ?_
    obtain ⟨i9, k⟩ := k
    refine z_iald (x := (h (l1 + 1) l2)) dX3_copy_21 i9 rfl rfl ?_
    refine z_callVv vX3_addCut kX3_29 dX3_copy_22 rfl (zRo_d d) (as := [vi (h (l1 + 1) l2)]) (rest := []) (Nat.le_of_ble_eq_true rfl) rfl rfl (zCv_mono (fun h2 k => ?_) k)
    refine z_iinc dX3_copy_25 rfl (Nat.le_of_ble_eq_true rfl) (L' := [some (vr 3 l0), some (vr 3 l1), some (vi (l2 + 1))]) rfl rfl ?_
    refine z_goto (tgt := 7) dX3_copy_28 rfl ?_
    exact z_sub (L' := [some (vr 3 l0), some (vr 3 l1), some (vi (l2 + 1))]) (And.intro rfl (And.intro rfl (And.intro rfl trivial))) k
theorem eX3_copy {G : zG} {d : Nat} {K : zH → Prop} {l0 : Int} {l1 : Int} {h : zH} (k : tX3_copy_0 G d K l0 l1 h) : zCv G (d + 1) mX3_copy [vr 3 l0, vr 3 l1] h K := z_entry (by decide +kernel) (Nat.le_of_ble_eq_true rfl) rfl k
def tX3_combine_0 (G : zG) (d : Nat) (K : zH → Prop) (l0 : Int) (l1 : Int) (l2 : Int) (l3 : Int) (h : zH) : Prop := zTv G (d + 1) mX3_combine K 0 [some (vr 3 l0), some (vr 3 l1), some (vr 3 l2), some (vi l3), none, none, none, none, none, none, none] [] h
def tX3_combine_20 (G : zG) (d : Nat) (K : zH → Prop) (l0 : Int) (l1 : Int) (l2 : Int) (l3 : Int) (l4 : Int) (l5 : Int) (l6 : Int) (l7 : Int) (l8 : Int) (h : zH) : Prop := zTv G (d + 1) mX3_combine K 20 [some (vr 3 l0), some (vr 3 l1), some (vr 3 l2), some (vi l3), some (vi l4), some (vi l5), some (vi l6), some (vi l7), some (vi l8), none, none] [] h
def tX3_combine_65 (G : zG) (d : Nat) (K : zH → Prop) (l0 : Int) (l1 : Int) (l2 : Int) (l3 : Int) (l4 : Int) (l5 : Int) (l6 : Int) (l7 : Int) (l8 : Int) (h : zH) : Prop := zTv G (d + 1) mX3_combine K 65 [some (vr 3 l0), some (vr 3 l1), some (vr 3 l2), some (vi l3), some (vi l4), some (vi l5), some (vi l6), some (vi l7), some (vi l8), none, none] [] h
def tX3_combine_89 (G : zG) (d : Nat) (K : zH → Prop) (l0 : Int) (l1 : Int) (l2 : Int) (l3 : Int) (l4 : Int) (l5 : Int) (l6 : Int) (l7 : Int) (l8 : Int) (h : zH) : Prop := zTv G (d + 1) mX3_combine K 89 [some (vr 3 l0), some (vr 3 l1), some (vr 3 l2), some (vi l3), some (vi l4), some (vi l5), some (vi l6), some (vi l7), some (vi l8), none, none] [] h
def tX3_combine_142 (G : zG) (d : Nat) (K : zH → Prop) (l0 : Int) (l1 : Int) (l2 : Int) (l3 : Int) (l4 : Int) (l5 : Int) (l7 : Int) (l8 : Int) (h : zH) : Prop := zTv G (d + 1) mX3_combine K 142 [some (vr 3 l0), some (vr 3 l1), some (vr 3 l2), some (vi l3), some (vi l4), some (vi l5), none, some (vi l7), some (vi l8), none, none] [] h
def tX3_combine_203 (G : zG) (d : Nat) (K : zH → Prop) (l0 : Int) (l7 : Int) (h : zH) : Prop := zTv G (d + 1) mX3_combine K 203 [some (vr 3 l0), none, none, none, none, none, none, some (vi l7), none, none, none] [] h
def tX3_combine_214 (G : zG) (d : Nat) (K : zH → Prop) (h : zH) : Prop := zTv G (d + 1) mX3_combine K 214 [none, none, none, none, none, none, none, none, none, none, none] [] h
theorem bX3_combine_0 {G : zG} {d : Nat} {K : zH → Prop} {l0 : Int} {l1 : Int} {l2 : Int} {l3 : Int} {h : zH} (k : tX3_combine_20 G d K l0 l1 l2 l3 0 0 0 0 0 (zup h l0 1 0)) : tX3_combine_0 G d K l0 l1 l2 l3 h := by
  unfold tX3_combine_0
  refine z_aload_n 0 dX3_combine_0 rfl rfl (Nat.le_of_ble_eq_true rfl) rfl ?_
  refine z_iconst dX3_combine_1 rfl ?_
  refine z_putI 3 gX3_21 dX3_combine_2 rfl ?_
  refine z_iconst dX3_combine_5 rfl ?_
  refine z_istore dX3_combine_6 (Nat.le_of_ble_eq_true rfl) (L' := [some (vr 3 l0), some (vr 3 l1), some (vr 3 l2), some (vi l3), some (vi 0), none, none, none, none, none, none]) rfl rfl ?_
  refine z_iconst dX3_combine_8 rfl ?_
  refine z_istore dX3_combine_9 (Nat.le_of_ble_eq_true rfl) (L' := [some (vr 3 l0), some (vr 3 l1), some (vr 3 l2), some (vi l3), some (vi 0), some (vi 0), none, none, none, none, none]) rfl rfl ?_
  refine z_iconst dX3_combine_11 rfl ?_
  refine z_istore dX3_combine_12 (Nat.le_of_ble_eq_true rfl) (L' := [some (vr 3 l0), some (vr 3 l1), some (vr 3 l2), some (vi l3), some (vi 0), some (vi 0), some (vi 0), none, none, none, none]) rfl rfl ?_
  refine z_iconst dX3_combine_14 rfl ?_
  refine z_istore dX3_combine_15 (Nat.le_of_ble_eq_true rfl) (L' := [some (vr 3 l0), some (vr 3 l1), some (vr 3 l2), some (vi l3), some (vi 0), some (vi 0), some (vi 0), some (vi 0), none, none, none]) rfl rfl ?_
  refine z_iconst dX3_combine_17 rfl ?_
  refine z_istore dX3_combine_18 (Nat.le_of_ble_eq_true rfl) (L' := [some (vr 3 l0), some (vr 3 l1), some (vr 3 l2), some (vi l3), some (vi 0), some (vi 0), some (vi 0), some (vi 0), some (vi 0), none, none]) rfl rfl ?_
  exact z_sub (L' := [some (vr 3 l0), some (vr 3 l1), some (vr 3 l2), some (vi l3), some (vi 0), some (vi 0), some (vi 0), some (vi 0), some (vi 0), none, none]) (And.intro rfl (And.intro rfl (And.intro rfl (And.intro rfl (And.intro rfl (And.intro rfl (And.intro rfl (And.intro rfl (And.intro rfl trivial))))))))) k
theorem bX3_combine_20 {G : zG} {d : Nat} {K : zH → Prop} {l0 : Int} {l1 : Int} {l2 : Int} {l3 : Int} {l4 : Int} {l5 : Int} {l6 : Int} {l7 : Int} {l8 : Int} {h : zH} (k : zR l8 ∧ zR ((h l1 1) + (h l2 1)) ∧ (((h l1 1) + (h l2 1)) < l8 → tX3_combine_203 G d K l0 l7 h) ∧ (¬ ((h l1 1) + (h l2 1)) < l8 → zR l6 ∧ (65536 ≤ l6 → tX3_combine_203 G d K l0 l7 h) ∧ (¬ 65536 ≤ l6 → zR l4 ∧ zR (h l1 1) ∧ ((h l1 1) ≤ l4 → tX3_combine_65 G d K l0 l1 l2 l3 l4 l5 l6 l7 l8 h) ∧ (¬ (h l1 1) ≤ l4 → ((0 : Int) ≤ l4 ∧ l4 < zln (l1 + 1)) ∧ zR (h (l1 + 1) l4) ∧ zR l6 ∧ (¬ (h (l1 + 1) l4) = l6 → tX3_combine_65 G d K l0 l1 l2 l3 l4 l5 l6 l7 l8 h) ∧ ((h (l1 + 1) l4) = l6 → tX3_combine_65 G d K l0 l1 l2 l3 (l4 + 1) l5 l6 l7 l8 h))))) : tX3_combine_20 G d K l0 l1 l2 l3 l4 l5 l6 l7 l8 h := by
  unfold tX3_combine_20
  refine z_iload dX3_combine_20 rfl rfl ?_
  refine z_aload_n 1 dX3_combine_22 rfl rfl (Nat.le_of_ble_eq_true rfl) rfl ?_
  refine z_getI 3 (x := (h l1 1)) fX3_21 rfl dX3_combine_23 rfl rfl ?_
  refine z_aload_n 2 dX3_combine_26 rfl rfl (Nat.le_of_ble_eq_true rfl) rfl ?_
  refine z_getI 3 (x := (h l2 1)) fX3_21 rfl dX3_combine_27 rfl rfl ?_
  refine z_iadd dX3_combine_30 rfl ?_
  obtain ⟨r1, r2, ka, kb⟩ := k
  refine z_icmp_gt (tgt := 203) dX3_combine_31 rfl r1 r2 rfl ⟨fun q => ?_, fun q => ?_⟩
  · have k := ka q
    exact z_sub (L' := [some (vr 3 l0), none, none, none, none, none, none, some (vi l7), none, none, none]) (And.intro rfl (And.intro rfl trivial)) k
  · have k := kb q
    refine z_iload dX3_combine_34 rfl rfl ?_
    refine z_ldc (x := 65536) cX3_33 rfl dX3_combine_36 rfl ?_
    obtain ⟨r1, ka, kb⟩ := k
    refine z_icmp_ge (tgt := 203) dX3_combine_38 rfl r1 ⟨by decide, by decide⟩ rfl ⟨fun q => ?_, fun q => ?_⟩
    · have k := ka q
      exact z_sub (L' := [some (vr 3 l0), none, none, none, none, none, none, some (vi l7), none, none, none]) (And.intro rfl (And.intro rfl trivial)) k
    · have k := kb q
      refine z_iload dX3_combine_41 rfl rfl ?_
      refine z_aload_n 1 dX3_combine_43 rfl rfl (Nat.le_of_ble_eq_true rfl) rfl ?_
      refine z_getI 3 (x := (h l1 1)) fX3_21 rfl dX3_combine_44 rfl rfl ?_
      obtain ⟨r1, r2, ka, kb⟩ := k
      refine z_icmp_ge (tgt := 65) dX3_combine_47 rfl r1 r2 rfl ⟨fun q => ?_, fun q => ?_⟩
      · have k := ka q
        exact z_sub (L' := [some (vr 3 l0), some (vr 3 l1), some (vr 3 l2), some (vi l3), some (vi l4), some (vi l5), some (vi l6), some (vi l7), some (vi l8), none, none]) (And.intro rfl (And.intro rfl (And.intro rfl (And.intro rfl (And.intro rfl (And.intro rfl (And.intro rfl (And.intro rfl (And.intro rfl trivial))))))))) k
      · have k := kb q
        refine z_aload_n 1 dX3_combine_50 rfl rfl (Nat.le_of_ble_eq_true rfl) rfl ?_
        refine z_getF 3 13 (x := (l1 + 1)) fX3_15 rfl dX3_combine_51 (by omega) rfl ?_
        refine z_iload dX3_combine_54 rfl rfl ?_
        obtain ⟨i9, k⟩ := k
        refine z_iald (x := (h (l1 + 1) l4)) dX3_combine_56 i9 rfl rfl ?_
        refine z_iload dX3_combine_57 rfl rfl ?_
        obtain ⟨r1, r2, ka, kb⟩ := k
        refine z_icmp_ne (tgt := 65) dX3_combine_59 rfl r1 r2 rfl ⟨fun q => ?_, fun q => ?_⟩
        · have k := ka q
          exact z_sub (L' := [some (vr 3 l0), some (vr 3 l1), some (vr 3 l2), some (vi l3), some (vi l4), some (vi l5), some (vi l6), some (vi l7), some (vi l8), none, none]) (And.intro rfl (And.intro rfl (And.intro rfl (And.intro rfl (And.intro rfl (And.intro rfl (And.intro rfl (And.intro rfl (And.intro rfl trivial))))))))) k
        · have k := kb q
          refine z_iinc dX3_combine_62 rfl (Nat.le_of_ble_eq_true rfl) (L' := [some (vr 3 l0), some (vr 3 l1), some (vr 3 l2), some (vi l3), some (vi (l4 + 1)), some (vi l5), some (vi l6), some (vi l7), some (vi l8), none, none]) rfl rfl ?_
          exact z_sub (L' := [some (vr 3 l0), some (vr 3 l1), some (vr 3 l2), some (vi l3), some (vi (l4 + 1)), some (vi l5), some (vi l6), some (vi l7), some (vi l8), none, none]) (And.intro rfl (And.intro rfl (And.intro rfl (And.intro rfl (And.intro rfl (And.intro rfl (And.intro rfl (And.intro rfl (And.intro rfl trivial))))))))) k
theorem bX3_combine_65 {G : zG} {d : Nat} {K : zH → Prop} {l0 : Int} {l1 : Int} {l2 : Int} {l3 : Int} {l4 : Int} {l5 : Int} {l6 : Int} {l7 : Int} {l8 : Int} {h : zH} (k : zR l5 ∧ zR (h l2 1) ∧ ((h l2 1) ≤ l5 → tX3_combine_89 G d K l0 l1 l2 l3 l4 l5 l6 l7 l8 h) ∧ (¬ (h l2 1) ≤ l5 → ((0 : Int) ≤ l5 ∧ l5 < zln (l2 + 1)) ∧ zR (h (l2 + 1) l5) ∧ zR l6 ∧ (¬ (h (l2 + 1) l5) = l6 → tX3_combine_89 G d K l0 l1 l2 l3 l4 l5 l6 l7 l8 h) ∧ ((h (l2 + 1) l5) = l6 → tX3_combine_89 G d K l0 l1 l2 l3 l4 (l5 + 1) l6 l7 l8 h))) : tX3_combine_65 G d K l0 l1 l2 l3 l4 l5 l6 l7 l8 h := by
  unfold tX3_combine_65
  refine z_iload dX3_combine_65 rfl rfl ?_
  refine z_aload_n 2 dX3_combine_67 rfl rfl (Nat.le_of_ble_eq_true rfl) rfl ?_
  refine z_getI 3 (x := (h l2 1)) fX3_21 rfl dX3_combine_68 rfl rfl ?_
  obtain ⟨r1, r2, ka, kb⟩ := k
  refine z_icmp_ge (tgt := 89) dX3_combine_71 rfl r1 r2 rfl ⟨fun q => ?_, fun q => ?_⟩
  · have k := ka q
    exact z_sub (L' := [some (vr 3 l0), some (vr 3 l1), some (vr 3 l2), some (vi l3), some (vi l4), some (vi l5), some (vi l6), some (vi l7), some (vi l8), none, none]) (And.intro rfl (And.intro rfl (And.intro rfl (And.intro rfl (And.intro rfl (And.intro rfl (And.intro rfl (And.intro rfl (And.intro rfl trivial))))))))) k
  · have k := kb q
    refine z_aload_n 2 dX3_combine_74 rfl rfl (Nat.le_of_ble_eq_true rfl) rfl ?_
    refine z_getF 3 13 (x := (l2 + 1)) fX3_15 rfl dX3_combine_75 (by omega) rfl ?_
    refine z_iload dX3_combine_78 rfl rfl ?_
    obtain ⟨i9, k⟩ := k
    refine z_iald (x := (h (l2 + 1) l5)) dX3_combine_80 i9 rfl rfl ?_
    refine z_iload dX3_combine_81 rfl rfl ?_
    obtain ⟨r1, r2, ka, kb⟩ := k
    refine z_icmp_ne (tgt := 89) dX3_combine_83 rfl r1 r2 rfl ⟨fun q => ?_, fun q => ?_⟩
    · have k := ka q
      exact z_sub (L' := [some (vr 3 l0), some (vr 3 l1), some (vr 3 l2), some (vi l3), some (vi l4), some (vi l5), some (vi l6), some (vi l7), some (vi l8), none, none]) (And.intro rfl (And.intro rfl (And.intro rfl (And.intro rfl (And.intro rfl (And.intro rfl (And.intro rfl (And.intro rfl (And.intro rfl trivial))))))))) k
    · have k := kb q
      refine z_iinc dX3_combine_86 rfl (Nat.le_of_ble_eq_true rfl) (L' := [some (vr 3 l0), some (vr 3 l1), some (vr 3 l2), some (vi l3), some (vi l4), some (vi (l5 + 1)), some (vi l6), some (vi l7), some (vi l8), none, none]) rfl rfl ?_
      exact z_sub (L' := [some (vr 3 l0), some (vr 3 l1), some (vr 3 l2), some (vi l3), some (vi l4), some (vi (l5 + 1)), some (vi l6), some (vi l7), some (vi l8), none, none]) (And.intro rfl (And.intro rfl (And.intro rfl (And.intro rfl (And.intro rfl (And.intro rfl (And.intro rfl (And.intro rfl (And.intro rfl trivial))))))))) k
theorem bX3_combine_89 {G : zG} {d : Nat} {K : zH → Prop} {l0 : Int} {l1 : Int} {l2 : Int} {l3 : Int} {l4 : Int} {l5 : Int} {l6 : Int} {l7 : Int} {l8 : Int} {h : zH} (k : (0 ≤ l4 ∧ l4 < 2147483648) ∧ (¬ (l4 % 2) = 1 → (0 ≤ l5 ∧ l5 < 2147483648) ∧ (¬ (l5 % 2) = 1 → zCb G d mX11_isTrue [vi l3, vi (bi false), vi (bi false)] h (fun x1 h2 => zR l7 ∧ (bi x1 = l7 → tX3_combine_142 G d K l0 l1 l2 l3 l4 l5 l7 l8 h2) ∧ (¬ bi x1 = l7 → zR l7 ∧ (¬ l7 = 0 → zCv G d mX3_addCut [vr 3 l0, vi l6] h2 (fun h4 => tX3_combine_142 G d K l0 l1 l2 l3 l4 l5 0 l8 h4)) ∧ (l7 = 0 → zCv G d mX3_addCut [vr 3 l0, vi l6] h2 (fun h6 => tX3_combine_142 G d K l0 l1 l2 l3 l4 l5 1 l8 h6))))) ∧ ((l5 % 2) = 1 → zCb G d mX11_isTrue [vi l3, vi (bi false), vi (bi true)] h (fun x7 h8 => zR l7 ∧ (bi x7 = l7 → tX3_combine_142 G d K l0 l1 l2 l3 l4 l5 l7 l8 h8) ∧ (¬ bi x7 = l7 → zR l7 ∧ (¬ l7 = 0 → zCv G d mX3_addCut [vr 3 l0, vi l6] h8 (fun h10 => tX3_combine_142 G d K l0 l1 l2 l3 l4 l5 0 l8 h10)) ∧ (l7 = 0 → zCv G d mX3_addCut [vr 3 l0, vi l6] h8 (fun h12 => tX3_combine_142 G d K l0 l1 l2 l3 l4 l5 1 l8 h12)))))) ∧ ((l4 % 2) = 1 → (0 ≤ l5 ∧ l5 < 2147483648) ∧ (¬ (l5 % 2) = 1 → zCb G d mX11_isTrue [vi l3, vi (bi true), vi (bi false)] h (fun x13 h14 => zR l7 ∧ (bi x13 = l7 → tX3_combine_142 G d K l0 l1 l2 l3 l4 l5 l7 l8 h14) ∧ (¬ bi x13 = l7 → zR l7 ∧ (¬ l7 = 0 → zCv G d mX3_addCut [vr 3 l0, vi l6] h14 (fun h16 => tX3_combine_142 G d K l0 l1 l2 l3 l4 l5 0 l8 h16)) ∧ (l7 = 0 → zCv G d mX3_addCut [vr 3 l0, vi l6] h14 (fun h18 => tX3_combine_142 G d K l0 l1 l2 l3 l4 l5 1 l8 h18))))) ∧ ((l5 % 2) = 1 → zCb G d mX11_isTrue [vi l3, vi (bi true), vi (bi true)] h (fun x19 h20 => zR l7 ∧ (bi x19 = l7 → tX3_combine_142 G d K l0 l1 l2 l3 l4 l5 l7 l8 h20) ∧ (¬ bi x19 = l7 → zR l7 ∧ (¬ l7 = 0 → zCv G d mX3_addCut [vr 3 l0, vi l6] h20 (fun h22 => tX3_combine_142 G d K l0 l1 l2 l3 l4 l5 0 l8 h22)) ∧ (l7 = 0 → zCv G d mX3_addCut [vr 3 l0, vi l6] h20 (fun h24 => tX3_combine_142 G d K l0 l1 l2 l3 l4 l5 1 l8 h24))))))) : tX3_combine_89 G d K l0 l1 l2 l3 l4 l5 l6 l7 l8 h := by
  unfold tX3_combine_89
  refine z_iload_n 3 dX3_combine_89 rfl rfl rfl ?_
  refine z_iload dX3_combine_90 rfl rfl ?_
  refine z_iconst dX3_combine_92 rfl ?_
  obtain ⟨i9, k⟩ := k
  refine z_irem dX3_combine_93 ⟨i9.1, i9.2, by decide, by decide⟩ rfl ?_
  refine z_iconst dX3_combine_94 rfl ?_
  obtain ⟨ka, kb⟩ := k
  refine z_icmp_ne (tgt := 102) dX3_combine_95 rfl (zR_mod _ (by decide)) ⟨by decide, by decide⟩ rfl ⟨fun q => ?_, fun q => ?_⟩
  · have k := ka q
    refine z_iconst dX3_combine_102 rfl ?_
    refine z_iload dX3_combine_103 rfl rfl ?_
    refine z_iconst dX3_combine_105 rfl ?_
    obtain ⟨i9, k⟩ := k
    refine z_irem dX3_combine_106 ⟨i9.1, i9.2, by decide, by decide⟩ rfl ?_
    refine z_iconst dX3_combine_107 rfl ?_
    obtain ⟨ka, kb⟩ := k
    refine z_icmp_ne (tgt := 115) dX3_combine_108 rfl (zR_mod _ (by decide)) ⟨by decide, by decide⟩ rfl ⟨fun q => ?_, fun q => ?_⟩
    · have k := ka q
      refine z_iconst dX3_combine_115 rfl ?_
      refine z_callSNb (host := "RangedMachines") sX11_isTrue (by decide +kernel) dX3_combine_116 rfl (zRo_d d) (as := [vi l3, vi (bi false), vi (bi false)]) (rest := []) (Nat.le_of_ble_eq_true rfl) rfl rfl (zCb_mono (fun x1 h2 k => ?_) k)
      refine z_iload dX3_combine_119 rfl rfl ?_
      obtain ⟨r1, ka, kb⟩ := k
      refine z_icmp_eq (tgt := 142) dX3_combine_121 rfl (bi_R _) r1 rfl ⟨fun q => ?_, fun q => ?_⟩
      · have k := ka q
        exact z_sub (L' := [some (vr 3 l0), some (vr 3 l1), some (vr 3 l2), some (vi l3), some (vi l4), some (vi l5), none, some (vi l7), some (vi l8), none, none]) (And.intro rfl (And.intro rfl (And.intro rfl (And.intro rfl (And.intro rfl (And.intro rfl (And.intro rfl (And.intro rfl trivial)))))))) k
      · have k := kb q
        refine z_iload dX3_combine_124 rfl rfl ?_
        obtain ⟨r1, ka, kb⟩ := k
        refine z_if_ne (tgt := 133) dX3_combine_126 rfl r1 rfl ⟨fun q => ?_, fun q => ?_⟩
        · have k := ka q
          refine z_iconst dX3_combine_133 rfl ?_
          refine z_istore dX3_combine_134 (Nat.le_of_ble_eq_true rfl) (L' := [some (vr 3 l0), some (vr 3 l1), some (vr 3 l2), some (vi l3), some (vi l4), some (vi l5), some (vi l6), some (vi 0), some (vi l8), none, none]) rfl rfl ?_
          refine z_aload_n 0 dX3_combine_136 rfl rfl (Nat.le_of_ble_eq_true rfl) rfl ?_
          refine z_iload dX3_combine_137 rfl rfl ?_
          refine z_callVv vX3_addCut kX3_29 dX3_combine_139 rfl (zRo_d d) (as := [vi l6]) (rest := []) (Nat.le_of_ble_eq_true rfl) rfl rfl (zCv_mono (fun h4 k => ?_) k)
          exact z_sub (L' := [some (vr 3 l0), some (vr 3 l1), some (vr 3 l2), some (vi l3), some (vi l4), some (vi l5), none, some (vi 0), some (vi l8), none, none]) (And.intro rfl (And.intro rfl (And.intro rfl (And.intro rfl (And.intro rfl (And.intro rfl (And.intro rfl (And.intro rfl trivial)))))))) k
        · have k := kb q
          refine z_iconst dX3_combine_129 rfl ?_
          refine z_goto (tgt := 134) dX3_combine_130 rfl ?_
          refine z_istore dX3_combine_134 (Nat.le_of_ble_eq_true rfl) (L' := [some (vr 3 l0), some (vr 3 l1), some (vr 3 l2), some (vi l3), some (vi l4), some (vi l5), some (vi l6), some (vi 1), some (vi l8), none, none]) rfl rfl ?_
          refine z_aload_n 0 dX3_combine_136 rfl rfl (Nat.le_of_ble_eq_true rfl) rfl ?_
          refine z_iload dX3_combine_137 rfl rfl ?_
          refine z_callVv vX3_addCut kX3_29 dX3_combine_139 rfl (zRo_d d) (as := [vi l6]) (rest := []) (Nat.le_of_ble_eq_true rfl) rfl rfl (zCv_mono (fun h6 k => ?_) k)
          exact z_sub (L' := [some (vr 3 l0), some (vr 3 l1), some (vr 3 l2), some (vi l3), some (vi l4), some (vi l5), none, some (vi 1), some (vi l8), none, none]) (And.intro rfl (And.intro rfl (And.intro rfl (And.intro rfl (And.intro rfl (And.intro rfl (And.intro rfl (And.intro rfl trivial)))))))) k
    · have k := kb q
      refine z_iconst dX3_combine_111 rfl ?_
      refine z_goto (tgt := 116) dX3_combine_112 rfl ?_
      refine z_callSNb (host := "RangedMachines") sX11_isTrue (by decide +kernel) dX3_combine_116 rfl (zRo_d d) (as := [vi l3, vi (bi false), vi (bi true)]) (rest := []) (Nat.le_of_ble_eq_true rfl) rfl rfl (zCb_mono (fun x7 h8 k => ?_) k)
      refine z_iload dX3_combine_119 rfl rfl ?_
      obtain ⟨r1, ka, kb⟩ := k
      refine z_icmp_eq (tgt := 142) dX3_combine_121 rfl (bi_R _) r1 rfl ⟨fun q => ?_, fun q => ?_⟩
      · have k := ka q
        exact z_sub (L' := [some (vr 3 l0), some (vr 3 l1), some (vr 3 l2), some (vi l3), some (vi l4), some (vi l5), none, some (vi l7), some (vi l8), none, none]) (And.intro rfl (And.intro rfl (And.intro rfl (And.intro rfl (And.intro rfl (And.intro rfl (And.intro rfl (And.intro rfl trivial)))))))) k
      · have k := kb q
        refine z_iload dX3_combine_124 rfl rfl ?_
        obtain ⟨r1, ka, kb⟩ := k
        refine z_if_ne (tgt := 133) dX3_combine_126 rfl r1 rfl ⟨fun q => ?_, fun q => ?_⟩
        · have k := ka q
          refine z_iconst dX3_combine_133 rfl ?_
          refine z_istore dX3_combine_134 (Nat.le_of_ble_eq_true rfl) (L' := [some (vr 3 l0), some (vr 3 l1), some (vr 3 l2), some (vi l3), some (vi l4), some (vi l5), some (vi l6), some (vi 0), some (vi l8), none, none]) rfl rfl ?_
          refine z_aload_n 0 dX3_combine_136 rfl rfl (Nat.le_of_ble_eq_true rfl) rfl ?_
          refine z_iload dX3_combine_137 rfl rfl ?_
          refine z_callVv vX3_addCut kX3_29 dX3_combine_139 rfl (zRo_d d) (as := [vi l6]) (rest := []) (Nat.le_of_ble_eq_true rfl) rfl rfl (zCv_mono (fun h10 k => ?_) k)
          exact z_sub (L' := [some (vr 3 l0), some (vr 3 l1), some (vr 3 l2), some (vi l3), some (vi l4), some (vi l5), none, some (vi 0), some (vi l8), none, none]) (And.intro rfl (And.intro rfl (And.intro rfl (And.intro rfl (And.intro rfl (And.intro rfl (And.intro rfl (And.intro rfl trivial)))))))) k
        · have k := kb q
          refine z_iconst dX3_combine_129 rfl ?_
          refine z_goto (tgt := 134) dX3_combine_130 rfl ?_
          refine z_istore dX3_combine_134 (Nat.le_of_ble_eq_true rfl) (L' := [some (vr 3 l0), some (vr 3 l1), some (vr 3 l2), some (vi l3), some (vi l4), some (vi l5), some (vi l6), some (vi 1), some (vi l8), none, none]) rfl rfl ?_
          refine z_aload_n 0 dX3_combine_136 rfl rfl (Nat.le_of_ble_eq_true rfl) rfl ?_
          refine z_iload dX3_combine_137 rfl rfl ?_
          refine z_callVv vX3_addCut kX3_29 dX3_combine_139 rfl (zRo_d d) (as := [vi l6]) (rest := []) (Nat.le_of_ble_eq_true rfl) rfl rfl (zCv_mono (fun h12 k => ?_) k)
          exact z_sub (L' := [some (vr 3 l0), some (vr 3 l1), some (vr 3 l2), some (vi l3), some (vi l4), some (vi l5), none, some (vi 1), some (vi l8), none, none]) (And.intro rfl (And.intro rfl (And.intro rfl (And.intro rfl (And.intro rfl (And.intro rfl (And.intro rfl (And.intro rfl trivial)))))))) k
  · have k := kb q
    refine z_iconst dX3_combine_98 rfl ?_
    refine z_goto (tgt := 103) dX3_combine_99 rfl ?_
    refine z_iload dX3_combine_103 rfl rfl ?_
    refine z_iconst dX3_combine_105 rfl ?_
    obtain ⟨i9, k⟩ := k
    refine z_irem dX3_combine_106 ⟨i9.1, i9.2, by decide, by decide⟩ rfl ?_
    refine z_iconst dX3_combine_107 rfl ?_
    obtain ⟨ka, kb⟩ := k
    refine z_icmp_ne (tgt := 115) dX3_combine_108 rfl (zR_mod _ (by decide)) ⟨by decide, by decide⟩ rfl ⟨fun q => ?_, fun q => ?_⟩
    · have k := ka q
      refine z_iconst dX3_combine_115 rfl ?_
      refine z_callSNb (host := "RangedMachines") sX11_isTrue (by decide +kernel) dX3_combine_116 rfl (zRo_d d) (as := [vi l3, vi (bi true), vi (bi false)]) (rest := []) (Nat.le_of_ble_eq_true rfl) rfl rfl (zCb_mono (fun x13 h14 k => ?_) k)
      refine z_iload dX3_combine_119 rfl rfl ?_
      obtain ⟨r1, ka, kb⟩ := k
      refine z_icmp_eq (tgt := 142) dX3_combine_121 rfl (bi_R _) r1 rfl ⟨fun q => ?_, fun q => ?_⟩
      · have k := ka q
        exact z_sub (L' := [some (vr 3 l0), some (vr 3 l1), some (vr 3 l2), some (vi l3), some (vi l4), some (vi l5), none, some (vi l7), some (vi l8), none, none]) (And.intro rfl (And.intro rfl (And.intro rfl (And.intro rfl (And.intro rfl (And.intro rfl (And.intro rfl (And.intro rfl trivial)))))))) k
      · have k := kb q
        refine z_iload dX3_combine_124 rfl rfl ?_
        obtain ⟨r1, ka, kb⟩ := k
        refine z_if_ne (tgt := 133) dX3_combine_126 rfl r1 rfl ⟨fun q => ?_, fun q => ?_⟩
        · have k := ka q
          refine z_iconst dX3_combine_133 rfl ?_
          refine z_istore dX3_combine_134 (Nat.le_of_ble_eq_true rfl) (L' := [some (vr 3 l0), some (vr 3 l1), some (vr 3 l2), some (vi l3), some (vi l4), some (vi l5), some (vi l6), some (vi 0), some (vi l8), none, none]) rfl rfl ?_
          refine z_aload_n 0 dX3_combine_136 rfl rfl (Nat.le_of_ble_eq_true rfl) rfl ?_
          refine z_iload dX3_combine_137 rfl rfl ?_
          refine z_callVv vX3_addCut kX3_29 dX3_combine_139 rfl (zRo_d d) (as := [vi l6]) (rest := []) (Nat.le_of_ble_eq_true rfl) rfl rfl (zCv_mono (fun h16 k => ?_) k)
          exact z_sub (L' := [some (vr 3 l0), some (vr 3 l1), some (vr 3 l2), some (vi l3), some (vi l4), some (vi l5), none, some (vi 0), some (vi l8), none, none]) (And.intro rfl (And.intro rfl (And.intro rfl (And.intro rfl (And.intro rfl (And.intro rfl (And.intro rfl (And.intro rfl trivial)))))))) k
        · have k := kb q
          refine z_iconst dX3_combine_129 rfl ?_
          refine z_goto (tgt := 134) dX3_combine_130 rfl ?_
          refine z_istore dX3_combine_134 (Nat.le_of_ble_eq_true rfl) (L' := [some (vr 3 l0), some (vr 3 l1), some (vr 3 l2), some (vi l3), some (vi l4), some (vi l5), some (vi l6), some (vi 1), some (vi l8), none, none]) rfl rfl ?_
          refine z_aload_n 0 dX3_combine_136 rfl rfl (Nat.le_of_ble_eq_true rfl) rfl ?_
          refine z_iload dX3_combine_137 rfl rfl ?_
          refine z_callVv vX3_addCut kX3_29 dX3_combine_139 rfl (zRo_d d) (as := [vi l6]) (rest := []) (Nat.le_of_ble_eq_true rfl) rfl rfl (zCv_mono (fun h18 k => ?_) k)
          exact z_sub (L' := [some (vr 3 l0), some (vr 3 l1), some (vr 3 l2), some (vi l3), some (vi l4), some (vi l5), none, some (vi 1), some (vi l8), none, none]) (And.intro rfl (And.intro rfl (And.intro rfl (And.intro rfl (And.intro rfl (And.intro rfl (And.intro rfl (And.intro rfl trivial)))))))) k
    · have k := kb q
      refine z_iconst dX3_combine_111 rfl ?_
      refine z_goto (tgt := 116) dX3_combine_112 rfl ?_
      refine z_callSNb (host := "RangedMachines") sX11_isTrue (by decide +kernel) dX3_combine_116 rfl (zRo_d d) (as := [vi l3, vi (bi true), vi (bi true)]) (rest := []) (Nat.le_of_ble_eq_true rfl) rfl rfl (zCb_mono (fun x19 h20 k => ?_) k)
      refine z_iload dX3_combine_119 rfl rfl ?_
      obtain ⟨r1, ka, kb⟩ := k
      refine z_icmp_eq (tgt := 142) dX3_combine_121 rfl (bi_R _) r1 rfl ⟨fun q => ?_, fun q => ?_⟩
      · have k := ka q
        exact z_sub (L' := [some (vr 3 l0), some (vr 3 l1), some (vr 3 l2), some (vi l3), some (vi l4), some (vi l5), none, some (vi l7), some (vi l8), none, none]) (And.intro rfl (And.intro rfl (And.intro rfl (And.intro rfl (And.intro rfl (And.intro rfl (And.intro rfl (And.intro rfl trivial)))))))) k
      · have k := kb q
        refine z_iload dX3_combine_124 rfl rfl ?_
        obtain ⟨r1, ka, kb⟩ := k
        refine z_if_ne (tgt := 133) dX3_combine_126 rfl r1 rfl ⟨fun q => ?_, fun q => ?_⟩
        · have k := ka q
          refine z_iconst dX3_combine_133 rfl ?_
          refine z_istore dX3_combine_134 (Nat.le_of_ble_eq_true rfl) (L' := [some (vr 3 l0), some (vr 3 l1), some (vr 3 l2), some (vi l3), some (vi l4), some (vi l5), some (vi l6), some (vi 0), some (vi l8), none, none]) rfl rfl ?_
          refine z_aload_n 0 dX3_combine_136 rfl rfl (Nat.le_of_ble_eq_true rfl) rfl ?_
          refine z_iload dX3_combine_137 rfl rfl ?_
          refine z_callVv vX3_addCut kX3_29 dX3_combine_139 rfl (zRo_d d) (as := [vi l6]) (rest := []) (Nat.le_of_ble_eq_true rfl) rfl rfl (zCv_mono (fun h22 k => ?_) k)
          exact z_sub (L' := [some (vr 3 l0), some (vr 3 l1), some (vr 3 l2), some (vi l3), some (vi l4), some (vi l5), none, some (vi 0), some (vi l8), none, none]) (And.intro rfl (And.intro rfl (And.intro rfl (And.intro rfl (And.intro rfl (And.intro rfl (And.intro rfl (And.intro rfl trivial)))))))) k
        · have k := kb q
          refine z_iconst dX3_combine_129 rfl ?_
          refine z_goto (tgt := 134) dX3_combine_130 rfl ?_
          refine z_istore dX3_combine_134 (Nat.le_of_ble_eq_true rfl) (L' := [some (vr 3 l0), some (vr 3 l1), some (vr 3 l2), some (vi l3), some (vi l4), some (vi l5), some (vi l6), some (vi 1), some (vi l8), none, none]) rfl rfl ?_
          refine z_aload_n 0 dX3_combine_136 rfl rfl (Nat.le_of_ble_eq_true rfl) rfl ?_
          refine z_iload dX3_combine_137 rfl rfl ?_
          refine z_callVv vX3_addCut kX3_29 dX3_combine_139 rfl (zRo_d d) (as := [vi l6]) (rest := []) (Nat.le_of_ble_eq_true rfl) rfl rfl (zCv_mono (fun h24 k => ?_) k)
          exact z_sub (L' := [some (vr 3 l0), some (vr 3 l1), some (vr 3 l2), some (vi l3), some (vi l4), some (vi l5), none, some (vi 1), some (vi l8), none, none]) (And.intro rfl (And.intro rfl (And.intro rfl (And.intro rfl (And.intro rfl (And.intro rfl (And.intro rfl (And.intro rfl trivial)))))))) k
theorem bX3_combine_142 {G : zG} {d : Nat} {K : zH → Prop} {l0 : Int} {l1 : Int} {l2 : Int} {l3 : Int} {l4 : Int} {l5 : Int} {l7 : Int} {l8 : Int} {h : zH} (k : zR l4 ∧ zR (h l1 1) ∧ ((h l1 1) ≤ l4 → zR l5 ∧ zR (h l2 1) ∧ ((h l2 1) ≤ l5 → tX3_combine_20 G d K l0 l1 l2 l3 l4 l5 65536 l7 (l8 + 1) h) ∧ (¬ (h l2 1) ≤ l5 → ((0 : Int) ≤ l5 ∧ l5 < zln (l2 + 1)) ∧ zR (h (l2 + 1) l5) ∧ tX3_combine_20 G d K l0 l1 l2 l3 l4 l5 (min 65536 (h (l2 + 1) l5)) l7 (l8 + 1) h)) ∧ (¬ (h l1 1) ≤ l4 → ((0 : Int) ≤ l4 ∧ l4 < zln (l1 + 1)) ∧ zR l5 ∧ zR (h l2 1) ∧ ((h l2 1) ≤ l5 → zR (h (l1 + 1) l4) ∧ tX3_combine_20 G d K l0 l1 l2 l3 l4 l5 (min (h (l1 + 1) l4) 65536) l7 (l8 + 1) h) ∧ (¬ (h l2 1) ≤ l5 → ((0 : Int) ≤ l5 ∧ l5 < zln (l2 + 1)) ∧ zR (h (l1 + 1) l4) ∧ zR (h (l2 + 1) l5) ∧ tX3_combine_20 G d K l0 l1 l2 l3 l4 l5 (min (h (l1 + 1) l4) (h (l2 + 1) l5)) l7 (l8 + 1) h))) : tX3_combine_142 G d K l0 l1 l2 l3 l4 l5 l7 l8 h := by
  unfold tX3_combine_142
  refine z_iload dX3_combine_142 rfl rfl ?_
  refine z_aload_n 1 dX3_combine_144 rfl rfl (Nat.le_of_ble_eq_true rfl) rfl ?_
  refine z_getI 3 (x := (h l1 1)) fX3_21 rfl dX3_combine_145 rfl rfl ?_
  obtain ⟨r1, r2, ka, kb⟩ := k
  refine z_icmp_ge (tgt := 161) dX3_combine_148 rfl r1 r2 rfl ⟨fun q => ?_, fun q => ?_⟩
  · have k := ka q
    refine z_ldc (x := 65536) cX3_33 rfl dX3_combine_161 rfl ?_
    refine z_istore dX3_combine_163 (Nat.le_of_ble_eq_true rfl) (L' := [some (vr 3 l0), some (vr 3 l1), some (vr 3 l2), some (vi l3), some (vi l4), some (vi l5), none, some (vi l7), some (vi l8), some (vi 65536), none]) rfl rfl ?_
    refine z_iload dX3_combine_165 rfl rfl ?_
    refine z_aload_n 2 dX3_combine_167 rfl rfl (Nat.le_of_ble_eq_true rfl) rfl ?_
    refine z_getI 3 (x := (h l2 1)) fX3_21 rfl dX3_combine_168 rfl rfl ?_
    obtain ⟨r1, r2, ka, kb⟩ := k
    refine z_icmp_ge (tgt := 184) dX3_combine_171 rfl r1 r2 rfl ⟨fun q => ?_, fun q => ?_⟩
    · have k := ka q
      refine z_ldc (x := 65536) cX3_33 rfl dX3_combine_184 rfl ?_
      refine z_istore dX3_combine_186 (Nat.le_of_ble_eq_true rfl) (L' := [some (vr 3 l0), some (vr 3 l1), some (vr 3 l2), some (vi l3), some (vi l4), some (vi l5), none, some (vi l7), some (vi l8), some (vi 65536), some (vi 65536)]) rfl rfl ?_
      refine z_iload dX3_combine_188 rfl rfl ?_
      refine z_iload dX3_combine_190 rfl rfl ?_
      refine z_mmin (z := 65536) kX3_38 kmin.1 kmin.2.1 kmin.2.2 dX3_combine_192 ⟨by decide, by decide⟩ ⟨by decide, by decide⟩ ⟨Nat.le_add_left 1 d, (by show _ ≤ 64 * (d + 1); rw [show zcat _ = 0 from rfl]; omega), Nat.le_refl _, Nat.le_refl _⟩ rfl rfl ?_
      refine z_istore dX3_combine_195 (Nat.le_of_ble_eq_true rfl) (L' := [some (vr 3 l0), some (vr 3 l1), some (vr 3 l2), some (vi l3), some (vi l4), some (vi l5), some (vi 65536), some (vi l7), some (vi l8), some (vi 65536), some (vi 65536)]) rfl rfl ?_
      refine z_iinc dX3_combine_197 rfl (Nat.le_of_ble_eq_true rfl) (L' := [some (vr 3 l0), some (vr 3 l1), some (vr 3 l2), some (vi l3), some (vi l4), some (vi l5), some (vi 65536), some (vi l7), some (vi (l8 + 1)), some (vi 65536), some (vi 65536)]) rfl rfl ?_
      refine z_goto (tgt := 20) dX3_combine_200 rfl ?_
      exact z_sub (L' := [some (vr 3 l0), some (vr 3 l1), some (vr 3 l2), some (vi l3), some (vi l4), some (vi l5), some (vi 65536), some (vi l7), some (vi (l8 + 1)), none, none]) (And.intro rfl (And.intro rfl (And.intro rfl (And.intro rfl (And.intro rfl (And.intro rfl (And.intro rfl (And.intro rfl (And.intro rfl trivial))))))))) k
    · have k := kb q
      refine z_aload_n 2 dX3_combine_174 rfl rfl (Nat.le_of_ble_eq_true rfl) rfl ?_
      refine z_getF 3 13 (x := (l2 + 1)) fX3_15 rfl dX3_combine_175 (by omega) rfl ?_
      refine z_iload dX3_combine_178 rfl rfl ?_
      obtain ⟨i9, k⟩ := k
      refine z_iald (x := (h (l2 + 1) l5)) dX3_combine_180 i9 rfl rfl ?_
      refine z_goto (tgt := 186) dX3_combine_181 rfl ?_
      refine z_istore dX3_combine_186 (Nat.le_of_ble_eq_true rfl) (L' := [some (vr 3 l0), some (vr 3 l1), some (vr 3 l2), some (vi l3), some (vi l4), some (vi l5), none, some (vi l7), some (vi l8), some (vi 65536), some (vi (h (l2 + 1) l5))]) rfl rfl ?_
      refine z_iload dX3_combine_188 rfl rfl ?_
      refine z_iload dX3_combine_190 rfl rfl ?_
      obtain ⟨r1, k⟩ := k
      refine z_mmin (z := (min 65536 (h (l2 + 1) l5))) kX3_38 kmin.1 kmin.2.1 kmin.2.2 dX3_combine_192 ⟨by decide, by decide⟩ r1 ⟨Nat.le_add_left 1 d, (by show _ ≤ 64 * (d + 1); rw [show zcat _ = 0 from rfl]; omega), Nat.le_refl _, Nat.le_refl _⟩ rfl rfl ?_
      refine z_istore dX3_combine_195 (Nat.le_of_ble_eq_true rfl) (L' := [some (vr 3 l0), some (vr 3 l1), some (vr 3 l2), some (vi l3), some (vi l4), some (vi l5), some (vi (min 65536 (h (l2 + 1) l5))), some (vi l7), some (vi l8), some (vi 65536), some (vi (h (l2 + 1) l5))]) rfl rfl ?_
      refine z_iinc dX3_combine_197 rfl (Nat.le_of_ble_eq_true rfl) (L' := [some (vr 3 l0), some (vr 3 l1), some (vr 3 l2), some (vi l3), some (vi l4), some (vi l5), some (vi (min 65536 (h (l2 + 1) l5))), some (vi l7), some (vi (l8 + 1)), some (vi 65536), some (vi (h (l2 + 1) l5))]) rfl rfl ?_
      refine z_goto (tgt := 20) dX3_combine_200 rfl ?_
      exact z_sub (L' := [some (vr 3 l0), some (vr 3 l1), some (vr 3 l2), some (vi l3), some (vi l4), some (vi l5), some (vi (min 65536 (h (l2 + 1) l5))), some (vi l7), some (vi (l8 + 1)), none, none]) (And.intro rfl (And.intro rfl (And.intro rfl (And.intro rfl (And.intro rfl (And.intro rfl (And.intro rfl (And.intro rfl (And.intro rfl trivial))))))))) k
  · have k := kb q
    refine z_aload_n 1 dX3_combine_151 rfl rfl (Nat.le_of_ble_eq_true rfl) rfl ?_
    refine z_getF 3 13 (x := (l1 + 1)) fX3_15 rfl dX3_combine_152 (by omega) rfl ?_
    refine z_iload dX3_combine_155 rfl rfl ?_
    obtain ⟨i9, k⟩ := k
    refine z_iald (x := (h (l1 + 1) l4)) dX3_combine_157 i9 rfl rfl ?_
    refine z_goto (tgt := 163) dX3_combine_158 rfl ?_
    refine z_istore dX3_combine_163 (Nat.le_of_ble_eq_true rfl) (L' := [some (vr 3 l0), some (vr 3 l1), some (vr 3 l2), some (vi l3), some (vi l4), some (vi l5), none, some (vi l7), some (vi l8), some (vi (h (l1 + 1) l4)), none]) rfl rfl ?_
    refine z_iload dX3_combine_165 rfl rfl ?_
    refine z_aload_n 2 dX3_combine_167 rfl rfl (Nat.le_of_ble_eq_true rfl) rfl ?_
    refine z_getI 3 (x := (h l2 1)) fX3_21 rfl dX3_combine_168 rfl rfl ?_
    obtain ⟨r1, r2, ka, kb⟩ := k
    refine z_icmp_ge (tgt := 184) dX3_combine_171 rfl r1 r2 rfl ⟨fun q => ?_, fun q => ?_⟩
    · have k := ka q
      refine z_ldc (x := 65536) cX3_33 rfl dX3_combine_184 rfl ?_
      refine z_istore dX3_combine_186 (Nat.le_of_ble_eq_true rfl) (L' := [some (vr 3 l0), some (vr 3 l1), some (vr 3 l2), some (vi l3), some (vi l4), some (vi l5), none, some (vi l7), some (vi l8), some (vi (h (l1 + 1) l4)), some (vi 65536)]) rfl rfl ?_
      refine z_iload dX3_combine_188 rfl rfl ?_
      refine z_iload dX3_combine_190 rfl rfl ?_
      obtain ⟨r1, k⟩ := k
      refine z_mmin (z := (min (h (l1 + 1) l4) 65536)) kX3_38 kmin.1 kmin.2.1 kmin.2.2 dX3_combine_192 r1 ⟨by decide, by decide⟩ ⟨Nat.le_add_left 1 d, (by show _ ≤ 64 * (d + 1); rw [show zcat _ = 0 from rfl]; omega), Nat.le_refl _, Nat.le_refl _⟩ rfl rfl ?_
      refine z_istore dX3_combine_195 (Nat.le_of_ble_eq_true rfl) (L' := [some (vr 3 l0), some (vr 3 l1), some (vr 3 l2), some (vi l3), some (vi l4), some (vi l5), some (vi (min (h (l1 + 1) l4) 65536)), some (vi l7), some (vi l8), some (vi (h (l1 + 1) l4)), some (vi 65536)]) rfl rfl ?_
      refine z_iinc dX3_combine_197 rfl (Nat.le_of_ble_eq_true rfl) (L' := [some (vr 3 l0), some (vr 3 l1), some (vr 3 l2), some (vi l3), some (vi l4), some (vi l5), some (vi (min (h (l1 + 1) l4) 65536)), some (vi l7), some (vi (l8 + 1)), some (vi (h (l1 + 1) l4)), some (vi 65536)]) rfl rfl ?_
      refine z_goto (tgt := 20) dX3_combine_200 rfl ?_
      exact z_sub (L' := [some (vr 3 l0), some (vr 3 l1), some (vr 3 l2), some (vi l3), some (vi l4), some (vi l5), some (vi (min (h (l1 + 1) l4) 65536)), some (vi l7), some (vi (l8 + 1)), none, none]) (And.intro rfl (And.intro rfl (And.intro rfl (And.intro rfl (And.intro rfl (And.intro rfl (And.intro rfl (And.intro rfl (And.intro rfl trivial))))))))) k
    · have k := kb q
      refine z_aload_n 2 dX3_combine_174 rfl rfl (Nat.le_of_ble_eq_true rfl) rfl ?_
      refine z_getF 3 13 (x := (l2 + 1)) fX3_15 rfl dX3_combine_175 (by omega) rfl ?_
      refine z_iload dX3_combine_178 rfl rfl ?_
      obtain ⟨i9, k⟩ := k
      refine z_iald (x := (h (l2 + 1) l5)) dX3_combine_180 i9 rfl rfl ?_
      refine z_goto (tgt := 186) dX3_combine_181 rfl ?_
      refine z_istore dX3_combine_186 (Nat.le_of_ble_eq_true rfl) (L' := [some (vr 3 l0), some (vr 3 l1), some (vr 3 l2), some (vi l3), some (vi l4), some (vi l5), none, some (vi l7), some (vi l8), some (vi (h (l1 + 1) l4)), some (vi (h (l2 + 1) l5))]) rfl rfl ?_
      refine z_iload dX3_combine_188 rfl rfl ?_
      refine z_iload dX3_combine_190 rfl rfl ?_
      obtain ⟨r1, r2, k⟩ := k
      refine z_mmin (z := (min (h (l1 + 1) l4) (h (l2 + 1) l5))) kX3_38 kmin.1 kmin.2.1 kmin.2.2 dX3_combine_192 r1 r2 ⟨Nat.le_add_left 1 d, (by show _ ≤ 64 * (d + 1); rw [show zcat _ = 0 from rfl]; omega), Nat.le_refl _, Nat.le_refl _⟩ rfl rfl ?_
      refine z_istore dX3_combine_195 (Nat.le_of_ble_eq_true rfl) (L' := [some (vr 3 l0), some (vr 3 l1), some (vr 3 l2), some (vi l3), some (vi l4), some (vi l5), some (vi (min (h (l1 + 1) l4) (h (l2 + 1) l5))), some (vi l7), some (vi l8), some (vi (h (l1 + 1) l4)), some (vi (h (l2 + 1) l5))]) rfl rfl ?_
      refine z_iinc dX3_combine_197 rfl (Nat.le_of_ble_eq_true rfl) (L' := [some (vr 3 l0), some (vr 3 l1), some (vr 3 l2), some (vi l3), some (vi l4), some (vi l5), some (vi (min (h (l1 + 1) l4) (h (l2 + 1) l5))), some (vi l7), some (vi (l8 + 1)), some (vi (h (l1 + 1) l4)), some (vi (h (l2 + 1) l5))]) rfl rfl ?_
      refine z_goto (tgt := 20) dX3_combine_200 rfl ?_
      exact z_sub (L' := [some (vr 3 l0), some (vr 3 l1), some (vr 3 l2), some (vi l3), some (vi l4), some (vi l5), some (vi (min (h (l1 + 1) l4) (h (l2 + 1) l5))), some (vi l7), some (vi (l8 + 1)), none, none]) (And.intro rfl (And.intro rfl (And.intro rfl (And.intro rfl (And.intro rfl (And.intro rfl (And.intro rfl (And.intro rfl (And.intro rfl trivial))))))))) k
theorem bX3_combine_203 {G : zG} {d : Nat} {K : zH → Prop} {l0 : Int} {l7 : Int} {h : zH} (k : zR l7 ∧ (l7 = 0 → tX3_combine_214 G d K h) ∧ (¬ l7 = 0 → zCv G d mX3_addCut [vr 3 l0, vi 65536] h (fun h2 => tX3_combine_214 G d K h2))) : tX3_combine_203 G d K l0 l7 h := by
  unfold tX3_combine_203
  refine z_iload dX3_combine_203 rfl rfl ?_
  obtain ⟨r1, ka, kb⟩ := k
  refine z_if_eq (tgt := 214) dX3_combine_205 rfl r1 rfl ⟨fun q => ?_, fun q => ?_⟩
  · have k := ka q
    exact z_sub (L' := [none, none, none, none, none, none, none, none, none, none, none]) trivial k
  · have k := kb q
    refine z_aload_n 0 dX3_combine_208 rfl rfl (Nat.le_of_ble_eq_true rfl) rfl ?_
    refine z_ldc (x := 65536) cX3_33 rfl dX3_combine_209 rfl ?_
    refine z_callVv vX3_addCut kX3_29 dX3_combine_211 rfl (zRo_d d) (as := [vi 65536]) (rest := []) (Nat.le_of_ble_eq_true rfl) rfl rfl (zCv_mono (fun h2 k => ?_) k)
    exact z_sub (L' := [none, none, none, none, none, none, none, none, none, none, none]) trivial k
theorem bX3_combine_214 {G : zG} {d : Nat} {K : zH → Prop} {h : zH} (k : K h) : tX3_combine_214 G d K h := by
  unfold tX3_combine_214
  exact z_return rfl dX3_combine_214 ⟨rfl, k⟩
theorem eX3_combine {G : zG} {d : Nat} {K : zH → Prop} {l0 : Int} {l1 : Int} {l2 : Int} {l3 : Int} {h : zH} (k : tX3_combine_0 G d K l0 l1 l2 l3 h) : zCv G (d + 1) mX3_combine [vr 3 l0, vr 3 l1, vr 3 l2, vi l3] h K := z_entry (by decide +kernel) (Nat.le_of_ble_eq_true rfl) rfl k
def tX3_addCut_0 (G : zG) (d : Nat) (K : zH → Prop) (l0 : Int) (l1 : Int) (h : zH) : Prop := zTv G d mX3_addCut K 0 [some (vr 3 l0), some (vi l1)] [] h
theorem bX3_addCut_0 {G : zG} {d : Nat} {K : zH → Prop} {l0 : Int} {l1 : Int} {h : zH} (k : zR (h l0 1) ∧ ((zln (l0 + 1)) ≤ (h l0 1) → K h) ∧ (¬ (zln (l0 + 1)) ≤ (h l0 1) → ((0 : Int) ≤ (h l0 1) ∧ (h l0 1) < zln (l0 + 1)) ∧ K (zup (zup h (l0 + 1) (h l0 1) l1) l0 1 (((zup h (l0 + 1) (h l0 1) l1) l0 1) + 1)))) : tX3_addCut_0 G d K l0 l1 h := by
  unfold tX3_addCut_0
  refine z_aload_n 0 dX3_addCut_0 rfl rfl (Nat.le_of_ble_eq_true rfl) rfl ?_
  refine z_getI 3 (x := (h l0 1)) fX3_21 rfl dX3_addCut_1 rfl rfl ?_
  refine z_aload_n 0 dX3_addCut_4 rfl rfl (Nat.le_of_ble_eq_true rfl) rfl ?_
  refine z_getF 3 13 (x := (l0 + 1)) fX3_15 rfl dX3_addCut_5 (by omega) rfl ?_
  refine z_alen13 dX3_addCut_8 rfl rfl ?_
  obtain ⟨r1, ka, kb⟩ := k
  refine z_icmp_ge (tgt := 32) dX3_addCut_9 rfl r1 (zR_zln _) rfl ⟨fun q => ?_, fun q => ?_⟩
  · have k := ka q
    exact z_return rfl dX3_addCut_32 ⟨rfl, k⟩
  · have k := kb q
    refine z_aload_n 0 dX3_addCut_12 rfl rfl (Nat.le_of_ble_eq_true rfl) rfl ?_
    refine z_getF 3 13 (x := (l0 + 1)) fX3_15 rfl dX3_addCut_13 (by omega) rfl ?_
    refine z_aload_n 0 dX3_addCut_16 rfl rfl (Nat.le_of_ble_eq_true rfl) rfl ?_
    refine z_getI 3 (x := (h l0 1)) fX3_21 rfl dX3_addCut_17 rfl rfl ?_
    refine z_iload_n 1 dX3_addCut_20 rfl rfl rfl ?_
    obtain ⟨i9, k⟩ := k
    refine z_iast dX3_addCut_21 i9 rfl ?_
    refine z_aload_n 0 dX3_addCut_22 rfl rfl (Nat.le_of_ble_eq_true rfl) rfl ?_
    refine z_dup dX3_addCut_23 (fun q => by cases q) rfl ?_
    refine z_getI 3 (x := ((zup h (l0 + 1) (h l0 1) l1) l0 1)) fX3_21 rfl dX3_addCut_24 rfl rfl ?_
    refine z_iconst dX3_addCut_27 rfl ?_
    refine z_iadd dX3_addCut_28 rfl ?_
    refine z_putI 3 gX3_21 dX3_addCut_29 rfl ?_
    exact z_return rfl dX3_addCut_32 ⟨rfl, k⟩
theorem eX3_addCut {G : zG} {d : Nat} {K : zH → Prop} {l0 : Int} {l1 : Int} {h : zH} (k : tX3_addCut_0 G d K l0 l1 h) : zCv G d mX3_addCut [vr 3 l0, vi l1] h K := z_entry (by decide +kernel) (Nat.le_of_ble_eq_true rfl) rfl k
