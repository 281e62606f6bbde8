def tX11_past_0 (G : zG) (d : Nat) (K : Int → zH → Prop) (l1 : Int) (l2 : Int) (h : zH) : Prop := zTi G (d + 1) mX11_past K 0 [some (vr 11 0), some (vi l1), some (vi l2), none] [] h
theorem bX11_past_0 {G : zG} {d : Nat} {K : Int → zH → Prop} {l1 : Int} {l2 : Int} {h : zH} (k : zCb G d mX11_isMachine [vr 11 0, vi l1] h (fun x1 h2 => (x1 = true → zCb G d mX11_isIn [vi l2, vi 65536] h2 (fun x3 h4 => (x3 = true → ((0 : Int) ≤ l1 ∧ l1 < 10) ∧ zCv G d mX2_begin [vr 2 4, vi ((h4 (h4 3 l1) 7) + 1)] h4 (fun h7 => zCi G d mX4_blockOf [vr 4 (h4 3 l1), vi l2] h7 (fun x8 h9 => zCi G d mX7_sheafStep [vr 7 ((h4 3 l1) + 7), vi 0, vi x8] h9 (fun x10 h11 => ((0 : Int) ≤ x10 ∧ x10 < 40) ∧ zCv G d mX2_freeToEach [vr 2 4, vl (h11 ((h4 3 l1) + 8) x10), vi 1] h11 (fun h13 => zCv G d mX2_copyWhole [vr 2 4, vr 4 (h4 3 l1), vi 1, vi (bi false)] h13 (fun h15 => zCi G d mX11_keepDraft [vr 11 0] (zup h15 4 8 (zlshl (h15 (h4 3 l1) 8) 1)) (fun x16 h17 => K x16 h17))))))) ∧ (x3 = false → zCi G d mX11_refused [vr 11 0, vi 2] h4 (fun x18 h19 => K x18 h19)))) ∧ (x1 = false → zCi G d mX11_refused [vr 11 0, vi 1] h2 (fun x20 h21 => K x20 h21)))) : tX11_past_0 G d K l1 l2 h := by
  unfold tX11_past_0
  refine z_aload_n 0 dX11_past_0 rfl rfl (Nat.le_of_ble_eq_true rfl) rfl ?_
  refine z_iload_n 1 dX11_past_1 rfl rfl rfl ?_
  refine z_callVb vX11_isMachine kX11_152 dX11_past_2 rfl (zRo_d d) (as := [vi l1]) (rest := []) (Nat.le_of_ble_eq_true rfl) rfl rfl (zCb_mono (fun x1 h2 k => ?_) k)
  obtain ⟨ka, kb⟩ := k
  refine z_ifb_ne (tgt := 14) dX11_past_5 rfl rfl ⟨fun q => ?_, fun q => ?_⟩
  · have k := ka q
    refine z_iload_n 2 dX11_past_14 rfl rfl rfl ?_
    refine z_ldc (x := 65536) cX11_144 rfl dX11_past_15 rfl ?_
    refine z_callSb sX11_isIn kX11_133 dX11_past_17 rfl (zRo_d d) (as := [vi l2, vi 65536]) (rest := []) (Nat.le_of_ble_eq_true rfl) rfl rfl (zCb_mono (fun x3 h4 k => ?_) k)
    obtain ⟨ka, kb⟩ := k
    refine z_ifb_ne (tgt := 29) dX11_past_20 rfl rfl ⟨fun q => ?_, fun q => ?_⟩
    · have k := ka q
      refine z_aload_n 0 dX11_past_29 rfl rfl (Nat.le_of_ble_eq_true rfl) rfl ?_
      refine z_getF 11 17 (x := 3) fX11_19 rfl dX11_past_30 rfl rfl ?_
      refine z_iload_n 1 dX11_past_33 rfl rfl rfl ?_
      obtain ⟨i9, k⟩ := k
      refine z_aald17 (x := (h4 3 l1)) dX11_past_34 (by rw [zl_3]; exact i9) rfl rfl ?_
      refine z_w (fun w5 => ?_)
      refine z_astore_n 3 dX11_past_35 rfl (Nat.le_of_ble_eq_true rfl) (Nat.le_of_ble_eq_true rfl) (L' := [some (vr 11 0), some (vi l1), some (vi l2), some (vr 4 (h4 3 l1))]) rfl rfl ?_
      refine z_aload_n 0 dX11_past_36 rfl rfl (Nat.le_of_ble_eq_true rfl) rfl ?_
      refine z_getF 11 2 (x := 4) fX11_26 rfl dX11_past_37 rfl rfl ?_
      refine z_aload_n 3 dX11_past_40 rfl rfl (Nat.le_of_ble_eq_true rfl) rfl ?_
      refine z_getI 4 (x := (h4 (h4 3 l1) 7)) fX11_217 rfl dX11_past_41 rfl rfl ?_
      refine z_iconst dX11_past_44 rfl ?_
      refine z_iadd dX11_past_45 rfl ?_
      refine z_callVv vX2_begin kX11_328 dX11_past_46 rfl (zRo_d d) (as := [vi ((h4 (h4 3 l1) 7) + 1)]) (rest := []) (Nat.le_of_ble_eq_true rfl) rfl rfl (zCv_mono (fun h7 k => ?_) k)
      refine z_aload_n 0 dX11_past_49 rfl rfl (Nat.le_of_ble_eq_true rfl) rfl ?_
      refine z_getF 11 2 (x := 4) fX11_26 rfl dX11_past_50 rfl rfl ?_
      refine z_aload_n 3 dX11_past_53 rfl rfl (Nat.le_of_ble_eq_true rfl) rfl ?_
      refine z_getF 4 7 (x := ((h4 3 l1) + 7)) fX11_200 rfl dX11_past_54 (by omega) rfl ?_
      refine z_getF 7 14 (x := ((h4 3 l1) + 8)) fX11_209 rfl dX11_past_57 (by omega) rfl ?_
      refine z_aload_n 3 dX11_past_60 rfl rfl (Nat.le_of_ble_eq_true rfl) rfl ?_
      refine z_getF 4 7 (x := ((h4 3 l1) + 7)) fX11_200 rfl dX11_past_61 (by omega) rfl ?_
      refine z_iconst dX11_past_64 rfl ?_
      refine z_aload_n 3 dX11_past_65 rfl rfl (Nat.le_of_ble_eq_true rfl) rfl ?_
      refine z_iload_n 2 dX11_past_66 rfl rfl rfl ?_
      refine z_callVi vX4_blockOf kX11_241 dX11_past_67 rfl (zRo_d d) (as := [vi l2]) (rest := [vi 0, vr 7 ((h4 3 l1) + 7), vr 14 ((h4 3 l1) + 8), vr 2 4]) (Nat.le_of_ble_eq_true rfl) rfl rfl (zCi_mono (fun x8 h9 k => ?_) k)
      refine z_callVi vX7_sheafStep kX11_373 dX11_past_70 rfl (zRo_d d) (as := [vi 0, vi x8]) (rest := [vr 14 ((h4 3 l1) + 8), vr 2 4]) (Nat.le_of_ble_eq_true rfl) rfl rfl (zCi_mono (fun x10 h11 k => ?_) k)
      obtain ⟨i9, k⟩ := k
      refine z_lald (x := (h11 ((h4 3 l1) + 8) x10)) dX11_past_73 (by rw [zl4_8 w5]; exact i9) rfl rfl ?_
      refine z_iconst dX11_past_74 rfl ?_
      refine z_callVv vX2_freeToEach kX11_356 dX11_past_75 rfl (zRo_d d) (as := [vl (h11 ((h4 3 l1) + 8) x10), vi 1]) (rest := []) (Nat.le_of_ble_eq_true rfl) rfl rfl (zCv_mono (fun h13 k => ?_) k)
      refine z_aload_n 0 dX11_past_78 rfl rfl (Nat.le_of_ble_eq_true rfl) rfl ?_
      refine z_getF 11 2 (x := 4) fX11_26 rfl dX11_past_79 rfl rfl ?_
      refine z_aload_n 3 dX11_past_82 rfl rfl (Nat.le_of_ble_eq_true rfl) rfl ?_
      refine z_iconst dX11_past_83 rfl ?_
      refine z_iconst dX11_past_84 rfl ?_
      refine z_callVv vX2_copyWhole kX11_353 dX11_past_85 rfl (zRo_d d) (as := [vr 4 (h4 3 l1), vi 1, vi (bi false)]) (rest := []) (Nat.le_of_ble_eq_true rfl) rfl rfl (zCv_mono (fun h15 k => ?_) k)
      refine z_aload_n 0 dX11_past_88 rfl rfl (Nat.le_of_ble_eq_true rfl) rfl ?_
      refine z_getF 11 2 (x := 4) fX11_26 rfl dX11_past_89 rfl rfl ?_
      refine z_aload_n 3 dX11_past_92 rfl rfl (Nat.le_of_ble_eq_true rfl) rfl ?_
      refine z_getL 4 (x := (h15 (h4 3 l1) 8)) fX11_186 rfl dX11_past_93 rfl rfl ?_
      refine z_iconst dX11_past_96 rfl ?_
      refine z_lshl dX11_past_97 rfl ?_
      refine z_putL 2 gX11_348 dX11_past_98 rfl ?_
      refine z_aload_n 0 dX11_past_101 rfl rfl (Nat.le_of_ble_eq_true rfl) rfl ?_
      refine z_callVi vX11_keepDraft kX11_317 dX11_past_102 rfl (zRo_d d) (as := []) (rest := []) (Nat.le_of_ble_eq_true rfl) rfl rfl (zCi_mono (fun x16 h17 k => ?_) k)
      exact z_ireturn rfl dX11_past_105 ⟨_, rfl, k⟩
    · have k := kb q
      refine z_aload_n 0 dX11_past_23 rfl rfl (Nat.le_of_ble_eq_true rfl) rfl ?_
      refine z_iconst dX11_past_24 rfl ?_
      refine z_callVi vX11_refused kX11_84 dX11_past_25 rfl (zRo_d d) (as := [vi 2]) (rest := []) (Nat.le_of_ble_eq_true rfl) rfl rfl (zCi_mono (fun x18 h19 k => ?_) k)
      exact z_ireturn rfl dX11_past_28 ⟨_, rfl, k⟩
  · have k := kb q
    refine z_aload_n 0 dX11_past_8 rfl rfl (Nat.le_of_ble_eq_true rfl) rfl ?_
    refine z_iconst dX11_past_9 rfl ?_
    refine z_callVi vX11_refused kX11_84 dX11_past_10 rfl (zRo_d d) (as := [vi 1]) (rest := []) (Nat.le_of_ble_eq_true rfl) rfl rfl (zCi_mono (fun x20 h21 k => ?_) k)
    exact z_ireturn rfl dX11_past_13 ⟨_, rfl, k⟩
theorem eX11_past {G : zG} {d : Nat} {K : Int → zH → Prop} {l1 : Int} {l2 : Int} {h : zH} (k : tX11_past_0 G d K l1 l2 h) : zCi G (d + 1) mX11_past [vr 11 0, vi l1, vi l2] h K := z_entry (by decide +kernel) (Nat.le_of_ble_eq_true rfl) rfl k
def tX11_drop_0 (G : zG) (d : Nat) (K : Int → zH → Prop) (h : zH) : Prop := zTi G (d + 1) mX11_drop K 0 [some (vr 11 0)] [] h
theorem bX11_drop_0 {G : zG} {d : Nat} {K : Int → zH → Prop} {h : zH} (k : zR (h 0 13) ∧ zR (h 0 12) ∧ ((h 0 12) < (h 0 13) → zCi G d mX11_granted [vr 11 0, vi ((h 0 13) - 1)] (zup h 0 13 ((h 0 13) - 1)) (fun x1 h2 => K x1 h2)) ∧ (¬ (h 0 12) < (h 0 13) → zCi G d mX11_refused [vr 11 0, vi 1] h (fun x3 h4 => K x3 h4))) : tX11_drop_0 G d K h := by
  unfold tX11_drop_0
  refine z_aload_n 0 dX11_drop_0 rfl rfl (Nat.le_of_ble_eq_true rfl) rfl ?_
  refine z_getI 11 (x := (h 0 13)) fX11_113 rfl dX11_drop_1 rfl rfl ?_
  refine z_aload_n 0 dX11_drop_4 rfl rfl (Nat.le_of_ble_eq_true rfl) rfl ?_
  refine z_getI 11 (x := (h 0 12)) fX11_376 rfl dX11_drop_5 rfl rfl ?_
  obtain ⟨r1, r2, ka, kb⟩ := k
  refine z_icmp_gt (tgt := 17) dX11_drop_8 rfl r1 r2 rfl ⟨fun q => ?_, fun q => ?_⟩
  · have k := ka q
    refine z_aload_n 0 dX11_drop_17 rfl rfl (Nat.le_of_ble_eq_true rfl) rfl ?_
    refine z_dup dX11_drop_18 (fun q => by cases q) rfl ?_
    refine z_getI 11 (x := (h 0 13)) fX11_113 rfl dX11_drop_19 rfl rfl ?_
    refine z_iconst dX11_drop_22 rfl ?_
    refine z_isub dX11_drop_23 rfl ?_
    refine z_putI 11 gX11_113 dX11_drop_24 rfl ?_
    refine z_aload_n 0 dX11_drop_27 rfl rfl (Nat.le_of_ble_eq_true rfl) rfl ?_
    refine z_aload_n 0 dX11_drop_28 rfl rfl (Nat.le_of_ble_eq_true rfl) rfl ?_
    refine z_getI 11 (x := ((h 0 13) - 1)) fX11_113 rfl dX11_drop_29 (by simp [zup]) rfl ?_
    refine z_callVi vX11_granted kX11_116 dX11_drop_32 rfl (zRo_d d) (as := [vi ((h 0 13) - 1)]) (rest := []) (Nat.le_of_ble_eq_true rfl) rfl rfl (zCi_mono (fun x1 h2 k => ?_) k)
    exact z_ireturn rfl dX11_drop_35 ⟨_, rfl, k⟩
  · have k := kb q
    refine z_aload_n 0 dX11_drop_11 rfl rfl (Nat.le_of_ble_eq_true rfl) rfl ?_
    refine z_iconst dX11_drop_12 rfl ?_
    refine z_callVi vX11_refused kX11_84 dX11_drop_13 rfl (zRo_d d) (as := [vi 1]) (rest := []) (Nat.le_of_ble_eq_true rfl) rfl rfl (zCi_mono (fun x3 h4 k => ?_) k)
    exact z_ireturn rfl dX11_drop_16 ⟨_, rfl, k⟩
theorem eX11_drop {G : zG} {d : Nat} {K : Int → zH → Prop} {h : zH} (k : tX11_drop_0 G d K h) : zCi G (d + 1) mX11_drop [vr 11 0] h K := z_entry (by decide +kernel) (Nat.le_of_ble_eq_true rfl) rfl k
def tX11_total_0 (G : zG) (d : Nat) (K : Int → zH → Prop) (l1 : Int) (h : zH) : Prop := zTi G d mX11_total K 0 [some (vr 11 0), some (vi l1)] [] h
theorem bX11_total_0 {G : zG} {d : Nat} {K : Int → zH → Prop} {l1 : Int} {h : zH} (k : zR l1 ∧ (l1 < 0 ∨ 4 < l1 → K (-1) h) ∧ (l1 = 0 → K (h (h 0 9) 2) h) ∧ (l1 = 1 → K (h 0 12) h) ∧ (l1 = 2 → K (h 0 13) h) ∧ (l1 = 3 → K (h 0 11) h) ∧ (l1 = 4 → K (h 0 10) h)) : tX11_total_0 G d K l1 h := by
  unfold tX11_total_0
  refine z_iload_n 1 dX11_total_0 rfl rfl rfl ?_
  obtain ⟨r1, kd, k_0, k_1, k_2, k_3, k_4⟩ := k
  refine z_table (dt := 64) (ts := [36, 44, 49, 54, 59]) dX11_total_1 r1 rfl rfl rfl ⟨fun q => ?_, fun i t hi q => ?_⟩
  · have k := kd q
    refine z_iconst dX11_total_64 rfl ?_
    exact z_ireturn rfl dX11_total_65 ⟨_, rfl, k⟩
  · match i, hi, q with
    | 0, hi, q =>
      cases hi
      have k := k_0 (by omega)
      refine z_aload_n 0 dX11_total_36 rfl rfl (Nat.le_of_ble_eq_true rfl) rfl ?_
      refine z_getR 11 9 (x := (h 0 9)) fX11_72 rfl dX11_total_37 rfl rfl ?_
      refine z_w (fun w1 => ?_)
      refine z_getI 9 (x := (h (h 0 9) 2)) fX11_382 rfl dX11_total_40 rfl rfl ?_
      exact z_ireturn rfl dX11_total_43 ⟨_, rfl, k⟩
    | 1, hi, q =>
      cases hi
      have k := k_1 (by omega)
      refine z_aload_n 0 dX11_total_44 rfl rfl (Nat.le_of_ble_eq_true rfl) rfl ?_
      refine z_getI 11 (x := (h 0 12)) fX11_376 rfl dX11_total_45 rfl rfl ?_
      exact z_ireturn rfl dX11_total_48 ⟨_, rfl, k⟩
    | 2, hi, q =>
      cases hi
      have k := k_2 (by omega)
      refine z_aload_n 0 dX11_total_49 rfl rfl (Nat.le_of_ble_eq_true rfl) rfl ?_
      refine z_getI 11 (x := (h 0 13)) fX11_113 rfl dX11_total_50 rfl rfl ?_
      exact z_ireturn rfl dX11_total_53 ⟨_, rfl, k⟩
    | 3, hi, q =>
      cases hi
      have k := k_3 (by omega)
      refine z_aload_n 0 dX11_total_54 rfl rfl (Nat.le_of_ble_eq_true rfl) rfl ?_
      refine z_getI 11 (x := (h 0 11)) fX11_271 rfl dX11_total_55 rfl rfl ?_
      exact z_ireturn rfl dX11_total_58 ⟨_, rfl, k⟩
    | 4, hi, q =>
      cases hi
      have k := k_4 (by omega)
      refine z_aload_n 0 dX11_total_59 rfl rfl (Nat.le_of_ble_eq_true rfl) rfl ?_
      refine z_getI 11 (x := (h 0 10)) fX11_77 rfl dX11_total_60 rfl rfl ?_
      exact z_ireturn rfl dX11_total_63 ⟨_, rfl, k⟩
    | i + 5, hi, q =>
      exact absurd hi (by simp)
theorem eX11_total {G : zG} {d : Nat} {K : Int → zH → Prop} {l1 : Int} {h : zH} (k : tX11_total_0 G d K l1 h) : zCi G d mX11_total [vr 11 0, vi l1] h K := z_entry (by decide +kernel) (Nat.le_of_ble_eq_true rfl) rfl k
def tX11_letter_0 (G : zG) (d : Nat) (K : Int → zH → Prop) (l1 : Int) (h : zH) : Prop := zTi G (d + 1) mX11_letter K 0 [some (vr 11 0), some (vi l1)] [] h
theorem bX11_letter_0 {G : zG} {d : Nat} {K : Int → zH → Prop} {l1 : Int} {h : zH} (k : zCb G d mX11_isIn [vi l1, vi (h 0 11)] h (fun x1 h2 => (x1 = true → ((0 : Int) ≤ l1 ∧ l1 < 16) ∧ zCi G d mX11_granted [vr 11 0, vi (h2 2 l1)] h2 (fun x3 h4 => K x3 h4)) ∧ (x1 = false → zCi G d mX11_refused [vr 11 0, vi 1] h2 (fun x5 h6 => K x5 h6)))) : tX11_letter_0 G d K l1 h := by
  unfold tX11_letter_0
  refine z_iload_n 1 dX11_letter_0 rfl rfl rfl ?_
  refine z_aload_n 0 dX11_letter_1 rfl rfl (Nat.le_of_ble_eq_true rfl) rfl ?_
  refine z_getI 11 (x := (h 0 11)) fX11_271 rfl dX11_letter_2 rfl rfl ?_
  refine z_callSb sX11_isIn kX11_133 dX11_letter_5 rfl (zRo_d d) (as := [vi l1, vi (h 0 11)]) (rest := []) (Nat.le_of_ble_eq_true rfl) rfl rfl (zCb_mono (fun x1 h2 k => ?_) k)
  obtain ⟨ka, kb⟩ := k
  refine z_ifb_ne (tgt := 17) dX11_letter_8 rfl rfl ⟨fun q => ?_, fun q => ?_⟩
  · have k := ka q
    refine z_aload_n 0 dX11_letter_17 rfl rfl (Nat.le_of_ble_eq_true rfl) rfl ?_
    refine z_aload_n 0 dX11_letter_18 rfl rfl (Nat.le_of_ble_eq_true rfl) rfl ?_
    refine z_getF 11 13 (x := 2) fX11_13 rfl dX11_letter_19 rfl rfl ?_
    refine z_iload_n 1 dX11_letter_22 rfl rfl rfl ?_
    obtain ⟨i9, k⟩ := k
    refine z_iald (x := (h2 2 l1)) dX11_letter_23 (by rw [zl_2]; exact i9) rfl rfl ?_
    refine z_callVi vX11_granted kX11_116 dX11_letter_24 rfl (zRo_d d) (as := [vi (h2 2 l1)]) (rest := []) (Nat.le_of_ble_eq_true rfl) rfl rfl (zCi_mono (fun x3 h4 k => ?_) k)
    exact z_ireturn rfl dX11_letter_27 ⟨_, rfl, k⟩
  · have k := kb q
    refine z_aload_n 0 dX11_letter_11 rfl rfl (Nat.le_of_ble_eq_true rfl) rfl ?_
    refine z_iconst dX11_letter_12 rfl ?_
    refine z_callVi vX11_refused kX11_84 dX11_letter_13 rfl (zRo_d d) (as := [vi 1]) (rest := []) (Nat.le_of_ble_eq_true rfl) rfl rfl (zCi_mono (fun x5 h6 k => ?_) k)
    exact z_ireturn rfl dX11_letter_16 ⟨_, rfl, k⟩
theorem eX11_letter {G : zG} {d : Nat} {K : Int → zH → Prop} {l1 : Int} {h : zH} (k : tX11_letter_0 G d K l1 h) : zCi G (d + 1) mX11_letter [vr 11 0, vi l1] h K := z_entry (by decide +kernel) (Nat.le_of_ble_eq_true rfl) rfl k
def tX11_trouble_0 (G : zG) (d : Nat) (K : Int → zH → Prop) (h : zH) : Prop := zTi G d mX11_trouble K 0 [some (vr 11 0)] [] h
theorem bX11_trouble_0 {G : zG} {d : Nat} {K : Int → zH → Prop} {h : zH} (k : K (h 0 14) h) : tX11_trouble_0 G d K h := by
  unfold tX11_trouble_0
  refine z_aload_n 0 dX11_trouble_0 rfl rfl (Nat.le_of_ble_eq_true rfl) rfl ?_
  refine z_getI 11 (x := (h 0 14)) fX11_119 rfl dX11_trouble_1 rfl rfl ?_
  exact z_ireturn rfl dX11_trouble_4 ⟨_, rfl, k⟩
theorem eX11_trouble {G : zG} {d : Nat} {K : Int → zH → Prop} {h : zH} (k : tX11_trouble_0 G d K h) : zCi G d mX11_trouble [vr 11 0] h K := z_entry (by decide +kernel) (Nat.le_of_ble_eq_true rfl) rfl k
def tX11_isIn_0 (G : zG) (d : Nat) (K : Bool → zH → Prop) (l0 : Int) (l1 : Int) (h : zH) : Prop := zTb G d mX11_isIn K 0 [some (vi l0), some (vi l1)] [] h
theorem bX11_isIn_0 {G : zG} {d : Nat} {K : Bool → zH → Prop} {l0 : Int} {l1 : Int} {h : zH} (k : zR l0 ∧ (l0 < 0 → K false h) ∧ (¬ l0 < 0 → zR l0 ∧ zR l1 ∧ (l1 ≤ l0 → K false h) ∧ (¬ l1 ≤ l0 → K true h))) : tX11_isIn_0 G d K l0 l1 h := by
  unfold tX11_isIn_0
  refine z_iload_n 0 dX11_isIn_0 rfl rfl rfl ?_
  obtain ⟨r1, ka, kb⟩ := k
  refine z_if_lt (tgt := 13) dX11_isIn_1 rfl r1 rfl ⟨fun q => ?_, fun q => ?_⟩
  · have k := ka q
    refine z_iconst dX11_isIn_13 rfl ?_
    exact z_zreturn rfl (Or.inl rfl) dX11_isIn_14 ⟨false, rfl, k⟩
  · have k := kb q
    refine z_iload_n 0 dX11_isIn_4 rfl rfl rfl ?_
    refine z_iload_n 1 dX11_isIn_5 rfl rfl rfl ?_
    obtain ⟨r1, r2, ka, kb⟩ := k
    refine z_icmp_ge (tgt := 13) dX11_isIn_6 rfl r1 r2 rfl ⟨fun q => ?_, fun q => ?_⟩
    · have k := ka q
      refine z_iconst dX11_isIn_13 rfl ?_
      exact z_zreturn rfl (Or.inl rfl) dX11_isIn_14 ⟨false, rfl, k⟩
    · have k := kb q
      refine z_iconst dX11_isIn_9 rfl ?_
      refine z_goto (tgt := 14) dX11_isIn_10 rfl ?_
      exact z_zreturn rfl (Or.inr rfl) dX11_isIn_14 ⟨true, rfl, k⟩
theorem eX11_isIn {G : zG} {d : Nat} {K : Bool → zH → Prop} {l0 : Int} {l1 : Int} {h : zH} (k : tX11_isIn_0 G d K l0 l1 h) : zCb G d mX11_isIn [vi l0, vi l1] h K := z_entry (by decide +kernel) (Nat.le_of_ble_eq_true rfl) rfl k
def tX11_isTrue_0 (G : zG) (d : Nat) (K : Bool → zH → Prop) (l0 : Int) (l1 : Bool) (l2 : Bool) (h : zH) : Prop := zTb G d mX11_isTrue K 0 [some (vi l0), some (vi (bi l1)), some (vi (bi l2))] [] h
theorem bX11_isTrue_0 {G : zG} {d : Nat} {K : Bool → zH → Prop} {l0 : Int} {l1 : Bool} {l2 : Bool} {h : zH} (k : (l1 = false → (l2 = false → zR (ziand (zishr l0 (0 + 0)) 1) ∧ (¬ (ziand (zishr l0 (0 + 0)) 1) = 1 → K false h) ∧ ((ziand (zishr l0 (0 + 0)) 1) = 1 → K true h)) ∧ (l2 = true → zR (ziand (zishr l0 (0 + 2)) 1) ∧ (¬ (ziand (zishr l0 (0 + 2)) 1) = 1 → K false h) ∧ ((ziand (zishr l0 (0 + 2)) 1) = 1 → K true h))) ∧ (l1 = true → (l2 = false → zR (ziand (zishr l0 (1 + 0)) 1) ∧ (¬ (ziand (zishr l0 (1 + 0)) 1) = 1 → K false h) ∧ ((ziand (zishr l0 (1 + 0)) 1) = 1 → K true h)) ∧ (l2 = true → zR (ziand (zishr l0 (1 + 2)) 1) ∧ (¬ (ziand (zishr l0 (1 + 2)) 1) = 1 → K false h) ∧ ((ziand (zishr l0 (1 + 2)) 1) = 1 → K true h)))) : tX11_isTrue_0 G d K l0 l1 l2 h := by
  unfold tX11_isTrue_0
  refine z_iload_n 0 dX11_isTrue_0 rfl rfl rfl ?_
  refine z_iload_n 1 dX11_isTrue_1 rfl rfl rfl ?_
  obtain ⟨ka, kb⟩ := k
  refine z_ifb_eq (tgt := 9) dX11_isTrue_2 rfl rfl ⟨fun q => ?_, fun q => ?_⟩
  · have k := ka q
    refine z_iconst dX11_isTrue_9 rfl ?_
    refine z_iload_n 2 dX11_isTrue_10 rfl rfl rfl ?_
    obtain ⟨ka, kb⟩ := k
    refine z_ifb_eq (tgt := 18) dX11_isTrue_11 rfl rfl ⟨fun q => ?_, fun q => ?_⟩
    · have k := ka q
      refine z_iconst dX11_isTrue_18 rfl ?_
      refine z_iadd dX11_isTrue_19 rfl ?_
      refine z_ishr dX11_isTrue_20 rfl ?_
      refine z_iconst dX11_isTrue_21 rfl ?_
      refine z_iand dX11_isTrue_22 rfl ?_
      refine z_iconst dX11_isTrue_23 rfl ?_
      obtain ⟨r1, ka, kb⟩ := k
      refine z_icmp_ne (tgt := 31) dX11_isTrue_24 rfl r1 ⟨by decide, by decide⟩ rfl ⟨fun q => ?_, fun q => ?_⟩
      · have k := ka q
        refine z_iconst dX11_isTrue_31 rfl ?_
        exact z_zreturn rfl (Or.inl rfl) dX11_isTrue_32 ⟨false, rfl, k⟩
      · have k := kb q
        refine z_iconst dX11_isTrue_27 rfl ?_
        refine z_goto (tgt := 32) dX11_isTrue_28 rfl ?_
        exact z_zreturn rfl (Or.inr rfl) dX11_isTrue_32 ⟨true, rfl, k⟩
    · have k := kb q
      refine z_iconst dX11_isTrue_14 rfl ?_
      refine z_goto (tgt := 19) dX11_isTrue_15 rfl ?_
      refine z_iadd dX11_isTrue_19 rfl ?_
      refine z_ishr dX11_isTrue_20 rfl ?_
      refine z_iconst dX11_isTrue_21 rfl ?_
      refine z_iand dX11_isTrue_22 rfl ?_
      refine z_iconst dX11_isTrue_23 rfl ?_
      obtain ⟨r1, ka, kb⟩ := k
      refine z_icmp_ne (tgt := 31) dX11_isTrue_24 rfl r1 ⟨by decide, by decide⟩ rfl ⟨fun q => ?_, fun q => ?_⟩
      · have k := ka q
        refine z_iconst dX11_isTrue_31 rfl ?_
        exact z_zreturn rfl (Or.inl rfl) dX11_isTrue_32 ⟨false, rfl, k⟩
      · have k := kb q
        refine z_iconst dX11_isTrue_27 rfl ?_
        refine z_goto (tgt := 32) dX11_isTrue_28 rfl ?_
        exact z_zreturn rfl (Or.inr rfl) dX11_isTrue_32 ⟨true, rfl, k⟩
  · have k := kb q
    refine z_iconst dX11_isTrue_5 rfl ?_
    refine z_goto (tgt := 10) dX11_isTrue_6 rfl ?_
    refine z_iload_n 2 dX11_isTrue_10 rfl rfl rfl ?_
    obtain ⟨ka, kb⟩ := k
    refine z_ifb_eq (tgt := 18) dX11_isTrue_11 rfl rfl ⟨fun q => ?_, fun q => ?_⟩
    · have k := ka q
      refine z_iconst dX11_isTrue_18 rfl ?_
      refine z_iadd dX11_isTrue_19 rfl ?_
      refine z_ishr dX11_isTrue_20 rfl ?_
      refine z_iconst dX11_isTrue_21 rfl ?_
      refine z_iand dX11_isTrue_22 rfl ?_
      refine z_iconst dX11_isTrue_23 rfl ?_
      obtain ⟨r1, ka, kb⟩ := k
      refine z_icmp_ne (tgt := 31) dX11_isTrue_24 rfl r1 ⟨by decide, by decide⟩ rfl ⟨fun q => ?_, fun q => ?_⟩
      · have k := ka q
        refine z_iconst dX11_isTrue_31 rfl ?_
        exact z_zreturn rfl (Or.inl rfl) dX11_isTrue_32 ⟨false, rfl, k⟩
      · have k := kb q
        refine z_iconst dX11_isTrue_27 rfl ?_
        refine z_goto (tgt := 32) dX11_isTrue_28 rfl ?_
        exact z_zreturn rfl (Or.inr rfl) dX11_isTrue_32 ⟨true, rfl, k⟩
    · have k := kb q
      refine z_iconst dX11_isTrue_14 rfl ?_
      refine z_goto (tgt := 19) dX11_isTrue_15 rfl ?_
      refine z_iadd dX11_isTrue_19 rfl ?_
      refine z_ishr dX11_isTrue_20 rfl ?_
      refine z_iconst dX11_isTrue_21 rfl ?_
      refine z_iand dX11_isTrue_22 rfl ?_
      refine z_iconst dX11_isTrue_23 rfl ?_
      obtain ⟨r1, ka, kb⟩ := k
      refine z_icmp_ne (tgt := 31) dX11_isTrue_24 rfl r1 ⟨by decide, by decide⟩ rfl ⟨fun q => ?_, fun q => ?_⟩
      · have k := ka q
        refine z_iconst dX11_isTrue_31 rfl ?_
        exact z_zreturn rfl (Or.inl rfl) dX11_isTrue_32 ⟨false, rfl, k⟩
      · have k := kb q
        refine z_iconst dX11_isTrue_27 rfl ?_
        refine z_goto (tgt := 32) dX11_isTrue_28 rfl ?_
        exact z_zreturn rfl (Or.inr rfl) dX11_isTrue_32 ⟨true, rfl, k⟩
theorem eX11_isTrue {G : zG} {d : Nat} {K : Bool → zH → Prop} {l0 : Int} {l1 : Bool} {l2 : Bool} {h : zH} (k : tX11_isTrue_0 G d K l0 l1 l2 h) : zCb G d mX11_isTrue [vi l0, vi (bi l1), vi (bi l2)] h K := z_entry (by decide +kernel) (Nat.le_of_ble_eq_true rfl) rfl k
def tX11_refused_0 (G : zG) (d : Nat) (K : Int → zH → Prop) (l1 : Int) (h : zH) : Prop := zTi G d mX11_refused K 0 [some (vr 11 0), some (vi l1)] [] h
theorem bX11_refused_0 {G : zG} {d : Nat} {K : Int → zH → Prop} {l1 : Int} {h : zH} (k : K (-1) (zup h 0 14 l1)) : tX11_refused_0 G d K l1 h := by
  unfold tX11_refused_0
  refine z_aload_n 0 dX11_refused_0 rfl rfl (Nat.le_of_ble_eq_true rfl) rfl ?_
  refine z_iload_n 1 dX11_refused_1 rfl rfl rfl ?_
  refine z_putI 11 gX11_119 dX11_refused_2 rfl ?_
  refine z_iconst dX11_refused_5 rfl ?_
  exact z_ireturn rfl dX11_refused_6 ⟨_, rfl, k⟩
theorem eX11_refused {G : zG} {d : Nat} {K : Int → zH → Prop} {l1 : Int} {h : zH} (k : tX11_refused_0 G d K l1 h) : zCi G d mX11_refused [vr 11 0, vi l1] h K := z_entry (by decide +kernel) (Nat.le_of_ble_eq_true rfl) rfl k
def tX11_granted_0 (G : zG) (d : Nat) (K : Int → zH → Prop) (l1 : Int) (h : zH) : Prop := zTi G d mX11_granted K 0 [some (vr 11 0), some (vi l1)] [] h
theorem bX11_granted_0 {G : zG} {d : Nat} {K : Int → zH → Prop} {l1 : Int} {h : zH} (k : K l1 (zup h 0 14 0)) : tX11_granted_0 G d K l1 h := by
  unfold tX11_granted_0
  refine z_aload_n 0 dX11_granted_0 rfl rfl (Nat.le_of_ble_eq_true rfl) rfl ?_
  refine z_iconst dX11_granted_1 rfl ?_
  refine z_putI 11 gX11_119 dX11_granted_2 rfl ?_
  refine z_iload_n 1 dX11_granted_5 rfl rfl rfl ?_
  exact z_ireturn rfl dX11_granted_6 ⟨_, rfl, k⟩
theorem eX11_granted {G : zG} {d : Nat} {K : Int → zH → Prop} {l1 : Int} {h : zH} (k : tX11_granted_0 G d K l1 h) : zCi G d mX11_granted [vr 11 0, vi l1] h K := z_entry (by decide +kernel) (Nat.le_of_ble_eq_true rfl) rfl k
def tX11_grantedLong_0 (G : zG) (d : Nat) (K : Int → zH → Prop) (l1 : Int) (h : zH) : Prop := zTl G d mX11_grantedLong K 0 [some (vr 11 0), some (vl l1), none] [] h
theorem bX11_grantedLong_0 {G : zG} {d : Nat} {K : Int → zH → Prop} {l1 : Int} {h : zH} (k : K l1 (zup h 0 14 0)) : tX11_grantedLong_0 G d K l1 h := by
  unfold tX11_grantedLong_0
  refine z_aload_n 0 dX11_grantedLong_0 rfl rfl (Nat.le_of_ble_eq_true rfl) rfl ?_
  refine z_iconst dX11_grantedLong_1 rfl ?_
  refine z_putI 11 gX11_119 dX11_grantedLong_2 rfl ?_
  refine z_lload_n 1 dX11_grantedLong_5 rfl rfl rfl ?_
  exact z_lreturn rfl dX11_grantedLong_6 ⟨_, rfl, k⟩
theorem eX11_grantedLong {G : zG} {d : Nat} {K : Int → zH → Prop} {l1 : Int} {h : zH} (k : tX11_grantedLong_0 G d K l1 h) : zCl G d mX11_grantedLong [vr 11 0, vl l1] h K := z_entry (by decide +kernel) (Nat.le_of_ble_eq_true rfl) rfl k
def tX11_isSet_0 (G : zG) (d : Nat) (K : Bool → zH → Prop) (l1 : Int) (h : zH) : Prop := zTb G (d + 1) mX11_isSet K 0 [some (vr 11 0), some (vi l1)] [] h
theorem bX11_isSet_0 {G : zG} {d : Nat} {K : Bool → zH → Prop} {l1 : Int} {h : zH} (k : zCb G d mX11_isIn [vi l1, vi (h (h 0 9) 2)] h (fun x2 h3 => K x2 h3)) : tX11_isSet_0 G d K l1 h := by
  unfold tX11_isSet_0
  refine z_iload_n 1 dX11_isSet_0 rfl rfl rfl ?_
  refine z_aload_n 0 dX11_isSet_1 rfl rfl (Nat.le_of_ble_eq_true rfl) rfl ?_
  refine z_getR 11 9 (x := (h 0 9)) fX11_72 rfl dX11_isSet_2 rfl rfl ?_
  refine z_w (fun w1 => ?_)
  refine z_getI 9 (x := (h (h 0 9) 2)) fX11_382 rfl dX11_isSet_5 rfl rfl ?_
  refine z_callSb sX11_isIn kX11_133 dX11_isSet_8 rfl (zRo_d d) (as := [vi l1, vi (h (h 0 9) 2)]) (rest := []) (Nat.le_of_ble_eq_true rfl) rfl rfl (zCb_mono (fun x2 h3 k => ?_) k)
  exact z_zreturn rfl (bi_01 _) dX11_isSet_11 ⟨_, rfl, k⟩
theorem eX11_isSet {G : zG} {d : Nat} {K : Bool → zH → Prop} {l1 : Int} {h : zH} (k : tX11_isSet_0 G d K l1 h) : zCb G (d + 1) mX11_isSet [vr 11 0, vi l1] h K := z_entry (by decide +kernel) (Nat.le_of_ble_eq_true rfl) rfl k
def tX11_isMachine_0 (G : zG) (d : Nat) (K : Bool → zH → Prop) (l1 : Int) (h : zH) : Prop := zTb G (d + 1) mX11_isMachine K 0 [some (vr 11 0), some (vi l1)] [] h
theorem bX11_isMachine_0 {G : zG} {d : Nat} {K : Bool → zH → Prop} {l1 : Int} {h : zH} (k : zCb G d mX11_isIn [vi l1, vi (h 0 13)] h (fun x1 h2 => K x1 h2)) : tX11_isMachine_0 G d K l1 h := by
  unfold tX11_isMachine_0
  refine z_iload_n 1 dX11_isMachine_0 rfl rfl rfl ?_
  refine z_aload_n 0 dX11_isMachine_1 rfl rfl (Nat.le_of_ble_eq_true rfl) rfl ?_
  refine z_getI 11 (x := (h 0 13)) fX11_113 rfl dX11_isMachine_2 rfl rfl ?_
  refine z_callSb sX11_isIn kX11_133 dX11_isMachine_5 rfl (zRo_d d) (as := [vi l1, vi (h 0 13)]) (rest := []) (Nat.le_of_ble_eq_true rfl) rfl rfl (zCb_mono (fun x1 h2 k => ?_) k)
  exact z_zreturn rfl (bi_01 _) dX11_isMachine_8 ⟨_, rfl, k⟩
theorem eX11_isMachine {G : zG} {d : Nat} {K : Bool → zH → Prop} {l1 : Int} {h : zH} (k : tX11_isMachine_0 G d K l1 h) : zCb G (d + 1) mX11_isMachine [vr 11 0, vi l1] h K := z_entry (by decide +kernel) (Nat.le_of_ble_eq_true rfl) rfl k
def tX11_isClass_0 (G : zG) (d : Nat) (K : Bool → zH → Prop) (l1 : Int) (l2 : Int) (h : zH) : Prop := zTb G (d + 1) mX11_isClass K 0 [some (vr 11 0), some (vi l1), some (vi l2)] [] h
theorem bX11_isClass_0 {G : zG} {d : Nat} {K : Bool → zH → Prop} {l1 : Int} {l2 : Int} {h : zH} (k : zCb G d mX11_isMachine [vr 11 0, vi l1] h (fun x1 h2 => (x1 = false → K false h2) ∧ (x1 = true → ((0 : Int) ≤ l1 ∧ l1 < 10) ∧ zCb G d mX11_isIn [vi l2, vi (h2 ((h2 3 l1) + 7) 10)] h2 (fun x4 h5 => (x4 = false → K false h5) ∧ (x4 = true → K true h5))))) : tX11_isClass_0 G d K l1 l2 h := by
  unfold tX11_isClass_0
  refine z_aload_n 0 dX11_isClass_0 rfl rfl (Nat.le_of_ble_eq_true rfl) rfl ?_
  refine z_iload_n 1 dX11_isClass_1 rfl rfl rfl ?_
  refine z_callVb vX11_isMachine kX11_152 dX11_isClass_2 rfl (zRo_d d) (as := [vi l1]) (rest := []) (Nat.le_of_ble_eq_true rfl) rfl rfl (zCb_mono (fun x1 h2 k => ?_) k)
  obtain ⟨ka, kb⟩ := k
  refine z_ifb_eq (tgt := 31) dX11_isClass_5 rfl rfl ⟨fun q => ?_, fun q => ?_⟩
  · have k := ka q
    refine z_iconst dX11_isClass_31 rfl ?_
    exact z_zreturn rfl (Or.inl rfl) dX11_isClass_32 ⟨false, rfl, k⟩
  · have k := kb q
    refine z_iload_n 2 dX11_isClass_8 rfl rfl rfl ?_
    refine z_aload_n 0 dX11_isClass_9 rfl rfl (Nat.le_of_ble_eq_true rfl) rfl ?_
    refine z_getF 11 17 (x := 3) fX11_19 rfl dX11_isClass_10 rfl rfl ?_
    refine z_iload_n 1 dX11_isClass_13 rfl rfl rfl ?_
    obtain ⟨i9, k⟩ := k
    refine z_aald17 (x := (h2 3 l1)) dX11_isClass_14 (by rw [zl_3]; exact i9) rfl rfl ?_
    refine z_w (fun w3 => ?_)
    refine z_getF 4 7 (x := ((h2 3 l1) + 7)) fX11_200 rfl dX11_isClass_15 (by omega) rfl ?_
    refine z_getI 7 (x := (h2 ((h2 3 l1) + 7) 10)) fX11_385 rfl dX11_isClass_18 rfl rfl ?_
    refine z_callSb sX11_isIn kX11_133 dX11_isClass_21 rfl (zRo_d d) (as := [vi l2, vi (h2 ((h2 3 l1) + 7) 10)]) (rest := []) (Nat.le_of_ble_eq_true rfl) rfl rfl (zCb_mono (fun x4 h5 k => ?_) k)
    obtain ⟨ka, kb⟩ := k
    refine z_ifb_eq (tgt := 31) dX11_isClass_24 rfl rfl ⟨fun q => ?_, fun q => ?_⟩
    · have k := ka q
      refine z_iconst dX11_isClass_31 rfl ?_
      exact z_zreturn rfl (Or.inl rfl) dX11_isClass_32 ⟨false, rfl, k⟩
    · have k := kb q
      refine z_iconst dX11_isClass_27 rfl ?_
      refine z_goto (tgt := 32) dX11_isClass_28 rfl ?_
      exact z_zreturn rfl (Or.inr rfl) dX11_isClass_32 ⟨true, rfl, k⟩
theorem eX11_isClass {G : zG} {d : Nat} {K : Bool → zH → Prop} {l1 : Int} {l2 : Int} {h : zH} (k : tX11_isClass_0 G d K l1 l2 h) : zCb G (d + 1) mX11_isClass [vr 11 0, vi l1, vi l2] h K := z_entry (by decide +kernel) (Nat.le_of_ble_eq_true rfl) rfl k
def tX11_putFour_0 (G : zG) (d : Nat) (K : zH → Prop) (l1 : Int) (h : zH) : Prop := zTv G d mX11_putFour K 0 [some (vr 11 0), some (vi l1), none] [] h
def tX11_putFour_3 (G : zG) (d : Nat) (K : zH → Prop) (l1 : Int) (l2 : Int) (h : zH) : Prop := zTv G d mX11_putFour K 3 [some (vr 11 0), some (vi l1), some (vi l2)] [] h
theorem bX11_putFour_0 {G : zG} {d : Nat} {K : zH → Prop} {l1 : Int} {h : zH} (k : tX11_putFour_3 G d K l1 24 h) : tX11_putFour_0 G d K l1 h := by
  unfold tX11_putFour_0
  refine z_bipush dX11_putFour_0 rfl rfl ?_
  refine z_istore_n 2 dX11_putFour_2 rfl (Nat.le_of_ble_eq_true rfl) (L' := [some (vr 11 0), some (vi l1), some (vi 24)]) rfl rfl ?_
  exact z_sub (L' := [some (vr 11 0), some (vi l1), some (vi 24)]) (And.intro rfl (And.intro rfl (And.intro rfl trivial))) k
theorem bX11_putFour_3 {G : zG} {d : Nat} {K : zH → Prop} {l1 : Int} {l2 : Int} {h : zH} (k : zR l2 ∧ (l2 < 0 → K h) ∧ (¬ l2 < 0 → zR (h 0 10) ∧ (900 ≤ (h 0 10) → K h) ∧ (¬ 900 ≤ (h 0 10) → ((0 : Int) ≤ (h 0 10) ∧ (h 0 10) < 900) ∧ tX11_putFour_3 G d K l1 (l2 + (-8)) (zup (zup h 1 (h 0 10) (zi2b (zi2b (ziushr l1 l2)))) 0 10 ((h 0 10) + 1))))) : tX11_putFour_3 G d K l1 l2 h := by
  unfold tX11_putFour_3
  refine z_iload_n 2 dX11_putFour_3 rfl rfl rfl ?_
  obtain ⟨r1, ka, kb⟩ := k
  refine z_if_lt (tgt := 46) dX11_putFour_4 rfl r1 rfl ⟨fun q => ?_, fun q => ?_⟩
  · have k := ka q
    exact z_return rfl dX11_putFour_46 ⟨rfl, k⟩
  · have k := kb q
    refine z_aload_n 0 dX11_putFour_7 rfl rfl (Nat.le_of_ble_eq_true rfl) rfl ?_
    refine z_getI 11 (x := (h 0 10)) fX11_77 rfl dX11_putFour_8 rfl rfl ?_
    refine z_sipush dX11_putFour_11 rfl rfl ?_
    obtain ⟨r1, ka, kb⟩ := k
    refine z_icmp_ge (tgt := 46) dX11_putFour_14 rfl r1 ⟨by decide, by decide⟩ rfl ⟨fun q => ?_, fun q => ?_⟩
    · have k := ka q
      exact z_return rfl dX11_putFour_46 ⟨rfl, k⟩
    · have k := kb q
      refine z_aload_n 0 dX11_putFour_17 rfl rfl (Nat.le_of_ble_eq_true rfl) rfl ?_
      refine z_getF 11 15 (x := 1) fX11_9 rfl dX11_putFour_18 rfl rfl ?_
      refine z_aload_n 0 dX11_putFour_21 rfl rfl (Nat.le_of_ble_eq_true rfl) rfl ?_
      refine z_getI 11 (x := (h 0 10)) fX11_77 rfl dX11_putFour_22 rfl rfl ?_
      refine z_iload_n 1 dX11_putFour_25 rfl rfl rfl ?_
      refine z_iload_n 2 dX11_putFour_26 rfl rfl rfl ?_
      refine z_iushr dX11_putFour_27 rfl ?_
      refine z_i2b dX11_putFour_28 rfl ?_
      obtain ⟨i9, k⟩ := k
      refine z_bast dX11_putFour_29 (by rw [zl_1]; exact i9) rfl ?_
      refine z_aload_n 0 dX11_putFour_30 rfl rfl (Nat.le_of_ble_eq_true rfl) rfl ?_
      refine z_dup dX11_putFour_31 (fun q => by cases q) rfl ?_
      refine z_getI 11 (x := (h 0 10)) fX11_77 rfl dX11_putFour_32 (by simp [zup]) rfl ?_
      refine z_iconst dX11_putFour_35 rfl ?_
      refine z_iadd dX11_putFour_36 rfl ?_
      refine z_putI 11 gX11_77 dX11_putFour_37 rfl ?_
      refine z_iinc dX11_putFour_40 rfl (Nat.le_of_ble_eq_true rfl) (L' := [some (vr 11 0), some (vi l1), some (vi (l2 + (-8)))]) rfl rfl ?_
      refine z_goto (tgt := 3) dX11_putFour_43 rfl ?_
      exact z_sub (L' := [some (vr 11 0), some (vi l1), some (vi (l2 + (-8)))]) (And.intro rfl (And.intro rfl (And.intro rfl trivial))) k
theorem eX11_putFour {G : zG} {d : Nat} {K : zH → Prop} {l1 : Int} {h : zH} (k : tX11_putFour_0 G d K l1 h) : zCv G d mX11_putFour [vr 11 0, vi l1] h K := z_entry (by decide +kernel) (Nat.le_of_ble_eq_true rfl) rfl k
def tX11_takeBench_0 (G : zG) (d : Nat) (K : zH → Prop) (h : zH) : Prop := zTv G d mX11_takeBench K 0 [some (vr 11 0), none, none, none] [] h
def tX11_takeBench_45 (G : zG) (d : Nat) (K : zH → Prop) (l2 : Int) (h : zH) : Prop := zTv G d mX11_takeBench K 45 [some (vr 11 0), none, some (vi l2), none] [] h
theorem bX11_takeBench_0 {G : zG} {d : Nat} {K : zH → Prop} {h : zH} (k : tX11_takeBench_45 G d K 0 (zup (zup (zup (zup h 0 9 (h 12 5)) 12 5 (h 0 9)) 0 12 (h 12 6)) 0 13 (h 12 6))) : tX11_takeBench_0 G d K h := by
  unfold tX11_takeBench_0
  refine z_aload_n 0 dX11_takeBench_0 rfl rfl (Nat.le_of_ble_eq_true rfl) rfl ?_
  refine z_getR 11 9 (x := (h 0 9)) fX11_72 rfl dX11_takeBench_1 rfl rfl ?_
  refine z_w (fun w1 => ?_)
  refine z_astore_n 1 dX11_takeBench_4 rfl (Nat.le_of_ble_eq_true rfl) (Nat.le_of_ble_eq_true rfl) (L' := [some (vr 11 0), some (vr 9 (h 0 9)), none, none]) rfl rfl ?_
  refine z_aload_n 0 dX11_takeBench_5 rfl rfl (Nat.le_of_ble_eq_true rfl) rfl ?_
  refine z_aload_n 0 dX11_takeBench_6 rfl rfl (Nat.le_of_ble_eq_true rfl) rfl ?_
  refine z_getF 11 8 (x := 12) fX11_35 rfl dX11_takeBench_7 rfl rfl ?_
  refine z_getR 8 9 (x := (h 12 5)) fX11_388 rfl dX11_takeBench_10 rfl rfl ?_
  refine z_w (fun w2 => ?_)
  refine z_putR 11 9 gX11_72 rfl (by decide) dX11_takeBench_13 rfl ?_
  refine z_aload_n 0 dX11_takeBench_16 rfl rfl (Nat.le_of_ble_eq_true rfl) rfl ?_
  refine z_getF 11 8 (x := 12) fX11_35 rfl dX11_takeBench_17 rfl rfl ?_
  refine z_aload_n 1 dX11_takeBench_20 rfl rfl (Nat.le_of_ble_eq_true rfl) rfl ?_
  refine z_putR 8 9 gX11_388 rfl (by decide) dX11_takeBench_21 rfl ?_
  refine z_aload_n 0 dX11_takeBench_24 rfl rfl (Nat.le_of_ble_eq_true rfl) rfl ?_
  refine z_aload_n 0 dX11_takeBench_25 rfl rfl (Nat.le_of_ble_eq_true rfl) rfl ?_
  refine z_getF 11 8 (x := 12) fX11_35 rfl dX11_takeBench_26 rfl rfl ?_
  refine z_getI 8 (x := (h 12 6)) fX11_389 rfl dX11_takeBench_29 (by simp [zup]) rfl ?_
  refine z_putI 11 gX11_376 dX11_takeBench_32 rfl ?_
  refine z_aload_n 0 dX11_takeBench_35 rfl rfl (Nat.le_of_ble_eq_true rfl) rfl ?_
  refine z_aload_n 0 dX11_takeBench_36 rfl rfl (Nat.le_of_ble_eq_true rfl) rfl ?_
  refine z_getI 11 (x := (h 12 6)) fX11_376 rfl dX11_takeBench_37 (by simp [zup]) rfl ?_
  refine z_putI 11 gX11_113 dX11_takeBench_40 rfl ?_
  refine z_iconst dX11_takeBench_43 rfl ?_
  refine z_istore_n 2 dX11_takeBench_44 rfl (Nat.le_of_ble_eq_true rfl) (L' := [some (vr 11 0), some (vr 9 (h 0 9)), some (vi 0), none]) rfl rfl ?_
  exact z_sub (L' := [some (vr 11 0), none, some (vi 0), none]) (And.intro rfl (And.intro rfl trivial)) k
theorem bX11_takeBench_45 {G : zG} {d : Nat} {K : zH → Prop} {l2 : Int} {h : zH} (k : zR l2 ∧ zR (h 0 12) ∧ ((h 0 12) ≤ l2 → K h) ∧ (¬ (h 0 12) ≤ l2 → zR l2 ∧ (4 ≤ l2 → K h) ∧ (¬ 4 ≤ l2 → ((0 : Int) ≤ l2 ∧ l2 < 10) ∧ ((0 : Int) ≤ l2 ∧ l2 < 4) ∧ ((0 : Int) ≤ l2 ∧ l2 < 10) ∧ ((0 : Int) ≤ l2 ∧ l2 < 4) ∧ tX11_takeBench_45 G d K (l2 + 1) (zup (zup h 3 l2 (h 81 l2)) 81 l2 (h 3 l2))))) : tX11_takeBench_45 G d K l2 h := by
  unfold tX11_takeBench_45
  refine z_iload_n 2 dX11_takeBench_45 rfl rfl rfl ?_
  refine z_aload_n 0 dX11_takeBench_46 rfl rfl (Nat.le_of_ble_eq_true rfl) rfl ?_
  refine z_getI 11 (x := (h 0 12)) fX11_376 rfl dX11_takeBench_47 rfl rfl ?_
  obtain ⟨r1, r2, ka, kb⟩ := k
  refine z_icmp_ge (tgt := 96) dX11_takeBench_50 rfl r1 r2 rfl ⟨fun q => ?_, fun q => ?_⟩
  · have k := ka q
    exact z_return rfl dX11_takeBench_96 ⟨rfl, k⟩
  · have k := kb q
    refine z_iload_n 2 dX11_takeBench_53 rfl rfl rfl ?_
    refine z_iconst dX11_takeBench_54 rfl ?_
    obtain ⟨r1, ka, kb⟩ := k
    refine z_icmp_ge (tgt := 96) dX11_takeBench_55 rfl r1 ⟨by decide, by decide⟩ rfl ⟨fun q => ?_, fun q => ?_⟩
    · have k := ka q
      exact z_return rfl dX11_takeBench_96 ⟨rfl, k⟩
    · have k := kb q
      refine z_aload_n 0 dX11_takeBench_58 rfl rfl (Nat.le_of_ble_eq_true rfl) rfl ?_
      refine z_getF 11 17 (x := 3) fX11_19 rfl dX11_takeBench_59 rfl rfl ?_
      refine z_iload_n 2 dX11_takeBench_62 rfl rfl rfl ?_
      obtain ⟨i9, k⟩ := k
      refine z_aald17 (x := (h 3 l2)) dX11_takeBench_63 (by rw [zl_3]; exact i9) rfl rfl ?_
      refine z_w (fun w1 => ?_)
      refine z_astore_n 3 dX11_takeBench_64 rfl (Nat.le_of_ble_eq_true rfl) (Nat.le_of_ble_eq_true rfl) (L' := [some (vr 11 0), none, some (vi l2), some (vr 4 (h 3 l2))]) rfl rfl ?_
      refine z_aload_n 0 dX11_takeBench_65 rfl rfl (Nat.le_of_ble_eq_true rfl) rfl ?_
      refine z_getF 11 17 (x := 3) fX11_19 rfl dX11_takeBench_66 rfl rfl ?_
      refine z_iload_n 2 dX11_takeBench_69 rfl rfl rfl ?_
      refine z_aload_n 0 dX11_takeBench_70 rfl rfl (Nat.le_of_ble_eq_true rfl) rfl ?_
      refine z_getF 11 8 (x := 12) fX11_35 rfl dX11_takeBench_71 rfl rfl ?_
      refine z_getF 8 17 (x := 81) fX11_392 rfl dX11_takeBench_74 rfl rfl ?_
      refine z_iload_n 2 dX11_takeBench_77 rfl rfl rfl ?_
      obtain ⟨i9, k⟩ := k
      refine z_aald17 (x := (h 81 l2)) dX11_takeBench_78 (by rw [zl_81]; exact i9) rfl rfl ?_
      refine z_w (fun w2 => ?_)
      obtain ⟨i9, k⟩ := k
      refine z_aast17 dX11_takeBench_79 (by rw [zl_3]; exact i9) rfl ?_
      refine z_aload_n 0 dX11_takeBench_80 rfl rfl (Nat.le_of_ble_eq_true rfl) rfl ?_
      refine z_getF 11 8 (x := 12) fX11_35 rfl dX11_takeBench_81 rfl rfl ?_
      refine z_getF 8 17 (x := 81) fX11_392 rfl dX11_takeBench_84 rfl rfl ?_
      refine z_iload_n 2 dX11_takeBench_87 rfl rfl rfl ?_
      refine z_aload_n 3 dX11_takeBench_88 rfl rfl (Nat.le_of_ble_eq_true rfl) rfl ?_
      obtain ⟨i9, k⟩ := k
      refine z_aast17 dX11_takeBench_89 (by rw [zl_81]; exact i9) rfl ?_
      refine z_iinc dX11_takeBench_90 rfl (Nat.le_of_ble_eq_true rfl) (L' := [some (vr 11 0), none, some (vi (l2 + 1)), some (vr 4 (h 3 l2))]) rfl rfl ?_
      refine z_goto (tgt := 45) dX11_takeBench_93 rfl ?_
      exact z_sub (L' := [some (vr 11 0), none, some (vi (l2 + 1)), none]) (And.intro rfl (And.intro rfl trivial)) k
theorem eX11_takeBench {G : zG} {d : Nat} {K : zH → Prop} {h : zH} (k : tX11_takeBench_0 G d K h) : zCv G d mX11_takeBench [vr 11 0] h K := z_entry (by decide +kernel) (Nat.le_of_ble_eq_true rfl) rfl k
def tX11_mix_0 (G : zG) (d : Nat) (K : Int → zH → Prop) (l1 : Int) (l2 : Int) (l3 : Int) (h : zH) : Prop := zTi G (d + 1) mX11_mix K 0 [some (vr 11 0), some (vi l1), some (vi l2), some (vi l3)] [] h
theorem bX11_mix_0 {G : zG} {d : Nat} {K : Int → zH → Prop} {l1 : Int} {l2 : Int} {l3 : Int} {h : zH} (k : zCb G d mX11_isSet [vr 11 0, vi l1] h (fun x1 h2 => (x1 = false → K 1 h2) ∧ (x1 = true → zCb G d mX11_isSet [vr 11 0, vi l2] h2 (fun x3 h4 => (x3 = true → zCb G d mX11_isIn [vi l3, vi 16] h4 (fun x5 h6 => (x5 = true → ((0 : Int) ≤ l1 ∧ l1 < 12) ∧ ((0 : Int) ≤ l2 ∧ l2 < 12) ∧ zCv G d mX3_combine [vr 3 247, vr 3 (h6 ((h6 0 9) + 1) l1), vr 3 (h6 ((h6 0 9) + 1) l2), vi l3] h6 (fun h12 => K 0 h12)) ∧ (x5 = false → K 2 h6))) ∧ (x3 = false → K 1 h4))))) : tX11_mix_0 G d K l1 l2 l3 h := by
  unfold tX11_mix_0
  refine z_aload_n 0 dX11_mix_0 rfl rfl (Nat.le_of_ble_eq_true rfl) rfl ?_
  refine z_iload_n 1 dX11_mix_1 rfl rfl rfl ?_
  refine z_callVb vX11_isSet kX11_122 dX11_mix_2 rfl (zRo_d d) (as := [vi l1]) (rest := []) (Nat.le_of_ble_eq_true rfl) rfl rfl (zCb_mono (fun x1 h2 k => ?_) k)
  obtain ⟨ka, kb⟩ := k
  refine z_ifb_eq (tgt := 16) dX11_mix_5 rfl rfl ⟨fun q => ?_, fun q => ?_⟩
  · have k := ka q
    refine z_iconst dX11_mix_16 rfl ?_
    exact z_ireturn rfl dX11_mix_17 ⟨_, rfl, k⟩
  · have k := kb q
    refine z_aload_n 0 dX11_mix_8 rfl rfl (Nat.le_of_ble_eq_true rfl) rfl ?_
    refine z_iload_n 2 dX11_mix_9 rfl rfl rfl ?_
    refine z_callVb vX11_isSet kX11_122 dX11_mix_10 rfl (zRo_d d) (as := [vi l2]) (rest := []) (Nat.le_of_ble_eq_true rfl) rfl rfl (zCb_mono (fun x3 h4 k => ?_) k)
    obtain ⟨ka, kb⟩ := k
    refine z_ifb_ne (tgt := 18) dX11_mix_13 rfl rfl ⟨fun q => ?_, fun q => ?_⟩
    · have k := ka q
      refine z_iload_n 3 dX11_mix_18 rfl rfl rfl ?_
      refine z_bipush dX11_mix_19 rfl rfl ?_
      refine z_callSb sX11_isIn kX11_133 dX11_mix_21 rfl (zRo_d d) (as := [vi l3, vi 16]) (rest := []) (Nat.le_of_ble_eq_true rfl) rfl rfl (zCb_mono (fun x5 h6 k => ?_) k)
      obtain ⟨ka, kb⟩ := k
      refine z_ifb_ne (tgt := 29) dX11_mix_24 rfl rfl ⟨fun q => ?_, fun q => ?_⟩
      · have k := ka q
        refine z_aload_n 0 dX11_mix_29 rfl rfl (Nat.le_of_ble_eq_true rfl) rfl ?_
        refine z_getF 11 3 (x := 247) fX11_65 rfl dX11_mix_30 rfl rfl ?_
        refine z_aload_n 0 dX11_mix_33 rfl rfl (Nat.le_of_ble_eq_true rfl) rfl ?_
        refine z_getR 11 9 (x := (h6 0 9)) fX11_72 rfl dX11_mix_34 rfl rfl ?_
        refine z_w (fun w7 => ?_)
        refine z_getF 9 16 (x := ((h6 0 9) + 1)) fX11_126 rfl dX11_mix_37 (by omega) rfl ?_
        refine z_iload_n 1 dX11_mix_40 rfl rfl rfl ?_
        obtain ⟨i9, k⟩ := k
        refine z_aald16 (x := (h6 ((h6 0 9) + 1) l1)) dX11_mix_41 (by rw [zl9_1 w7]; exact i9) rfl rfl ?_
        refine z_w (fun w8 => ?_)
        refine z_aload_n 0 dX11_mix_42 rfl rfl (Nat.le_of_ble_eq_true rfl) rfl ?_
        refine z_getR 11 9 (x := (h6 0 9)) fX11_72 rfl dX11_mix_43 rfl rfl ?_
        refine z_w (fun w9 => ?_)
        refine z_getF 9 16 (x := ((h6 0 9) + 1)) fX11_126 rfl dX11_mix_46 (by omega) rfl ?_
        refine z_iload_n 2 dX11_mix_49 rfl rfl rfl ?_
        obtain ⟨i9, k⟩ := k
        refine z_aald16 (x := (h6 ((h6 0 9) + 1) l2)) dX11_mix_50 (by rw [zl9_1 w9]; exact i9) rfl rfl ?_
        refine z_w (fun w10 => ?_)
        refine z_iload_n 3 dX11_mix_51 rfl rfl rfl ?_
        refine z_callVv vX3_combine kX11_393 dX11_mix_52 rfl (zRo_d d) (as := [vr 3 (h6 ((h6 0 9) + 1) l1), vr 3 (h6 ((h6 0 9) + 1) l2), vi l3]) (rest := []) (Nat.le_of_ble_eq_true rfl) rfl rfl (zCv_mono (fun h12 k => ?_) k)
        refine z_iconst dX11_mix_55 rfl ?_
        exact z_ireturn rfl dX11_mix_56 ⟨_, rfl, k⟩
      · have k := kb q
        refine z_iconst dX11_mix_27 rfl ?_
        exact z_ireturn rfl dX11_mix_28 ⟨_, rfl, k⟩
    · have k := kb q
      refine z_iconst dX11_mix_16 rfl ?_
      exact z_ireturn rfl dX11_mix_17 ⟨_, rfl, k⟩
theorem eX11_mix {G : zG} {d : Nat} {K : Int → zH → Prop} {l1 : Int} {l2 : Int} {l3 : Int} {h : zH} (k : tX11_mix_0 G d K l1 l2 l3 h) : zCi G (d + 1) mX11_mix [vr 11 0, vi l1, vi l2, vi l3] h K := z_entry (by decide +kernel) (Nat.le_of_ble_eq_true rfl) rfl k
def tX11_whyNoPair_0 (G : zG) (d : Nat) (K : Int → zH → Prop) (l1 : Int) (l2 : Int) (l3 : Int) (h : zH) : Prop := zTi G (d + 1) mX11_whyNoPair K 0 [some (vr 11 0), some (vi l1), some (vi l2), some (vi l3)] [] h
theorem bX11_whyNoPair_0 {G : zG} {d : Nat} {K : Int → zH → Prop} {l1 : Int} {l2 : Int} {l3 : Int} {h : zH} (k : zCb G d mX11_isMachine [vr 11 0, vi l1] h (fun x1 h2 => (x1 = false → K 1 h2) ∧ (x1 = true → zCb G d mX11_isMachine [vr 11 0, vi l2] h2 (fun x3 h4 => (x3 = true → zCb G d mX11_isIn [vi l3, vi 16] h4 (fun x5 h6 => (x5 = false → K 2 h6) ∧ (x5 = true → K 0 h6))) ∧ (x3 = false → K 1 h4))))) : tX11_whyNoPair_0 G d K l1 l2 l3 h := by
  unfold tX11_whyNoPair_0
  refine z_aload_n 0 dX11_whyNoPair_0 rfl rfl (Nat.le_of_ble_eq_true rfl) rfl ?_
  refine z_iload_n 1 dX11_whyNoPair_1 rfl rfl rfl ?_
  refine z_callVb vX11_isMachine kX11_152 dX11_whyNoPair_2 rfl (zRo_d d) (as := [vi l1]) (rest := []) (Nat.le_of_ble_eq_true rfl) rfl rfl (zCb_mono (fun x1 h2 k => ?_) k)
  obtain ⟨ka, kb⟩ := k
  refine z_ifb_eq (tgt := 16) dX11_whyNoPair_5 rfl rfl ⟨fun q => ?_, fun q => ?_⟩
  · have k := ka q
    refine z_iconst dX11_whyNoPair_16 rfl ?_
    exact z_ireturn rfl dX11_whyNoPair_17 ⟨_, rfl, k⟩
  · have k := kb q
    refine z_aload_n 0 dX11_whyNoPair_8 rfl rfl (Nat.le_of_ble_eq_true rfl) rfl ?_
    refine z_iload_n 2 dX11_whyNoPair_9 rfl rfl rfl ?_
    refine z_callVb vX11_isMachine kX11_152 dX11_whyNoPair_10 rfl (zRo_d d) (as := [vi l2]) (rest := []) (Nat.le_of_ble_eq_true rfl) rfl rfl (zCb_mono (fun x3 h4 k => ?_) k)
    obtain ⟨ka, kb⟩ := k
    refine z_ifb_ne (tgt := 18) dX11_whyNoPair_13 rfl rfl ⟨fun q => ?_, fun q => ?_⟩
    · have k := ka q
      refine z_iload_n 3 dX11_whyNoPair_18 rfl rfl rfl ?_
      refine z_bipush dX11_whyNoPair_19 rfl rfl ?_
      refine z_callSb sX11_isIn kX11_133 dX11_whyNoPair_21 rfl (zRo_d d) (as := [vi l3, vi 16]) (rest := []) (Nat.le_of_ble_eq_true rfl) rfl rfl (zCb_mono (fun x5 h6 k => ?_) k)
      obtain ⟨ka, kb⟩ := k
      refine z_ifb_eq (tgt := 31) dX11_whyNoPair_24 rfl rfl ⟨fun q => ?_, fun q => ?_⟩
      · have k := ka q
        refine z_iconst dX11_whyNoPair_31 rfl ?_
        exact z_ireturn rfl dX11_whyNoPair_32 ⟨_, rfl, k⟩
      · have k := kb q
        refine z_iconst dX11_whyNoPair_27 rfl ?_
        refine z_goto (tgt := 32) dX11_whyNoPair_28 rfl ?_
        exact z_ireturn rfl dX11_whyNoPair_32 ⟨_, rfl, k⟩
    · have k := kb q
      refine z_iconst dX11_whyNoPair_16 rfl ?_
      exact z_ireturn rfl dX11_whyNoPair_17 ⟨_, rfl, k⟩
theorem eX11_whyNoPair {G : zG} {d : Nat} {K : Int → zH → Prop} {l1 : Int} {l2 : Int} {l3 : Int} {h : zH} (k : tX11_whyNoPair_0 G d K l1 l2 l3 h) : zCi G (d + 1) mX11_whyNoPair [vr 11 0, vi l1, vi l2, vi l3] h K := z_entry (by decide +kernel) (Nat.le_of_ble_eq_true rfl) rfl k
def tX11_sheafOfWord_0 (G : zG) (d : Nat) (K : Int → zH → Prop) (l1 : Int) (h : zH) : Prop := zTi G (d + 1) mX11_sheafOfWord K 0 [some (vr 11 0), some (vr 4 l1), none, none] [] h
def tX11_sheafOfWord_4 (G : zG) (d : Nat) (K : Int → zH → Prop) (l1 : Int) (l2 : Int) (l3 : Int) (h : zH) : Prop := zTi G (d + 1) mX11_sheafOfWord K 4 [some (vr 11 0), some (vr 4 l1), some (vi l2), some (vi l3)] [] h
theorem bX11_sheafOfWord_0 {G : zG} {d : Nat} {K : Int → zH → Prop} {l1 : Int} {h : zH} (k : tX11_sheafOfWord_4 G d K l1 0 0 h) : tX11_sheafOfWord_0 G d K l1 h := by
  unfold tX11_sheafOfWord_0
  refine z_iconst dX11_sheafOfWord_0 rfl ?_
  refine z_istore_n 2 dX11_sheafOfWord_1 rfl (Nat.le_of_ble_eq_true rfl) (L' := [some (vr 11 0), some (vr 4 l1), some (vi 0), none]) rfl rfl ?_
  refine z_iconst dX11_sheafOfWord_2 rfl ?_
  refine z_istore_n 3 dX11_sheafOfWord_3 rfl (Nat.le_of_ble_eq_true rfl) (L' := [some (vr 11 0), some (vr 4 l1), some (vi 0), some (vi 0)]) rfl rfl ?_
  exact z_sub (L' := [some (vr 11 0), some (vr 4 l1), some (vi 0), some (vi 0)]) (And.intro rfl (And.intro rfl (And.intro rfl (And.intro rfl trivial)))) k
theorem bX11_sheafOfWord_4 {G : zG} {d : Nat} {K : Int → zH → Prop} {l1 : Int} {l2 : Int} {l3 : Int} {h : zH} (k : zR l3 ∧ zR (h 0 11) ∧ ((h 0 11) ≤ l3 → K l2 h) ∧ (¬ (h 0 11) ≤ l3 → zR l3 ∧ (16 ≤ l3 → K l2 h) ∧ (¬ 16 ≤ l3 → ((0 : Int) ≤ l3 ∧ l3 < 16) ∧ zCi G d mX4_blockOf [vr 4 l1, vi (h 2 l3)] h (fun x1 h2 => zCi G d mX7_sheafStep [vr 7 (l1 + 7), vi l2, vi x1] h2 (fun x3 h4 => tX11_sheafOfWord_4 G d K l1 x3 (l3 + 1) h4))))) : tX11_sheafOfWord_4 G d K l1 l2 l3 h := by
  unfold tX11_sheafOfWord_4
  refine z_iload_n 3 dX11_sheafOfWord_4 rfl rfl rfl ?_
  refine z_aload_n 0 dX11_sheafOfWord_5 rfl rfl (Nat.le_of_ble_eq_true rfl) rfl ?_
  refine z_getI 11 (x := (h 0 11)) fX11_271 rfl dX11_sheafOfWord_6 rfl rfl ?_
  obtain ⟨r1, r2, ka, kb⟩ := k
  refine z_icmp_ge (tgt := 43) dX11_sheafOfWord_9 rfl r1 r2 rfl ⟨fun q => ?_, fun q => ?_⟩
  · have k := ka q
    refine z_iload_n 2 dX11_sheafOfWord_43 rfl rfl rfl ?_
    exact z_ireturn rfl dX11_sheafOfWord_44 ⟨_, rfl, k⟩
  · have k := kb q
    refine z_iload_n 3 dX11_sheafOfWord_12 rfl rfl rfl ?_
    refine z_bipush dX11_sheafOfWord_13 rfl rfl ?_
    obtain ⟨r1, ka, kb⟩ := k
    refine z_icmp_ge (tgt := 43) dX11_sheafOfWord_15 rfl r1 ⟨by decide, by decide⟩ rfl ⟨fun q => ?_, fun q => ?_⟩
    · have k := ka q
      refine z_iload_n 2 dX11_sheafOfWord_43 rfl rfl rfl ?_
      exact z_ireturn rfl dX11_sheafOfWord_44 ⟨_, rfl, k⟩
    · have k := kb q
      refine z_aload_n 1 dX11_sheafOfWord_18 rfl rfl (Nat.le_of_ble_eq_true rfl) rfl ?_
      refine z_getF 4 7 (x := (l1 + 7)) fX11_200 rfl dX11_sheafOfWord_19 (by omega) rfl ?_
      refine z_iload_n 2 dX11_sheafOfWord_22 rfl rfl rfl ?_
      refine z_aload_n 1 dX11_sheafOfWord_23 rfl rfl (Nat.le_of_ble_eq_true rfl) rfl ?_
      refine z_aload_n 0 dX11_sheafOfWord_24 rfl rfl (Nat.le_of_ble_eq_true rfl) rfl ?_
      refine z_getF 11 13 (x := 2) fX11_13 rfl dX11_sheafOfWord_25 rfl rfl ?_
      refine z_iload_n 3 dX11_sheafOfWord_28 rfl rfl rfl ?_
      obtain ⟨i9, k⟩ := k
      refine z_iald (x := (h 2 l3)) dX11_sheafOfWord_29 (by rw [zl_2]; exact i9) rfl rfl ?_
      refine z_callVi vX4_blockOf kX11_241 dX11_sheafOfWord_30 rfl (zRo_d d) (as := [vi (h 2 l3)]) (rest := [vi l2, vr 7 (l1 + 7)]) (Nat.le_of_ble_eq_true rfl) rfl rfl (zCi_mono (fun x1 h2 k => ?_) k)
      refine z_callVi vX7_sheafStep kX11_373 dX11_sheafOfWord_33 rfl (zRo_d d) (as := [vi l2, vi x1]) (rest := []) (Nat.le_of_ble_eq_true rfl) rfl rfl (zCi_mono (fun x3 h4 k => ?_) k)
      refine z_istore_n 2 dX11_sheafOfWord_36 rfl (Nat.le_of_ble_eq_true rfl) (L' := [some (vr 11 0), some (vr 4 l1), some (vi x3), some (vi l3)]) rfl rfl ?_
      refine z_iinc dX11_sheafOfWord_37 rfl (Nat.le_of_ble_eq_true rfl) (L' := [some (vr 11 0), some (vr 4 l1), some (vi x3), some (vi (l3 + 1))]) rfl rfl ?_
      refine z_goto (tgt := 4) dX11_sheafOfWord_40 rfl ?_
      exact z_sub (L' := [some (vr 11 0), some (vr 4 l1), some (vi x3), some (vi (l3 + 1))]) (And.intro rfl (And.intro rfl (And.intro rfl (And.intro rfl trivial)))) k
theorem eX11_sheafOfWord {G : zG} {d : Nat} {K : Int → zH → Prop} {l1 : Int} {h : zH} (k : tX11_sheafOfWord_0 G d K l1 h) : zCi G (d + 1) mX11_sheafOfWord [vr 11 0, vr 4 l1] h K := z_entry (by decide +kernel) (Nat.le_of_ble_eq_true rfl) rfl k
def tX11_keepDraft_0 (G : zG) (d : Nat) (K : Int → zH → Prop) (h : zH) : Prop := zTi G (d + 1) mX11_keepDraft K 0 [some (vr 11 0)] [] h
theorem bX11_keepDraft_0 {G : zG} {d : Nat} {K : Int → zH → Prop} {h : zH} (k : zR (h 0 13) ∧ (10 ≤ (h 0 13) → zCi G d mX11_refused [vr 11 0, vi 3] h (fun x1 h2 => K x1 h2)) ∧ (¬ 10 ≤ (h 0 13) → ((0 : Int) ≤ (h 0 13) ∧ (h 0 13) < 10) ∧ zCb G d mX4_settle [vr 4 (h 3 (h 0 13)), vr 2 4] h (fun x4 h5 => (x4 = true → zCi G d mX11_granted [vr 11 0, vi (((h5 0 13) + 1) - 1)] (zup h5 0 13 ((h5 0 13) + 1)) (fun x6 h7 => K x6 h7)) ∧ (x4 = false → zCi G d mX11_refused [vr 11 0, vi 3] h5 (fun x8 h9 => K x8 h9))))) : tX11_keepDraft_0 G d K h := by
  unfold tX11_keepDraft_0
  refine z_aload_n 0 dX11_keepDraft_0 rfl rfl (Nat.le_of_ble_eq_true rfl) rfl ?_
  refine z_getI 11 (x := (h 0 13)) fX11_113 rfl dX11_keepDraft_1 rfl rfl ?_
  refine z_bipush dX11_keepDraft_4 rfl rfl ?_
  obtain ⟨r1, ka, kb⟩ := k
  refine z_icmp_ge (tgt := 28) dX11_keepDraft_6 rfl r1 ⟨by decide, by decide⟩ rfl ⟨fun q => ?_, fun q => ?_⟩
  · have k := ka q
    refine z_aload_n 0 dX11_keepDraft_28 rfl rfl (Nat.le_of_ble_eq_true rfl) rfl ?_
    refine z_iconst dX11_keepDraft_29 rfl ?_
    refine z_callVi vX11_refused kX11_84 dX11_keepDraft_30 rfl (zRo_d d) (as := [vi 3]) (rest := []) (Nat.le_of_ble_eq_true rfl) rfl rfl (zCi_mono (fun x1 h2 k => ?_) k)
    exact z_ireturn rfl dX11_keepDraft_33 ⟨_, rfl, k⟩
  · have k := kb q
    refine z_aload_n 0 dX11_keepDraft_9 rfl rfl (Nat.le_of_ble_eq_true rfl) rfl ?_
    refine z_getF 11 17 (x := 3) fX11_19 rfl dX11_keepDraft_10 rfl rfl ?_
    refine z_aload_n 0 dX11_keepDraft_13 rfl rfl (Nat.le_of_ble_eq_true rfl) rfl ?_
    refine z_getI 11 (x := (h 0 13)) fX11_113 rfl dX11_keepDraft_14 rfl rfl ?_
    obtain ⟨i9, k⟩ := k
    refine z_aald17 (x := (h 3 (h 0 13))) dX11_keepDraft_17 (by rw [zl_3]; exact i9) rfl rfl ?_
    refine z_w (fun w3 => ?_)
    refine z_aload_n 0 dX11_keepDraft_18 rfl rfl (Nat.le_of_ble_eq_true rfl) rfl ?_
    refine z_getF 11 2 (x := 4) fX11_26 rfl dX11_keepDraft_19 rfl rfl ?_
    refine z_callVb vX4_settle kX11_397 dX11_keepDraft_22 rfl (zRo_d d) (as := [vr 2 4]) (rest := []) (Nat.le_of_ble_eq_true rfl) rfl rfl (zCb_mono (fun x4 h5 k => ?_) k)
    obtain ⟨ka, kb⟩ := k
    refine z_ifb_ne (tgt := 34) dX11_keepDraft_25 rfl rfl ⟨fun q => ?_, fun q => ?_⟩
    · have k := ka q
      refine z_aload_n 0 dX11_keepDraft_34 rfl rfl (Nat.le_of_ble_eq_true rfl) rfl ?_
      refine z_dup dX11_keepDraft_35 (fun q => by cases q) rfl ?_
      refine z_getI 11 (x := (h5 0 13)) fX11_113 rfl dX11_keepDraft_36 rfl rfl ?_
      refine z_iconst dX11_keepDraft_39 rfl ?_
      refine z_iadd dX11_keepDraft_40 rfl ?_
      refine z_putI 11 gX11_113 dX11_keepDraft_41 rfl ?_
      refine z_aload_n 0 dX11_keepDraft_44 rfl rfl (Nat.le_of_ble_eq_true rfl) rfl ?_
      refine z_aload_n 0 dX11_keepDraft_45 rfl rfl (Nat.le_of_ble_eq_true rfl) rfl ?_
      refine z_getI 11 (x := ((h5 0 13) + 1)) fX11_113 rfl dX11_keepDraft_46 (by simp [zup]) rfl ?_
      refine z_iconst dX11_keepDraft_49 rfl ?_
      refine z_isub dX11_keepDraft_50 rfl ?_
      refine z_callVi vX11_granted kX11_116 dX11_keepDraft_51 rfl (zRo_d d) (as := [vi (((h5 0 13) + 1) - 1)]) (rest := []) (Nat.le_of_ble_eq_true rfl) rfl rfl (zCi_mono (fun x6 h7 k => ?_) k)
      exact z_ireturn rfl dX11_keepDraft_54 ⟨_, rfl, k⟩
    · have k := kb q
      refine z_aload_n 0 dX11_keepDraft_28 rfl rfl (Nat.le_of_ble_eq_true rfl) rfl ?_
      refine z_iconst dX11_keepDraft_29 rfl ?_
      refine z_callVi vX11_refused kX11_84 dX11_keepDraft_30 rfl (zRo_d d) (as := [vi 3]) (rest := []) (Nat.le_of_ble_eq_true rfl) rfl rfl (zCi_mono (fun x8 h9 k => ?_) k)
      exact z_ireturn rfl dX11_keepDraft_33 ⟨_, rfl, k⟩
theorem eX11_keepDraft {G : zG} {d : Nat} {K : Int → zH → Prop} {h : zH} (k : tX11_keepDraft_0 G d K h) : zCi G (d + 1) mX11_keepDraft [vr 11 0] h K := z_entry (by decide +kernel) (Nat.le_of_ble_eq_true rfl) rfl k
def tX12_thrown_0 (G : zG) (d : Nat) (K : Int → zH → Prop) (h : zH) : Prop := zTi G d mX12_thrown K 0 [some (vr 12 466)] [] h
theorem bX12_thrown_0 {G : zG} {d : Nat} {K : Int → zH → Prop} {h : zH} (k : K (h 466 0) h) : tX12_thrown_0 G d K h := by
  unfold tX12_thrown_0
  refine z_aload_n 0 dX12_thrown_0 rfl rfl (Nat.le_of_ble_eq_true rfl) rfl ?_
  refine z_getI 12 (x := (h 466 0)) fX12_190 rfl dX12_thrown_1 rfl rfl ?_
  exact z_ireturn rfl dX12_thrown_4 ⟨_, rfl, k⟩
theorem eX12_thrown {G : zG} {d : Nat} {K : Int → zH → Prop} {h : zH} (k : tX12_thrown_0 G d K h) : zCi G d mX12_thrown [vr 12 466] h K := z_entry (by decide +kernel) (Nat.le_of_ble_eq_true rfl) rfl k
def tX12_refused_0 (G : zG) (d : Nat) (K : Int → zH → Prop) (l1 : Int) (h : zH) : Prop := zTi G d mX12_refused K 0 [some (vr 12 466), some (vi l1)] [] h
theorem bX12_refused_0 {G : zG} {d : Nat} {K : Int → zH → Prop} {l1 : Int} {h : zH} (k : K (-1) (zup (zup h 466 1 l1) 466 2 (-1))) : tX12_refused_0 G d K l1 h := by
  unfold tX12_refused_0
  refine z_aload_n 0 dX12_refused_0 rfl rfl (Nat.le_of_ble_eq_true rfl) rfl ?_
  refine z_iload_n 1 dX12_refused_1 rfl rfl rfl ?_
  refine z_putI 12 gX12_193 dX12_refused_2 rfl ?_
  refine z_aload_n 0 dX12_refused_5 rfl rfl (Nat.le_of_ble_eq_true rfl) rfl ?_
  refine z_iconst dX12_refused_6 rfl ?_
  refine z_putI 12 gX12_9 dX12_refused_7 rfl ?_
  refine z_iconst dX12_refused_10 rfl ?_
  exact z_ireturn rfl dX12_refused_11 ⟨_, rfl, k⟩
theorem eX12_refused {G : zG} {d : Nat} {K : Int → zH → Prop} {l1 : Int} {h : zH} (k : tX12_refused_0 G d K l1 h) : zCi G d mX12_refused [vr 12 466, vi l1] h K := z_entry (by decide +kernel) (Nat.le_of_ble_eq_true rfl) rfl k
def tX12_good_0 (G : zG) (d : Nat) (K : Int → zH → Prop) (l1 : Int) (h : zH) : Prop := zTi G d mX12_good K 0 [some (vr 12 466), some (vi l1)] [] h
theorem bX12_good_0 {G : zG} {d : Nat} {K : Int → zH → Prop} {l1 : Int} {h : zH} (k : K l1 (zup (zup h 466 1 0) 466 2 (-1))) : tX12_good_0 G d K l1 h := by
  unfold tX12_good_0
  refine z_aload_n 0 dX12_good_0 rfl rfl (Nat.le_of_ble_eq_true rfl) rfl ?_
  refine z_iconst dX12_good_1 rfl ?_
  refine z_putI 12 gX12_193 dX12_good_2 rfl ?_
  refine z_aload_n 0 dX12_good_5 rfl rfl (Nat.le_of_ble_eq_true rfl) rfl ?_
  refine z_iconst dX12_good_6 rfl ?_
  refine z_putI 12 gX12_9 dX12_good_7 rfl ?_
  refine z_iload_n 1 dX12_good_10 rfl rfl rfl ?_
  exact z_ireturn rfl dX12_good_11 ⟨_, rfl, k⟩
theorem eX12_good {G : zG} {d : Nat} {K : Int → zH → Prop} {l1 : Int} {h : zH} (k : tX12_good_0 G d K l1 h) : zCi G d mX12_good [vr 12 466, vi l1] h K := z_entry (by decide +kernel) (Nat.le_of_ble_eq_true rfl) rfl k
def tX12_goodLong_0 (G : zG) (d : Nat) (K : Int → zH → Prop) (l1 : Int) (h : zH) : Prop := zTl G (d + 1) mX12_goodLong K 0 [some (vr 12 466), some (vl l1), none] [] h
theorem bX12_goodLong_0 {G : zG} {d : Nat} {K : Int → zH → Prop} {l1 : Int} {h : zH} (k : zCi G d mX12_good [vr 12 466, vi 0] h (fun x1 h2 => K l1 h2)) : tX12_goodLong_0 G d K l1 h := by
  unfold tX12_goodLong_0
  refine z_aload_n 0 dX12_goodLong_0 rfl rfl (Nat.le_of_ble_eq_true rfl) rfl ?_
  refine z_iconst dX12_goodLong_1 rfl ?_
  refine z_callVi vX12_good kX12_196 dX12_goodLong_2 rfl (zRo_d d) (as := [vi 0]) (rest := []) (Nat.le_of_ble_eq_true rfl) rfl rfl (zCi_mono (fun x1 h2 k => ?_) k)
  refine z_pop dX12_goodLong_5 (fun q => by cases q) rfl ?_
  refine z_lload_n 1 dX12_goodLong_6 rfl rfl rfl ?_
  exact z_lreturn rfl dX12_goodLong_7 ⟨_, rfl, k⟩
theorem eX12_goodLong {G : zG} {d : Nat} {K : Int → zH → Prop} {l1 : Int} {h : zH} (k : tX12_goodLong_0 G d K l1 h) : zCl G (d + 1) mX12_goodLong [vr 12 466, vl l1] h K := z_entry (by decide +kernel) (Nat.le_of_ble_eq_true rfl) rfl k
def tX12_in_0 (G : zG) (d : Nat) (K : Bool → zH → Prop) (l0 : Int) (l1 : Int) (l2 : Int) (h : zH) : Prop := zTb G d mX12_in K 0 [some (vi l0), some (vi l1), some (vi l2)] [] h
theorem bX12_in_0 {G : zG} {d : Nat} {K : Bool → zH → Prop} {l0 : Int} {l1 : Int} {l2 : Int} {h : zH} (k : zR l0 ∧ zR l1 ∧ (l0 < l1 → K false h) ∧ (¬ l0 < l1 → zR l0 ∧ zR l2 ∧ (l2 < l0 → K false h) ∧ (¬ l2 < l0 → K true h))) : tX12_in_0 G d K l0 l1 l2 h := by
  unfold tX12_in_0
  refine z_iload_n 0 dX12_in_0 rfl rfl rfl ?_
  refine z_iload_n 1 dX12_in_1 rfl rfl rfl ?_
  obtain ⟨r1, r2, ka, kb⟩ := k
  refine z_icmp_lt (tgt := 14) dX12_in_2 rfl r1 r2 rfl ⟨fun q => ?_, fun q => ?_⟩
  · have k := ka q
    refine z_iconst dX12_in_14 rfl ?_
    exact z_zreturn rfl (Or.inl rfl) dX12_in_15 ⟨false, rfl, k⟩
  · have k := kb q
    refine z_iload_n 0 dX12_in_5 rfl rfl rfl ?_
    refine z_iload_n 2 dX12_in_6 rfl rfl rfl ?_
    obtain ⟨r1, r2, ka, kb⟩ := k
    refine z_icmp_gt (tgt := 14) dX12_in_7 rfl r1 r2 rfl ⟨fun q => ?_, fun q => ?_⟩
    · have k := ka q
      refine z_iconst dX12_in_14 rfl ?_
      exact z_zreturn rfl (Or.inl rfl) dX12_in_15 ⟨false, rfl, k⟩
    · have k := kb q
      refine z_iconst dX12_in_10 rfl ?_
      refine z_goto (tgt := 15) dX12_in_11 rfl ?_
      exact z_zreturn rfl (Or.inr rfl) dX12_in_15 ⟨true, rfl, k⟩
theorem eX12_in {G : zG} {d : Nat} {K : Bool → zH → Prop} {l0 : Int} {l1 : Int} {l2 : Int} {h : zH} (k : tX12_in_0 G d K l0 l1 l2 h) : zCb G d mX12_in [vi l0, vi l1, vi l2] h K := z_entry (by decide +kernel) (Nat.le_of_ble_eq_true rfl) rfl k
def tX12_isLetter_0 (G : zG) (d : Nat) (K : Bool → zH → Prop) (l0 : Int) (h : zH) : Prop := zTb G (d + 1) mX12_isLetter K 0 [some (vi l0)] [] h
theorem bX12_isLetter_0 {G : zG} {d : Nat} {K : Bool → zH → Prop} {l0 : Int} {h : zH} (k : zCb G d mX12_in [vi l0, vi 0, vi 65535] h (fun x1 h2 => K x1 h2)) : tX12_isLetter_0 G d K l0 h := by
  unfold tX12_isLetter_0
  refine z_iload_n 0 dX12_isLetter_0 rfl rfl rfl ?_
  refine z_iconst dX12_isLetter_1 rfl ?_
  refine z_ldc (x := 65535) cX12_200 rfl dX12_isLetter_2 rfl ?_
  refine z_callSb sX12_in kX12_201 dX12_isLetter_4 rfl (zRo_d d) (as := [vi l0, vi 0, vi 65535]) (rest := []) (Nat.le_of_ble_eq_true rfl) rfl rfl (zCb_mono (fun x1 h2 k => ?_) k)
  exact z_zreturn rfl (bi_01 _) dX12_isLetter_7 ⟨_, rfl, k⟩
theorem eX12_isLetter {G : zG} {d : Nat} {K : Bool → zH → Prop} {l0 : Int} {h : zH} (k : tX12_isLetter_0 G d K l0 h) : zCb G (d + 1) mX12_isLetter [vi l0] h K := z_entry (by decide +kernel) (Nat.le_of_ble_eq_true rfl) rfl k
def tX12_bit_0 (G : zG) (d : Nat) (K : Bool → zH → Prop) (l0 : Int) (l2 : Int) (h : zH) : Prop := zTb G d mX12_bit K 0 [some (vl l0), none, some (vi l2)] [] h
theorem bX12_bit_0 {G : zG} {d : Nat} {K : Bool → zH → Prop} {l0 : Int} {l2 : Int} {h : zH} (k : (¬ (zcmp (zland (zlshr l0 l2) 1) 1) = 0 → K false h) ∧ ((zcmp (zland (zlshr l0 l2) 1) 1) = 0 → K true h)) : tX12_bit_0 G d K l0 l2 h := by
  unfold tX12_bit_0
  refine z_lload_n 0 dX12_bit_0 rfl rfl rfl ?_
  refine z_iload_n 2 dX12_bit_1 rfl rfl rfl ?_
  refine z_lshr dX12_bit_2 rfl ?_
  refine z_lconst (x := 1) dX12_bit_3 rfl rfl ?_
  refine z_land dX12_bit_4 rfl ?_
  refine z_lconst (x := 1) dX12_bit_5 rfl rfl ?_
  refine z_lcmp dX12_bit_6 rfl ?_
  obtain ⟨ka, kb⟩ := k
  refine z_if_ne (tgt := 14) dX12_bit_7 rfl (zcmp_R _ _) rfl ⟨fun q => ?_, fun q => ?_⟩
  · have k := ka q
    refine z_iconst dX12_bit_14 rfl ?_
    exact z_zreturn rfl (Or.inl rfl) dX12_bit_15 ⟨false, rfl, k⟩
  · have k := kb q
    refine z_iconst dX12_bit_10 rfl ?_
    refine z_goto (tgt := 15) dX12_bit_11 rfl ?_
    exact z_zreturn rfl (Or.inr rfl) dX12_bit_15 ⟨true, rfl, k⟩
theorem eX12_bit {G : zG} {d : Nat} {K : Bool → zH → Prop} {l0 : Int} {l2 : Int} {h : zH} (k : tX12_bit_0 G d K l0 l2 h) : zCb G d mX12_bit [vl l0, vi l2] h K := z_entry (by decide +kernel) (Nat.le_of_ble_eq_true rfl) rfl k
def tX12_holds_0 (G : zG) (d : Nat) (K : Bool → zH → Prop) (l0 : Int) (l1 : Bool) (l2 : Bool) (h : zH) : Prop := zTb G d mX12_holds K 0 [some (vi l0), some (vi (bi l1)), some (vi (bi l2))] [] h
theorem bX12_holds_0 {G : zG} {d : Nat} {K : Bool → zH → Prop} {l0 : Int} {l1 : Bool} {l2 : Bool} {h : zH} (k : (l1 = false → (l2 = false → zR (ziand (zishr l0 (0 + 0)) 1) ∧ (¬ (ziand (zishr l0 (0 + 0)) 1) = 1 → K false h) ∧ ((ziand (zishr l0 (0 + 0)) 1) = 1 → K true h)) ∧ (l2 = true → zR (ziand (zishr l0 (0 + 2)) 1) ∧ (¬ (ziand (zishr l0 (0 + 2)) 1) = 1 → K false h) ∧ ((ziand (zishr l0 (0 + 2)) 1) = 1 → K true h))) ∧ (l1 = true → (l2 = false → zR (ziand (zishr l0 (1 + 0)) 1) ∧ (¬ (ziand (zishr l0 (1 + 0)) 1) = 1 → K false h) ∧ ((ziand (zishr l0 (1 + 0)) 1) = 1 → K true h)) ∧ (l2 = true → zR (ziand (zishr l0 (1 + 2)) 1) ∧ (¬ (ziand (zishr l0 (1 + 2)) 1) = 1 → K false h) ∧ ((ziand (zishr l0 (1 + 2)) 1) = 1 → K true h)))) : tX12_holds_0 G d K l0 l1 l2 h := by
  unfold tX12_holds_0
  refine z_iload_n 0 dX12_holds_0 rfl rfl rfl ?_
  refine z_iload_n 1 dX12_holds_1 rfl rfl rfl ?_
  obtain ⟨ka, kb⟩ := k
  refine z_ifb_eq (tgt := 9) dX12_holds_2 rfl rfl ⟨fun q => ?_, fun q => ?_⟩
  · have k := ka q
    refine z_iconst dX12_holds_9 rfl ?_
    refine z_iload_n 2 dX12_holds_10 rfl rfl rfl ?_
    obtain ⟨ka, kb⟩ := k
    refine z_ifb_eq (tgt := 18) dX12_holds_11 rfl rfl ⟨fun q => ?_, fun q => ?_⟩
    · have k := ka q
      refine z_iconst dX12_holds_18 rfl ?_
      refine z_iadd dX12_holds_19 rfl ?_
      refine z_ishr dX12_holds_20 rfl ?_
      refine z_iconst dX12_holds_21 rfl ?_
      refine z_iand dX12_holds_22 rfl ?_
      refine z_iconst dX12_holds_23 rfl ?_
      obtain ⟨r1, ka, kb⟩ := k
      refine z_icmp_ne (tgt := 31) dX12_holds_24 rfl r1 ⟨by decide, by decide⟩ rfl ⟨fun q => ?_, fun q => ?_⟩
      · have k := ka q
        refine z_iconst dX12_holds_31 rfl ?_
        exact z_zreturn rfl (Or.inl rfl) dX12_holds_32 ⟨false, rfl, k⟩
      · have k := kb q
        refine z_iconst dX12_holds_27 rfl ?_
        refine z_goto (tgt := 32) dX12_holds_28 rfl ?_
        exact z_zreturn rfl (Or.inr rfl) dX12_holds_32 ⟨true, rfl, k⟩
    · have k := kb q
      refine z_iconst dX12_holds_14 rfl ?_
      refine z_goto (tgt := 19) dX12_holds_15 rfl ?_
      refine z_iadd dX12_holds_19 rfl ?_
      refine z_ishr dX12_holds_20 rfl ?_
      refine z_iconst dX12_holds_21 rfl ?_
      refine z_iand dX12_holds_22 rfl ?_
      refine z_iconst dX12_holds_23 rfl ?_
      obtain ⟨r1, ka, kb⟩ := k
      refine z_icmp_ne (tgt := 31) dX12_holds_24 rfl r1 ⟨by decide, by decide⟩ rfl ⟨fun q => ?_, fun q => ?_⟩
      · have k := ka q
        refine z_iconst dX12_holds_31 rfl ?_
        exact z_zreturn rfl (Or.inl rfl) dX12_holds_32 ⟨false, rfl, k⟩
      · have k := kb q
        refine z_iconst dX12_holds_27 rfl ?_
        refine z_goto (tgt := 32) dX12_holds_28 rfl ?_
        exact z_zreturn rfl (Or.inr rfl) dX12_holds_32 ⟨true, rfl, k⟩
  · have k := kb q
    refine z_iconst dX12_holds_5 rfl ?_
    refine z_goto (tgt := 10) dX12_holds_6 rfl ?_
    refine z_iload_n 2 dX12_holds_10 rfl rfl rfl ?_
    obtain ⟨ka, kb⟩ := k
    refine z_ifb_eq (tgt := 18) dX12_holds_11 rfl rfl ⟨fun q => ?_, fun q => ?_⟩
    · have k := ka q
      refine z_iconst dX12_holds_18 rfl ?_
      refine z_iadd dX12_holds_19 rfl ?_
      refine z_ishr dX12_holds_20 rfl ?_
      refine z_iconst dX12_holds_21 rfl ?_
      refine z_iand dX12_holds_22 rfl ?_
      refine z_iconst dX12_holds_23 rfl ?_
      obtain ⟨r1, ka, kb⟩ := k
      refine z_icmp_ne (tgt := 31) dX12_holds_24 rfl r1 ⟨by decide, by decide⟩ rfl ⟨fun q => ?_, fun q => ?_⟩
      · have k := ka q
        refine z_iconst dX12_holds_31 rfl ?_
        exact z_zreturn rfl (Or.inl rfl) dX12_holds_32 ⟨false, rfl, k⟩
      · have k := kb q
        refine z_iconst dX12_holds_27 rfl ?_
        refine z_goto (tgt := 32) dX12_holds_28 rfl ?_
        exact z_zreturn rfl (Or.inr rfl) dX12_holds_32 ⟨true, rfl, k⟩
    · have k := kb q
      refine z_iconst dX12_holds_14 rfl ?_
      refine z_goto (tgt := 19) dX12_holds_15 rfl ?_
      refine z_iadd dX12_holds_19 rfl ?_
      refine z_ishr dX12_holds_20 rfl ?_
      refine z_iconst dX12_holds_21 rfl ?_
      refine z_iand dX12_holds_22 rfl ?_
      refine z_iconst dX12_holds_23 rfl ?_
      obtain ⟨r1, ka, kb⟩ := k
      refine z_icmp_ne (tgt := 31) dX12_holds_24 rfl r1 ⟨by decide, by decide⟩ rfl ⟨fun q => ?_, fun q => ?_⟩
      · have k := ka q
        refine z_iconst dX12_holds_31 rfl ?_
        exact z_zreturn rfl (Or.inl rfl) dX12_holds_32 ⟨false, rfl, k⟩
      · have k := kb q
        refine z_iconst dX12_holds_27 rfl ?_
        refine z_goto (tgt := 32) dX12_holds_28 rfl ?_
        exact z_zreturn rfl (Or.inr rfl) dX12_holds_32 ⟨true, rfl, k⟩
theorem eX12_holds {G : zG} {d : Nat} {K : Bool → zH → Prop} {l0 : Int} {l1 : Bool} {l2 : Bool} {h : zH} (k : tX12_holds_0 G d K l0 l1 l2 h) : zCb G d mX12_holds [vi l0, vi (bi l1), vi (bi l2)] h K := z_entry (by decide +kernel) (Nat.le_of_ble_eq_true rfl) rfl k
def tX12_byteAt_0 (G : zG) (d : Nat) (K : Int → zH → Prop) (l1 : Int) (h : zH) : Prop := zTi G d mX12_byteAt K 0 [some (vr 12 466), some (vi l1)] [] h
theorem bX12_byteAt_0 {G : zG} {d : Nat} {K : Int → zH → Prop} {l1 : Int} {h : zH} (k : zR l1 ∧ zR (h 466 5) ∧ ((h 466 5) ≤ l1 → K (-1) h) ∧ (¬ (h 466 5) ≤ l1 → ((0 : Int) ≤ l1 ∧ l1 < 900) ∧ K (ziand (h 467 l1) 255) h)) : tX12_byteAt_0 G d K l1 h := by
  unfold tX12_byteAt_0
  refine z_iload_n 1 dX12_byteAt_0 rfl rfl rfl ?_
  refine z_aload_n 0 dX12_byteAt_1 rfl rfl (Nat.le_of_ble_eq_true rfl) rfl ?_
  refine z_getI 12 (x := (h 466 5)) fX12_205 rfl dX12_byteAt_2 rfl rfl ?_
  obtain ⟨r1, r2, ka, kb⟩ := k
  refine z_icmp_ge (tgt := 21) dX12_byteAt_5 rfl r1 r2 rfl ⟨fun q => ?_, fun q => ?_⟩
  · have k := ka q
    refine z_iconst dX12_byteAt_21 rfl ?_
    exact z_ireturn rfl dX12_byteAt_22 ⟨_, rfl, k⟩
  · have k := kb q
    refine z_aload_n 0 dX12_byteAt_8 rfl rfl (Nat.le_of_ble_eq_true rfl) rfl ?_
    refine z_getF 12 15 (x := 467) fX12_13 rfl dX12_byteAt_9 rfl rfl ?_
    refine z_iload_n 1 dX12_byteAt_12 rfl rfl rfl ?_
    obtain ⟨i9, k⟩ := k
    refine z_bald (x := (h 467 l1)) dX12_byteAt_13 (by rw [zl_467]; exact i9) rfl rfl ?_
    refine z_sipush dX12_byteAt_14 rfl rfl ?_
    refine z_iand dX12_byteAt_17 rfl ?_
    refine z_goto (tgt := 22) dX12_byteAt_18 rfl ?_
    exact z_ireturn rfl dX12_byteAt_22 ⟨_, rfl, k⟩
theorem eX12_byteAt {G : zG} {d : Nat} {K : Int → zH → Prop} {l1 : Int} {h : zH} (k : tX12_byteAt_0 G d K l1 h) : zCi G d mX12_byteAt [vr 12 466, vi l1] h K := z_entry (by decide +kernel) (Nat.le_of_ble_eq_true rfl) rfl k
def tX12_isSmall_0 (G : zG) (d : Nat) (K : Bool → zH → Prop) (l0 : Int) (h : zH) : Prop := zTb G d mX12_isSmall K 0 [some (vi l0)] [] h
theorem bX12_isSmall_0 {G : zG} {d : Nat} {K : Bool → zH → Prop} {l0 : Int} {h : zH} (k : zR l0 ∧ (l0 < 97 → K false h) ∧ (¬ l0 < 97 → zR l0 ∧ (122 < l0 → K false h) ∧ (¬ 122 < l0 → K true h))) : tX12_isSmall_0 G d K l0 h := by
  unfold tX12_isSmall_0
  refine z_iload_n 0 dX12_isSmall_0 rfl rfl rfl ?_
  refine z_bipush dX12_isSmall_1 rfl rfl ?_
  obtain ⟨r1, ka, kb⟩ := k
  refine z_icmp_lt (tgt := 16) dX12_isSmall_3 rfl r1 ⟨by decide, by decide⟩ rfl ⟨fun q => ?_, fun q => ?_⟩
  · have k := ka q
    refine z_iconst dX12_isSmall_16 rfl ?_
    exact z_zreturn rfl (Or.inl rfl) dX12_isSmall_17 ⟨false, rfl, k⟩
  · have k := kb q
    refine z_iload_n 0 dX12_isSmall_6 rfl rfl rfl ?_
    refine z_bipush dX12_isSmall_7 rfl rfl ?_
    obtain ⟨r1, ka, kb⟩ := k
    refine z_icmp_gt (tgt := 16) dX12_isSmall_9 rfl r1 ⟨by decide, by decide⟩ rfl ⟨fun q => ?_, fun q => ?_⟩
    · have k := ka q
      refine z_iconst dX12_isSmall_16 rfl ?_
      exact z_zreturn rfl (Or.inl rfl) dX12_isSmall_17 ⟨false, rfl, k⟩
    · have k := kb q
      refine z_iconst dX12_isSmall_12 rfl ?_
      refine z_goto (tgt := 17) dX12_isSmall_13 rfl ?_
      exact z_zreturn rfl (Or.inr rfl) dX12_isSmall_17 ⟨true, rfl, k⟩
theorem eX12_isSmall {G : zG} {d : Nat} {K : Bool → zH → Prop} {l0 : Int} {h : zH} (k : tX12_isSmall_0 G d K l0 h) : zCb G d mX12_isSmall [vi l0] h K := z_entry (by decide +kernel) (Nat.le_of_ble_eq_true rfl) rfl k
def tX12_isDigit_0 (G : zG) (d : Nat) (K : Bool → zH → Prop) (l0 : Int) (h : zH) : Prop := zTb G d mX12_isDigit K 0 [some (vi l0)] [] h
theorem bX12_isDigit_0 {G : zG} {d : Nat} {K : Bool → zH → Prop} {l0 : Int} {h : zH} (k : zR l0 ∧ (l0 < 48 → K false h) ∧ (¬ l0 < 48 → zR l0 ∧ (57 < l0 → K false h) ∧ (¬ 57 < l0 → K true h))) : tX12_isDigit_0 G d K l0 h := by
  unfold tX12_isDigit_0
  refine z_iload_n 0 dX12_isDigit_0 rfl rfl rfl ?_
  refine z_bipush dX12_isDigit_1 rfl rfl ?_
  obtain ⟨r1, ka, kb⟩ := k
  refine z_icmp_lt (tgt := 16) dX12_isDigit_3 rfl r1 ⟨by decide, by decide⟩ rfl ⟨fun q => ?_, fun q => ?_⟩
  · have k := ka q
    refine z_iconst dX12_isDigit_16 rfl ?_
    exact z_zreturn rfl (Or.inl rfl) dX12_isDigit_17 ⟨false, rfl, k⟩
  · have k := kb q
    refine z_iload_n 0 dX12_isDigit_6 rfl rfl rfl ?_
    refine z_bipush dX12_isDigit_7 rfl rfl ?_
    obtain ⟨r1, ka, kb⟩ := k
    refine z_icmp_gt (tgt := 16) dX12_isDigit_9 rfl r1 ⟨by decide, by decide⟩ rfl ⟨fun q => ?_, fun q => ?_⟩
    · have k := ka q
      refine z_iconst dX12_isDigit_16 rfl ?_
      exact z_zreturn rfl (Or.inl rfl) dX12_isDigit_17 ⟨false, rfl, k⟩
    · have k := kb q
      refine z_iconst dX12_isDigit_12 rfl ?_
      refine z_goto (tgt := 17) dX12_isDigit_13 rfl ?_
      exact z_zreturn rfl (Or.inr rfl) dX12_isDigit_17 ⟨true, rfl, k⟩
theorem eX12_isDigit {G : zG} {d : Nat} {K : Bool → zH → Prop} {l0 : Int} {h : zH} (k : tX12_isDigit_0 G d K l0 h) : zCb G d mX12_isDigit [vi l0] h K := z_entry (by decide +kernel) (Nat.le_of_ble_eq_true rfl) rfl k
def tX12_next_0 (G : zG) (d : Nat) (K : zH → Prop) (h : zH) : Prop := zTv G (d + 1) mX12_next K 0 [some (vr 12 466), none] [] h
def tX12_next_8 (G : zG) (d : Nat) (K : zH → Prop) (h : zH) : Prop := zTv G (d + 1) mX12_next K 8 [some (vr 12 466), none] [] h
theorem bX12_next_0 {G : zG} {d : Nat} {K : zH → Prop} {h : zH} (k : zR (h 466 10) ∧ ((h 466 10) ≤ 0 → tX12_next_8 G d K h) ∧ (¬ (h 466 10) ≤ 0 → K h)) : tX12_next_0 G d K h := by
  unfold tX12_next_0
  refine z_aload_n 0 dX12_next_0 rfl rfl (Nat.le_of_ble_eq_true rfl) rfl ?_
  refine z_getI 12 (x := (h 466 10)) fX12_208 rfl dX12_next_1 rfl rfl ?_
  obtain ⟨r1, ka, kb⟩ := k
  refine z_if_le (tgt := 8) dX12_next_4 rfl r1 rfl ⟨fun q => ?_, fun q => ?_⟩
  · have k := ka q
    exact z_sub (L' := [some (vr 12 466), none]) (And.intro rfl trivial) k
  · have k := kb q
    exact z_return rfl dX12_next_7 ⟨rfl, k⟩
theorem bX12_next_8 {G : zG} {d : Nat} {K : zH → Prop} {h : zH} (k : zCi G d mX12_byteAt [vr 12 466, vi (h 466 6)] h (fun x1 h2 => zR x1 ∧ (¬ x1 = 32 → zCi G d mX12_byteAt [vr 12 466, vi (h2 466 6)] (zup (zup h2 466 8 (h2 466 6)) 466 7 0) (fun x3 h4 => zR x3 ∧ (¬ x3 = (-1) → zCb G d mX12_isSmall [vi x3] h4 (fun x5 h6 => (x5 = false → zCb G d mX12_isDigit [vi x3] h6 (fun x7 h8 => (x7 = false → zR x3 ∧ (¬ x3 = 46 → zCb G d mX12_isSign [vi x3] h8 (fun x9 h10 => (x9 = false → K h10) ∧ (x9 = true → zCv G d mX12_nextSign [vr 12 466, vi x3] h10 (fun h12 => K h12)))) ∧ (x3 = 46 → zCv G d mX12_nextDots [vr 12 466] h8 (fun h14 => K h14))) ∧ (x7 = true → zCv G d mX12_nextWhole [vr 12 466] h8 (fun h16 => K h16)))) ∧ (x5 = true → zCv G d mX12_nextName [vr 12 466] h6 (fun h18 => K h18)))) ∧ (x3 = (-1) → K (zup h4 466 7 1)))) ∧ (x1 = 32 → tX12_next_8 G d K (zup h2 466 6 ((h2 466 6) + 1))))) : tX12_next_8 G d K h := by
  unfold tX12_next_8
  refine z_aload_n 0 dX12_next_8 rfl rfl (Nat.le_of_ble_eq_true rfl) rfl ?_
  refine z_aload_n 0 dX12_next_9 rfl rfl (Nat.le_of_ble_eq_true rfl) rfl ?_
  refine z_getI 12 (x := (h 466 6)) fX12_211 rfl dX12_next_10 rfl rfl ?_
  refine z_callVi vX12_byteAt kX12_214 dX12_next_13 rfl (zRo_d d) (as := [vi (h 466 6)]) (rest := []) (Nat.le_of_ble_eq_true rfl) rfl rfl (zCi_mono (fun x1 h2 k => ?_) k)
  refine z_bipush dX12_next_16 rfl rfl ?_
  obtain ⟨r1, ka, kb⟩ := k
  refine z_icmp_ne (tgt := 34) dX12_next_18 rfl r1 ⟨by decide, by decide⟩ rfl ⟨fun q => ?_, fun q => ?_⟩
  · have k := ka q
    refine z_aload_n 0 dX12_next_34 rfl rfl (Nat.le_of_ble_eq_true rfl) rfl ?_
    refine z_aload_n 0 dX12_next_35 rfl rfl (Nat.le_of_ble_eq_true rfl) rfl ?_
    refine z_getI 12 (x := (h2 466 6)) fX12_211 rfl dX12_next_36 rfl rfl ?_
    refine z_putI 12 gX12_217 dX12_next_39 rfl ?_
    refine z_aload_n 0 dX12_next_42 rfl rfl (Nat.le_of_ble_eq_true rfl) rfl ?_
    refine z_iconst dX12_next_43 rfl ?_
    refine z_putI 12 gX12_220 dX12_next_44 rfl ?_
    refine z_aload_n 0 dX12_next_47 rfl rfl (Nat.le_of_ble_eq_true rfl) rfl ?_
    refine z_aload_n 0 dX12_next_48 rfl rfl (Nat.le_of_ble_eq_true rfl) rfl ?_
    refine z_getI 12 (x := (h2 466 6)) fX12_211 rfl dX12_next_49 (by simp [zup]) rfl ?_
    refine z_callVi vX12_byteAt kX12_214 dX12_next_52 rfl (zRo_d d) (as := [vi (h2 466 6)]) (rest := []) (Nat.le_of_ble_eq_true rfl) rfl rfl (zCi_mono (fun x3 h4 k => ?_) k)
    refine z_istore_n 1 dX12_next_55 rfl (Nat.le_of_ble_eq_true rfl) (L' := [some (vr 12 466), some (vi x3)]) rfl rfl ?_
    refine z_iload_n 1 dX12_next_56 rfl rfl rfl ?_
    refine z_iconst dX12_next_57 rfl ?_
    obtain ⟨r1, ka, kb⟩ := k
    refine z_icmp_ne (tgt := 69) dX12_next_58 rfl r1 ⟨by decide, by decide⟩ rfl ⟨fun q => ?_, fun q => ?_⟩
    · have k := ka q
      refine z_iload_n 1 dX12_next_69 rfl rfl rfl ?_
      refine z_callSb sX12_isSmall kX12_223 dX12_next_70 rfl (zRo_d d) (as := [vi x3]) (rest := []) (Nat.le_of_ble_eq_true rfl) rfl rfl (zCb_mono (fun x5 h6 k => ?_) k)
      obtain ⟨ka, kb⟩ := k
      refine z_ifb_eq (tgt := 83) dX12_next_73 rfl rfl ⟨fun q => ?_, fun q => ?_⟩
      · have k := ka q
        refine z_iload_n 1 dX12_next_83 rfl rfl rfl ?_
        refine z_callSb sX12_isDigit kX12_230 dX12_next_84 rfl (zRo_d d) (as := [vi x3]) (rest := []) (Nat.le_of_ble_eq_true rfl) rfl rfl (zCb_mono (fun x7 h8 k => ?_) k)
        obtain ⟨ka, kb⟩ := k
        refine z_ifb_eq (tgt := 97) dX12_next_87 rfl rfl ⟨fun q => ?_, fun q => ?_⟩
        · have k := ka q
          refine z_iload_n 1 dX12_next_97 rfl rfl rfl ?_
          refine z_bipush dX12_next_98 rfl rfl ?_
          obtain ⟨r1, ka, kb⟩ := k
          refine z_icmp_ne (tgt := 110) dX12_next_100 rfl r1 ⟨by decide, by decide⟩ rfl ⟨fun q => ?_, fun q => ?_⟩
          · have k := ka q
            refine z_iload_n 1 dX12_next_110 rfl rfl rfl ?_
            refine z_callSb sX12_isSign kX12_239 dX12_next_111 rfl (zRo_d d) (as := [vi x3]) (rest := []) (Nat.le_of_ble_eq_true rfl) rfl rfl (zCb_mono (fun x9 h10 k => ?_) k)
            obtain ⟨ka, kb⟩ := k
            refine z_ifb_eq (tgt := 122) dX12_next_114 rfl rfl ⟨fun q => ?_, fun q => ?_⟩
            · have k := ka q
              exact z_return rfl dX12_next_122 ⟨rfl, k⟩
            · have k := kb q
              refine z_aload_n 0 dX12_next_117 rfl rfl (Nat.le_of_ble_eq_true rfl) rfl ?_
              refine z_iload_n 1 dX12_next_118 rfl rfl rfl ?_
              refine z_callVv vX12_nextSign kX12_242 dX12_next_119 rfl (zRo_d d) (as := [vi x3]) (rest := []) (Nat.le_of_ble_eq_true rfl) rfl rfl (zCv_mono (fun h12 k => ?_) k)
              exact z_return rfl dX12_next_122 ⟨rfl, k⟩
          · have k := kb q
            refine z_aload_n 0 dX12_next_103 rfl rfl (Nat.le_of_ble_eq_true rfl) rfl ?_
            refine z_callVv vX12_nextDots kX12_236 dX12_next_104 rfl (zRo_d d) (as := []) (rest := []) (Nat.le_of_ble_eq_true rfl) rfl rfl (zCv_mono (fun h14 k => ?_) k)
            refine z_goto (tgt := 122) dX12_next_107 rfl ?_
            exact z_return rfl dX12_next_122 ⟨rfl, k⟩
        · have k := kb q
          refine z_aload_n 0 dX12_next_90 rfl rfl (Nat.le_of_ble_eq_true rfl) rfl ?_
          refine z_callVv vX12_nextWhole kX12_233 dX12_next_91 rfl (zRo_d d) (as := []) (rest := []) (Nat.le_of_ble_eq_true rfl) rfl rfl (zCv_mono (fun h16 k => ?_) k)
          refine z_goto (tgt := 122) dX12_next_94 rfl ?_
          exact z_return rfl dX12_next_122 ⟨rfl, k⟩
      · have k := kb q
        refine z_aload_n 0 dX12_next_76 rfl rfl (Nat.le_of_ble_eq_true rfl) rfl ?_
        refine z_callVv vX12_nextName kX12_227 dX12_next_77 rfl (zRo_d d) (as := []) (rest := []) (Nat.le_of_ble_eq_true rfl) rfl rfl (zCv_mono (fun h18 k => ?_) k)
        refine z_goto (tgt := 122) dX12_next_80 rfl ?_
        exact z_return rfl dX12_next_122 ⟨rfl, k⟩
    · have k := kb q
      refine z_aload_n 0 dX12_next_61 rfl rfl (Nat.le_of_ble_eq_true rfl) rfl ?_
      refine z_iconst dX12_next_62 rfl ?_
      refine z_putI 12 gX12_220 dX12_next_63 rfl ?_
      refine z_goto (tgt := 122) dX12_next_66 rfl ?_
      exact z_return rfl dX12_next_122 ⟨rfl, k⟩
  · have k := kb q
    refine z_aload_n 0 dX12_next_21 rfl rfl (Nat.le_of_ble_eq_true rfl) rfl ?_
    refine z_dup dX12_next_22 (fun q => by cases q) rfl ?_
    refine z_getI 12 (x := (h2 466 6)) fX12_211 rfl dX12_next_23 rfl rfl ?_
    refine z_iconst dX12_next_26 rfl ?_
    refine z_iadd dX12_next_27 rfl ?_
    refine z_putI 12 gX12_211 dX12_next_28 rfl ?_
    refine z_goto (tgt := 8) dX12_next_31 rfl ?_
    exact z_sub (L' := [some (vr 12 466), none]) (And.intro rfl trivial) k
theorem eX12_next {G : zG} {d : Nat} {K : zH → Prop} {h : zH} (k : tX12_next_0 G d K h) : zCv G (d + 1) mX12_next [vr 12 466] h K := z_entry (by decide +kernel) (Nat.le_of_ble_eq_true rfl) rfl k
def tX12_nextName_0 (G : zG) (d : Nat) (K : zH → Prop) (h : zH) : Prop := zTv G (d + 1) mX12_nextName K 0 [some (vr 12 466), none] [] h
def tX12_nextName_7 (G : zG) (d : Nat) (K : zH → Prop) (l1 : Int) (h : zH) : Prop := zTv G (d + 1) mX12_nextName K 7 [some (vr 12 466), some (vi l1)] [] h
theorem bX12_nextName_0 {G : zG} {d : Nat} {K : zH → Prop} {h : zH} (k : tX12_nextName_7 G d K 0 (zup h 466 11 0)) : tX12_nextName_0 G d K h := by
  unfold tX12_nextName_0
  refine z_aload_n 0 dX12_nextName_0 rfl rfl (Nat.le_of_ble_eq_true rfl) rfl ?_
  refine z_lconst (x := 0) dX12_nextName_1 rfl rfl ?_
  refine z_putL 12 gX12_246 dX12_nextName_2 rfl ?_
  refine z_iconst dX12_nextName_5 rfl ?_
  refine z_istore_n 1 dX12_nextName_6 rfl (Nat.le_of_ble_eq_true rfl) (L' := [some (vr 12 466), some (vi 0)]) rfl rfl ?_
  exact z_sub (L' := [some (vr 12 466), some (vi 0)]) (And.intro rfl (And.intro rfl trivial)) k
theorem bX12_nextName_7 {G : zG} {d : Nat} {K : zH → Prop} {l1 : Int} {h : zH} (k : zCi G d mX12_byteAt [vr 12 466, vi (h 466 6)] h (fun x1 h2 => zCb G d mX12_isSmall [vi x1] h2 (fun x3 h4 => (x3 = false → zR l1 ∧ (7 < l1 → K h4) ∧ (¬ 7 < l1 → K (zup h4 466 7 2))) ∧ (x3 = true → zR l1 ∧ (7 ≤ l1 → tX12_nextName_7 G d K (l1 + 1) (zup h4 466 6 ((h4 466 6) + 1))) ∧ (¬ 7 ≤ l1 → zCi G d mX12_byteAt [vr 12 466, vi (h4 466 6)] h4 (fun x5 h6 => zR (x5 - 96) ∧ tX12_nextName_7 G d K (l1 + 1) (zup (zup h6 466 11 ((32 * (h4 466 11)) + (x5 - 96))) 466 6 ((h6 466 6) + 1)))))))) : tX12_nextName_7 G d K l1 h := by
  unfold tX12_nextName_7
  refine z_aload_n 0 dX12_nextName_7 rfl rfl (Nat.le_of_ble_eq_true rfl) rfl ?_
  refine z_aload_n 0 dX12_nextName_8 rfl rfl (Nat.le_of_ble_eq_true rfl) rfl ?_
  refine z_getI 12 (x := (h 466 6)) fX12_211 rfl dX12_nextName_9 rfl rfl ?_
  refine z_callVi vX12_byteAt kX12_214 dX12_nextName_12 rfl (zRo_d d) (as := [vi (h 466 6)]) (rest := []) (Nat.le_of_ble_eq_true rfl) rfl rfl (zCi_mono (fun x1 h2 k => ?_) k)
  refine z_callSb sX12_isSmall kX12_223 dX12_nextName_15 rfl (zRo_d d) (as := [vi x1]) (rest := []) (Nat.le_of_ble_eq_true rfl) rfl rfl (zCb_mono (fun x3 h4 k => ?_) k)
  obtain ⟨ka, kb⟩ := k
  refine z_ifb_eq (tgt := 68) dX12_nextName_18 rfl rfl ⟨fun q => ?_, fun q => ?_⟩
  · have k := ka q
    refine z_iload_n 1 dX12_nextName_68 rfl rfl rfl ?_
    refine z_bipush dX12_nextName_69 rfl rfl ?_
    obtain ⟨r1, ka, kb⟩ := k
    refine z_icmp_gt (tgt := 79) dX12_nextName_71 rfl r1 ⟨by decide, by decide⟩ rfl ⟨fun q => ?_, fun q => ?_⟩
    · have k := ka q
      exact z_return rfl dX12_nextName_79 ⟨rfl, k⟩
    · have k := kb q
      refine z_aload_n 0 dX12_nextName_74 rfl rfl (Nat.le_of_ble_eq_true rfl) rfl ?_
      refine z_iconst dX12_nextName_75 rfl ?_
      refine z_putI 12 gX12_220 dX12_nextName_76 rfl ?_
      exact z_return rfl dX12_nextName_79 ⟨rfl, k⟩
  · have k := kb q
    refine z_iload_n 1 dX12_nextName_21 rfl rfl rfl ?_
    refine z_bipush dX12_nextName_22 rfl rfl ?_
    obtain ⟨r1, ka, kb⟩ := k
    refine z_icmp_ge (tgt := 52) dX12_nextName_24 rfl r1 ⟨by decide, by decide⟩ rfl ⟨fun q => ?_, fun q => ?_⟩
    · have k := ka q
      refine z_iinc dX12_nextName_52 rfl (Nat.le_of_ble_eq_true rfl) (L' := [some (vr 12 466), some (vi (l1 + 1))]) rfl rfl ?_
      refine z_aload_n 0 dX12_nextName_55 rfl rfl (Nat.le_of_ble_eq_true rfl) rfl ?_
      refine z_dup dX12_nextName_56 (fun q => by cases q) rfl ?_
      refine z_getI 12 (x := (h4 466 6)) fX12_211 rfl dX12_nextName_57 rfl rfl ?_
      refine z_iconst dX12_nextName_60 rfl ?_
      refine z_iadd dX12_nextName_61 rfl ?_
      refine z_putI 12 gX12_211 dX12_nextName_62 rfl ?_
      refine z_goto (tgt := 7) dX12_nextName_65 rfl ?_
      exact z_sub (L' := [some (vr 12 466), some (vi (l1 + 1))]) (And.intro rfl (And.intro rfl trivial)) k
    · have k := kb q
      refine z_aload_n 0 dX12_nextName_27 rfl rfl (Nat.le_of_ble_eq_true rfl) rfl ?_
      refine z_ldc2 (x := 32) cX12_250 rfl dX12_nextName_28 rfl ?_
      refine z_aload_n 0 dX12_nextName_31 rfl rfl (Nat.le_of_ble_eq_true rfl) rfl ?_
      refine z_getL 12 (x := (h4 466 11)) fX12_246 rfl dX12_nextName_32 rfl rfl ?_
      refine z_lmul dX12_nextName_35 rfl ?_
      refine z_aload_n 0 dX12_nextName_36 rfl rfl (Nat.le_of_ble_eq_true rfl) rfl ?_
      refine z_aload_n 0 dX12_nextName_37 rfl rfl (Nat.le_of_ble_eq_true rfl) rfl ?_
      refine z_getI 12 (x := (h4 466 6)) fX12_211 rfl dX12_nextName_38 rfl rfl ?_
      refine z_callVi vX12_byteAt kX12_214 dX12_nextName_41 rfl (zRo_d d) (as := [vi (h4 466 6)]) (rest := [vl (32 * (h4 466 11)), vr 12 466]) (Nat.le_of_ble_eq_true rfl) rfl rfl (zCi_mono (fun x5 h6 k => ?_) k)
      refine z_bipush dX12_nextName_44 rfl rfl ?_
      refine z_isub dX12_nextName_46 rfl ?_
      obtain ⟨r9, k⟩ := k
      refine z_i2l dX12_nextName_47 r9 rfl ?_
      refine z_ladd dX12_nextName_48 rfl ?_
      refine z_putL 12 gX12_246 dX12_nextName_49 rfl ?_
      refine z_iinc dX12_nextName_52 rfl (Nat.le_of_ble_eq_true rfl) (L' := [some (vr 12 466), some (vi (l1 + 1))]) rfl rfl ?_
      refine z_aload_n 0 dX12_nextName_55 rfl rfl (Nat.le_of_ble_eq_true rfl) rfl ?_
      refine z_dup dX12_nextName_56 (fun q => by cases q) rfl ?_
      refine z_getI 12 (x := (h6 466 6)) fX12_211 rfl dX12_nextName_57 (by simp [zup]) rfl ?_
      refine z_iconst dX12_nextName_60 rfl ?_
      refine z_iadd dX12_nextName_61 rfl ?_
      refine z_putI 12 gX12_211 dX12_nextName_62 rfl ?_
      refine z_goto (tgt := 7) dX12_nextName_65 rfl ?_
      exact z_sub (L' := [some (vr 12 466), some (vi (l1 + 1))]) (And.intro rfl (And.intro rfl trivial)) k
theorem eX12_nextName {G : zG} {d : Nat} {K : zH → Prop} {h : zH} (k : tX12_nextName_0 G d K h) : zCv G (d + 1) mX12_nextName [vr 12 466] h K := z_entry (by decide +kernel) (Nat.le_of_ble_eq_true rfl) rfl k
def tX12_nextWhole_0 (G : zG) (d : Nat) (K : zH → Prop) (h : zH) : Prop := zTv G (d + 1) mX12_nextWhole K 0 [some (vr 12 466), none] [] h
def tX12_nextWhole_7 (G : zG) (d : Nat) (K : zH → Prop) (l1 : Int) (h : zH) : Prop := zTv G (d + 1) mX12_nextWhole K 7 [some (vr 12 466), some (vi l1)] [] h
theorem bX12_nextWhole_0 {G : zG} {d : Nat} {K : zH → Prop} {h : zH} (k : tX12_nextWhole_7 G d K 0 (zup h 466 9 0)) : tX12_nextWhole_0 G d K h := by
  unfold tX12_nextWhole_0
  refine z_aload_n 0 dX12_nextWhole_0 rfl rfl (Nat.le_of_ble_eq_true rfl) rfl ?_
  refine z_iconst dX12_nextWhole_1 rfl ?_
  refine z_putI 12 gX12_252 dX12_nextWhole_2 rfl ?_
  refine z_iconst dX12_nextWhole_5 rfl ?_
  refine z_istore_n 1 dX12_nextWhole_6 rfl (Nat.le_of_ble_eq_true rfl) (L' := [some (vr 12 466), some (vi 0)]) rfl rfl ?_
  exact z_sub (L' := [some (vr 12 466), some (vi 0)]) (And.intro rfl (And.intro rfl trivial)) k
theorem bX12_nextWhole_7 {G : zG} {d : Nat} {K : zH → Prop} {l1 : Int} {h : zH} (k : zCi G d mX12_byteAt [vr 12 466, vi (h 466 6)] h (fun x1 h2 => zCb G d mX12_isDigit [vi x1] h2 (fun x3 h4 => (x3 = false → zR l1 ∧ (5 < l1 → K h4) ∧ (¬ 5 < l1 → K (zup h4 466 7 3))) ∧ (x3 = true → zR l1 ∧ (5 ≤ l1 → tX12_nextWhole_7 G d K (l1 + 1) (zup h4 466 6 ((h4 466 6) + 1))) ∧ (¬ 5 ≤ l1 → zCi G d mX12_byteAt [vr 12 466, vi (h4 466 6)] h4 (fun x5 h6 => tX12_nextWhole_7 G d K (l1 + 1) (zup (zup h6 466 9 (((10 * (h4 466 9)) + x5) - 48)) 466 6 ((h6 466 6) + 1)))))))) : tX12_nextWhole_7 G d K l1 h := by
  unfold tX12_nextWhole_7
  refine z_aload_n 0 dX12_nextWhole_7 rfl rfl (Nat.le_of_ble_eq_true rfl) rfl ?_
  refine z_aload_n 0 dX12_nextWhole_8 rfl rfl (Nat.le_of_ble_eq_true rfl) rfl ?_
  refine z_getI 12 (x := (h 466 6)) fX12_211 rfl dX12_nextWhole_9 rfl rfl ?_
  refine z_callVi vX12_byteAt kX12_214 dX12_nextWhole_12 rfl (zRo_d d) (as := [vi (h 466 6)]) (rest := []) (Nat.le_of_ble_eq_true rfl) rfl rfl (zCi_mono (fun x1 h2 k => ?_) k)
  refine z_callSb sX12_isDigit kX12_230 dX12_nextWhole_15 rfl (zRo_d d) (as := [vi x1]) (rest := []) (Nat.le_of_ble_eq_true rfl) rfl rfl (zCb_mono (fun x3 h4 k => ?_) k)
  obtain ⟨ka, kb⟩ := k
  refine z_ifb_eq (tgt := 65) dX12_nextWhole_18 rfl rfl ⟨fun q => ?_, fun q => ?_⟩
  · have k := ka q
    refine z_iload_n 1 dX12_nextWhole_65 rfl rfl rfl ?_
    refine z_iconst dX12_nextWhole_66 rfl ?_
    obtain ⟨r1, ka, kb⟩ := k
    refine z_icmp_gt (tgt := 75) dX12_nextWhole_67 rfl r1 ⟨by decide, by decide⟩ rfl ⟨fun q => ?_, fun q => ?_⟩
    · have k := ka q
      exact z_return rfl dX12_nextWhole_75 ⟨rfl, k⟩
    · have k := kb q
      refine z_aload_n 0 dX12_nextWhole_70 rfl rfl (Nat.le_of_ble_eq_true rfl) rfl ?_
      refine z_iconst dX12_nextWhole_71 rfl ?_
      refine z_putI 12 gX12_220 dX12_nextWhole_72 rfl ?_
      exact z_return rfl dX12_nextWhole_75 ⟨rfl, k⟩
  · have k := kb q
    refine z_iload_n 1 dX12_nextWhole_21 rfl rfl rfl ?_
    refine z_iconst dX12_nextWhole_22 rfl ?_
    obtain ⟨r1, ka, kb⟩ := k
    refine z_icmp_ge (tgt := 49) dX12_nextWhole_23 rfl r1 ⟨by decide, by decide⟩ rfl ⟨fun q => ?_, fun q => ?_⟩
    · have k := ka q
      refine z_iinc dX12_nextWhole_49 rfl (Nat.le_of_ble_eq_true rfl) (L' := [some (vr 12 466), some (vi (l1 + 1))]) rfl rfl ?_
      refine z_aload_n 0 dX12_nextWhole_52 rfl rfl (Nat.le_of_ble_eq_true rfl) rfl ?_
      refine z_dup dX12_nextWhole_53 (fun q => by cases q) rfl ?_
      refine z_getI 12 (x := (h4 466 6)) fX12_211 rfl dX12_nextWhole_54 rfl rfl ?_
      refine z_iconst dX12_nextWhole_57 rfl ?_
      refine z_iadd dX12_nextWhole_58 rfl ?_
      refine z_putI 12 gX12_211 dX12_nextWhole_59 rfl ?_
      refine z_goto (tgt := 7) dX12_nextWhole_62 rfl ?_
      exact z_sub (L' := [some (vr 12 466), some (vi (l1 + 1))]) (And.intro rfl (And.intro rfl trivial)) k
    · have k := kb q
      refine z_aload_n 0 dX12_nextWhole_26 rfl rfl (Nat.le_of_ble_eq_true rfl) rfl ?_
      refine z_bipush dX12_nextWhole_27 rfl rfl ?_
      refine z_aload_n 0 dX12_nextWhole_29 rfl rfl (Nat.le_of_ble_eq_true rfl) rfl ?_
      refine z_getI 12 (x := (h4 466 9)) fX12_252 rfl dX12_nextWhole_30 rfl rfl ?_
      refine z_imul dX12_nextWhole_33 rfl ?_
      refine z_aload_n 0 dX12_nextWhole_34 rfl rfl (Nat.le_of_ble_eq_true rfl) rfl ?_
      refine z_aload_n 0 dX12_nextWhole_35 rfl rfl (Nat.le_of_ble_eq_true rfl) rfl ?_
      refine z_getI 12 (x := (h4 466 6)) fX12_211 rfl dX12_nextWhole_36 rfl rfl ?_
      refine z_callVi vX12_byteAt kX12_214 dX12_nextWhole_39 rfl (zRo_d d) (as := [vi (h4 466 6)]) (rest := [vi (10 * (h4 466 9)), vr 12 466]) (Nat.le_of_ble_eq_true rfl) rfl rfl (zCi_mono (fun x5 h6 k => ?_) k)
      refine z_iadd dX12_nextWhole_42 rfl ?_
      refine z_bipush dX12_nextWhole_43 rfl rfl ?_
      refine z_isub dX12_nextWhole_45 rfl ?_
      refine z_putI 12 gX12_252 dX12_nextWhole_46 rfl ?_
      refine z_iinc dX12_nextWhole_49 rfl (Nat.le_of_ble_eq_true rfl) (L' := [some (vr 12 466), some (vi (l1 + 1))]) rfl rfl ?_
      refine z_aload_n 0 dX12_nextWhole_52 rfl rfl (Nat.le_of_ble_eq_true rfl) rfl ?_
      refine z_dup dX12_nextWhole_53 (fun q => by cases q) rfl ?_
      refine z_getI 12 (x := (h6 466 6)) fX12_211 rfl dX12_nextWhole_54 (by simp [zup]) rfl ?_
      refine z_iconst dX12_nextWhole_57 rfl ?_
      refine z_iadd dX12_nextWhole_58 rfl ?_
      refine z_putI 12 gX12_211 dX12_nextWhole_59 rfl ?_
      refine z_goto (tgt := 7) dX12_nextWhole_62 rfl ?_
      exact z_sub (L' := [some (vr 12 466), some (vi (l1 + 1))]) (And.intro rfl (And.intro rfl trivial)) k
theorem eX12_nextWhole {G : zG} {d : Nat} {K : zH → Prop} {h : zH} (k : tX12_nextWhole_0 G d K h) : zCv G (d + 1) mX12_nextWhole [vr 12 466] h K := z_entry (by decide +kernel) (Nat.le_of_ble_eq_true rfl) rfl k
def tX12_nextDots_0 (G : zG) (d : Nat) (K : zH → Prop) (h : zH) : Prop := zTv G (d + 1) mX12_nextDots K 0 [some (vr 12 466)] [] h
theorem bX12_nextDots_0 {G : zG} {d : Nat} {K : zH → Prop} {h : zH} (k : zCi G d mX12_byteAt [vr 12 466, vi ((h 466 6) + 1)] h (fun x1 h2 => zR x1 ∧ (x1 = 46 → K (zup (zup h2 466 7 4) 466 6 ((h2 466 6) + 2))) ∧ (¬ x1 = 46 → K h2))) : tX12_nextDots_0 G d K h := by
  unfold tX12_nextDots_0
  refine z_aload_n 0 dX12_nextDots_0 rfl rfl (Nat.le_of_ble_eq_true rfl) rfl ?_
  refine z_aload_n 0 dX12_nextDots_1 rfl rfl (Nat.le_of_ble_eq_true rfl) rfl ?_
  refine z_getI 12 (x := (h 466 6)) fX12_211 rfl dX12_nextDots_2 rfl rfl ?_
  refine z_iconst dX12_nextDots_5 rfl ?_
  refine z_iadd dX12_nextDots_6 rfl ?_
  refine z_callVi vX12_byteAt kX12_214 dX12_nextDots_7 rfl (zRo_d d) (as := [vi ((h 466 6) + 1)]) (rest := []) (Nat.le_of_ble_eq_true rfl) rfl rfl (zCi_mono (fun x1 h2 k => ?_) k)
  refine z_bipush dX12_nextDots_10 rfl rfl ?_
  obtain ⟨r1, ka, kb⟩ := k
  refine z_icmp_eq (tgt := 16) dX12_nextDots_12 rfl r1 ⟨by decide, by decide⟩ rfl ⟨fun q => ?_, fun q => ?_⟩
  · have k := ka q
    refine z_aload_n 0 dX12_nextDots_16 rfl rfl (Nat.le_of_ble_eq_true rfl) rfl ?_
    refine z_iconst dX12_nextDots_17 rfl ?_
    refine z_putI 12 gX12_220 dX12_nextDots_18 rfl ?_
    refine z_aload_n 0 dX12_nextDots_21 rfl rfl (Nat.le_of_ble_eq_true rfl) rfl ?_
    refine z_dup dX12_nextDots_22 (fun q => by cases q) rfl ?_
    refine z_getI 12 (x := (h2 466 6)) fX12_211 rfl dX12_nextDots_23 (by simp [zup]) rfl ?_
    refine z_iconst dX12_nextDots_26 rfl ?_
    refine z_iadd dX12_nextDots_27 rfl ?_
    refine z_putI 12 gX12_211 dX12_nextDots_28 rfl ?_
    exact z_return rfl dX12_nextDots_31 ⟨rfl, k⟩
  · have k := kb q
    exact z_return rfl dX12_nextDots_15 ⟨rfl, k⟩
theorem eX12_nextDots {G : zG} {d : Nat} {K : zH → Prop} {h : zH} (k : tX12_nextDots_0 G d K h) : zCv G (d + 1) mX12_nextDots [vr 12 466] h K := z_entry (by decide +kernel) (Nat.le_of_ble_eq_true rfl) rfl k
def tX12_isSign_0 (G : zG) (d : Nat) (K : Bool → zH → Prop) (l0 : Int) (h : zH) : Prop := zTb G d mX12_isSign K 0 [some (vi l0)] [] h
theorem bX12_isSign_0 {G : zG} {d : Nat} {K : Bool → zH → Prop} {l0 : Int} {h : zH} (k : zR l0 ∧ (l0 = 59 → K true h) ∧ (¬ l0 = 59 → zR l0 ∧ (l0 = 124 → K true h) ∧ (¬ l0 = 124 → zR l0 ∧ (l0 = 38 → K true h) ∧ (¬ l0 = 38 → zR l0 ∧ (l0 = 45 → K true h) ∧ (¬ l0 = 45 → zR l0 ∧ (l0 = 33 → K true h) ∧ (¬ l0 = 33 → zR l0 ∧ (l0 = 40 → K true h) ∧ (¬ l0 = 40 → zR l0 ∧ (l0 = 41 → K true h) ∧ (¬ l0 = 41 → zR l0 ∧ (l0 = 91 → K true h) ∧ (¬ l0 = 91 → zR l0 ∧ (l0 = 93 → K true h) ∧ (¬ l0 = 93 → zR l0 ∧ (¬ l0 = 44 → K false h) ∧ (l0 = 44 → K true h))))))))))) : tX12_isSign_0 G d K l0 h := by
  unfold tX12_isSign_0
  refine z_iload_n 0 dX12_isSign_0 rfl rfl rfl ?_
  refine z_bipush dX12_isSign_1 rfl rfl ?_
  obtain ⟨r1, ka, kb⟩ := k
  refine z_icmp_eq (tgt := 60) dX12_isSign_3 rfl r1 ⟨by decide, by decide⟩ rfl ⟨fun q => ?_, fun q => ?_⟩
  · have k := ka q
    refine z_iconst dX12_isSign_60 rfl ?_
    refine z_goto (tgt := 65) dX12_isSign_61 rfl ?_
    exact z_zreturn rfl (Or.inr rfl) dX12_isSign_65 ⟨true, rfl, k⟩
  · have k := kb q
    refine z_iload_n 0 dX12_isSign_6 rfl rfl rfl ?_
    refine z_bipush dX12_isSign_7 rfl rfl ?_
    obtain ⟨r1, ka, kb⟩ := k
    refine z_icmp_eq (tgt := 60) dX12_isSign_9 rfl r1 ⟨by decide, by decide⟩ rfl ⟨fun q => ?_, fun q => ?_⟩
    · have k := ka q
      refine z_iconst dX12_isSign_60 rfl ?_
      refine z_goto (tgt := 65) dX12_isSign_61 rfl ?_
      exact z_zreturn rfl (Or.inr rfl) dX12_isSign_65 ⟨true, rfl, k⟩
    · have k := kb q
      refine z_iload_n 0 dX12_isSign_12 rfl rfl rfl ?_
      refine z_bipush dX12_isSign_13 rfl rfl ?_
      obtain ⟨r1, ka, kb⟩ := k
      refine z_icmp_eq (tgt := 60) dX12_isSign_15 rfl r1 ⟨by decide, by decide⟩ rfl ⟨fun q => ?_, fun q => ?_⟩
      · have k := ka q
        refine z_iconst dX12_isSign_60 rfl ?_
        refine z_goto (tgt := 65) dX12_isSign_61 rfl ?_
        exact z_zreturn rfl (Or.inr rfl) dX12_isSign_65 ⟨true, rfl, k⟩
      · have k := kb q
        refine z_iload_n 0 dX12_isSign_18 rfl rfl rfl ?_
        refine z_bipush dX12_isSign_19 rfl rfl ?_
        obtain ⟨r1, ka, kb⟩ := k
        refine z_icmp_eq (tgt := 60) dX12_isSign_21 rfl r1 ⟨by decide, by decide⟩ rfl ⟨fun q => ?_, fun q => ?_⟩
        · have k := ka q
          refine z_iconst dX12_isSign_60 rfl ?_
          refine z_goto (tgt := 65) dX12_isSign_61 rfl ?_
          exact z_zreturn rfl (Or.inr rfl) dX12_isSign_65 ⟨true, rfl, k⟩
        · have k := kb q
          refine z_iload_n 0 dX12_isSign_24 rfl rfl rfl ?_
          refine z_bipush dX12_isSign_25 rfl rfl ?_
          obtain ⟨r1, ka, kb⟩ := k
          refine z_icmp_eq (tgt := 60) dX12_isSign_27 rfl r1 ⟨by decide, by decide⟩ rfl ⟨fun q => ?_, fun q => ?_⟩
          · have k := ka q
            refine z_iconst dX12_isSign_60 rfl ?_
            refine z_goto (tgt := 65) dX12_isSign_61 rfl ?_
            exact z_zreturn rfl (Or.inr rfl) dX12_isSign_65 ⟨true, rfl, k⟩
          · have k := kb q
            refine z_iload_n 0 dX12_isSign_30 rfl rfl rfl ?_
            refine z_bipush dX12_isSign_31 rfl rfl ?_
            obtain ⟨r1, ka, kb⟩ := k
            refine z_icmp_eq (tgt := 60) dX12_isSign_33 rfl r1 ⟨by decide, by decide⟩ rfl ⟨fun q => ?_, fun q => ?_⟩
            · have k := ka q
              refine z_iconst dX12_isSign_60 rfl ?_
              refine z_goto (tgt := 65) dX12_isSign_61 rfl ?_
              exact z_zreturn rfl (Or.inr rfl) dX12_isSign_65 ⟨true, rfl, k⟩
            · have k := kb q
              refine z_iload_n 0 dX12_isSign_36 rfl rfl rfl ?_
              refine z_bipush dX12_isSign_37 rfl rfl ?_
              obtain ⟨r1, ka, kb⟩ := k
              refine z_icmp_eq (tgt := 60) dX12_isSign_39 rfl r1 ⟨by decide, by decide⟩ rfl ⟨fun q => ?_, fun q => ?_⟩
              · have k := ka q
                refine z_iconst dX12_isSign_60 rfl ?_
                refine z_goto (tgt := 65) dX12_isSign_61 rfl ?_
                exact z_zreturn rfl (Or.inr rfl) dX12_isSign_65 ⟨true, rfl, k⟩
              · have k := kb q
                refine z_iload_n 0 dX12_isSign_42 rfl rfl rfl ?_
                refine z_bipush dX12_isSign_43 rfl rfl ?_
                obtain ⟨r1, ka, kb⟩ := k
                refine z_icmp_eq (tgt := 60) dX12_isSign_45 rfl r1 ⟨by decide, by decide⟩ rfl ⟨fun q => ?_, fun q => ?_⟩
                · have k := ka q
                  refine z_iconst dX12_isSign_60 rfl ?_
                  refine z_goto (tgt := 65) dX12_isSign_61 rfl ?_
                  exact z_zreturn rfl (Or.inr rfl) dX12_isSign_65 ⟨true, rfl, k⟩
                · have k := kb q
                  refine z_iload_n 0 dX12_isSign_48 rfl rfl rfl ?_
                  refine z_bipush dX12_isSign_49 rfl rfl ?_
                  obtain ⟨r1, ka, kb⟩ := k
                  refine z_icmp_eq (tgt := 60) dX12_isSign_51 rfl r1 ⟨by decide, by decide⟩ rfl ⟨fun q => ?_, fun q => ?_⟩
                  · have k := ka q
                    refine z_iconst dX12_isSign_60 rfl ?_
                    refine z_goto (tgt := 65) dX12_isSign_61 rfl ?_
                    exact z_zreturn rfl (Or.inr rfl) dX12_isSign_65 ⟨true, rfl, k⟩
                  · have k := kb q
                    refine z_iload_n 0 dX12_isSign_54 rfl rfl rfl ?_
                    refine z_bipush dX12_isSign_55 rfl rfl ?_
                    obtain ⟨r1, ka, kb⟩ := k
                    refine z_icmp_ne (tgt := 64) dX12_isSign_57 rfl r1 ⟨by decide, by decide⟩ rfl ⟨fun q => ?_, fun q => ?_⟩
                    · have k := ka q
                      refine z_iconst dX12_isSign_64 rfl ?_
                      exact z_zreturn rfl (Or.inl rfl) dX12_isSign_65 ⟨false, rfl, k⟩
                    · have k := kb q
                      refine z_iconst dX12_isSign_60 rfl ?_
                      refine z_goto (tgt := 65) dX12_isSign_61 rfl ?_
                      exact z_zreturn rfl (Or.inr rfl) dX12_isSign_65 ⟨true, rfl, k⟩
theorem eX12_isSign {G : zG} {d : Nat} {K : Bool → zH → Prop} {l0 : Int} {h : zH} (k : tX12_isSign_0 G d K l0 h) : zCb G d mX12_isSign [vi l0] h K := z_entry (by decide +kernel) (Nat.le_of_ble_eq_true rfl) rfl k
def tX12_nextSign_0 (G : zG) (d : Nat) (K : zH → Prop) (l1 : Int) (h : zH) : Prop := zTv G d mX12_nextSign K 0 [some (vr 12 466), some (vi l1)] [] h
theorem bX12_nextSign_0 {G : zG} {d : Nat} {K : zH → Prop} {l1 : Int} {h : zH} (k : K (zup (zup (zup h 466 7 5) 466 9 l1) 466 6 ((h 466 6) + 1))) : tX12_nextSign_0 G d K l1 h := by
  unfold tX12_nextSign_0
  refine z_aload_n 0 dX12_nextSign_0 rfl rfl (Nat.le_of_ble_eq_true rfl) rfl ?_
  refine z_iconst dX12_nextSign_1 rfl ?_
  refine z_putI 12 gX12_220 dX12_nextSign_2 rfl ?_
  refine z_aload_n 0 dX12_nextSign_5 rfl rfl (Nat.le_of_ble_eq_true rfl) rfl ?_
  refine z_iload_n 1 dX12_nextSign_6 rfl rfl rfl ?_
  refine z_putI 12 gX12_252 dX12_nextSign_7 rfl ?_
  refine z_aload_n 0 dX12_nextSign_10 rfl rfl (Nat.le_of_ble_eq_true rfl) rfl ?_
  refine z_dup dX12_nextSign_11 (fun q => by cases q) rfl ?_
  refine z_getI 12 (x := (h 466 6)) fX12_211 rfl dX12_nextSign_12 (by simp [zup]) rfl ?_
  refine z_iconst dX12_nextSign_15 rfl ?_
  refine z_iadd dX12_nextSign_16 rfl ?_
  refine z_putI 12 gX12_211 dX12_nextSign_17 rfl ?_
  exact z_return rfl dX12_nextSign_20 ⟨rfl, k⟩
theorem eX12_nextSign {G : zG} {d : Nat} {K : zH → Prop} {l1 : Int} {h : zH} (k : tX12_nextSign_0 G d K l1 h) : zCv G d mX12_nextSign [vr 12 466, vi l1] h K := z_entry (by decide +kernel) (Nat.le_of_ble_eq_true rfl) rfl k
def tX12_wrongThere_0 (G : zG) (d : Nat) (K : zH → Prop) (l1 : Int) (l2 : Int) (h : zH) : Prop := zTv G d mX12_wrongThere K 0 [some (vr 12 466), some (vi l1), some (vi l2)] [] h
theorem bX12_wrongThere_0 {G : zG} {d : Nat} {K : zH → Prop} {l1 : Int} {l2 : Int} {h : zH} (k : zR (h 466 10) ∧ ((h 466 10) ≤ 0 → K (zup (zup (zup h 466 10 l1) 466 8 l2) 466 7 0)) ∧ (¬ (h 466 10) ≤ 0 → K h)) : tX12_wrongThere_0 G d K l1 l2 h := by
  unfold tX12_wrongThere_0
  refine z_aload_n 0 dX12_wrongThere_0 rfl rfl (Nat.le_of_ble_eq_true rfl) rfl ?_
  refine z_getI 12 (x := (h 466 10)) fX12_208 rfl dX12_wrongThere_1 rfl rfl ?_
  obtain ⟨r1, ka, kb⟩ := k
  refine z_if_le (tgt := 8) dX12_wrongThere_4 rfl r1 rfl ⟨fun q => ?_, fun q => ?_⟩
  · have k := ka q
    refine z_aload_n 0 dX12_wrongThere_8 rfl rfl (Nat.le_of_ble_eq_true rfl) rfl ?_
    refine z_iload_n 1 dX12_wrongThere_9 rfl rfl rfl ?_
    refine z_putI 12 gX12_208 dX12_wrongThere_10 rfl ?_
    refine z_aload_n 0 dX12_wrongThere_13 rfl rfl (Nat.le_of_ble_eq_true rfl) rfl ?_
    refine z_iload_n 2 dX12_wrongThere_14 rfl rfl rfl ?_
    refine z_putI 12 gX12_217 dX12_wrongThere_15 rfl ?_
    refine z_aload_n 0 dX12_wrongThere_18 rfl rfl (Nat.le_of_ble_eq_true rfl) rfl ?_
    refine z_iconst dX12_wrongThere_19 rfl ?_
    refine z_putI 12 gX12_220 dX12_wrongThere_20 rfl ?_
    exact z_return rfl dX12_wrongThere_23 ⟨rfl, k⟩
  · have k := kb q
    exact z_return rfl dX12_wrongThere_7 ⟨rfl, k⟩
theorem eX12_wrongThere {G : zG} {d : Nat} {K : zH → Prop} {l1 : Int} {l2 : Int} {h : zH} (k : tX12_wrongThere_0 G d K l1 l2 h) : zCv G d mX12_wrongThere [vr 12 466, vi l1, vi l2] h K := z_entry (by decide +kernel) (Nat.le_of_ble_eq_true rfl) rfl k
def tX12_wrong_0 (G : zG) (d : Nat) (K : zH → Prop) (l1 : Int) (h : zH) : Prop := zTv G (d + 1) mX12_wrong K 0 [some (vr 12 466), some (vi l1)] [] h
theorem bX12_wrong_0 {G : zG} {d : Nat} {K : zH → Prop} {l1 : Int} {h : zH} (k : zCv G d mX12_wrongThere [vr 12 466, vi l1, vi (h 466 8)] h (fun h2 => K h2)) : tX12_wrong_0 G d K l1 h := by
  unfold tX12_wrong_0
  refine z_aload_n 0 dX12_wrong_0 rfl rfl (Nat.le_of_ble_eq_true rfl) rfl ?_
  refine z_iload_n 1 dX12_wrong_1 rfl rfl rfl ?_
  refine z_aload_n 0 dX12_wrong_2 rfl rfl (Nat.le_of_ble_eq_true rfl) rfl ?_
  refine z_getI 12 (x := (h 466 8)) fX12_217 rfl dX12_wrong_3 rfl rfl ?_
  refine z_callVv vX12_wrongThere kX12_255 dX12_wrong_6 rfl (zRo_d d) (as := [vi l1, vi (h 466 8)]) (rest := []) (Nat.le_of_ble_eq_true rfl) rfl rfl (zCv_mono (fun h2 k => ?_) k)
  exact z_return rfl dX12_wrong_9 ⟨rfl, k⟩
theorem eX12_wrong {G : zG} {d : Nat} {K : zH → Prop} {l1 : Int} {h : zH} (k : tX12_wrong_0 G d K l1 h) : zCv G (d + 1) mX12_wrong [vr 12 466, vi l1] h K := z_entry (by decide +kernel) (Nat.le_of_ble_eq_true rfl) rfl k
def tX12_is_0 (G : zG) (d : Nat) (K : Bool → zH → Prop) (l1 : Int) (h : zH) : Prop := zTb G d mX12_is K 0 [some (vr 12 466), some (vi l1)] [] h
theorem bX12_is_0 {G : zG} {d : Nat} {K : Bool → zH → Prop} {l1 : Int} {h : zH} (k : zR (h 466 10) ∧ (¬ (h 466 10) = 0 → K false h) ∧ ((h 466 10) = 0 → zR (h 466 7) ∧ (¬ (h 466 7) = 5 → K false h) ∧ ((h 466 7) = 5 → zR (h 466 9) ∧ zR l1 ∧ (¬ (h 466 9) = l1 → K false h) ∧ ((h 466 9) = l1 → K true h)))) : tX12_is_0 G d K l1 h := by
  unfold tX12_is_0
  refine z_aload_n 0 dX12_is_0 rfl rfl (Nat.le_of_ble_eq_true rfl) rfl ?_
  refine z_getI 12 (x := (h 466 10)) fX12_208 rfl dX12_is_1 rfl rfl ?_
  obtain ⟨r1, ka, kb⟩ := k
  refine z_if_ne (tgt := 27) dX12_is_4 rfl r1 rfl ⟨fun q => ?_, fun q => ?_⟩
  · have k := ka q
    refine z_iconst dX12_is_27 rfl ?_
    exact z_zreturn rfl (Or.inl rfl) dX12_is_28 ⟨false, rfl, k⟩
  · have k := kb q
    refine z_aload_n 0 dX12_is_7 rfl rfl (Nat.le_of_ble_eq_true rfl) rfl ?_
    refine z_getI 12 (x := (h 466 7)) fX12_220 rfl dX12_is_8 rfl rfl ?_
    refine z_iconst dX12_is_11 rfl ?_
    obtain ⟨r1, ka, kb⟩ := k
    refine z_icmp_ne (tgt := 27) dX12_is_12 rfl r1 ⟨by decide, by decide⟩ rfl ⟨fun q => ?_, fun q => ?_⟩
    · have k := ka q
      refine z_iconst dX12_is_27 rfl ?_
      exact z_zreturn rfl (Or.inl rfl) dX12_is_28 ⟨false, rfl, k⟩
    · have k := kb q
      refine z_aload_n 0 dX12_is_15 rfl rfl (Nat.le_of_ble_eq_true rfl) rfl ?_
      refine z_getI 12 (x := (h 466 9)) fX12_252 rfl dX12_is_16 rfl rfl ?_
      refine z_iload_n 1 dX12_is_19 rfl rfl rfl ?_
      obtain ⟨r1, r2, ka, kb⟩ := k
      refine z_icmp_ne (tgt := 27) dX12_is_20 rfl r1 r2 rfl ⟨fun q => ?_, fun q => ?_⟩
      · have k := ka q
        refine z_iconst dX12_is_27 rfl ?_
        exact z_zreturn rfl (Or.inl rfl) dX12_is_28 ⟨false, rfl, k⟩
      · have k := kb q
        refine z_iconst dX12_is_23 rfl ?_
        refine z_goto (tgt := 28) dX12_is_24 rfl ?_
        exact z_zreturn rfl (Or.inr rfl) dX12_is_28 ⟨true, rfl, k⟩
theorem eX12_is {G : zG} {d : Nat} {K : Bool → zH → Prop} {l1 : Int} {h : zH} (k : tX12_is_0 G d K l1 h) : zCb G d mX12_is [vr 12 466, vi l1] h K := z_entry (by decide +kernel) (Nat.le_of_ble_eq_true rfl) rfl k
def tX12_passes_0 (G : zG) (d : Nat) (K : Bool → zH → Prop) (l1 : Int) (h : zH) : Prop := zTb G (d + 1) mX12_passes K 0 [some (vr 12 466), some (vi l1), none] [] h
theorem bX12_passes_0 {G : zG} {d : Nat} {K : Bool → zH → Prop} {l1 : Int} {h : zH} (k : zCb G d mX12_is [vr 12 466, vi l1] h (fun x1 h2 => (x1 = false → K x1 h2) ∧ (x1 = true → zCv G d mX12_next [vr 12 466] h2 (fun h4 => K x1 h4)))) : tX12_passes_0 G d K l1 h := by
  unfold tX12_passes_0
  refine z_aload_n 0 dX12_passes_0 rfl rfl (Nat.le_of_ble_eq_true rfl) rfl ?_
  refine z_iload_n 1 dX12_passes_1 rfl rfl rfl ?_
  refine z_callVb vX12_is kX12_259 dX12_passes_2 rfl (zRo_d d) (as := [vi l1]) (rest := []) (Nat.le_of_ble_eq_true rfl) rfl rfl (zCb_mono (fun x1 h2 k => ?_) k)
  refine z_istore_n 2 dX12_passes_5 rfl (Nat.le_of_ble_eq_true rfl) (L' := [some (vr 12 466), some (vi l1), some (vi (bi x1))]) rfl rfl ?_
  refine z_iload_n 2 dX12_passes_6 rfl rfl rfl ?_
  obtain ⟨ka, kb⟩ := k
  refine z_ifb_eq (tgt := 14) dX12_passes_7 rfl rfl ⟨fun q => ?_, fun q => ?_⟩
  · have k := ka q
    refine z_iload_n 2 dX12_passes_14 rfl rfl rfl ?_
    exact z_zreturn rfl (bi_01 _) dX12_passes_15 ⟨_, rfl, k⟩
  · have k := kb q
    refine z_aload_n 0 dX12_passes_10 rfl rfl (Nat.le_of_ble_eq_true rfl) rfl ?_
    refine z_callVv vX12_next kX12_262 dX12_passes_11 rfl (zRo_d d) (as := []) (rest := []) (Nat.le_of_ble_eq_true rfl) rfl rfl (zCv_mono (fun h4 k => ?_) k)
    refine z_iload_n 2 dX12_passes_14 rfl rfl rfl ?_
    exact z_zreturn rfl (bi_01 _) dX12_passes_15 ⟨_, rfl, k⟩
theorem eX12_passes {G : zG} {d : Nat} {K : Bool → zH → Prop} {l1 : Int} {h : zH} (k : tX12_passes_0 G d K l1 h) : zCb G (d + 1) mX12_passes [vr 12 466, vi l1] h K := z_entry (by decide +kernel) (Nat.le_of_ble_eq_true rfl) rfl k
def tX12_must_0 (G : zG) (d : Nat) (K : zH → Prop) (l1 : Int) (h : zH) : Prop := zTv G (d + 1) mX12_must K 0 [some (vr 12 466), some (vi l1)] [] h
theorem bX12_must_0 {G : zG} {d : Nat} {K : zH → Prop} {l1 : Int} {h : zH} (k : zCb G d mX12_passes [vr 12 466, vi l1] h (fun x1 h2 => (x1 = true → K h2) ∧ (x1 = false → zCv G d mX12_wrong [vr 12 466, vi 1] h2 (fun h4 => K h4)))) : tX12_must_0 G d K l1 h := by
  unfold tX12_must_0
  refine z_aload_n 0 dX12_must_0 rfl rfl (Nat.le_of_ble_eq_true rfl) rfl ?_
  refine z_iload_n 1 dX12_must_1 rfl rfl rfl ?_
  refine z_callVb vX12_passes kX12_265 dX12_must_2 rfl (zRo_d d) (as := [vi l1]) (rest := []) (Nat.le_of_ble_eq_true rfl) rfl rfl (zCb_mono (fun x1 h2 k => ?_) k)
  obtain ⟨ka, kb⟩ := k
  refine z_ifb_ne (tgt := 13) dX12_must_5 rfl rfl ⟨fun q => ?_, fun q => ?_⟩
  · have k := ka q
    exact z_return rfl dX12_must_13 ⟨rfl, k⟩
  · have k := kb q
    refine z_aload_n 0 dX12_must_8 rfl rfl (Nat.le_of_ble_eq_true rfl) rfl ?_
    refine z_iconst dX12_must_9 rfl ?_
    refine z_callVv vX12_wrong kX12_268 dX12_must_10 rfl (zRo_d d) (as := [vi 1]) (rest := []) (Nat.le_of_ble_eq_true rfl) rfl rfl (zCv_mono (fun h4 k => ?_) k)
    exact z_return rfl dX12_must_13 ⟨rfl, k⟩
theorem eX12_must {G : zG} {d : Nat} {K : zH → Prop} {l1 : Int} {h : zH} (k : tX12_must_0 G d K l1 h) : zCv G (d + 1) mX12_must [vr 12 466, vi l1] h K := z_entry (by decide +kernel) (Nat.le_of_ble_eq_true rfl) rfl k
def tX12_packed_0 (G : zG) (d : Nat) (K : Int → zH → Prop) (l0 : Int) (h : zH) : Prop := zTl G (d + 1) mX12_packed K 0 [some ((40, l0)), none, none, none] [] h
def tX12_packed_4 (G : zG) (d : Nat) (K : Int → zH → Prop) (l0 : Int) (l1 : Int) (l3 : Int) (h : zH) : Prop := zTl G (d + 1) mX12_packed K 4 [some ((40, l0)), some (vl l1), none, some (vi l3)] [] h
theorem bX12_packed_0 {G : zG} {d : Nat} {K : Int → zH → Prop} {l0 : Int} {h : zH} (k : tX12_packed_4 G d K l0 0 0 h) : tX12_packed_0 G d K l0 h := by
  unfold tX12_packed_0
  refine z_lconst (x := 0) dX12_packed_0 rfl rfl ?_
  refine z_lstore_n 1 dX12_packed_1 rfl (Nat.le_of_ble_eq_true rfl) (L' := [some ((40, l0)), some (vl 0), none, none]) rfl rfl ?_
  refine z_iconst dX12_packed_2 rfl ?_
  refine z_istore_n 3 dX12_packed_3 rfl (Nat.le_of_ble_eq_true rfl) (L' := [some ((40, l0)), some (vl 0), none, some (vi 0)]) rfl rfl ?_
  exact z_sub (L' := [some ((40, l0)), some (vl 0), none, some (vi 0)]) (And.intro rfl (And.intro rfl (And.intro rfl trivial))) k
theorem bX12_packed_4 {G : zG} {d : Nat} {K : Int → zH → Prop} {l0 : Int} {l1 : Int} {l3 : Int} {h : zH} (k : zCi G d mJ0_length_8abf5 [(40, l0)] h (fun x1 h2 => zR l3 ∧ zR x1 ∧ (x1 ≤ l3 → K l1 h2) ∧ (¬ x1 ≤ l3 → zCi G d mJ0_charAt_5068e [(40, l0), vi l3] h2 (fun x3 h4 => zR (x3 - 96) ∧ tX12_packed_4 G d K l0 ((32 * l1) + (x3 - 96)) (l3 + 1) h4)))) : tX12_packed_4 G d K l0 l1 l3 h := by
  unfold tX12_packed_4
  refine z_iload_n 3 dX12_packed_4 rfl rfl rfl ?_
  refine z_aload_n 0 dX12_packed_5 rfl rfl (Nat.le_of_ble_eq_true rfl) rfl ?_
  refine z_callTi vJ0_length_8abf5 kX12_271 dX12_packed_6 rfl (zRo_d d) (as := []) (rest := [vi l3]) (Nat.le_of_ble_eq_true rfl) rfl rfl (zCi_mono (fun x1 h2 k => ?_) k)
  obtain ⟨r1, r2, ka, kb⟩ := k
  refine z_icmp_ge (tgt := 34) dX12_packed_9 rfl r1 r2 rfl ⟨fun q => ?_, fun q => ?_⟩
  · have k := ka q
    refine z_lload_n 1 dX12_packed_34 rfl rfl rfl ?_
    exact z_lreturn rfl dX12_packed_35 ⟨_, rfl, k⟩
  · have k := kb q
    refine z_ldc2 (x := 32) cX12_250 rfl dX12_packed_12 rfl ?_
    refine z_lload_n 1 dX12_packed_15 rfl rfl rfl ?_
    refine z_lmul dX12_packed_16 rfl ?_
    refine z_aload_n 0 dX12_packed_17 rfl rfl (Nat.le_of_ble_eq_true rfl) rfl ?_
    refine z_iload_n 3 dX12_packed_18 rfl rfl rfl ?_
    refine z_callTi vJ0_charAt_5068e kX12_277 dX12_packed_19 rfl (zRo_d d) (as := [vi l3]) (rest := [vl (32 * l1)]) (Nat.le_of_ble_eq_true rfl) rfl rfl (zCi_mono (fun x3 h4 k => ?_) k)
    refine z_bipush dX12_packed_22 rfl rfl ?_
    refine z_isub dX12_packed_24 rfl ?_
    obtain ⟨r9, k⟩ := k
    refine z_i2l dX12_packed_25 r9 rfl ?_
    refine z_ladd dX12_packed_26 rfl ?_
    refine z_lstore_n 1 dX12_packed_27 rfl (Nat.le_of_ble_eq_true rfl) (L' := [some ((40, l0)), some (vl ((32 * l1) + (x3 - 96))), none, some (vi l3)]) rfl rfl ?_
    refine z_iinc dX12_packed_28 rfl (Nat.le_of_ble_eq_true rfl) (L' := [some ((40, l0)), some (vl ((32 * l1) + (x3 - 96))), none, some (vi (l3 + 1))]) rfl rfl ?_
    refine z_goto (tgt := 4) dX12_packed_31 rfl ?_
    exact z_sub (L' := [some ((40, l0)), some (vl ((32 * l1) + (x3 - 96))), none, some (vi (l3 + 1))]) (And.intro rfl (And.intro rfl (And.intro rfl trivial))) k
theorem eX12_packed {G : zG} {d : Nat} {K : Int → zH → Prop} {l0 : Int} {h : zH} (k : tX12_packed_0 G d K l0 h) : zCl G (d + 1) mX12_packed [(40, l0)] h K := z_entry (by decide +kernel) (Nat.le_of_ble_eq_true rfl) rfl k
def tX12_isWord_0 (G : zG) (d : Nat) (K : Bool → zH → Prop) (l1 : Int) (h : zH) : Prop := zTb G (d + 1) mX12_isWord K 0 [some (vr 12 466), some ((40, l1))] [] h
theorem bX12_isWord_0 {G : zG} {d : Nat} {K : Bool → zH → Prop} {l1 : Int} {h : zH} (k : zR (h 466 10) ∧ (¬ (h 466 10) = 0 → K false h) ∧ ((h 466 10) = 0 → zR (h 466 7) ∧ (¬ (h 466 7) = 2 → K false h) ∧ ((h 466 7) = 2 → zCl G d mX12_packed [(40, l1)] h (fun x1 h2 => (¬ (zcmp (h 466 11) x1) = 0 → K false h2) ∧ ((zcmp (h 466 11) x1) = 0 → K true h2))))) : tX12_isWord_0 G d K l1 h := by
  unfold tX12_isWord_0
  refine z_aload_n 0 dX12_isWord_0 rfl rfl (Nat.le_of_ble_eq_true rfl) rfl ?_
  refine z_getI 12 (x := (h 466 10)) fX12_208 rfl dX12_isWord_1 rfl rfl ?_
  obtain ⟨r1, ka, kb⟩ := k
  refine z_if_ne (tgt := 31) dX12_isWord_4 rfl r1 rfl ⟨fun q => ?_, fun q => ?_⟩
  · have k := ka q
    refine z_iconst dX12_isWord_31 rfl ?_
    exact z_zreturn rfl (Or.inl rfl) dX12_isWord_32 ⟨false, rfl, k⟩
  · have k := kb q
    refine z_aload_n 0 dX12_isWord_7 rfl rfl (Nat.le_of_ble_eq_true rfl) rfl ?_
    refine z_getI 12 (x := (h 466 7)) fX12_220 rfl dX12_isWord_8 rfl rfl ?_
    refine z_iconst dX12_isWord_11 rfl ?_
    obtain ⟨r1, ka, kb⟩ := k
    refine z_icmp_ne (tgt := 31) dX12_isWord_12 rfl r1 ⟨by decide, by decide⟩ rfl ⟨fun q => ?_, fun q => ?_⟩
    · have k := ka q
      refine z_iconst dX12_isWord_31 rfl ?_
      exact z_zreturn rfl (Or.inl rfl) dX12_isWord_32 ⟨false, rfl, k⟩
    · have k := kb q
      refine z_aload_n 0 dX12_isWord_15 rfl rfl (Nat.le_of_ble_eq_true rfl) rfl ?_
      refine z_getL 12 (x := (h 466 11)) fX12_246 rfl dX12_isWord_16 rfl rfl ?_
      refine z_aload_n 1 dX12_isWord_19 rfl rfl (Nat.le_of_ble_eq_true rfl) rfl ?_
      refine z_callSl sX12_packed kX12_281 dX12_isWord_20 rfl (zRo_d d) (as := [(40, l1)]) (rest := [vl (h 466 11)]) (Nat.le_of_ble_eq_true rfl) rfl rfl (zCl_mono (fun x1 h2 k => ?_) k)
      refine z_lcmp dX12_isWord_23 rfl ?_
      obtain ⟨ka, kb⟩ := k
      refine z_if_ne (tgt := 31) dX12_isWord_24 rfl (zcmp_R _ _) rfl ⟨fun q => ?_, fun q => ?_⟩
      · have k := ka q
        refine z_iconst dX12_isWord_31 rfl ?_
        exact z_zreturn rfl (Or.inl rfl) dX12_isWord_32 ⟨false, rfl, k⟩
      · have k := kb q
        refine z_iconst dX12_isWord_27 rfl ?_
        refine z_goto (tgt := 32) dX12_isWord_28 rfl ?_
        exact z_zreturn rfl (Or.inr rfl) dX12_isWord_32 ⟨true, rfl, k⟩
theorem eX12_isWord {G : zG} {d : Nat} {K : Bool → zH → Prop} {l1 : Int} {h : zH} (k : tX12_isWord_0 G d K l1 h) : zCb G (d + 1) mX12_isWord [vr 12 466, (40, l1)] h K := z_entry (by decide +kernel) (Nat.le_of_ble_eq_true rfl) rfl k
def tX12_isName_0 (G : zG) (d : Nat) (K : Bool → zH → Prop) (h : zH) : Prop := zTb G (d + 1) mX12_isName K 0 [some (vr 12 466)] [] h
theorem bX12_isName_0 {G : zG} {d : Nat} {K : Bool → zH → Prop} {h : zH} (k : zR (h 466 10) ∧ (¬ (h 466 10) = 0 → K false h) ∧ ((h 466 10) = 0 → zR (h 466 7) ∧ (¬ (h 466 7) = 2 → K false h) ∧ ((h 466 7) = 2 → zCb G d mX12_isWord [vr 12 466, (40, 0)] h (fun x1 h2 => (x1 = true → K false h2) ∧ (x1 = false → zCb G d mX12_isWord [vr 12 466, (40, 1)] h2 (fun x3 h4 => (x3 = true → K false h4) ∧ (x3 = false → zCb G d mX12_isWord [vr 12 466, (40, 2)] h4 (fun x5 h6 => (x5 = true → K false h6) ∧ (x5 = false → zCb G d mX12_isWord [vr 12 466, (40, 3)] h6 (fun x7 h8 => (x7 = true → K false h8) ∧ (x7 = false → zCb G d mX12_isWord [vr 12 466, (40, 4)] h8 (fun x9 h10 => (x9 = true → K false h10) ∧ (x9 = false → zCb G d mX12_isWord [vr 12 466, (40, 5)] h10 (fun x11 h12 => (x11 = true → K false h12) ∧ (x11 = false → K true h12))))))))))))))) : tX12_isName_0 G d K h := by
  unfold tX12_isName_0
  refine z_aload_n 0 dX12_isName_0 rfl rfl (Nat.le_of_ble_eq_true rfl) rfl ?_
  refine z_getI 12 (x := (h 466 10)) fX12_208 rfl dX12_isName_1 rfl rfl ?_
  obtain ⟨r1, ka, kb⟩ := k
  refine z_if_ne (tgt := 79) dX12_isName_4 rfl r1 rfl ⟨fun q => ?_, fun q => ?_⟩
  · have k := ka q
    refine z_iconst dX12_isName_79 rfl ?_
    exact z_zreturn rfl (Or.inl rfl) dX12_isName_80 ⟨false, rfl, k⟩
  · have k := kb q
    refine z_aload_n 0 dX12_isName_7 rfl rfl (Nat.le_of_ble_eq_true rfl) rfl ?_
    refine z_getI 12 (x := (h 466 7)) fX12_220 rfl dX12_isName_8 rfl rfl ?_
    refine z_iconst dX12_isName_11 rfl ?_
    obtain ⟨r1, ka, kb⟩ := k
    refine z_icmp_ne (tgt := 79) dX12_isName_12 rfl r1 ⟨by decide, by decide⟩ rfl ⟨fun q => ?_, fun q => ?_⟩
    · have k := ka q
      refine z_iconst dX12_isName_79 rfl ?_
      exact z_zreturn rfl (Or.inl rfl) dX12_isName_80 ⟨false, rfl, k⟩
    · have k := kb q
      refine z_aload_n 0 dX12_isName_15 rfl rfl (Nat.le_of_ble_eq_true rfl) rfl ?_
      refine z_ldcwS (k := 0) (tx := "set") (x := 0) (by decide +kernel) (by decide) rfl dX12_isName_16 rfl ?_
      refine z_callVb vX12_isWord kX12_287 dX12_isName_19 rfl (zRo_d d) (as := [(40, 0)]) (rest := []) (Nat.le_of_ble_eq_true rfl) rfl rfl (zCb_mono (fun x1 h2 k => ?_) k)
      obtain ⟨ka, kb⟩ := k
      refine z_ifb_ne (tgt := 79) dX12_isName_22 rfl rfl ⟨fun q => ?_, fun q => ?_⟩
      · have k := ka q
        refine z_iconst dX12_isName_79 rfl ?_
        exact z_zreturn rfl (Or.inl rfl) dX12_isName_80 ⟨false, rfl, k⟩
      · have k := kb q
        refine z_aload_n 0 dX12_isName_25 rfl rfl (Nat.le_of_ble_eq_true rfl) rfl ?_
        refine z_ldcwS (k := 1) (tx := "machine") (x := 1) (by decide +kernel) (by decide) rfl dX12_isName_26 rfl ?_
        refine z_callVb vX12_isWord kX12_287 dX12_isName_29 rfl (zRo_d d) (as := [(40, 1)]) (rest := []) (Nat.le_of_ble_eq_true rfl) rfl rfl (zCb_mono (fun x3 h4 k => ?_) k)
        obtain ⟨ka, kb⟩ := k
        refine z_ifb_ne (tgt := 79) dX12_isName_32 rfl rfl ⟨fun q => ?_, fun q => ?_⟩
        · have k := ka q
          refine z_iconst dX12_isName_79 rfl ?_
          exact z_zreturn rfl (Or.inl rfl) dX12_isName_80 ⟨false, rfl, k⟩
        · have k := kb q
          refine z_aload_n 0 dX12_isName_35 rfl rfl (Nat.le_of_ble_eq_true rfl) rfl ?_
          refine z_ldcwS (k := 2) (tx := "edge") (x := 2) (by decide +kernel) (by decide) rfl dX12_isName_36 rfl ?_
          refine z_callVb vX12_isWord kX12_287 dX12_isName_39 rfl (zRo_d d) (as := [(40, 2)]) (rest := []) (Nat.le_of_ble_eq_true rfl) rfl rfl (zCb_mono (fun x5 h6 k => ?_) k)
          obtain ⟨ka, kb⟩ := k
          refine z_ifb_ne (tgt := 79) dX12_isName_42 rfl rfl ⟨fun q => ?_, fun q => ?_⟩
          · have k := ka q
            refine z_iconst dX12_isName_79 rfl ?_
            exact z_zreturn rfl (Or.inl rfl) dX12_isName_80 ⟨false, rfl, k⟩
          · have k := kb q
            refine z_aload_n 0 dX12_isName_45 rfl rfl (Nat.le_of_ble_eq_true rfl) rfl ?_
            refine z_ldcwS (k := 3) (tx := "free") (x := 3) (by decide +kernel) (by decide) rfl dX12_isName_46 rfl ?_
            refine z_callVb vX12_isWord kX12_287 dX12_isName_49 rfl (zRo_d d) (as := [(40, 3)]) (rest := []) (Nat.le_of_ble_eq_true rfl) rfl rfl (zCb_mono (fun x7 h8 k => ?_) k)
            obtain ⟨ka, kb⟩ := k
            refine z_ifb_ne (tgt := 79) dX12_isName_52 rfl rfl ⟨fun q => ?_, fun q => ?_⟩
            · have k := ka q
              refine z_iconst dX12_isName_79 rfl ?_
              exact z_zreturn rfl (Or.inl rfl) dX12_isName_80 ⟨false, rfl, k⟩
            · have k := kb q
              refine z_aload_n 0 dX12_isName_55 rfl rfl (Nat.le_of_ble_eq_true rfl) rfl ?_
              refine z_ldcwS (k := 4) (tx := "end") (x := 4) (by decide +kernel) (by decide) rfl dX12_isName_56 rfl ?_
              refine z_callVb vX12_isWord kX12_287 dX12_isName_59 rfl (zRo_d d) (as := [(40, 4)]) (rest := []) (Nat.le_of_ble_eq_true rfl) rfl rfl (zCb_mono (fun x9 h10 k => ?_) k)
              obtain ⟨ka, kb⟩ := k
              refine z_ifb_ne (tgt := 79) dX12_isName_62 rfl rfl ⟨fun q => ?_, fun q => ?_⟩
              · have k := ka q
                refine z_iconst dX12_isName_79 rfl ?_
                exact z_zreturn rfl (Or.inl rfl) dX12_isName_80 ⟨false, rfl, k⟩
              · have k := kb q
                refine z_aload_n 0 dX12_isName_65 rfl rfl (Nat.le_of_ble_eq_true rfl) rfl ?_
                refine z_ldcwS (k := 5) (tx := "any") (x := 5) (by decide +kernel) (by decide) rfl dX12_isName_66 rfl ?_
                refine z_callVb vX12_isWord kX12_287 dX12_isName_69 rfl (zRo_d d) (as := [(40, 5)]) (rest := []) (Nat.le_of_ble_eq_true rfl) rfl rfl (zCb_mono (fun x11 h12 k => ?_) k)
                obtain ⟨ka, kb⟩ := k
                refine z_ifb_ne (tgt := 79) dX12_isName_72 rfl rfl ⟨fun q => ?_, fun q => ?_⟩
                · have k := ka q
                  refine z_iconst dX12_isName_79 rfl ?_
                  exact z_zreturn rfl (Or.inl rfl) dX12_isName_80 ⟨false, rfl, k⟩
                · have k := kb q
                  refine z_iconst dX12_isName_75 rfl ?_
                  refine z_goto (tgt := 80) dX12_isName_76 rfl ?_
                  exact z_zreturn rfl (Or.inr rfl) dX12_isName_80 ⟨true, rfl, k⟩
theorem eX12_isName {G : zG} {d : Nat} {K : Bool → zH → Prop} {h : zH} (k : tX12_isName_0 G d K h) : zCb G (d + 1) mX12_isName [vr 12 466] h K := z_entry (by decide +kernel) (Nat.le_of_ble_eq_true rfl) rfl k
def tX12_whole_0 (G : zG) (d : Nat) (K : Int → zH → Prop) (l1 : Int) (l2 : Int) (h : zH) : Prop := zTi G (d + 1) mX12_whole K 0 [some (vr 12 466), some (vi l1), some (vi l2), none] [] h
theorem bX12_whole_0 {G : zG} {d : Nat} {K : Int → zH → Prop} {l1 : Int} {l2 : Int} {h : zH} (k : zR (h 466 7) ∧ ((h 466 7) = 3 → zCb G d mX12_in [vi (h 466 9), vi l1, vi l2] h (fun x1 h2 => (x1 = true → zR (h2 466 10) ∧ ((h2 466 10) ≤ 0 → zCv G d mX12_next [vr 12 466] h2 (fun h4 => K (h2 466 9) h4)) ∧ (¬ (h2 466 10) ≤ 0 → zCv G d mX12_next [vr 12 466] h2 (fun h6 => K l1 h6))) ∧ (x1 = false → zCv G d mX12_wrong [vr 12 466, vi 4] h2 (fun h8 => zR (h8 466 10) ∧ ((h8 466 10) ≤ 0 → zCv G d mX12_next [vr 12 466] h8 (fun h10 => K (h8 466 9) h10)) ∧ (¬ (h8 466 10) ≤ 0 → zCv G d mX12_next [vr 12 466] h8 (fun h12 => K l1 h12)))))) ∧ (¬ (h 466 7) = 3 → zCv G d mX12_wrong [vr 12 466, vi 1] h (fun h14 => zR (h14 466 10) ∧ ((h14 466 10) ≤ 0 → zCv G d mX12_next [vr 12 466] h14 (fun h16 => K (h14 466 9) h16)) ∧ (¬ (h14 466 10) ≤ 0 → zCv G d mX12_next [vr 12 466] h14 (fun h18 => K l1 h18))))) : tX12_whole_0 G d K l1 l2 h := by
  unfold tX12_whole_0
  refine z_aload_n 0 dX12_whole_0 rfl rfl (Nat.le_of_ble_eq_true rfl) rfl ?_
  refine z_getI 12 (x := (h 466 7)) fX12_220 rfl dX12_whole_1 rfl rfl ?_
  refine z_iconst dX12_whole_4 rfl ?_
  obtain ⟨r1, ka, kb⟩ := k
  refine z_icmp_eq (tgt := 16) dX12_whole_5 rfl r1 ⟨by decide, by decide⟩ rfl ⟨fun q => ?_, fun q => ?_⟩
  · have k := ka q
    refine z_aload_n 0 dX12_whole_16 rfl rfl (Nat.le_of_ble_eq_true rfl) rfl ?_
    refine z_getI 12 (x := (h 466 9)) fX12_252 rfl dX12_whole_17 rfl rfl ?_
    refine z_iload_n 1 dX12_whole_20 rfl rfl rfl ?_
    refine z_iload_n 2 dX12_whole_21 rfl rfl rfl ?_
    refine z_callSb sX12_in kX12_201 dX12_whole_22 rfl (zRo_d d) (as := [vi (h 466 9), vi l1, vi l2]) (rest := []) (Nat.le_of_ble_eq_true rfl) rfl rfl (zCb_mono (fun x1 h2 k => ?_) k)
    obtain ⟨ka, kb⟩ := k
    refine z_ifb_ne (tgt := 33) dX12_whole_25 rfl rfl ⟨fun q => ?_, fun q => ?_⟩
    · have k := ka q
      refine z_aload_n 0 dX12_whole_33 rfl rfl (Nat.le_of_ble_eq_true rfl) rfl ?_
      refine z_getI 12 (x := (h2 466 10)) fX12_208 rfl dX12_whole_34 rfl rfl ?_
      obtain ⟨r1, ka, kb⟩ := k
      refine z_if_le (tgt := 44) dX12_whole_37 rfl r1 rfl ⟨fun q => ?_, fun q => ?_⟩
      · have k := ka q
        refine z_aload_n 0 dX12_whole_44 rfl rfl (Nat.le_of_ble_eq_true rfl) rfl ?_
        refine z_getI 12 (x := (h2 466 9)) fX12_252 rfl dX12_whole_45 rfl rfl ?_
        refine z_istore_n 3 dX12_whole_48 rfl (Nat.le_of_ble_eq_true rfl) (L' := [some (vr 12 466), some (vi l1), some (vi l2), some (vi (h2 466 9))]) rfl rfl ?_
        refine z_aload_n 0 dX12_whole_49 rfl rfl (Nat.le_of_ble_eq_true rfl) rfl ?_
        refine z_callVv vX12_next kX12_262 dX12_whole_50 rfl (zRo_d d) (as := []) (rest := []) (Nat.le_of_ble_eq_true rfl) rfl rfl (zCv_mono (fun h4 k => ?_) k)
        refine z_iload_n 3 dX12_whole_53 rfl rfl rfl ?_
        exact z_ireturn rfl dX12_whole_54 ⟨_, rfl, k⟩
      · have k := kb q
        refine z_iload_n 1 dX12_whole_40 rfl rfl rfl ?_
        refine z_goto (tgt := 48) dX12_whole_41 rfl ?_
        refine z_istore_n 3 dX12_whole_48 rfl (Nat.le_of_ble_eq_true rfl) (L' := [some (vr 12 466), some (vi l1), some (vi l2), some (vi l1)]) rfl rfl ?_
        refine z_aload_n 0 dX12_whole_49 rfl rfl (Nat.le_of_ble_eq_true rfl) rfl ?_
        refine z_callVv vX12_next kX12_262 dX12_whole_50 rfl (zRo_d d) (as := []) (rest := []) (Nat.le_of_ble_eq_true rfl) rfl rfl (zCv_mono (fun h6 k => ?_) k)
        refine z_iload_n 3 dX12_whole_53 rfl rfl rfl ?_
        exact z_ireturn rfl dX12_whole_54 ⟨_, rfl, k⟩
    · have k := kb q
      refine z_aload_n 0 dX12_whole_28 rfl rfl (Nat.le_of_ble_eq_true rfl) rfl ?_
      refine z_iconst dX12_whole_29 rfl ?_
      refine z_callVv vX12_wrong kX12_268 dX12_whole_30 rfl (zRo_d d) (as := [vi 4]) (rest := []) (Nat.le_of_ble_eq_true rfl) rfl rfl (zCv_mono (fun h8 k => ?_) k)
      refine z_aload_n 0 dX12_whole_33 rfl rfl (Nat.le_of_ble_eq_true rfl) rfl ?_
      refine z_getI 12 (x := (h8 466 10)) fX12_208 rfl dX12_whole_34 rfl rfl ?_
      obtain ⟨r1, ka, kb⟩ := k
      refine z_if_le (tgt := 44) dX12_whole_37 rfl r1 rfl ⟨fun q => ?_, fun q => ?_⟩
      · have k := ka q
        refine z_aload_n 0 dX12_whole_44 rfl rfl (Nat.le_of_ble_eq_true rfl) rfl ?_
        refine z_getI 12 (x := (h8 466 9)) fX12_252 rfl dX12_whole_45 rfl rfl ?_
        refine z_istore_n 3 dX12_whole_48 rfl (Nat.le_of_ble_eq_true rfl) (L' := [some (vr 12 466), some (vi l1), some (vi l2), some (vi (h8 466 9))]) rfl rfl ?_
        refine z_aload_n 0 dX12_whole_49 rfl rfl (Nat.le_of_ble_eq_true rfl) rfl ?_
        refine z_callVv vX12_next kX12_262 dX12_whole_50 rfl (zRo_d d) (as := []) (rest := []) (Nat.le_of_ble_eq_true rfl) rfl rfl (zCv_mono (fun h10 k => ?_) k)
        refine z_iload_n 3 dX12_whole_53 rfl rfl rfl ?_
        exact z_ireturn rfl dX12_whole_54 ⟨_, rfl, k⟩
      · have k := kb q
        refine z_iload_n 1 dX12_whole_40 rfl rfl rfl ?_
        refine z_goto (tgt := 48) dX12_whole_41 rfl ?_
        refine z_istore_n 3 dX12_whole_48 rfl (Nat.le_of_ble_eq_true rfl) (L' := [some (vr 12 466), some (vi l1), some (vi l2), some (vi l1)]) rfl rfl ?_
        refine z_aload_n 0 dX12_whole_49 rfl rfl (Nat.le_of_ble_eq_true rfl) rfl ?_
        refine z_callVv vX12_next kX12_262 dX12_whole_50 rfl (zRo_d d) (as := []) (rest := []) (Nat.le_of_ble_eq_true rfl) rfl rfl (zCv_mono (fun h12 k => ?_) k)
        refine z_iload_n 3 dX12_whole_53 rfl rfl rfl ?_
        exact z_ireturn rfl dX12_whole_54 ⟨_, rfl, k⟩
  · have k := kb q
    refine z_aload_n 0 dX12_whole_8 rfl rfl (Nat.le_of_ble_eq_true rfl) rfl ?_
    refine z_iconst dX12_whole_9 rfl ?_
    refine z_callVv vX12_wrong kX12_268 dX12_whole_10 rfl (zRo_d d) (as := [vi 1]) (rest := []) (Nat.le_of_ble_eq_true rfl) rfl rfl (zCv_mono (fun h14 k => ?_) k)
    refine z_goto (tgt := 33) dX12_whole_13 rfl ?_
    refine z_aload_n 0 dX12_whole_33 rfl rfl (Nat.le_of_ble_eq_true rfl) rfl ?_
    refine z_getI 12 (x := (h14 466 10)) fX12_208 rfl dX12_whole_34 rfl rfl ?_
    obtain ⟨r1, ka, kb⟩ := k
    refine z_if_le (tgt := 44) dX12_whole_37 rfl r1 rfl ⟨fun q => ?_, fun q => ?_⟩
    · have k := ka q
      refine z_aload_n 0 dX12_whole_44 rfl rfl (Nat.le_of_ble_eq_true rfl) rfl ?_
      refine z_getI 12 (x := (h14 466 9)) fX12_252 rfl dX12_whole_45 rfl rfl ?_
      refine z_istore_n 3 dX12_whole_48 rfl (Nat.le_of_ble_eq_true rfl) (L' := [some (vr 12 466), some (vi l1), some (vi l2), some (vi (h14 466 9))]) rfl rfl ?_
      refine z_aload_n 0 dX12_whole_49 rfl rfl (Nat.le_of_ble_eq_true rfl) rfl ?_
      refine z_callVv vX12_next kX12_262 dX12_whole_50 rfl (zRo_d d) (as := []) (rest := []) (Nat.le_of_ble_eq_true rfl) rfl rfl (zCv_mono (fun h16 k => ?_) k)
      refine z_iload_n 3 dX12_whole_53 rfl rfl rfl ?_
      exact z_ireturn rfl dX12_whole_54 ⟨_, rfl, k⟩
    · have k := kb q
      refine z_iload_n 1 dX12_whole_40 rfl rfl rfl ?_
      refine z_goto (tgt := 48) dX12_whole_41 rfl ?_
      refine z_istore_n 3 dX12_whole_48 rfl (Nat.le_of_ble_eq_true rfl) (L' := [some (vr 12 466), some (vi l1), some (vi l2), some (vi l1)]) rfl rfl ?_
      refine z_aload_n 0 dX12_whole_49 rfl rfl (Nat.le_of_ble_eq_true rfl) rfl ?_
      refine z_callVv vX12_next kX12_262 dX12_whole_50 rfl (zRo_d d) (as := []) (rest := []) (Nat.le_of_ble_eq_true rfl) rfl rfl (zCv_mono (fun h18 k => ?_) k)
      refine z_iload_n 3 dX12_whole_53 rfl rfl rfl ?_
      exact z_ireturn rfl dX12_whole_54 ⟨_, rfl, k⟩
theorem eX12_whole {G : zG} {d : Nat} {K : Int → zH → Prop} {l1 : Int} {l2 : Int} {h : zH} (k : tX12_whole_0 G d K l1 l2 h) : zCi G (d + 1) mX12_whole [vr 12 466, vi l1, vi l2] h K := z_entry (by decide +kernel) (Nat.le_of_ble_eq_true rfl) rfl k
def tX12_lays_0 (G : zG) (d : Nat) (K : zH → Prop) (l1 : Int) (h : zH) : Prop := zTv G d mX12_lays K 0 [some (vr 12 466), some (vl l1), none, none] [] h
def tX12_lays_2 (G : zG) (d : Nat) (K : zH → Prop) (l1 : Int) (l3 : Int) (h : zH) : Prop := zTv G d mX12_lays K 2 [some (vr 12 466), some (vl l1), none, some (vi l3)] [] h
theorem bX12_lays_0 {G : zG} {d : Nat} {K : zH → Prop} {l1 : Int} {h : zH} (k : tX12_lays_2 G d K l1 0 h) : tX12_lays_0 G d K l1 h := by
  unfold tX12_lays_0
  refine z_iconst dX12_lays_0 rfl ?_
  refine z_istore_n 3 dX12_lays_1 rfl (Nat.le_of_ble_eq_true rfl) (L' := [some (vr 12 466), some (vl l1), none, some (vi 0)]) rfl rfl ?_
  exact z_sub (L' := [some (vr 12 466), some (vl l1), none, some (vi 0)]) (And.intro rfl (And.intro rfl (And.intro rfl trivial))) k
theorem bX12_lays_2 {G : zG} {d : Nat} {K : zH → Prop} {l1 : Int} {l3 : Int} {h : zH} (k : zR l3 ∧ (1024 ≤ l3 → K (zup h 466 13 ((h 466 13) + 1))) ∧ (¬ 1024 ≤ l3 → ((0 : Int) ≤ (((h 466 13) * 1024) + l3) ∧ (((h 466 13) * 1024) + l3) < 28672) ∧ tX12_lays_2 G d K l1 (l3 + 1) (zup h 468 (((h 466 13) * 1024) + l3) l1))) : tX12_lays_2 G d K l1 l3 h := by
  unfold tX12_lays_2
  refine z_iload_n 3 dX12_lays_2 rfl rfl rfl ?_
  refine z_sipush dX12_lays_3 rfl rfl ?_
  obtain ⟨r1, ka, kb⟩ := k
  refine z_icmp_ge (tgt := 31) dX12_lays_6 rfl r1 ⟨by decide, by decide⟩ rfl ⟨fun q => ?_, fun q => ?_⟩
  · have k := ka q
    refine z_aload_n 0 dX12_lays_31 rfl rfl (Nat.le_of_ble_eq_true rfl) rfl ?_
    refine z_dup dX12_lays_32 (fun q => by cases q) rfl ?_
    refine z_getI 12 (x := (h 466 13)) fX12_301 rfl dX12_lays_33 rfl rfl ?_
    refine z_iconst dX12_lays_36 rfl ?_
    refine z_iadd dX12_lays_37 rfl ?_
    refine z_putI 12 gX12_301 dX12_lays_38 rfl ?_
    exact z_return rfl dX12_lays_41 ⟨rfl, k⟩
  · have k := kb q
    refine z_aload_n 0 dX12_lays_9 rfl rfl (Nat.le_of_ble_eq_true rfl) rfl ?_
    refine z_getF 12 14 (x := 468) fX12_17 rfl dX12_lays_10 rfl rfl ?_
    refine z_aload_n 0 dX12_lays_13 rfl rfl (Nat.le_of_ble_eq_true rfl) rfl ?_
    refine z_getI 12 (x := (h 466 13)) fX12_301 rfl dX12_lays_14 rfl rfl ?_
    refine z_sipush dX12_lays_17 rfl rfl ?_
    refine z_imul dX12_lays_20 rfl ?_
    refine z_iload_n 3 dX12_lays_21 rfl rfl rfl ?_
    refine z_iadd dX12_lays_22 rfl ?_
    refine z_lload_n 1 dX12_lays_23 rfl rfl rfl ?_
    obtain ⟨i9, k⟩ := k
    refine z_last dX12_lays_24 (by rw [zl_468]; exact i9) rfl ?_
    refine z_iinc dX12_lays_25 rfl (Nat.le_of_ble_eq_true rfl) (L' := [some (vr 12 466), some (vl l1), none, some (vi (l3 + 1))]) rfl rfl ?_
    refine z_goto (tgt := 2) dX12_lays_28 rfl ?_
    exact z_sub (L' := [some (vr 12 466), some (vl l1), none, some (vi (l3 + 1))]) (And.intro rfl (And.intro rfl (And.intro rfl trivial))) k
theorem eX12_lays {G : zG} {d : Nat} {K : zH → Prop} {l1 : Int} {h : zH} (k : tX12_lays_0 G d K l1 h) : zCv G d mX12_lays [vr 12 466, vl l1] h K := z_entry (by decide +kernel) (Nat.le_of_ble_eq_true rfl) rfl k
def tX12_laysRange_0 (G : zG) (d : Nat) (K : zH → Prop) (l1 : Int) (l2 : Int) (h : zH) : Prop := zTv G d mX12_laysRange K 0 [some (vr 12 466), some (vi l1), some (vi l2), none, none, none, none, none, none] [] h
def tX12_laysRange_27 (G : zG) (d : Nat) (K : zH → Prop) (l1 : Int) (l2 : Int) (l3 : Int) (l4 : Int) (l5 : Int) (l6 : Int) (h : zH) : Prop := zTv G d mX12_laysRange K 27 [some (vr 12 466), some (vi l1), some (vi l2), some (vi l3), some (vi l4), some (vi l5), some (vi l6), none, none] [] h
theorem bX12_laysRange_0 {G : zG} {d : Nat} {K : zH → Prop} {l1 : Int} {l2 : Int} {h : zH} (k : (0 ≤ l1 ∧ l1 < 2147483648) ∧ (0 ≤ l2 ∧ l2 < 2147483648) ∧ tX12_laysRange_27 G d K l1 l2 (((h 466 13) - 1) * 1024) (l1 / 64) (l2 / 64) (l1 / 64) h) : tX12_laysRange_0 G d K l1 l2 h := by
  unfold tX12_laysRange_0
  refine z_aload_n 0 dX12_laysRange_0 rfl rfl (Nat.le_of_ble_eq_true rfl) rfl ?_
  refine z_getI 12 (x := (h 466 13)) fX12_301 rfl dX12_laysRange_1 rfl rfl ?_
  refine z_iconst dX12_laysRange_4 rfl ?_
  refine z_isub dX12_laysRange_5 rfl ?_
  refine z_sipush dX12_laysRange_6 rfl rfl ?_
  refine z_imul dX12_laysRange_9 rfl ?_
  refine z_istore_n 3 dX12_laysRange_10 rfl (Nat.le_of_ble_eq_true rfl) (L' := [some (vr 12 466), some (vi l1), some (vi l2), some (vi (((h 466 13) - 1) * 1024)), none, none, none, none, none]) rfl rfl ?_
  refine z_iload_n 1 dX12_laysRange_11 rfl rfl rfl ?_
  refine z_bipush dX12_laysRange_12 rfl rfl ?_
  obtain ⟨i9, k⟩ := k
  refine z_idiv dX12_laysRange_14 ⟨i9.1, i9.2, by decide, by decide⟩ rfl ?_
  refine z_istore dX12_laysRange_15 (Nat.le_of_ble_eq_true rfl) (L' := [some (vr 12 466), some (vi l1), some (vi l2), some (vi (((h 466 13) - 1) * 1024)), some (vi (l1 / 64)), none, none, none, none]) rfl rfl ?_
  refine z_iload_n 2 dX12_laysRange_17 rfl rfl rfl ?_
  refine z_bipush dX12_laysRange_18 rfl rfl ?_
  obtain ⟨i9, k⟩ := k
  refine z_idiv dX12_laysRange_20 ⟨i9.1, i9.2, by decide, by decide⟩ rfl ?_
  refine z_istore dX12_laysRange_21 (Nat.le_of_ble_eq_true rfl) (L' := [some (vr 12 466), some (vi l1), some (vi l2), some (vi (((h 466 13) - 1) * 1024)), some (vi (l1 / 64)), some (vi (l2 / 64)), none, none, none]) rfl rfl ?_
  refine z_iload dX12_laysRange_23 rfl rfl ?_
  refine z_istore dX12_laysRange_25 (Nat.le_of_ble_eq_true rfl) (L' := [some (vr 12 466), some (vi l1), some (vi l2), some (vi (((h 466 13) - 1) * 1024)), some (vi (l1 / 64)), some (vi (l2 / 64)), some (vi (l1 / 64)), none, none]) rfl rfl ?_
  exact z_sub (L' := [some (vr 12 466), some (vi l1), some (vi l2), some (vi (((h 466 13) - 1) * 1024)), some (vi (l1 / 64)), some (vi (l2 / 64)), some (vi (l1 / 64)), none, none]) (And.intro rfl (And.intro rfl (And.intro rfl (And.intro rfl (And.intro rfl (And.intro rfl (And.intro rfl trivial))))))) k
theorem bX12_laysRange_27 {G : zG} {d : Nat} {K : zH → Prop} {l1 : Int} {l2 : Int} {l3 : Int} {l4 : Int} {l5 : Int} {l6 : Int} {h : zH} (k : zR l6 ∧ zR l5 ∧ (l5 < l6 → K h) ∧ (¬ l5 < l6 → zR l6 ∧ zR l4 ∧ (¬ l6 = l4 → zR l6 ∧ zR l5 ∧ (¬ l6 = l5 → ((0 : Int) ≤ (l3 + l6) ∧ (l3 + l6) < 28672) ∧ ((0 : Int) ≤ (l3 + l6) ∧ (l3 + l6) < 28672) ∧ tX12_laysRange_27 G d K l1 l2 l3 l4 l5 (l6 + 1) (zup h 468 (l3 + l6) (zlor (h 468 (l3 + l6)) (-1)))) ∧ (l6 = l5 → (0 ≤ l2 ∧ l2 < 2147483648) ∧ ((0 : Int) ≤ (l3 + l6) ∧ (l3 + l6) < 28672) ∧ ((0 : Int) ≤ (l3 + l6) ∧ (l3 + l6) < 28672) ∧ tX12_laysRange_27 G d K l1 l2 l3 l4 l5 (l6 + 1) (zup h 468 (l3 + l6) (zlor (h 468 (l3 + l6)) (zland (-1) (zlushr (-1) (63 - (l2 % 64)))))))) ∧ (l6 = l4 → (0 ≤ l1 ∧ l1 < 2147483648) ∧ zR l6 ∧ zR l5 ∧ (¬ l6 = l5 → ((0 : Int) ≤ (l3 + l6) ∧ (l3 + l6) < 28672) ∧ ((0 : Int) ≤ (l3 + l6) ∧ (l3 + l6) < 28672) ∧ tX12_laysRange_27 G d K l1 l2 l3 l4 l5 (l6 + 1) (zup h 468 (l3 + l6) (zlor (h 468 (l3 + l6)) (zland (-1) (zlshl (-1) (l1 % 64)))))) ∧ (l6 = l5 → (0 ≤ l2 ∧ l2 < 2147483648) ∧ ((0 : Int) ≤ (l3 + l6) ∧ (l3 + l6) < 28672) ∧ ((0 : Int) ≤ (l3 + l6) ∧ (l3 + l6) < 28672) ∧ tX12_laysRange_27 G d K l1 l2 l3 l4 l5 (l6 + 1) (zup h 468 (l3 + l6) (zlor (h 468 (l3 + l6)) (zland (zland (-1) (zlshl (-1) (l1 % 64))) (zlushr (-1) (63 - (l2 % 64)))))))))) : tX12_laysRange_27 G d K l1 l2 l3 l4 l5 l6 h := by
  unfold tX12_laysRange_27
  refine z_iload dX12_laysRange_27 rfl rfl ?_
  refine z_iload dX12_laysRange_29 rfl rfl ?_
  obtain ⟨r1, r2, ka, kb⟩ := k
  refine z_icmp_gt (tgt := 102) dX12_laysRange_31 rfl r1 r2 rfl ⟨fun q => ?_, fun q => ?_⟩
  · have k := ka q
    exact z_return rfl dX12_laysRange_102 ⟨rfl, k⟩
  · have k := kb q
    refine z_ldc2 (x := (-1)) cX12_304 rfl dX12_laysRange_34 rfl ?_
    refine z_lstore dX12_laysRange_37 (Nat.le_of_ble_eq_true rfl) (L' := [some (vr 12 466), some (vi l1), some (vi l2), some (vi l3), some (vi l4), some (vi l5), some (vi l6), some (vl (-1)), none]) rfl rfl ?_
    refine z_iload dX12_laysRange_39 rfl rfl ?_
    refine z_iload dX12_laysRange_41 rfl rfl ?_
    obtain ⟨r1, r2, ka, kb⟩ := k
    refine z_icmp_ne (tgt := 59) dX12_laysRange_43 rfl r1 r2 rfl ⟨fun q => ?_, fun q => ?_⟩
    · have k := ka q
      refine z_iload dX12_laysRange_59 rfl rfl ?_
      refine z_iload dX12_laysRange_61 rfl rfl ?_
      obtain ⟨r1, r2, ka, kb⟩ := k
      refine z_icmp_ne (tgt := 82) dX12_laysRange_63 rfl r1 r2 rfl ⟨fun q => ?_, fun q => ?_⟩
      · have k := ka q
        refine z_aload_n 0 dX12_laysRange_82 rfl rfl (Nat.le_of_ble_eq_true rfl) rfl ?_
        refine z_getF 12 14 (x := 468) fX12_17 rfl dX12_laysRange_83 rfl rfl ?_
        refine z_iload_n 3 dX12_laysRange_86 rfl rfl rfl ?_
        refine z_iload dX12_laysRange_87 rfl rfl ?_
        refine z_iadd dX12_laysRange_89 rfl ?_
        refine z_dup2 dX12_laysRange_90 (fun q => by cases q) (fun q => by cases q) rfl ?_
        obtain ⟨i9, k⟩ := k
        refine z_lald (x := (h 468 (l3 + l6))) dX12_laysRange_91 (by rw [zl_468]; exact i9) rfl rfl ?_
        refine z_lload dX12_laysRange_92 rfl rfl ?_
        refine z_lor dX12_laysRange_94 rfl ?_
        obtain ⟨i9, k⟩ := k
        refine z_last dX12_laysRange_95 (by rw [zl_468]; exact i9) rfl ?_
        refine z_iinc dX12_laysRange_96 rfl (Nat.le_of_ble_eq_true rfl) (L' := [some (vr 12 466), some (vi l1), some (vi l2), some (vi l3), some (vi l4), some (vi l5), some (vi (l6 + 1)), some (vl (-1)), none]) rfl rfl ?_
        refine z_goto (tgt := 27) dX12_laysRange_99 rfl ?_
        exact z_sub (L' := [some (vr 12 466), some (vi l1), some (vi l2), some (vi l3), some (vi l4), some (vi l5), some (vi (l6 + 1)), none, none]) (And.intro rfl (And.intro rfl (And.intro rfl (And.intro rfl (And.intro rfl (And.intro rfl (And.intro rfl trivial))))))) k
      · have k := kb q
        refine z_lload dX12_laysRange_66 rfl rfl ?_
        refine z_ldc2 (x := (-1)) cX12_304 rfl dX12_laysRange_68 rfl ?_
        refine z_bipush dX12_laysRange_71 rfl rfl ?_
        refine z_iload_n 2 dX12_laysRange_73 rfl rfl rfl ?_
        refine z_bipush dX12_laysRange_74 rfl rfl ?_
        obtain ⟨i9, k⟩ := k
        refine z_irem dX12_laysRange_76 ⟨i9.1, i9.2, by decide, by decide⟩ rfl ?_
        refine z_isub dX12_laysRange_77 rfl ?_
        refine z_lushr dX12_laysRange_78 rfl ?_
        refine z_land dX12_laysRange_79 rfl ?_
        refine z_lstore dX12_laysRange_80 (Nat.le_of_ble_eq_true rfl) (L' := [some (vr 12 466), some (vi l1), some (vi l2), some (vi l3), some (vi l4), some (vi l5), some (vi l6), some (vl (zland (-1) (zlushr (-1) (63 - (l2 % 64))))), none]) rfl rfl ?_
        refine z_aload_n 0 dX12_laysRange_82 rfl rfl (Nat.le_of_ble_eq_true rfl) rfl ?_
        refine z_getF 12 14 (x := 468) fX12_17 rfl dX12_laysRange_83 rfl rfl ?_
        refine z_iload_n 3 dX12_laysRange_86 rfl rfl rfl ?_
        refine z_iload dX12_laysRange_87 rfl rfl ?_
        refine z_iadd dX12_laysRange_89 rfl ?_
        refine z_dup2 dX12_laysRange_90 (fun q => by cases q) (fun q => by cases q) rfl ?_
        obtain ⟨i9, k⟩ := k
        refine z_lald (x := (h 468 (l3 + l6))) dX12_laysRange_91 (by rw [zl_468]; exact i9) rfl rfl ?_
        refine z_lload dX12_laysRange_92 rfl rfl ?_
        refine z_lor dX12_laysRange_94 rfl ?_
        obtain ⟨i9, k⟩ := k
        refine z_last dX12_laysRange_95 (by rw [zl_468]; exact i9) rfl ?_
        refine z_iinc dX12_laysRange_96 rfl (Nat.le_of_ble_eq_true rfl) (L' := [some (vr 12 466), some (vi l1), some (vi l2), some (vi l3), some (vi l4), some (vi l5), some (vi (l6 + 1)), some (vl (zland (-1) (zlushr (-1) (63 - (l2 % 64))))), none]) rfl rfl ?_
        refine z_goto (tgt := 27) dX12_laysRange_99 rfl ?_
        exact z_sub (L' := [some (vr 12 466), some (vi l1), some (vi l2), some (vi l3), some (vi l4), some (vi l5), some (vi (l6 + 1)), none, none]) (And.intro rfl (And.intro rfl (And.intro rfl (And.intro rfl (And.intro rfl (And.intro rfl (And.intro rfl trivial))))))) k
    · have k := kb q
      refine z_lload dX12_laysRange_46 rfl rfl ?_
      refine z_ldc2 (x := (-1)) cX12_304 rfl dX12_laysRange_48 rfl ?_
      refine z_iload_n 1 dX12_laysRange_51 rfl rfl rfl ?_
      refine z_bipush dX12_laysRange_52 rfl rfl ?_
      obtain ⟨i9, k⟩ := k
      refine z_irem dX12_laysRange_54 ⟨i9.1, i9.2, by decide, by decide⟩ rfl ?_
      refine z_lshl dX12_laysRange_55 rfl ?_
      refine z_land dX12_laysRange_56 rfl ?_
      refine z_lstore dX12_laysRange_57 (Nat.le_of_ble_eq_true rfl) (L' := [some (vr 12 466), some (vi l1), some (vi l2), some (vi l3), some (vi l4), some (vi l5), some (vi l6), some (vl (zland (-1) (zlshl (-1) (l1 % 64)))), none]) rfl rfl ?_
      refine z_iload dX12_laysRange_59 rfl rfl ?_
      refine z_iload dX12_laysRange_61 rfl rfl ?_
      obtain ⟨r1, r2, ka, kb⟩ := k
      refine z_icmp_ne (tgt := 82) dX12_laysRange_63 rfl r1 r2 rfl ⟨fun q => ?_, fun q => ?_⟩
      · have k := ka q
        refine z_aload_n 0 dX12_laysRange_82 rfl rfl (Nat.le_of_ble_eq_true rfl) rfl ?_
        refine z_getF 12 14 (x := 468) fX12_17 rfl dX12_laysRange_83 rfl rfl ?_
        refine z_iload_n 3 dX12_laysRange_86 rfl rfl rfl ?_
        refine z_iload dX12_laysRange_87 rfl rfl ?_
        refine z_iadd dX12_laysRange_89 rfl ?_
        refine z_dup2 dX12_laysRange_90 (fun q => by cases q) (fun q => by cases q) rfl ?_
        obtain ⟨i9, k⟩ := k
        refine z_lald (x := (h 468 (l3 + l6))) dX12_laysRange_91 (by rw [zl_468]; exact i9) rfl rfl ?_
        refine z_lload dX12_laysRange_92 rfl rfl ?_
        refine z_lor dX12_laysRange_94 rfl ?_
        obtain ⟨i9, k⟩ := k
        refine z_last dX12_laysRange_95 (by rw [zl_468]; exact i9) rfl ?_
        refine z_iinc dX12_laysRange_96 rfl (Nat.le_of_ble_eq_true rfl) (L' := [some (vr 12 466), some (vi l1), some (vi l2), some (vi l3), some (vi l4), some (vi l5), some (vi (l6 + 1)), some (vl (zland (-1) (zlshl (-1) (l1 % 64)))), none]) rfl rfl ?_
        refine z_goto (tgt := 27) dX12_laysRange_99 rfl ?_
        exact z_sub (L' := [some (vr 12 466), some (vi l1), some (vi l2), some (vi l3), some (vi l4), some (vi l5), some (vi (l6 + 1)), none, none]) (And.intro rfl (And.intro rfl (And.intro rfl (And.intro rfl (And.intro rfl (And.intro rfl (And.intro rfl trivial))))))) k
      · have k := kb q
        refine z_lload dX12_laysRange_66 rfl rfl ?_
        refine z_ldc2 (x := (-1)) cX12_304 rfl dX12_laysRange_68 rfl ?_
        refine z_bipush dX12_laysRange_71 rfl rfl ?_
        refine z_iload_n 2 dX12_laysRange_73 rfl rfl rfl ?_
        refine z_bipush dX12_laysRange_74 rfl rfl ?_
        obtain ⟨i9, k⟩ := k
        refine z_irem dX12_laysRange_76 ⟨i9.1, i9.2, by decide, by decide⟩ rfl ?_
        refine z_isub dX12_laysRange_77 rfl ?_
        refine z_lushr dX12_laysRange_78 rfl ?_
        refine z_land dX12_laysRange_79 rfl ?_
        refine z_lstore dX12_laysRange_80 (Nat.le_of_ble_eq_true rfl) (L' := [some (vr 12 466), some (vi l1), some (vi l2), some (vi l3), some (vi l4), some (vi l5), some (vi l6), some (vl (zland (zland (-1) (zlshl (-1) (l1 % 64))) (zlushr (-1) (63 - (l2 % 64))))), none]) rfl rfl ?_
        refine z_aload_n 0 dX12_laysRange_82 rfl rfl (Nat.le_of_ble_eq_true rfl) rfl ?_
        refine z_getF 12 14 (x := 468) fX12_17 rfl dX12_laysRange_83 rfl rfl ?_
        refine z_iload_n 3 dX12_laysRange_86 rfl rfl rfl ?_
        refine z_iload dX12_laysRange_87 rfl rfl ?_
        refine z_iadd dX12_laysRange_89 rfl ?_
        refine z_dup2 dX12_laysRange_90 (fun q => by cases q) (fun q => by cases q) rfl ?_
        obtain ⟨i9, k⟩ := k
        refine z_lald (x := (h 468 (l3 + l6))) dX12_laysRange_91 (by rw [zl_468]; exact i9) rfl rfl ?_
        refine z_lload dX12_laysRange_92 rfl rfl ?_
        refine z_lor dX12_laysRange_94 rfl ?_
        obtain ⟨i9, k⟩ := k
        refine z_last dX12_laysRange_95 (by rw [zl_468]; exact i9) rfl ?_
        refine z_iinc dX12_laysRange_96 rfl (Nat.le_of_ble_eq_true rfl) (L' := [some (vr 12 466), some (vi l1), some (vi l2), some (vi l3), some (vi l4), some (vi l5), some (vi (l6 + 1)), some (vl (zland (zland (-1) (zlshl (-1) (l1 % 64))) (zlushr (-1) (63 - (l2 % 64))))), none]) rfl rfl ?_
        refine z_goto (tgt := 27) dX12_laysRange_99 rfl ?_
        exact z_sub (L' := [some (vr 12 466), some (vi l1), some (vi l2), some (vi l3), some (vi l4), some (vi l5), some (vi (l6 + 1)), none, none]) (And.intro rfl (And.intro rfl (And.intro rfl (And.intro rfl (And.intro rfl (And.intro rfl (And.intro rfl trivial))))))) k
theorem eX12_laysRange {G : zG} {d : Nat} {K : zH → Prop} {l1 : Int} {l2 : Int} {h : zH} (k : tX12_laysRange_0 G d K l1 l2 h) : zCv G d mX12_laysRange [vr 12 466, vi l1, vi l2] h K := z_entry (by decide +kernel) (Nat.le_of_ble_eq_true rfl) rfl k
def tX12_joins_0 (G : zG) (d : Nat) (K : zH → Prop) (l1 : Int) (h : zH) : Prop := zTv G d mX12_joins K 0 [some (vr 12 466), some (vi l1), none, none, none, none] [] h
def tX12_joins_23 (G : zG) (d : Nat) (K : zH → Prop) (l1 : Int) (l2 : Int) (l3 : Int) (h : zH) : Prop := zTv G d mX12_joins K 23 [some (vr 12 466), some (vi l1), some (vi l2), some (vi l3), none, none] [] h
theorem bX12_joins_0 {G : zG} {d : Nat} {K : zH → Prop} {l1 : Int} {h : zH} (k : tX12_joins_23 G d K l1 ((((h 466 13) - 1) - 1) * 1024) 0 (zup h 466 13 ((h 466 13) - 1))) : tX12_joins_0 G d K l1 h := by
  unfold tX12_joins_0
  refine z_aload_n 0 dX12_joins_0 rfl rfl (Nat.le_of_ble_eq_true rfl) rfl ?_
  refine z_dup dX12_joins_1 (fun q => by cases q) rfl ?_
  refine z_getI 12 (x := (h 466 13)) fX12_301 rfl dX12_joins_2 rfl rfl ?_
  refine z_iconst dX12_joins_5 rfl ?_
  refine z_isub dX12_joins_6 rfl ?_
  refine z_putI 12 gX12_301 dX12_joins_7 rfl ?_
  refine z_aload_n 0 dX12_joins_10 rfl rfl (Nat.le_of_ble_eq_true rfl) rfl ?_
  refine z_getI 12 (x := ((h 466 13) - 1)) fX12_301 rfl dX12_joins_11 (by simp [zup]) rfl ?_
  refine z_iconst dX12_joins_14 rfl ?_
  refine z_isub dX12_joins_15 rfl ?_
  refine z_sipush dX12_joins_16 rfl rfl ?_
  refine z_imul dX12_joins_19 rfl ?_
  refine z_istore_n 2 dX12_joins_20 rfl (Nat.le_of_ble_eq_true rfl) (L' := [some (vr 12 466), some (vi l1), some (vi ((((h 466 13) - 1) - 1) * 1024)), none, none, none]) rfl rfl ?_
  refine z_iconst dX12_joins_21 rfl ?_
  refine z_istore_n 3 dX12_joins_22 rfl (Nat.le_of_ble_eq_true rfl) (L' := [some (vr 12 466), some (vi l1), some (vi ((((h 466 13) - 1) - 1) * 1024)), some (vi 0), none, none]) rfl rfl ?_
  exact z_sub (L' := [some (vr 12 466), some (vi l1), some (vi ((((h 466 13) - 1) - 1) * 1024)), some (vi 0), none, none]) (And.intro rfl (And.intro rfl (And.intro rfl (And.intro rfl trivial)))) k
theorem bX12_joins_23 {G : zG} {d : Nat} {K : zH → Prop} {l1 : Int} {l2 : Int} {l3 : Int} {h : zH} (k : zR l3 ∧ (1024 ≤ l3 → K h) ∧ (¬ 1024 ≤ l3 → ((0 : Int) ≤ (((h 466 13) * 1024) + l3) ∧ (((h 466 13) * 1024) + l3) < 28672) ∧ zR l1 ∧ (¬ l1 = 124 → zR l1 ∧ (¬ l1 = 38 → ((0 : Int) ≤ (l2 + l3) ∧ (l2 + l3) < 28672) ∧ ((0 : Int) ≤ (l2 + l3) ∧ (l2 + l3) < 28672) ∧ tX12_joins_23 G d K l1 l2 (l3 + 1) (zup h 468 (l2 + l3) (zland (h 468 (l2 + l3)) (zlxor (h 468 (((h 466 13) * 1024) + l3)) (-1))))) ∧ (l1 = 38 → ((0 : Int) ≤ (l2 + l3) ∧ (l2 + l3) < 28672) ∧ ((0 : Int) ≤ (l2 + l3) ∧ (l2 + l3) < 28672) ∧ tX12_joins_23 G d K l1 l2 (l3 + 1) (zup h 468 (l2 + l3) (zland (h 468 (l2 + l3)) (h 468 (((h 466 13) * 1024) + l3)))))) ∧ (l1 = 124 → ((0 : Int) ≤ (l2 + l3) ∧ (l2 + l3) < 28672) ∧ ((0 : Int) ≤ (l2 + l3) ∧ (l2 + l3) < 28672) ∧ tX12_joins_23 G d K l1 l2 (l3 + 1) (zup h 468 (l2 + l3) (zlor (h 468 (l2 + l3)) (h 468 (((h 466 13) * 1024) + l3))))))) : tX12_joins_23 G d K l1 l2 l3 h := by
  unfold tX12_joins_23
  refine z_iload_n 3 dX12_joins_23 rfl rfl rfl ?_
  refine z_sipush dX12_joins_24 rfl rfl ?_
  obtain ⟨r1, ka, kb⟩ := k
  refine z_icmp_ge (tgt := 116) dX12_joins_27 rfl r1 ⟨by decide, by decide⟩ rfl ⟨fun q => ?_, fun q => ?_⟩
  · have k := ka q
    exact z_return rfl dX12_joins_116 ⟨rfl, k⟩
  · have k := kb q
    refine z_aload_n 0 dX12_joins_30 rfl rfl (Nat.le_of_ble_eq_true rfl) rfl ?_
    refine z_getF 12 14 (x := 468) fX12_17 rfl dX12_joins_31 rfl rfl ?_
    refine z_aload_n 0 dX12_joins_34 rfl rfl (Nat.le_of_ble_eq_true rfl) rfl ?_
    refine z_getI 12 (x := (h 466 13)) fX12_301 rfl dX12_joins_35 rfl rfl ?_
    refine z_sipush dX12_joins_38 rfl rfl ?_
    refine z_imul dX12_joins_41 rfl ?_
    refine z_iload_n 3 dX12_joins_42 rfl rfl rfl ?_
    refine z_iadd dX12_joins_43 rfl ?_
    obtain ⟨i9, k⟩ := k
    refine z_lald (x := (h 468 (((h 466 13) * 1024) + l3))) dX12_joins_44 (by rw [zl_468]; exact i9) rfl rfl ?_
    refine z_lstore dX12_joins_45 (Nat.le_of_ble_eq_true rfl) (L' := [some (vr 12 466), some (vi l1), some (vi l2), some (vi l3), some (vl (h 468 (((h 466 13) * 1024) + l3))), none]) rfl rfl ?_
    refine z_aload_n 0 dX12_joins_47 rfl rfl (Nat.le_of_ble_eq_true rfl) rfl ?_
    refine z_getF 12 14 (x := 468) fX12_17 rfl dX12_joins_48 rfl rfl ?_
    refine z_iload_n 2 dX12_joins_51 rfl rfl rfl ?_
    refine z_iload_n 3 dX12_joins_52 rfl rfl rfl ?_
    refine z_iadd dX12_joins_53 rfl ?_
    refine z_iload_n 1 dX12_joins_54 rfl rfl rfl ?_
    refine z_bipush dX12_joins_55 rfl rfl ?_
    obtain ⟨r1, ka, kb⟩ := k
    refine z_icmp_ne (tgt := 74) dX12_joins_57 rfl r1 ⟨by decide, by decide⟩ rfl ⟨fun q => ?_, fun q => ?_⟩
    · have k := ka q
      refine z_iload_n 1 dX12_joins_74 rfl rfl rfl ?_
      refine z_bipush dX12_joins_75 rfl rfl ?_
      obtain ⟨r1, ka, kb⟩ := k
      refine z_icmp_ne (tgt := 94) dX12_joins_77 rfl r1 ⟨by decide, by decide⟩ rfl ⟨fun q => ?_, fun q => ?_⟩
      · have k := ka q
        refine z_aload_n 0 dX12_joins_94 rfl rfl (Nat.le_of_ble_eq_true rfl) rfl ?_
        refine z_getF 12 14 (x := 468) fX12_17 rfl dX12_joins_95 rfl rfl ?_
        refine z_iload_n 2 dX12_joins_98 rfl rfl rfl ?_
        refine z_iload_n 3 dX12_joins_99 rfl rfl rfl ?_
        refine z_iadd dX12_joins_100 rfl ?_
        obtain ⟨i9, k⟩ := k
        refine z_lald (x := (h 468 (l2 + l3))) dX12_joins_101 (by rw [zl_468]; exact i9) rfl rfl ?_
        refine z_lload dX12_joins_102 rfl rfl ?_
        refine z_ldc2 (x := (-1)) cX12_304 rfl dX12_joins_104 rfl ?_
        refine z_lxor dX12_joins_107 rfl ?_
        refine z_land dX12_joins_108 rfl ?_
        obtain ⟨i9, k⟩ := k
        refine z_last dX12_joins_109 (by rw [zl_468]; exact i9) rfl ?_
        refine z_iinc dX12_joins_110 rfl (Nat.le_of_ble_eq_true rfl) (L' := [some (vr 12 466), some (vi l1), some (vi l2), some (vi (l3 + 1)), some (vl (h 468 (((h 466 13) * 1024) + l3))), none]) rfl rfl ?_
        refine z_goto (tgt := 23) dX12_joins_113 rfl ?_
        exact z_sub (L' := [some (vr 12 466), some (vi l1), some (vi l2), some (vi (l3 + 1)), none, none]) (And.intro rfl (And.intro rfl (And.intro rfl (And.intro rfl trivial)))) k
      · have k := kb q
        refine z_aload_n 0 dX12_joins_80 rfl rfl (Nat.le_of_ble_eq_true rfl) rfl ?_
        refine z_getF 12 14 (x := 468) fX12_17 rfl dX12_joins_81 rfl rfl ?_
        refine z_iload_n 2 dX12_joins_84 rfl rfl rfl ?_
        refine z_iload_n 3 dX12_joins_85 rfl rfl rfl ?_
        refine z_iadd dX12_joins_86 rfl ?_
        obtain ⟨i9, k⟩ := k
        refine z_lald (x := (h 468 (l2 + l3))) dX12_joins_87 (by rw [zl_468]; exact i9) rfl rfl ?_
        refine z_lload dX12_joins_88 rfl rfl ?_
        refine z_land dX12_joins_90 rfl ?_
        refine z_goto (tgt := 109) dX12_joins_91 rfl ?_
        obtain ⟨i9, k⟩ := k
        refine z_last dX12_joins_109 (by rw [zl_468]; exact i9) rfl ?_
        refine z_iinc dX12_joins_110 rfl (Nat.le_of_ble_eq_true rfl) (L' := [some (vr 12 466), some (vi l1), some (vi l2), some (vi (l3 + 1)), some (vl (h 468 (((h 466 13) * 1024) + l3))), none]) rfl rfl ?_
        refine z_goto (tgt := 23) dX12_joins_113 rfl ?_
        exact z_sub (L' := [some (vr 12 466), some (vi l1), some (vi l2), some (vi (l3 + 1)), none, none]) (And.intro rfl (And.intro rfl (And.intro rfl (And.intro rfl trivial)))) k
    · have k := kb q
      refine z_aload_n 0 dX12_joins_60 rfl rfl (Nat.le_of_ble_eq_true rfl) rfl ?_
      refine z_getF 12 14 (x := 468) fX12_17 rfl dX12_joins_61 rfl rfl ?_
      refine z_iload_n 2 dX12_joins_64 rfl rfl rfl ?_
      refine z_iload_n 3 dX12_joins_65 rfl rfl rfl ?_
      refine z_iadd dX12_joins_66 rfl ?_
      obtain ⟨i9, k⟩ := k
      refine z_lald (x := (h 468 (l2 + l3))) dX12_joins_67 (by rw [zl_468]; exact i9) rfl rfl ?_
      refine z_lload dX12_joins_68 rfl rfl ?_
      refine z_lor dX12_joins_70 rfl ?_
      refine z_goto (tgt := 109) dX12_joins_71 rfl ?_
      obtain ⟨i9, k⟩ := k
      refine z_last dX12_joins_109 (by rw [zl_468]; exact i9) rfl ?_
      refine z_iinc dX12_joins_110 rfl (Nat.le_of_ble_eq_true rfl) (L' := [some (vr 12 466), some (vi l1), some (vi l2), some (vi (l3 + 1)), some (vl (h 468 (((h 466 13) * 1024) + l3))), none]) rfl rfl ?_
      refine z_goto (tgt := 23) dX12_joins_113 rfl ?_
      exact z_sub (L' := [some (vr 12 466), some (vi l1), some (vi l2), some (vi (l3 + 1)), none, none]) (And.intro rfl (And.intro rfl (And.intro rfl (And.intro rfl trivial)))) k
theorem eX12_joins {G : zG} {d : Nat} {K : zH → Prop} {l1 : Int} {h : zH} (k : tX12_joins_0 G d K l1 h) : zCv G d mX12_joins [vr 12 466, vi l1] h K := z_entry (by decide +kernel) (Nat.le_of_ble_eq_true rfl) rfl k
def tX12_readBody_0 (G : zG) (d : Nat) (K : zH → Prop) (h : zH) : Prop := zTv G (d + 1) mX12_readBody K 0 [some (vr 12 466)] [] h
def tX12_readBody_4 (G : zG) (d : Nat) (K : zH → Prop) (h : zH) : Prop := zTv G (d + 1) mX12_readBody K 4 [some (vr 12 466)] [] h
theorem bX12_readBody_0 {G : zG} {d : Nat} {K : zH → Prop} {h : zH} (k : zCv G d mX12_readMeet [vr 12 466] h (fun h2 => tX12_readBody_4 G d K h2)) : tX12_readBody_0 G d K h := by
  unfold tX12_readBody_0
  refine z_aload_n 0 dX12_readBody_0 rfl rfl (Nat.le_of_ble_eq_true rfl) rfl ?_
  refine z_callVv vX12_readMeet kX12_306 dX12_readBody_1 rfl (zRo_d d) (as := []) (rest := []) (Nat.le_of_ble_eq_true rfl) rfl rfl (zCv_mono (fun h2 k => ?_) k)
  exact z_sub (L' := [some (vr 12 466)]) (And.intro rfl trivial) k
theorem bX12_readBody_4 {G : zG} {d : Nat} {K : zH → Prop} {h : zH} (k : zCb G d mX12_passes [vr 12 466, vi 124] h (fun x1 h2 => (x1 = false → K h2) ∧ (x1 = true → zCv G d mX12_readMeet [vr 12 466] h2 (fun h4 => zCv G d mX12_joins [vr 12 466, vi 124] h4 (fun h6 => tX12_readBody_4 G d K h6))))) : tX12_readBody_4 G d K h := by
  unfold tX12_readBody_4
  refine z_aload_n 0 dX12_readBody_4 rfl rfl (Nat.le_of_ble_eq_true rfl) rfl ?_
  refine z_bipush dX12_readBody_5 rfl rfl ?_
  refine z_callVb vX12_passes kX12_265 dX12_readBody_7 rfl (zRo_d d) (as := [vi 124]) (rest := []) (Nat.le_of_ble_eq_true rfl) rfl rfl (zCb_mono (fun x1 h2 k => ?_) k)
  obtain ⟨ka, kb⟩ := k
  refine z_ifb_eq (tgt := 26) dX12_readBody_10 rfl rfl ⟨fun q => ?_, fun q => ?_⟩
  · have k := ka q
    exact z_return rfl dX12_readBody_26 ⟨rfl, k⟩
  · have k := kb q
    refine z_aload_n 0 dX12_readBody_13 rfl rfl (Nat.le_of_ble_eq_true rfl) rfl ?_
    refine z_callVv vX12_readMeet kX12_306 dX12_readBody_14 rfl (zRo_d d) (as := []) (rest := []) (Nat.le_of_ble_eq_true rfl) rfl rfl (zCv_mono (fun h4 k => ?_) k)
    refine z_aload_n 0 dX12_readBody_17 rfl rfl (Nat.le_of_ble_eq_true rfl) rfl ?_
    refine z_bipush dX12_readBody_18 rfl rfl ?_
    refine z_callVv vX12_joins kX12_309 dX12_readBody_20 rfl (zRo_d d) (as := [vi 124]) (rest := []) (Nat.le_of_ble_eq_true rfl) rfl rfl (zCv_mono (fun h6 k => ?_) k)
    refine z_goto (tgt := 4) dX12_readBody_23 rfl ?_
    exact z_sub (L' := [some (vr 12 466)]) (And.intro rfl trivial) k
theorem eX12_readBody {G : zG} {d : Nat} {K : zH → Prop} {h : zH} (k : tX12_readBody_0 G d K h) : zCv G (d + 1) mX12_readBody [vr 12 466] h K := z_entry (by decide +kernel) (Nat.le_of_ble_eq_true rfl) rfl k
def tX12_readMeet_0 (G : zG) (d : Nat) (K : zH → Prop) (h : zH) : Prop := zTv G (d + 1) mX12_readMeet K 0 [some (vr 12 466), none] [] h
def tX12_readMeet_4 (G : zG) (d : Nat) (K : zH → Prop) (h : zH) : Prop := zTv G (d + 1) mX12_readMeet K 4 [some (vr 12 466), none] [] h
theorem bX12_readMeet_0 {G : zG} {d : Nat} {K : zH → Prop} {h : zH} (k : zCv G d mX12_readPart [vr 12 466] h (fun h2 => tX12_readMeet_4 G d K h2)) : tX12_readMeet_0 G d K h := by
  unfold tX12_readMeet_0
  refine z_aload_n 0 dX12_readMeet_0 rfl rfl (Nat.le_of_ble_eq_true rfl) rfl ?_
  refine z_callVv vX12_readPart kX12_312 dX12_readMeet_1 rfl (zRo_d d) (as := []) (rest := []) (Nat.le_of_ble_eq_true rfl) rfl rfl (zCv_mono (fun h2 k => ?_) k)
  exact z_sub (L' := [some (vr 12 466), none]) (And.intro rfl trivial) k
theorem bX12_readMeet_4 {G : zG} {d : Nat} {K : zH → Prop} {h : zH} (k : zCb G d mX12_is [vr 12 466, vi 38] h (fun x1 h2 => (x1 = true → zCv G d mX12_next [vr 12 466] h2 (fun h4 => zCv G d mX12_readPart [vr 12 466] h4 (fun h6 => zCv G d mX12_joins [vr 12 466, vi (h2 466 9)] h6 (fun h8 => tX12_readMeet_4 G d K h8)))) ∧ (x1 = false → zCb G d mX12_is [vr 12 466, vi 45] h2 (fun x9 h10 => (x9 = false → K h10) ∧ (x9 = true → zCv G d mX12_next [vr 12 466] h10 (fun h12 => zCv G d mX12_readPart [vr 12 466] h12 (fun h14 => zCv G d mX12_joins [vr 12 466, vi (h10 466 9)] h14 (fun h16 => tX12_readMeet_4 G d K h16)))))))) : tX12_readMeet_4 G d K h := by
  unfold tX12_readMeet_4
  refine z_aload_n 0 dX12_readMeet_4 rfl rfl (Nat.le_of_ble_eq_true rfl) rfl ?_
  refine z_bipush dX12_readMeet_5 rfl rfl ?_
  refine z_callVb vX12_is kX12_259 dX12_readMeet_7 rfl (zRo_d d) (as := [vi 38]) (rest := []) (Nat.le_of_ble_eq_true rfl) rfl rfl (zCb_mono (fun x1 h2 k => ?_) k)
  obtain ⟨ka, kb⟩ := k
  refine z_ifb_ne (tgt := 22) dX12_readMeet_10 rfl rfl ⟨fun q => ?_, fun q => ?_⟩
  · have k := ka q
    refine z_aload_n 0 dX12_readMeet_22 rfl rfl (Nat.le_of_ble_eq_true rfl) rfl ?_
    refine z_getI 12 (x := (h2 466 9)) fX12_252 rfl dX12_readMeet_23 rfl rfl ?_
    refine z_istore_n 1 dX12_readMeet_26 rfl (Nat.le_of_ble_eq_true rfl) (L' := [some (vr 12 466), some (vi (h2 466 9))]) rfl rfl ?_
    refine z_aload_n 0 dX12_readMeet_27 rfl rfl (Nat.le_of_ble_eq_true rfl) rfl ?_
    refine z_callVv vX12_next kX12_262 dX12_readMeet_28 rfl (zRo_d d) (as := []) (rest := []) (Nat.le_of_ble_eq_true rfl) rfl rfl (zCv_mono (fun h4 k => ?_) k)
    refine z_aload_n 0 dX12_readMeet_31 rfl rfl (Nat.le_of_ble_eq_true rfl) rfl ?_
    refine z_callVv vX12_readPart kX12_312 dX12_readMeet_32 rfl (zRo_d d) (as := []) (rest := []) (Nat.le_of_ble_eq_true rfl) rfl rfl (zCv_mono (fun h6 k => ?_) k)
    refine z_aload_n 0 dX12_readMeet_35 rfl rfl (Nat.le_of_ble_eq_true rfl) rfl ?_
    refine z_iload_n 1 dX12_readMeet_36 rfl rfl rfl ?_
    refine z_callVv vX12_joins kX12_309 dX12_readMeet_37 rfl (zRo_d d) (as := [vi (h2 466 9)]) (rest := []) (Nat.le_of_ble_eq_true rfl) rfl rfl (zCv_mono (fun h8 k => ?_) k)
    refine z_goto (tgt := 4) dX12_readMeet_40 rfl ?_
    exact z_sub (L' := [some (vr 12 466), none]) (And.intro rfl trivial) k
  · have k := kb q
    refine z_aload_n 0 dX12_readMeet_13 rfl rfl (Nat.le_of_ble_eq_true rfl) rfl ?_
    refine z_bipush dX12_readMeet_14 rfl rfl ?_
    refine z_callVb vX12_is kX12_259 dX12_readMeet_16 rfl (zRo_d d) (as := [vi 45]) (rest := []) (Nat.le_of_ble_eq_true rfl) rfl rfl (zCb_mono (fun x9 h10 k => ?_) k)
    obtain ⟨ka, kb⟩ := k
    refine z_ifb_eq (tgt := 43) dX12_readMeet_19 rfl rfl ⟨fun q => ?_, fun q => ?_⟩
    · have k := ka q
      exact z_return rfl dX12_readMeet_43 ⟨rfl, k⟩
    · have k := kb q
      refine z_aload_n 0 dX12_readMeet_22 rfl rfl (Nat.le_of_ble_eq_true rfl) rfl ?_
      refine z_getI 12 (x := (h10 466 9)) fX12_252 rfl dX12_readMeet_23 rfl rfl ?_
      refine z_istore_n 1 dX12_readMeet_26 rfl (Nat.le_of_ble_eq_true rfl) (L' := [some (vr 12 466), some (vi (h10 466 9))]) rfl rfl ?_
      refine z_aload_n 0 dX12_readMeet_27 rfl rfl (Nat.le_of_ble_eq_true rfl) rfl ?_
      refine z_callVv vX12_next kX12_262 dX12_readMeet_28 rfl (zRo_d d) (as := []) (rest := []) (Nat.le_of_ble_eq_true rfl) rfl rfl (zCv_mono (fun h12 k => ?_) k)
      refine z_aload_n 0 dX12_readMeet_31 rfl rfl (Nat.le_of_ble_eq_true rfl) rfl ?_
      refine z_callVv vX12_readPart kX12_312 dX12_readMeet_32 rfl (zRo_d d) (as := []) (rest := []) (Nat.le_of_ble_eq_true rfl) rfl rfl (zCv_mono (fun h14 k => ?_) k)
      refine z_aload_n 0 dX12_readMeet_35 rfl rfl (Nat.le_of_ble_eq_true rfl) rfl ?_
      refine z_iload_n 1 dX12_readMeet_36 rfl rfl rfl ?_
      refine z_callVv vX12_joins kX12_309 dX12_readMeet_37 rfl (zRo_d d) (as := [vi (h10 466 9)]) (rest := []) (Nat.le_of_ble_eq_true rfl) rfl rfl (zCv_mono (fun h16 k => ?_) k)
      refine z_goto (tgt := 4) dX12_readMeet_40 rfl ?_
      exact z_sub (L' := [some (vr 12 466), none]) (And.intro rfl trivial) k
theorem eX12_readMeet {G : zG} {d : Nat} {K : zH → Prop} {h : zH} (k : tX12_readMeet_0 G d K h) : zCv G (d + 1) mX12_readMeet [vr 12 466] h K := z_entry (by decide +kernel) (Nat.le_of_ble_eq_true rfl) rfl k
def tX12_opens_0 (G : zG) (d : Nat) (K : Bool → zH → Prop) (h : zH) : Prop := zTb G (d + 1) mX12_opens K 0 [some (vr 12 466)] [] h
theorem bX12_opens_0 {G : zG} {d : Nat} {K : Bool → zH → Prop} {h : zH} (k : zR (h 466 14) ∧ (¬ (h 466 14) = 12 → zCv G d mX12_next [vr 12 466] (zup h 466 14 ((h 466 14) + 1)) (fun h2 => K true h2)) ∧ ((h 466 14) = 12 → zCv G d mX12_wrong [vr 12 466, vi 6] h (fun h4 => K false h4))) : tX12_opens_0 G d K h := by
  unfold tX12_opens_0
  refine z_aload_n 0 dX12_opens_0 rfl rfl (Nat.le_of_ble_eq_true rfl) rfl ?_
  refine z_getI 12 (x := (h 466 14)) fX12_315 rfl dX12_opens_1 rfl rfl ?_
  refine z_bipush dX12_opens_4 rfl rfl ?_
  obtain ⟨r1, ka, kb⟩ := k
  refine z_icmp_ne (tgt := 17) dX12_opens_6 rfl r1 ⟨by decide, by decide⟩ rfl ⟨fun q => ?_, fun q => ?_⟩
  · have k := ka q
    refine z_aload_n 0 dX12_opens_17 rfl rfl (Nat.le_of_ble_eq_true rfl) rfl ?_
    refine z_dup dX12_opens_18 (fun q => by cases q) rfl ?_
    refine z_getI 12 (x := (h 466 14)) fX12_315 rfl dX12_opens_19 rfl rfl ?_
    refine z_iconst dX12_opens_22 rfl ?_
    refine z_iadd dX12_opens_23 rfl ?_
    refine z_putI 12 gX12_315 dX12_opens_24 rfl ?_
    refine z_aload_n 0 dX12_opens_27 rfl rfl (Nat.le_of_ble_eq_true rfl) rfl ?_
    refine z_callVv vX12_next kX12_262 dX12_opens_28 rfl (zRo_d d) (as := []) (rest := []) (Nat.le_of_ble_eq_true rfl) rfl rfl (zCv_mono (fun h2 k => ?_) k)
    refine z_iconst dX12_opens_31 rfl ?_
    exact z_zreturn rfl (Or.inr rfl) dX12_opens_32 ⟨true, rfl, k⟩
  · have k := kb q
    refine z_aload_n 0 dX12_opens_9 rfl rfl (Nat.le_of_ble_eq_true rfl) rfl ?_
    refine z_bipush dX12_opens_10 rfl rfl ?_
    refine z_callVv vX12_wrong kX12_268 dX12_opens_12 rfl (zRo_d d) (as := [vi 6]) (rest := []) (Nat.le_of_ble_eq_true rfl) rfl rfl (zCv_mono (fun h4 k => ?_) k)
    refine z_iconst dX12_opens_15 rfl ?_
    exact z_zreturn rfl (Or.inl rfl) dX12_opens_16 ⟨false, rfl, k⟩
theorem eX12_opens {G : zG} {d : Nat} {K : Bool → zH → Prop} {h : zH} (k : tX12_opens_0 G d K h) : zCb G (d + 1) mX12_opens [vr 12 466] h K := z_entry (by decide +kernel) (Nat.le_of_ble_eq_true rfl) rfl k
def tX12_readPart_0 (G : zG) (d : Nat) (K : zH → Prop) (h : zH) : Prop := zTv G (d + 1) mX12_readPart K 0 [some (vr 12 466)] [] h
theorem bX12_readPart_0 {G : zG} {d : Nat} {K : zH → Prop} {h : zH} (k : zCb G d mX12_is [vr 12 466, vi 33] h (fun x1 h2 => (x1 = false → zCb G d mX12_is [vr 12 466, vi 40] h2 (fun x3 h4 => (x3 = false → zCb G d mX12_passes [vr 12 466, vi 91] h4 (fun x5 h6 => (x5 = false → zCb G d mX12_isWord [vr 12 466, (40, 5)] h6 (fun x7 h8 => (x7 = false → zCv G d mX12_readNamed [vr 12 466] h8 (fun h10 => K h10)) ∧ (x7 = true → zCv G d mX12_readAny [vr 12 466] h8 (fun h12 => K h12)))) ∧ (x5 = true → zCv G d mX12_readRanges [vr 12 466] h6 (fun h14 => K h14)))) ∧ (x3 = true → zCb G d mX12_opens [vr 12 466] h4 (fun x15 h16 => (x15 = false → zCb G d mX12_passes [vr 12 466, vi 91] h16 (fun x17 h18 => (x17 = false → zCb G d mX12_isWord [vr 12 466, (40, 5)] h18 (fun x19 h20 => (x19 = false → zCv G d mX12_readNamed [vr 12 466] h20 (fun h22 => K h22)) ∧ (x19 = true → zCv G d mX12_readAny [vr 12 466] h20 (fun h24 => K h24)))) ∧ (x17 = true → zCv G d mX12_readRanges [vr 12 466] h18 (fun h26 => K h26)))) ∧ (x15 = true → zCv G d mX12_readInner [vr 12 466] h16 (fun h28 => K h28)))))) ∧ (x1 = true → zCb G d mX12_opens [vr 12 466] h2 (fun x29 h30 => (x29 = false → zCb G d mX12_is [vr 12 466, vi 40] h30 (fun x31 h32 => (x31 = false → zCb G d mX12_passes [vr 12 466, vi 91] h32 (fun x33 h34 => (x33 = false → zCb G d mX12_isWord [vr 12 466, (40, 5)] h34 (fun x35 h36 => (x35 = false → zCv G d mX12_readNamed [vr 12 466] h36 (fun h38 => K h38)) ∧ (x35 = true → zCv G d mX12_readAny [vr 12 466] h36 (fun h40 => K h40)))) ∧ (x33 = true → zCv G d mX12_readRanges [vr 12 466] h34 (fun h42 => K h42)))) ∧ (x31 = true → zCb G d mX12_opens [vr 12 466] h32 (fun x43 h44 => (x43 = false → zCb G d mX12_passes [vr 12 466, vi 91] h44 (fun x45 h46 => (x45 = false → zCb G d mX12_isWord [vr 12 466, (40, 5)] h46 (fun x47 h48 => (x47 = false → zCv G d mX12_readNamed [vr 12 466] h48 (fun h50 => K h50)) ∧ (x47 = true → zCv G d mX12_readAny [vr 12 466] h48 (fun h52 => K h52)))) ∧ (x45 = true → zCv G d mX12_readRanges [vr 12 466] h46 (fun h54 => K h54)))) ∧ (x43 = true → zCv G d mX12_readInner [vr 12 466] h44 (fun h56 => K h56)))))) ∧ (x29 = true → zCv G d mX12_readOthers [vr 12 466] h30 (fun h58 => K h58)))))) : tX12_readPart_0 G d K h := by
  unfold tX12_readPart_0
  refine z_aload_n 0 dX12_readPart_0 rfl rfl (Nat.le_of_ble_eq_true rfl) rfl ?_
  refine z_bipush dX12_readPart_1 rfl rfl ?_
  refine z_callVb vX12_is kX12_259 dX12_readPart_3 rfl (zRo_d d) (as := [vi 33]) (rest := []) (Nat.le_of_ble_eq_true rfl) rfl rfl (zCb_mono (fun x1 h2 k => ?_) k)
  obtain ⟨ka, kb⟩ := k
  refine z_ifb_eq (tgt := 23) dX12_readPart_6 rfl rfl ⟨fun q => ?_, fun q => ?_⟩
  · have k := ka q
    refine z_aload_n 0 dX12_readPart_23 rfl rfl (Nat.le_of_ble_eq_true rfl) rfl ?_
    refine z_bipush dX12_readPart_24 rfl rfl ?_
    refine z_callVb vX12_is kX12_259 dX12_readPart_26 rfl (zRo_d d) (as := [vi 40]) (rest := []) (Nat.le_of_ble_eq_true rfl) rfl rfl (zCb_mono (fun x3 h4 k => ?_) k)
    obtain ⟨ka, kb⟩ := k
    refine z_ifb_eq (tgt := 46) dX12_readPart_29 rfl rfl ⟨fun q => ?_, fun q => ?_⟩
    · have k := ka q
      refine z_aload_n 0 dX12_readPart_46 rfl rfl (Nat.le_of_ble_eq_true rfl) rfl ?_
      refine z_bipush dX12_readPart_47 rfl rfl ?_
      refine z_callVb vX12_passes kX12_265 dX12_readPart_49 rfl (zRo_d d) (as := [vi 91]) (rest := []) (Nat.le_of_ble_eq_true rfl) rfl rfl (zCb_mono (fun x5 h6 k => ?_) k)
      obtain ⟨ka, kb⟩ := k
      refine z_ifb_eq (tgt := 62) dX12_readPart_52 rfl rfl ⟨fun q => ?_, fun q => ?_⟩
      · have k := ka q
        refine z_aload_n 0 dX12_readPart_62 rfl rfl (Nat.le_of_ble_eq_true rfl) rfl ?_
        refine z_ldcwS (k := 5) (tx := "any") (x := 5) (by decide +kernel) (by decide) rfl dX12_readPart_63 rfl ?_
        refine z_callVb vX12_isWord kX12_287 dX12_readPart_66 rfl (zRo_d d) (as := [(40, 5)]) (rest := []) (Nat.le_of_ble_eq_true rfl) rfl rfl (zCb_mono (fun x7 h8 k => ?_) k)
        obtain ⟨ka, kb⟩ := k
        refine z_ifb_eq (tgt := 79) dX12_readPart_69 rfl rfl ⟨fun q => ?_, fun q => ?_⟩
        · have k := ka q
          refine z_aload_n 0 dX12_readPart_79 rfl rfl (Nat.le_of_ble_eq_true rfl) rfl ?_
          refine z_callVv vX12_readNamed kX12_334 dX12_readPart_80 rfl (zRo_d d) (as := []) (rest := []) (Nat.le_of_ble_eq_true rfl) rfl rfl (zCv_mono (fun h10 k => ?_) k)
          exact z_return rfl dX12_readPart_83 ⟨rfl, k⟩
        · have k := kb q
          refine z_aload_n 0 dX12_readPart_72 rfl rfl (Nat.le_of_ble_eq_true rfl) rfl ?_
          refine z_callVv vX12_readAny kX12_331 dX12_readPart_73 rfl (zRo_d d) (as := []) (rest := []) (Nat.le_of_ble_eq_true rfl) rfl rfl (zCv_mono (fun h12 k => ?_) k)
          refine z_goto (tgt := 83) dX12_readPart_76 rfl ?_
          exact z_return rfl dX12_readPart_83 ⟨rfl, k⟩
      · have k := kb q
        refine z_aload_n 0 dX12_readPart_55 rfl rfl (Nat.le_of_ble_eq_true rfl) rfl ?_
        refine z_callVv vX12_readRanges kX12_328 dX12_readPart_56 rfl (zRo_d d) (as := []) (rest := []) (Nat.le_of_ble_eq_true rfl) rfl rfl (zCv_mono (fun h14 k => ?_) k)
        refine z_goto (tgt := 83) dX12_readPart_59 rfl ?_
        exact z_return rfl dX12_readPart_83 ⟨rfl, k⟩
    · have k := kb q
      refine z_aload_n 0 dX12_readPart_32 rfl rfl (Nat.le_of_ble_eq_true rfl) rfl ?_
      refine z_callVb vX12_opens kX12_318 dX12_readPart_33 rfl (zRo_d d) (as := []) (rest := []) (Nat.le_of_ble_eq_true rfl) rfl rfl (zCb_mono (fun x15 h16 k => ?_) k)
      obtain ⟨ka, kb⟩ := k
      refine z_ifb_eq (tgt := 46) dX12_readPart_36 rfl rfl ⟨fun q => ?_, fun q => ?_⟩
      · have k := ka q
        refine z_aload_n 0 dX12_readPart_46 rfl rfl (Nat.le_of_ble_eq_true rfl) rfl ?_
        refine z_bipush dX12_readPart_47 rfl rfl ?_
        refine z_callVb vX12_passes kX12_265 dX12_readPart_49 rfl (zRo_d d) (as := [vi 91]) (rest := []) (Nat.le_of_ble_eq_true rfl) rfl rfl (zCb_mono (fun x17 h18 k => ?_) k)
        obtain ⟨ka, kb⟩ := k
        refine z_ifb_eq (tgt := 62) dX12_readPart_52 rfl rfl ⟨fun q => ?_, fun q => ?_⟩
        · have k := ka q
          refine z_aload_n 0 dX12_readPart_62 rfl rfl (Nat.le_of_ble_eq_true rfl) rfl ?_
          refine z_ldcwS (k := 5) (tx := "any") (x := 5) (by decide +kernel) (by decide) rfl dX12_readPart_63 rfl ?_
          refine z_callVb vX12_isWord kX12_287 dX12_readPart_66 rfl (zRo_d d) (as := [(40, 5)]) (rest := []) (Nat.le_of_ble_eq_true rfl) rfl rfl (zCb_mono (fun x19 h20 k => ?_) k)
          obtain ⟨ka, kb⟩ := k
          refine z_ifb_eq (tgt := 79) dX12_readPart_69 rfl rfl ⟨fun q => ?_, fun q => ?_⟩
          · have k := ka q
            refine z_aload_n 0 dX12_readPart_79 rfl rfl (Nat.le_of_ble_eq_true rfl) rfl ?_
            refine z_callVv vX12_readNamed kX12_334 dX12_readPart_80 rfl (zRo_d d) (as := []) (rest := []) (Nat.le_of_ble_eq_true rfl) rfl rfl (zCv_mono (fun h22 k => ?_) k)
            exact z_return rfl dX12_readPart_83 ⟨rfl, k⟩
          · have k := kb q
            refine z_aload_n 0 dX12_readPart_72 rfl rfl (Nat.le_of_ble_eq_true rfl) rfl ?_
            refine z_callVv vX12_readAny kX12_331 dX12_readPart_73 rfl (zRo_d d) (as := []) (rest := []) (Nat.le_of_ble_eq_true rfl) rfl rfl (zCv_mono (fun h24 k => ?_) k)
            refine z_goto (tgt := 83) dX12_readPart_76 rfl ?_
            exact z_return rfl dX12_readPart_83 ⟨rfl, k⟩
        · have k := kb q
          refine z_aload_n 0 dX12_readPart_55 rfl rfl (Nat.le_of_ble_eq_true rfl) rfl ?_
          refine z_callVv vX12_readRanges kX12_328 dX12_readPart_56 rfl (zRo_d d) (as := []) (rest := []) (Nat.le_of_ble_eq_true rfl) rfl rfl (zCv_mono (fun h26 k => ?_) k)
          refine z_goto (tgt := 83) dX12_readPart_59 rfl ?_
          exact z_return rfl dX12_readPart_83 ⟨rfl, k⟩
      · have k := kb q
        refine z_aload_n 0 dX12_readPart_39 rfl rfl (Nat.le_of_ble_eq_true rfl) rfl ?_
        refine z_callVv vX12_readInner kX12_325 dX12_readPart_40 rfl (zRo_d d) (as := []) (rest := []) (Nat.le_of_ble_eq_true rfl) rfl rfl (zCv_mono (fun h28 k => ?_) k)
        refine z_goto (tgt := 83) dX12_readPart_43 rfl ?_
        exact z_return rfl dX12_readPart_83 ⟨rfl, k⟩
  · have k := kb q
    refine z_aload_n 0 dX12_readPart_9 rfl rfl (Nat.le_of_ble_eq_true rfl) rfl ?_
    refine z_callVb vX12_opens kX12_318 dX12_readPart_10 rfl (zRo_d d) (as := []) (rest := []) (Nat.le_of_ble_eq_true rfl) rfl rfl (zCb_mono (fun x29 h30 k => ?_) k)
    obtain ⟨ka, kb⟩ := k
    refine z_ifb_eq (tgt := 23) dX12_readPart_13 rfl rfl ⟨fun q => ?_, fun q => ?_⟩
    · have k := ka q
      refine z_aload_n 0 dX12_readPart_23 rfl rfl (Nat.le_of_ble_eq_true rfl) rfl ?_
      refine z_bipush dX12_readPart_24 rfl rfl ?_
      refine z_callVb vX12_is kX12_259 dX12_readPart_26 rfl (zRo_d d) (as := [vi 40]) (rest := []) (Nat.le_of_ble_eq_true rfl) rfl rfl (zCb_mono (fun x31 h32 k => ?_) k)
      obtain ⟨ka, kb⟩ := k
      refine z_ifb_eq (tgt := 46) dX12_readPart_29 rfl rfl ⟨fun q => ?_, fun q => ?_⟩
      · have k := ka q
        refine z_aload_n 0 dX12_readPart_46 rfl rfl (Nat.le_of_ble_eq_true rfl) rfl ?_
        refine z_bipush dX12_readPart_47 rfl rfl ?_
        refine z_callVb vX12_passes kX12_265 dX12_readPart_49 rfl (zRo_d d) (as := [vi 91]) (rest := []) (Nat.le_of_ble_eq_true rfl) rfl rfl (zCb_mono (fun x33 h34 k => ?_) k)
        obtain ⟨ka, kb⟩ := k
        refine z_ifb_eq (tgt := 62) dX12_readPart_52 rfl rfl ⟨fun q => ?_, fun q => ?_⟩
        · have k := ka q
          refine z_aload_n 0 dX12_readPart_62 rfl rfl (Nat.le_of_ble_eq_true rfl) rfl ?_
          refine z_ldcwS (k := 5) (tx := "any") (x := 5) (by decide +kernel) (by decide) rfl dX12_readPart_63 rfl ?_
          refine z_callVb vX12_isWord kX12_287 dX12_readPart_66 rfl (zRo_d d) (as := [(40, 5)]) (rest := []) (Nat.le_of_ble_eq_true rfl) rfl rfl (zCb_mono (fun x35 h36 k => ?_) k)
          obtain ⟨ka, kb⟩ := k
          refine z_ifb_eq (tgt := 79) dX12_readPart_69 rfl rfl ⟨fun q => ?_, fun q => ?_⟩
          · have k := ka q
            refine z_aload_n 0 dX12_readPart_79 rfl rfl (Nat.le_of_ble_eq_true rfl) rfl ?_
            refine z_callVv vX12_readNamed kX12_334 dX12_readPart_80 rfl (zRo_d d) (as := []) (rest := []) (Nat.le_of_ble_eq_true rfl) rfl rfl (zCv_mono (fun h38 k => ?_) k)
            exact z_return rfl dX12_readPart_83 ⟨rfl, k⟩
          · have k := kb q
            refine z_aload_n 0 dX12_readPart_72 rfl rfl (Nat.le_of_ble_eq_true rfl) rfl ?_
            refine z_callVv vX12_readAny kX12_331 dX12_readPart_73 rfl (zRo_d d) (as := []) (rest := []) (Nat.le_of_ble_eq_true rfl) rfl rfl (zCv_mono (fun h40 k => ?_) k)
            refine z_goto (tgt := 83) dX12_readPart_76 rfl ?_
            exact z_return rfl dX12_readPart_83 ⟨rfl, k⟩
        · have k := kb q
          refine z_aload_n 0 dX12_readPart_55 rfl rfl (Nat.le_of_ble_eq_true rfl) rfl ?_
          refine z_callVv vX12_readRanges kX12_328 dX12_readPart_56 rfl (zRo_d d) (as := []) (rest := []) (Nat.le_of_ble_eq_true rfl) rfl rfl (zCv_mono (fun h42 k => ?_) k)
          refine z_goto (tgt := 83) dX12_readPart_59 rfl ?_
          exact z_return rfl dX12_readPart_83 ⟨rfl, k⟩
      · have k := kb q
        refine z_aload_n 0 dX12_readPart_32 rfl rfl (Nat.le_of_ble_eq_true rfl) rfl ?_
        refine z_callVb vX12_opens kX12_318 dX12_readPart_33 rfl (zRo_d d) (as := []) (rest := []) (Nat.le_of_ble_eq_true rfl) rfl rfl (zCb_mono (fun x43 h44 k => ?_) k)
        obtain ⟨ka, kb⟩ := k
        refine z_ifb_eq (tgt := 46) dX12_readPart_36 rfl rfl ⟨fun q => ?_, fun q => ?_⟩
        · have k := ka q
          refine z_aload_n 0 dX12_readPart_46 rfl rfl (Nat.le_of_ble_eq_true rfl) rfl ?_
          refine z_bipush dX12_readPart_47 rfl rfl ?_
          refine z_callVb vX12_passes kX12_265 dX12_readPart_49 rfl (zRo_d d) (as := [vi 91]) (rest := []) (Nat.le_of_ble_eq_true rfl) rfl rfl (zCb_mono (fun x45 h46 k => ?_) k)
          obtain ⟨ka, kb⟩ := k
          refine z_ifb_eq (tgt := 62) dX12_readPart_52 rfl rfl ⟨fun q => ?_, fun q => ?_⟩
          · have k := ka q
            refine z_aload_n 0 dX12_readPart_62 rfl rfl (Nat.le_of_ble_eq_true rfl) rfl ?_
            refine z_ldcwS (k := 5) (tx := "any") (x := 5) (by decide +kernel) (by decide) rfl dX12_readPart_63 rfl ?_
            refine z_callVb vX12_isWord kX12_287 dX12_readPart_66 rfl (zRo_d d) (as := [(40, 5)]) (rest := []) (Nat.le_of_ble_eq_true rfl) rfl rfl (zCb_mono (fun x47 h48 k => ?_) k)
            obtain ⟨ka, kb⟩ := k
            refine z_ifb_eq (tgt := 79) dX12_readPart_69 rfl rfl ⟨fun q => ?_, fun q => ?_⟩
            · have k := ka q
              refine z_aload_n 0 dX12_readPart_79 rfl rfl (Nat.le_of_ble_eq_true rfl) rfl ?_
              refine z_callVv vX12_readNamed kX12_334 dX12_readPart_80 rfl (zRo_d d) (as := []) (rest := []) (Nat.le_of_ble_eq_true rfl) rfl rfl (zCv_mono (fun h50 k => ?_) k)
              exact z_return rfl dX12_readPart_83 ⟨rfl, k⟩
            · have k := kb q
              refine z_aload_n 0 dX12_readPart_72 rfl rfl (Nat.le_of_ble_eq_true rfl) rfl ?_
              refine z_callVv vX12_readAny kX12_331 dX12_readPart_73 rfl (zRo_d d) (as := []) (rest := []) (Nat.le_of_ble_eq_true rfl) rfl rfl (zCv_mono (fun h52 k => ?_) k)
              refine z_goto (tgt := 83) dX12_readPart_76 rfl ?_
              exact z_return rfl dX12_readPart_83 ⟨rfl, k⟩
          · have k := kb q
            refine z_aload_n 0 dX12_readPart_55 rfl rfl (Nat.le_of_ble_eq_true rfl) rfl ?_
            refine z_callVv vX12_readRanges kX12_328 dX12_readPart_56 rfl (zRo_d d) (as := []) (rest := []) (Nat.le_of_ble_eq_true rfl) rfl rfl (zCv_mono (fun h54 k => ?_) k)
            refine z_goto (tgt := 83) dX12_readPart_59 rfl ?_
            exact z_return rfl dX12_readPart_83 ⟨rfl, k⟩
        · have k := kb q
          refine z_aload_n 0 dX12_readPart_39 rfl rfl (Nat.le_of_ble_eq_true rfl) rfl ?_
          refine z_callVv vX12_readInner kX12_325 dX12_readPart_40 rfl (zRo_d d) (as := []) (rest := []) (Nat.le_of_ble_eq_true rfl) rfl rfl (zCv_mono (fun h56 k => ?_) k)
          refine z_goto (tgt := 83) dX12_readPart_43 rfl ?_
          exact z_return rfl dX12_readPart_83 ⟨rfl, k⟩
    · have k := kb q
      refine z_aload_n 0 dX12_readPart_16 rfl rfl (Nat.le_of_ble_eq_true rfl) rfl ?_
      refine z_callVv vX12_readOthers kX12_322 dX12_readPart_17 rfl (zRo_d d) (as := []) (rest := []) (Nat.le_of_ble_eq_true rfl) rfl rfl (zCv_mono (fun h58 k => ?_) k)
      refine z_goto (tgt := 83) dX12_readPart_20 rfl ?_
      exact z_return rfl dX12_readPart_83 ⟨rfl, k⟩
theorem eX12_readPart {G : zG} {d : Nat} {K : zH → Prop} {h : zH} (k : tX12_readPart_0 G d K h) : zCv G (d + 1) mX12_readPart [vr 12 466] h K := z_entry (by decide +kernel) (Nat.le_of_ble_eq_true rfl) rfl k
